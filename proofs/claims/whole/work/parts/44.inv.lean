/-! what holds between the calls: the class's cells against the model's -/
/-- what no later call reads -/
def iSafe : Nat → Nat → Nat → Prop := fun j c k => (60 ≤ c ∧ c ≤ 96) ∨ c = 11 ∨ (c = 139 ∧ 66 ≤ k) ∨ c = 140 ∨ (150 ≤ c ∧ c ≤ 155) ∨ (159 ≤ c ∧ c ≤ 163) ∨ (j = 0 ∧ c = 131 ∧ (k = 0 ∨ k = 3 ∨ k = 4 ∨ (23 ≤ k ∧ k ≤ 26) ∨ k = 50)) ∨ (j = 1 ∧ c = 131 ∧ k = 32) ∨ (c = 133 ∧ 576 ≤ k) ∨ (c = 134 ∧ k = 6) ∨ (c = 135 ∧ k = 6) ∨ (136 ≤ c ∧ c ≤ 138 ∧ k = 10)
def mFR (σ : zS) (R n : Nat) : aFn := fun r w => if r < n ∧ w < 11 then (zI σ R (11 * r + w)).toInt else 0
def iTape (σ : zS) : Prop := ∃ len : Nat, len ≤ 160 ∧ zI σ 2 1 = nI len ∧ zI σ 131 2 = nI len ∧ ∀ i, i < len → zI σ 3 i = zI σ 132 i &&& 255 ∧ 1 ≤ (zI σ 3 i).toInt ∧ (zI σ 3 i).toInt ≤ 255
def iBr (σ : zS) (nb : Nat) : Prop := nb ≤ 6 ∧ zI σ 1 2 = nI nb ∧ zI σ 131 11 = nI nb ∧ ∀ b, b < nb → aBok (mB σ b) ∧ pBk σ (97 + 4 * b) (mB σ b)
def iStk (σ : zS) (s : Nat) : Prop := (1 ≤ (zI σ 136 s).toInt ∧ (zI σ 136 s).toInt ≤ 5) ∧ (0 ≤ (zI σ 137 s).toInt ∧ (zI σ 137 s).toInt ≤ 9) ∧ (0 ≤ (zI σ 138 s).toInt ∧ (zI σ 138 s).toInt ≤ 9) ∧ zI σ (121 + s) 0 = zI σ 136 s ∧ zI σ (121 + s) 1 = zI σ 137 s ∧ zI σ (121 + s) 2 = zI σ 138 s
def iSt (σ : zS) (ns : Nat) : Prop := ns ≤ 10 ∧ zI σ 1 4 = nI ns ∧ zI σ 131 12 = nI ns ∧ ∀ s, s < ns → iStk σ s
def iWx (σ : zS) : Prop := aWok (mW σ) ∧ zI σ 10 0 = zI σ 131 13 ∧ zI σ 10 1 = zI σ 131 14 ∧ zI σ 10 2 = zI σ 131 15
def iSg (σ : zS) (ns : Nat) : Prop := ∃ n : Nat, n ≤ 10 ∧ zI σ 6 3 = nI n ∧ zI σ 131 54 = nI n ∧ ∀ i, i < n → ∃ s, s < ns ∧ zI σ 7 i = nI s ∧ zI σ 156 i = nI s ∧ zI σ 8 i = zI σ 157 i ∧ zI σ 9 i = zI σ 158 i ∧ 0 ≤ (zI σ 157 i).toInt ∧ (zI σ 157 i).toInt ≤ 5 ∧ 1 ≤ (zI σ 158 i).toInt ∧ (zI σ 158 i).toInt ≤ 99
/-- places are told one after another -/
def aPd (n : Nat) (D : aD) : Prop := ∀ r, r < n → D.1 r 7 ≠ -1 → 0 ≤ D.1 r 8 ∧ D.1 r 8 < D.2.1 ∧ ∀ o, o < n → o ≠ r → D.1 o 7 ≠ -1 → D.1 o 8 ≠ D.1 r 8
/-- n runners told on the brook b: the class's race t, the model's row R -/
def iTl (σ : zS) (t R nb ns n b : Nat) : Prop := b < nb ∧ zR σ t 3 = some (97 + 4 * b) ∧ (∀ r, r < n → ∃ s, s < ns ∧ zR σ (t + 8 + 2 * r) 0 = some (121 + s)) ∧ pF σ t n = mFR σ R n ∧ (∀ r, r < n → aFok (mB σ b) (mFR σ R n) r) ∧ ∀ r, r < n → ∀ o, o < r → aApart (mFR σ R n) r o
/-- a race that was started: ticks T. Its model's fields from f on, draws l, strikes S; the class's log x1 y1 d1 against the model's x2 y2 d2 -/
def iRn (σ : zS) (t R f l S x1 y1 d1 x2 y2 d2 n T : Nat) : Prop := T ≤ 60 ∧ 0 < n ∧ zI σ 131 (f + 2) = nI T ∧ zI σ t 5 = nI T ∧ zI σ t 9 = 1 ∧ zI σ 131 (f + 3) = zI σ t 6 ∧ zL σ 131 l = zL σ t 7 ∧ (zI σ t 8 = 0 ∨ zI σ t 8 = 1) ∧ 0 ≤ (zI σ t 6).toInt ∧ (zI σ t 6).toInt + aIn (mFR σ R n) n = n ∧ aPd n (mFR σ R n, (zI σ t 6).toInt, 0, False, fun _ => 0) ∧ (∀ x, x < 16 → zI σ (t + 3) x = zI σ S x) ∧ (∀ k, k ≤ T → (∀ r, r < n → zI σ x1 (6 * k + r) = zI σ x2 (6 * k + r) ∧ zI σ y1 (6 * k + r) = zI σ y2 (6 * k + r)) ∧ zI σ d1 k = zI σ d2 k) ∧ ∀ r, r < n → (zI σ x2 r).toInt = 0
def iRc (σ : zS) (nb ns : Nat) : Prop := ∃ n : Nat, n ≤ 6 ∧ zI σ 131 20 = nI n ∧ zI σ 12 4 = nI n ∧
  ((zI σ 131 19 = -1 ∧ n = 0 ∧ zI σ 131 21 = -1 ∧ zI σ 12 9 = 0 ∧ zR σ 12 3 = some 16 ∧ zI σ 16 3 = 0 ∧ zI σ 16 4 = 0) ∨
   ∃ b : Nat, zI σ 131 19 = nI b ∧ iTl σ 12 139 nb ns n b ∧
    ((zI σ 131 21 = -1 ∧ zI σ 12 9 = 0 ∧ ∀ r, r < n → mFR σ 139 n r 4 = 0 ∧ mFR σ 139 n r 7 = -1 ∧ mFR σ 139 n r 5 = mFR σ 139 n r 3) ∨ ∃ T, iRn σ 12 139 19 31 145 33 34 35 142 143 144 n T))
def iIm (σ : zS) (nb ns : Nat) : Prop := (zI σ 131 34 = 0 ∧ zI σ 36 9 = 0) ∨ (zI σ 131 34 = 1 ∧ ∃ n b T : Nat, n ≤ 6 ∧ zI σ 131 28 = nI n ∧ zI σ 36 4 = nI n ∧ zI σ 131 27 = nI b ∧ iTl σ 36 141 nb ns n b ∧ iRn σ 36 141 27 33 149 57 58 59 146 147 148 n T)
def Inv (σ : zS) : Prop := zLay σ ∧ iTape σ ∧ iWx σ ∧ zI σ 131 43 = 0 ∧ ∃ nb ns : Nat, iBr σ nb ∧ iSt σ ns ∧ iSg σ ns ∧ iRc σ nb ns ∧ iIm σ nb ns
theorem pBk_c {σ : zS} {b : Nat} {B B' : aBk} (h : pBk σ b B) (e1 : B.2.1 = B'.2.1) (e2 : B.2.2 = B'.2.2) (e : ∀ y x : Nat, B.1 y x = B'.1 y x) : pBk σ b B' := by
  obtain ⟨h0, h1, h2, h3, h4, h5⟩ := h
  refine ⟨h0, by rw [← e1]; exact h1, by rw [← e2]; exact h2, fun y x a b c d => ?_, fun x k a b => ?_, fun x k a b => ?_⟩
  · rw [← e]; exact h3 y x a b (by rw [e1]; exact c) (by rw [e2]; exact d)
  · rw [← e1, ← e2, ← e]; exact h4 x k a b
  · rw [← e1, ← e2, ← e]; exact h5 x k a b
section INV
variable {σ σ' : zS} (h : zFr iSafe σ σ')
theorem iS_i {σ σ' : zS} (h : zFr iSafe σ σ') {c k : Nat} (q : ¬ iSafe 0 c k) : zI σ' c k = zI σ c k := h.i q
theorem iS_mB {σ σ' : zS} (h : zFr iSafe σ σ') {b : Nat} (hb : b < 6) : mB σ' b = mB σ b := by
  unfold mB
  rw [h.i (show ¬ iSafe 0 134 b by unfold iSafe; omega), h.i (show ¬ iSafe 0 135 b by unfold iSafe; omega)]
  congr 1
  funext y x
  by_cases q : y < 6 ∧ x < 16
  · rw [if_pos q, if_pos q, h.i (show ¬ iSafe 0 133 (16 * (6 * b + y) + x) by unfold iSafe; omega)]
  · rw [if_neg q, if_neg q]
theorem iS_mW {σ σ' : zS} (h : zFr iSafe σ σ') : mW σ' = mW σ := mW_fr h ⟨by unfold iSafe; omega, by unfold iSafe; omega, by unfold iSafe; omega⟩
theorem iS_mFR {σ σ' : zS} (h : zFr iSafe σ σ') {R n : Nat} (hn : n ≤ 6) (hR : R = 139 ∨ R = 141) : mFR σ' R n = mFR σ R n := by
  funext r w
  unfold mFR
  by_cases q : r < n ∧ w < 11
  · rw [if_pos q, if_pos q, h.i (show ¬ iSafe 0 R (11 * r + w) by unfold iSafe; omega)]
  · rw [if_neg q, if_neg q]
theorem iS_pF {σ σ' : zS} (h : zFr iSafe σ σ') {t n : Nat} {ns : Nat} (hn : n ≤ 6) (ht : t = 12 ∨ t = 36) (hst : ∀ r, r < n → ∃ s, s < ns ∧ zR σ (t + 8 + 2 * r) 0 = some (121 + s)) (hns : ns ≤ 10) : pF σ' t n = pF σ t n := by
  funext r w
  unfold pF
  by_cases q : r < n ∧ w < 11
  · rw [if_pos q, if_pos q, h.i (show ¬ iSafe 0 (t + 8 + 2 * r) (w - 2) by unfold iSafe; omega), h.r (show ¬ iSafe 2 (t + 8 + 2 * r) 0 by unfold iSafe; omega)]
    obtain ⟨s, s1, s2⟩ := hst r q.1
    rw [s2]
    show (if w < 3 then (zI σ' (121 + s) w).toInt else _) = (if w < 3 then (zI σ (121 + s) w).toInt else _)
    rw [h.i (show ¬ iSafe 0 (121 + s) w by unfold iSafe; omega)]
  · rw [if_neg q, if_neg q]
theorem iS_tl {σ σ' : zS} (h : zFr iSafe σ σ') {t R nb ns n b : Nat} (hnb : nb ≤ 6) (hns : ns ≤ 10) (hn : n ≤ 6) (ht : t = 12 ∨ t = 36) (hR : R = 139 ∨ R = 141) (g : iTl σ t R nb ns n b) : iTl σ' t R nb ns n b := by
  obtain ⟨g1, g2, g3, g4, g5, g6⟩ := g
  have eR : ∀ c k, ¬ (60 ≤ c ∧ c ≤ 96) → c < 131 → c ≠ 11 → zR σ' c k = zR σ c k := fun c k a b d => h.r (by unfold iSafe; omega)
  refine ⟨g1, by rw [eR _ _ (by omega) (by omega) (by omega)]; exact g2, fun r hr => ?_, ?_, fun r hr => ?_, fun r hr o ho => ?_⟩
  · rw [eR _ _ (by omega) (by omega) (by omega)]; exact g3 r hr
  · rw [iS_pF h hn ht g3 hns, iS_mFR h hn hR]; exact g4
  · rw [iS_mFR h hn hR, iS_mB h (by omega)]; exact g5 r hr
  · rw [iS_mFR h hn hR]; exact g6 r hr o ho
theorem iS_rn {σ σ' : zS} (h : zFr iSafe σ σ') {t R f l S x1 y1 d1 x2 y2 d2 n T : Nat} (hn : n ≤ 6) (ht : t = 12 ∨ t = 36) (hR : R = 139 ∨ R = 141) (hf : f = 19 ∨ f = 27) (hl : l = 31 ∨ l = 33) (hS : S = 145 ∨ S = 149) (h1 : 33 ≤ x1 ∧ x1 ≤ 59) (h2 : 33 ≤ y1 ∧ y1 ≤ 59) (h3 : 33 ≤ d1 ∧ d1 ≤ 59) (h4 : 142 ≤ x2 ∧ x2 ≤ 149) (h5 : 142 ≤ y2 ∧ y2 ≤ 149) (h6 : 142 ≤ d2 ∧ d2 ≤ 149) (g : iRn σ t R f l S x1 y1 d1 x2 y2 d2 n T) : iRn σ' t R f l S x1 y1 d1 x2 y2 d2 n T := by
  have e : ∀ c k, ¬ iSafe 0 c k → zI σ' c k = zI σ c k := fun c k q => h.i q
  obtain ⟨g1, g2, g3, g4, g5, g6, g7, g8, g9, g10, g11, g12, g13, g14⟩ := g
  unfold iRn
  rw [iS_mFR h hn hR, e 131 (f + 2) (by unfold iSafe; omega), e 131 (f + 3) (by unfold iSafe; omega), e t 5 (by unfold iSafe; omega), e t 9 (by unfold iSafe; omega), e t 6 (by unfold iSafe; omega), e t 8 (by unfold iSafe; omega), h.l (show ¬ iSafe 1 131 l by unfold iSafe; omega), h.l (show ¬ iSafe 1 t 7 by unfold iSafe; omega)]
  refine ⟨g1, g2, g3, g4, g5, g6, g7, g8, g9, g10, g11, fun x hx => ?_, fun k hk => ⟨fun r hr => ?_, ?_⟩, fun r hr => ?_⟩
  · rw [e (t + 3) x (by unfold iSafe; omega), e S x (by unfold iSafe; omega)]; exact g12 x hx
  · rw [e x1 _ (by unfold iSafe; omega), e x2 _ (by unfold iSafe; omega), e y1 _ (by unfold iSafe; omega), e y2 _ (by unfold iSafe; omega)]; exact (g13 k hk).1 r hr
  · rw [e d1 _ (by unfold iSafe; omega), e d2 _ (by unfold iSafe; omega)]; exact (g13 k hk).2
  · rw [e x2 _ (by unfold iSafe; omega)]; exact g14 r hr
theorem Inv_fr {σ σ' : zS} (h : zFr iSafe σ σ') (hl' : zLay σ') (g : Inv σ) : Inv σ' := by
  have e : ∀ c k, ¬ iSafe 0 c k → zI σ' c k = zI σ c k := fun c k q => h.i q
  have eR : ∀ c k, ¬ iSafe 2 c k → zR σ' c k = zR σ c k := fun c k q => h.r q
  obtain ⟨g1, ⟨len, t1, t2, t3, t4⟩, ⟨w1, w2, w3, w4⟩, g4, nb, ns, ⟨b1, b2, b3, b4⟩, ⟨s1, s2, s3, s4⟩, ⟨n, q1, q2, q3, q4⟩, gr, gi⟩ := g
  refine ⟨hl', ⟨len, t1, ?_, ?_, fun i hi => ?_⟩, ⟨?_, ?_, ?_, ?_⟩, ?_, nb, ns, ⟨b1, ?_, ?_, fun b hb => ⟨?_, ?_⟩⟩, ⟨s1, ?_, ?_, fun s hs => ?_⟩, ⟨n, q1, ?_, ?_, fun i hi => ?_⟩, ?_, ?_⟩
  · rw [e _ _ (by unfold iSafe; omega)]; exact t2
  · rw [e _ _ (by unfold iSafe; omega)]; exact t3
  · rw [e _ _ (by unfold iSafe; omega), e _ _ (by unfold iSafe; omega)]; exact t4 i hi
  · rw [iS_mW h]; exact w1
  · rw [e _ _ (by unfold iSafe; omega), e _ _ (by unfold iSafe; omega)]; exact w2
  · rw [e _ _ (by unfold iSafe; omega), e _ _ (by unfold iSafe; omega)]; exact w3
  · rw [e _ _ (by unfold iSafe; omega), e _ _ (by unfold iSafe; omega)]; exact w4
  · rw [e _ _ (by unfold iSafe; omega)]; exact g4
  · rw [e _ _ (by unfold iSafe; omega)]; exact b2
  · rw [e _ _ (by unfold iSafe; omega)]; exact b3
  · rw [iS_mB h (by omega)]; exact (b4 b hb).1
  · rw [iS_mB h (by omega)]
    exact pBk_fr h ⟨fun k => by unfold iSafe; omega, fun k => by unfold iSafe; omega, fun k => by unfold iSafe; omega, fun k => by unfold iSafe; omega⟩ (b4 b hb).2
  · rw [e _ _ (by unfold iSafe; omega)]; exact s2
  · rw [e _ _ (by unfold iSafe; omega)]; exact s3
  · have z := s4 s hs
    unfold iStk at z ⊢
    rw [e 136 _ (by unfold iSafe; omega), e 137 _ (by unfold iSafe; omega), e 138 _ (by unfold iSafe; omega), e _ 0 (by unfold iSafe; omega), e _ 1 (by unfold iSafe; omega), e _ 2 (by unfold iSafe; omega)]
    exact z
  · rw [e _ _ (by unfold iSafe; omega)]; exact q2
  · rw [e _ _ (by unfold iSafe; omega)]; exact q3
  · rw [e 7 _ (by unfold iSafe; omega), e 8 _ (by unfold iSafe; omega), e 9 _ (by unfold iSafe; omega), e 156 _ (by unfold iSafe; omega), e 157 _ (by unfold iSafe; omega), e 158 _ (by unfold iSafe; omega)]
    exact q4 i hi
  · obtain ⟨n, r1, r2, r3, r4⟩ := gr
    refine ⟨n, r1, by rw [e _ _ (by unfold iSafe; omega)]; exact r2, by rw [e _ _ (by unfold iSafe; omega)]; exact r3, ?_⟩
    rcases r4 with ⟨a1, a2, a3, a4, a5, a6, a7⟩ | ⟨b, a1, a2, a3⟩
    · refine Or.inl ⟨?_, a2, ?_, ?_, ?_, ?_, ?_⟩
      · rw [e _ _ (by unfold iSafe; omega)]; exact a1
      · rw [e _ _ (by unfold iSafe; omega)]; exact a3
      · rw [e _ _ (by unfold iSafe; omega)]; exact a4
      · rw [eR _ _ (by unfold iSafe; omega)]; exact a5
      · rw [e _ _ (by unfold iSafe; omega)]; exact a6
      · rw [e _ _ (by unfold iSafe; omega)]; exact a7
    · refine Or.inr ⟨b, by rw [e _ _ (by unfold iSafe; omega)]; exact a1, iS_tl h b1 s1 r1 (Or.inl rfl) (Or.inl rfl) a2, ?_⟩
      rcases a3 with ⟨c1, c2, c3⟩ | ⟨T, c1⟩
      · refine Or.inl ⟨by rw [e _ _ (by unfold iSafe; omega)]; exact c1, by rw [e _ _ (by unfold iSafe; omega)]; exact c2, fun r hr => ?_⟩
        rw [iS_mFR h r1 (Or.inl rfl)]; exact c3 r hr
      · exact Or.inr ⟨T, iS_rn h r1 (Or.inl rfl) (Or.inl rfl) (Or.inl rfl) (Or.inl rfl) (Or.inl rfl) (by omega) (by omega) (by omega) (by omega) (by omega) (by omega) c1⟩
  · rcases gi with ⟨a1, a2⟩ | ⟨a1, n, b, T, r1, r2, r3, r4, r5, r6⟩
    · exact Or.inl ⟨by rw [e _ _ (by unfold iSafe; omega)]; exact a1, by rw [e _ _ (by unfold iSafe; omega)]; exact a2⟩
    · refine Or.inr ⟨by rw [e _ _ (by unfold iSafe; omega)]; exact a1, n, b, T, r1, by rw [e _ _ (by unfold iSafe; omega)]; exact r2, by rw [e _ _ (by unfold iSafe; omega)]; exact r3, by rw [e _ _ (by unfold iSafe; omega)]; exact r4, iS_tl h b1 s1 r1 (Or.inr rfl) (Or.inr rfl) r5, ?_⟩
      exact iS_rn h r1 (Or.inr rfl) (Or.inr rfl) (Or.inr rfl) (Or.inr rfl) (Or.inr rfl) (by omega) (by omega) (by omega) (by omega) (by omega) (by omega) r6
end INV
theorem pWz_s {σ σ' : zS} (h : zFr pWz σ σ') : zFr iSafe σ σ' := h.mono (fun j c k q => by
  unfold pWz at q
  unfold iSafe
  omega)
theorem mWq_s {σ σ' : zS} (h : zFr mWq σ σ') : zFr iSafe σ σ' := h.mono (fun j c k q => by
  unfold mWq at q
  unfold iSafe
  omega)
