/-! what a turn keeps; the order of a tick -/
theorem aAside_k {B : aBk} {W : aWx} {n : Nat} {F : aFn} {r : Nat} {y : Int} {o w : Nat} (h : o ≠ r) : aAside B W n F r y o w = F o w := by
  unfold aAside
  by_cases c : aCan B W (F r 0) (F r 4) y ∧ aFree n F r (F r 0) (F r 4) y
  · rw [zif_t c, aU_r h]
  · rw [zif_f c]
theorem aAside_5 {B : aBk} {W : aWx} {n : Nat} {F : aFn} {r : Nat} {y : Int} (h : 0 ≤ F r 5 ∧ F r 5 + F r 0 ≤ B.2.1) : 0 ≤ aAside B W n F r y r 5 ∧ aAside B W n F r y r 5 + F r 0 ≤ B.2.1 := by
  unfold aAside
  by_cases c : aCan B W (F r 0) (F r 4) y ∧ aFree n F r (F r 0) (F r 4) y
  · rw [zif_t c, aU_s]
    exact ⟨c.1.1, c.1.2.1⟩
  · rw [zif_f c]
    exact h
/-- what a turn of r leaves as it was -/
def aKeep (r : Nat) (F F' : aFn) : Prop := (∀ o w, o ≠ r → F' o w = F o w) ∧ ∀ w, w ≤ 3 → F' r w = F r w
theorem aKeep.refl (r : Nat) (F : aFn) : aKeep r F F := ⟨fun _ _ _ => rfl, fun _ _ => rfl⟩
theorem aKeep.trans {r : Nat} {F F1 F2 : aFn} (h : aKeep r F F1) (g : aKeep r F1 F2) : aKeep r F F2 := ⟨fun o w q => (g.1 o w q).trans (h.1 o w q), fun w q => (g.2 w q).trans (h.2 w q)⟩
theorem aKeep_u {r w : Nat} {F : aFn} {v : Int} (h : 4 ≤ w) : aKeep r F (aU F r w v) := ⟨fun _ _ q => aU_r q, fun w' q => aU_w (by omega)⟩
theorem aKeep_a {B : aBk} {W : aWx} {n : Nat} {F : aFn} {r : Nat} {y : Int} : aKeep r F (aAside B W n F r y) := ⟨fun _ _ q => aAside_k q, fun w' q => aAside_w (by omega)⟩
theorem aSteps_ok {B : aBk} {W : aWx} {n : Nat} {ticks : Int} {r : Nat} (hB : aBok B) : ∀ (f : Nat) (D : aD), 1 ≤ D.1 r 0 → 0 ≤ D.1 r 5 → D.1 r 5 + D.1 r 0 ≤ B.2.1 → 0 ≤ D.1 r 4 → D.1 r 4 < B.2.2 → D.1 r 7 = -1 → D.1 r 8 = -1 → 0 ≤ D.1 r 6 → D.1 r 6 < 4 * f →
    aKeep r D.1 (aSteps B W n ticks r f D).1 ∧ 0 ≤ (aSteps B W n ticks r f D).1 r 5 ∧ (aSteps B W n ticks r f D).1 r 5 + D.1 r 0 ≤ B.2.1 ∧ 0 ≤ (aSteps B W n ticks r f D).1 r 4 ∧ (aSteps B W n ticks r f D).1 r 4 ≤ B.2.2 ∧ 0 ≤ (aSteps B W n ticks r f D).1 r 6 ∧
      (((aSteps B W n ticks r f D).1 r 6 ≤ 3 ∧ (aSteps B W n ticks r f D).1 r 4 < B.2.2 ∧ (aSteps B W n ticks r f D).1 r 7 = -1 ∧ (aSteps B W n ticks r f D).1 r 8 = -1 ∧ (aSteps B W n ticks r f D).2.1 = D.2.1) ∨ ((aSteps B W n ticks r f D).1 r 7 = ticks ∧ (aSteps B W n ticks r f D).1 r 8 = D.2.1 ∧ (aSteps B W n ticks r f D).2.1 = D.2.1 + 1)) := by
  intro f
  induction f with
  | zero => intro D h0 h1 h2 h3 h4 h5 h6 h7 h8; omega
  | succ f ih =>
    intro D h0 h1 h2 h3 h4 h5 h6 h7 h8
    unfold aSteps
    by_cases c1 : D.1 r 6 < 4
    · rw [if_pos c1]
      by_cases c2 : 9 ≤ D.1 r 2 * max W.1 (-W.1)
      · rw [if_pos c2]
        have a5 := aAside_5 (B := B) (W := W) (n := n) (F := D.1) (r := r) (y := if 0 < W.1 then D.1 r 5 + 1 else D.1 r 5 - 1) ⟨h1, h2⟩
        refine ⟨aKeep_a, a5.1, a5.2, ?_, ?_, ?_, Or.inl ⟨?_, ?_, ?_, ?_, rfl⟩⟩
        all_goals (simp only [aAside_w (show (4 : Nat) ≠ 5 by decide), aAside_w (show (6 : Nat) ≠ 5 by decide), aAside_w (show (7 : Nat) ≠ 5 by decide), aAside_w (show (8 : Nat) ≠ 5 by decide)]; first | omega | assumption)
      · rw [if_neg c2]
        exact ⟨aKeep.refl _ _, h1, h2, h3, by omega, h7, Or.inl ⟨by omega, h4, h5, h6, rfl⟩⟩
    · rw [if_neg c1]
      by_cases c2 : D.1 r 4 + 1 = B.2.2
      · rw [if_pos c2]
        refine ⟨((aKeep_u (by decide)).trans (aKeep_u (by decide))).trans ((aKeep_u (by decide)).trans (aKeep_u (by decide))), ?_, ?_, ?_, ?_, ?_, Or.inr ⟨?_, ?_, rfl⟩⟩
        · simp only [aU_w (show (5 : Nat) ≠ 8 by decide), aU_w (show (5 : Nat) ≠ 7 by decide), aU_w (show (5 : Nat) ≠ 4 by decide), aU_w (show (5 : Nat) ≠ 6 by decide)]; exact h1
        · simp only [aU_w (show (5 : Nat) ≠ 8 by decide), aU_w (show (5 : Nat) ≠ 7 by decide), aU_w (show (5 : Nat) ≠ 4 by decide), aU_w (show (5 : Nat) ≠ 6 by decide)]; exact h2
        · simp only [aU_w (show (4 : Nat) ≠ 8 by decide), aU_w (show (4 : Nat) ≠ 7 by decide), aU_s]; omega
        · simp only [aU_w (show (4 : Nat) ≠ 8 by decide), aU_w (show (4 : Nat) ≠ 7 by decide), aU_s]; omega
        · simp only [aU_w (show (6 : Nat) ≠ 8 by decide), aU_w (show (6 : Nat) ≠ 7 by decide), aU_w (show (6 : Nat) ≠ 4 by decide), aU_s]; omega
        · simp only [aU_w (show (7 : Nat) ≠ 8 by decide), aU_s]
        · simp only [aU_s]
      · rw [if_neg c2]
        have g : ∀ w, w ≠ 6 → aU D.1 r 6 (D.1 r 6 - 4) r w = D.1 r w := fun w q => aU_w q
        by_cases c3 : aStop B W n D.1 r (D.1 r 4 + 1)
        · rw [zif_t c3]
          have a5 := aAside_5 (B := B) (W := W) (n := n) (F := aU D.1 r 6 (D.1 r 6 - 4)) (r := r) (y := zif (aUp B W n (aU D.1 r 6 (D.1 r 6 - 4)) r (aU D.1 r 6 (D.1 r 6 - 4) r 4 + 1)) (aU D.1 r 6 (D.1 r 6 - 4) r 5 + 1) (aU D.1 r 6 (D.1 r 6 - 4) r 5 - 1)) (by rw [g 5 (by decide), g 0 (by decide)]; exact ⟨h1, h2⟩)
          rw [g 0 (by decide)] at a5
          have k : aKeep r D.1 (aStrike B W n (aU D.1 r 6 (D.1 r 6 - 4)) r) := ((aKeep_u (by decide)).trans aKeep_a).trans ((aKeep_u (by decide)).trans (aKeep_u (by decide)))
          have e : ∀ w, w ≠ 6 → w ≠ 10 → w ≠ 5 → aStrike B W n (aU D.1 r 6 (D.1 r 6 - 4)) r r w = D.1 r w := fun w q1 q2 q3 => by
            unfold aStrike
            rw [aU_w q2, aU_w q1, aAside_w q3, g w q1]
          have e6 : aStrike B W n (aU D.1 r 6 (D.1 r 6 - 4)) r r 6 = 0 := by
            unfold aStrike
            rw [aU_w (by decide), aU_s]
          have e5 : 0 ≤ aStrike B W n (aU D.1 r 6 (D.1 r 6 - 4)) r r 5 ∧ aStrike B W n (aU D.1 r 6 (D.1 r 6 - 4)) r r 5 + D.1 r 0 ≤ B.2.1 := by
            unfold aStrike
            rw [aU_w (by decide), aU_w (by decide)]
            exact a5
          refine ⟨k, e5.1, e5.2, ?_, ?_, ?_, Or.inl ⟨?_, ?_, ?_, ?_, rfl⟩⟩
          · show 0 ≤ aStrike _ _ _ _ _ _ _; rw [e 4 (by decide) (by decide) (by decide)]; exact h3
          · show aStrike _ _ _ _ _ _ _ ≤ _; rw [e 4 (by decide) (by decide) (by decide)]; omega
          · show 0 ≤ aStrike _ _ _ _ _ _ _; rw [e6]; decide
          · show aStrike _ _ _ _ _ _ _ ≤ _; rw [e6]; decide
          · show aStrike _ _ _ _ _ _ _ < _; rw [e 4 (by decide) (by decide) (by decide)]; exact h4
          · show aStrike _ _ _ _ _ _ _ = _; rw [e 7 (by decide) (by decide) (by decide)]; exact h5
          · show aStrike _ _ _ _ _ _ _ = _; rw [e 8 (by decide) (by decide) (by decide)]; exact h6
        · rw [zif_f c3]
          have e : ∀ w, w ≠ 6 → w ≠ 4 → aU (aU D.1 r 6 (D.1 r 6 - 4)) r 4 (D.1 r 4 + 1) r w = D.1 r w := fun w q1 q2 => by rw [aU_w q2, aU_w q1]
          have e6 : aU (aU D.1 r 6 (D.1 r 6 - 4)) r 4 (D.1 r 4 + 1) r 6 = D.1 r 6 - 4 := by rw [aU_w (by decide), aU_s]
          have i := ih (aU (aU D.1 r 6 (D.1 r 6 - 4)) r 4 (D.1 r 4 + 1), D.2) (by show 1 ≤ aU _ _ _ _ _ _; rw [e 0 (by decide) (by decide)]; exact h0) (by show 0 ≤ aU _ _ _ _ _ _; rw [e 5 (by decide) (by decide)]; exact h1) (by show aU _ _ _ _ _ _ + aU _ _ _ _ _ _ ≤ _; rw [e 5 (by decide) (by decide), e 0 (by decide) (by decide)]; exact h2) (by show 0 ≤ aU _ _ _ _ _ _; rw [aU_s]; omega) (by show aU _ _ _ _ _ _ < _; rw [aU_s]; omega) (by show aU _ _ _ _ _ _ = _; rw [e 7 (by decide) (by decide)]; exact h5) (by show aU _ _ _ _ _ _ = _; rw [e 8 (by decide) (by decide)]; exact h6) (by show 0 ≤ aU _ _ _ _ _ _; rw [e6]; omega) (by show aU _ _ _ _ _ _ < _; rw [e6]; omega)
          have e0 : (aU (aU D.1 r 6 (D.1 r 6 - 4)) r 4 (D.1 r 4 + 1), D.2).1 r 0 = D.1 r 0 := e 0 (by decide) (by decide)
          rw [e0] at i
          exact ⟨((aKeep_u (by decide)).trans (aKeep_u (by decide))).trans i.1, i.2⟩
theorem aMove_ok {B : aBk} {W : aWx} {n : Nat} {ticks : Int} {r : Nat} {D : aD} (hB : aBok B) (hW : aWok W) (hr : r < n) (hok : ∀ o, o < n → aFok B D.1 o) (ho : D.1 r 7 = -1) :
    aKeep r D.1 (aMove B W n ticks r D).1 ∧ 0 ≤ (aMove B W n ticks r D).1 r 5 ∧ (aMove B W n ticks r D).1 r 5 + D.1 r 0 ≤ B.2.1 ∧ 0 ≤ (aMove B W n ticks r D).1 r 4 ∧ (aMove B W n ticks r D).1 r 4 ≤ B.2.2 ∧ 0 ≤ (aMove B W n ticks r D).1 r 6 ∧
      (((aMove B W n ticks r D).1 r 6 ≤ 3 ∧ (aMove B W n ticks r D).1 r 4 < B.2.2 ∧ (aMove B W n ticks r D).1 r 7 = -1 ∧ (aMove B W n ticks r D).1 r 8 = -1 ∧ (aMove B W n ticks r D).2.1 = D.2.1) ∨ ((aMove B W n ticks r D).1 r 7 = ticks ∧ (aMove B W n ticks r D).1 r 8 = D.2.1 ∧ (aMove B W n ticks r D).2.1 = D.2.1 + 1)) := by
  obtain ⟨⟨o1, o2, o3, o4, o5, o6, o7, o8⟩, p1, p2, p3, p4, p5, p6, p7, p8, -⟩ := hok r hr
  have hL : aLn B D.1 n := fun o q => ⟨(hok o q).1.1, (hok o q).1.2.1, (hok o q).2.1, (hok o q).2.2.1⟩
  have pb := aPull_b (r := r) hB hW hr hL ⟨p3, p5 ho⟩
  have wb : 0 ≤ (zif (aWave n D.1 r) 1 0 : Int) ∧ (zif (aWave n D.1 r) 1 0 : Int) ≤ 1 := by
    by_cases q : aWave n D.1 r
    · rw [zif_t q]; omega
    · rw [zif_f q]; omega
  replace p7 := p7 ho
  have g : ∀ w, w ≠ 6 → aU D.1 r 6 (D.1 r 6 + aPull B W D.1 r + zif (aWave n D.1 r) 1 0) r w = D.1 r w := fun w q => aU_w q
  have g6 : aU D.1 r 6 (D.1 r 6 + aPull B W D.1 r + zif (aWave n D.1 r) 1 0) r 6 = D.1 r 6 + aPull B W D.1 r + zif (aWave n D.1 r) 1 0 := aU_s
  have i := aSteps_ok (W := W) (n := n) (ticks := ticks) (r := r) hB 6 (aU D.1 r 6 (D.1 r 6 + aPull B W D.1 r + zif (aWave n D.1 r) 1 0), D.2) (by show 1 ≤ aU _ _ _ _ _ _; rw [g 0 (by decide)]; exact o1) (by show 0 ≤ aU _ _ _ _ _ _; rw [g 5 (by decide)]; exact p1) (by show aU _ _ _ _ _ _ + aU _ _ _ _ _ _ ≤ _; rw [g 5 (by decide), g 0 (by decide)]; exact p2) (by show 0 ≤ aU _ _ _ _ _ _; rw [g 4 (by decide)]; exact p3) (by show aU _ _ _ _ _ _ < _; rw [g 4 (by decide)]; exact p5 ho) (by show aU _ _ _ _ _ _ = _; rw [g 7 (by decide)]; exact ho) (by show aU _ _ _ _ _ _ = _; rw [g 8 (by decide)]; exact p8.mp ho) (by show 0 ≤ aU _ _ _ _ _ _; rw [g6]; omega) (by show aU _ _ _ _ _ _ < _; rw [g6]; omega)
  have e0 : (aU D.1 r 6 (D.1 r 6 + aPull B W D.1 r + zif (aWave n D.1 r) 1 0), D.2).1 r 0 = D.1 r 0 := g 0 (by decide)
  rw [e0] at i
  exact ⟨(aKeep_u (by decide)).trans i.1, i.2⟩
theorem aIn_k {r : Nat} {F F' : aFn} (h : ∀ o w, o ≠ r → F' o w = F o w) : ∀ n, (n ≤ r → aIn F' n = aIn F n) ∧ (r < n → aIn F' n + (if F r 7 = -1 then 1 else 0) = aIn F n + (if F' r 7 = -1 then 1 else 0)) := by
  intro n
  induction n with
  | zero => exact ⟨fun _ => rfl, fun q => absurd q (by omega)⟩
  | succ n ih =>
    unfold aIn
    refine ⟨fun q => ?_, fun q => ?_⟩
    · rw [ih.1 (by omega), h n 7 (by omega)]
    · by_cases e : n = r
      · subst e
        rw [ih.1 (Nat.le_refl _)]
        omega
      · have := ih.2 (by omega)
        rw [h n 7 e]
        omega
theorem aIn_n (F : aFn) : ∀ n : Nat, 0 ≤ aIn F n ∧ aIn F n ≤ n
  | 0 => by unfold aIn; omega
  | n + 1 => by
    have := aIn_n F n
    unfold aIn
    split <;> omega
theorem aGo_ok {B : aBk} {W : aWx} {n : Nat} {ticks : Int} {r : Nat} {D : aD} (hB : aBok B) (hW : aWok W) (hn : n ≤ 6) (hr : r < n) (hok : aDok B n D) (ho : D.1 r 7 = -1) (ht : 0 ≤ ticks ∧ ticks ≤ 60) :
    aKeep r D.1 (aGo B W n ticks r D).1 ∧ aDok B n (aGo B W n ticks r D) := by
  obtain ⟨k1, k2, k3⟩ := hok
  have main : ∀ D' : aD, aKeep r D.1 D'.1 → 0 ≤ D'.1 r 5 → D'.1 r 5 + D.1 r 0 ≤ B.2.1 → 0 ≤ D'.1 r 4 → D'.1 r 4 ≤ B.2.2 → 0 ≤ D'.1 r 6 → ((D'.1 r 6 ≤ 3 ∧ D'.1 r 4 < B.2.2 ∧ D'.1 r 7 = -1 ∧ D'.1 r 8 = -1 ∧ D'.2.1 = D.2.1) ∨ (D'.1 r 7 = ticks ∧ D'.1 r 8 = D.2.1 ∧ D'.2.1 = D.2.1 + 1)) → aDok B n D' := by
    intro D' g1 g2 g3 g4 g5 g6 g7
    have hi := (aIn_k g1.1 n).2 hr
    rw [if_pos ho] at hi
    have hb := aIn_n D'.1 n
    obtain ⟨⟨o1, o2, o3, o4, o5, o6, o7, o8⟩, -⟩ := k1 r hr
    have e0 := g1.2 0 (by omega)
    have e1 := g1.2 1 (by omega)
    have e2 := g1.2 2 (by omega)
    have e3 := g1.2 3 (by omega)
    refine ⟨fun o q => ?_, ?_, ?_⟩
    · by_cases e : o = r
      · subst e
        unfold aFok aFst
        rw [e0, e1, e2, e3]
        rcases g7 with ⟨a, b, c, d, e⟩ | ⟨a, b, c⟩
        · rw [if_pos c] at hi
          rw [c, d]
          omega
        · rw [if_neg (by omega)] at hi
          rw [a, b]
          omega
      · have := k1 o q
        unfold aFok aFst at this ⊢
        simp only [g1.1 o _ e]
        exact this
    · rcases g7 with ⟨a, b, c, d, e⟩ | ⟨a, b, c⟩ <;> omega
    · rcases g7 with ⟨a, b, c, d, e⟩ | ⟨a, b, c⟩
      · rw [if_pos c] at hi
        omega
      · rw [if_neg (by omega)] at hi
        omega
  have mv : ∀ D2 : aD, D2.1 = D.1 → D2.2.1 = D.2.1 → aKeep r D.1 (aMove B W n ticks r D2).1 ∧ aDok B n (aMove B W n ticks r D2) := by
    intro D2 e1 e2
    have i := aMove_ok (ticks := ticks) (D := D2) hB hW hr (by rw [e1]; exact k1) (by rw [e1]; exact ho)
    rw [e1, e2] at i
    exact ⟨i.1, main _ i.1 i.2.1 i.2.2.1 i.2.2.2.1 i.2.2.2.2.1 i.2.2.2.2.2.1 i.2.2.2.2.2.2⟩
  unfold aGo
  by_cases c : aEddy B D.1 r
  · rw [zif_t c]
    by_cases c2 : (aDie (aNext D.2.2.1)).toInt < W.2.2
    · rw [if_pos c2]
      have kk : aKeep r D.1 (aU (aU D.1 r 6 0) r 9 (aInc (D.1 r 9))) := (aKeep_u (by decide)).trans (aKeep_u (by decide))
      obtain ⟨⟨o1, o2, o3, o4, o5, o6, o7, o8⟩, p1, p2, p3, p4, p5, p6, p7, p8, -⟩ := k1 r hr
      have e : ∀ w, w ≠ 6 → w ≠ 9 → aU (aU D.1 r 6 0) r 9 (aInc (D.1 r 9)) r w = D.1 r w := fun w q1 q2 => by rw [aU_w q2, aU_w q1]
      have e6 : aU (aU D.1 r 6 0) r 9 (aInc (D.1 r 9)) r 6 = 0 := by rw [aU_w (by decide), aU_s]
      refine ⟨kk, main _ kk ?_ ?_ ?_ ?_ ?_ (Or.inl ⟨?_, ?_, ?_, ?_, rfl⟩)⟩
      · show 0 ≤ aU _ _ _ _ _ _; rw [e 5 (by decide) (by decide)]; exact p1
      · show aU _ _ _ _ _ _ + _ ≤ _; rw [e 5 (by decide) (by decide)]; exact p2
      · show 0 ≤ aU _ _ _ _ _ _; rw [e 4 (by decide) (by decide)]; exact p3
      · show aU _ _ _ _ _ _ ≤ _; rw [e 4 (by decide) (by decide)]; exact p4
      · show 0 ≤ aU _ _ _ _ _ _; rw [e6]; decide
      · show aU _ _ _ _ _ _ ≤ _; rw [e6]; decide
      · show aU _ _ _ _ _ _ < _; rw [e 4 (by decide) (by decide)]; exact p5 ho
      · show aU _ _ _ _ _ _ = _; rw [e 7 (by decide) (by decide)]; exact ho
      · show aU _ _ _ _ _ _ = _; rw [e 8 (by decide) (by decide)]; exact p8.mp ho
    · rw [if_neg c2]
      exact mv _ rfl rfl
  · rw [zif_f c]
    exact mv _ rfl rfl
/-! the order -/
def aLt (X : Nat → Int) (a b : Nat) : Prop := X b < X a ∨ (X a = X b ∧ a < b)
theorem aIns_m {X : Nat → Int} {i r : Nat} : ∀ {L : List Nat}, r ∈ aIns X i L ↔ r = i ∨ r ∈ L
  | [] => by unfold aIns; simp
  | j :: L => by
    unfold aIns
    split
    · simp
    · simp only [List.mem_cons, aIns_m (L := L)]
      exact or_left_comm
theorem aIns_l {X : Nat → Int} {i : Nat} : ∀ {L : List Nat}, (aIns X i L).length = L.length + 1
  | [] => rfl
  | j :: L => by
    unfold aIns
    split
    · rfl
    · simp only [List.length_cons, aIns_l (L := L)]
theorem aIns_p {X : Nat → Int} {i : Nat} : ∀ {L : List Nat}, L.Pairwise (aLt X) → (∀ r ∈ L, r < i) → (aIns X i L).Pairwise (aLt X)
  | [], _, _ => by unfold aIns; exact List.pairwise_singleton _ _
  | j :: L, h, hi => by
    unfold aIns
    obtain ⟨h1, h2⟩ := List.pairwise_cons.mp h
    split
    · rename_i c
      refine List.pairwise_cons.mpr ⟨fun a ha => ?_, h⟩
      rcases List.mem_cons.mp ha with e | e
      · rw [e]; exact Or.inl c
      · have := h1 a e
        unfold aLt at this ⊢
        omega
    · rename_i c
      refine List.pairwise_cons.mpr ⟨fun a ha => ?_, aIns_p h2 (fun r hr => hi r (List.mem_cons_of_mem _ hr))⟩
      rcases aIns_m.mp ha with e | e
      · subst e
        have := hi j List.mem_cons_self
        unfold aLt
        omega
      · exact h1 a e
theorem aOrd_m {X : Nat → Int} {r : Nat} : ∀ {n : Nat}, r ∈ aOrd X n ↔ r < n
  | 0 => by unfold aOrd; simp
  | n + 1 => by
    unfold aOrd
    rw [aIns_m, aOrd_m (n := n)]
    omega
theorem aOrd_l {X : Nat → Int} : ∀ {n : Nat}, (aOrd X n).length = n
  | 0 => rfl
  | n + 1 => by
    unfold aOrd
    rw [aIns_l, aOrd_l (n := n)]
theorem aOrd_p {X : Nat → Int} : ∀ {n : Nat}, (aOrd X n).Pairwise (aLt X)
  | 0 => List.Pairwise.nil
  | n + 1 => by
    unfold aOrd
    exact aIns_p (aOrd_p (n := n)) (fun r hr => aOrd_m.mp hr)
theorem aTurns_a {B : aBk} {W : aWx} {n : Nat} {ticks : Int} : ∀ (L1 L2 : List Nat) (D : aD), aTurns B W n ticks (L1 ++ L2) D = aTurns B W n ticks L2 (aTurns B W n ticks L1 D)
  | [], _, _ => rfl
  | r :: L1, L2, D => by
    show aTurns B W n ticks (L1 ++ L2) _ = _
    rw [aTurns_a L1 L2]
    rfl
theorem aTurns_o {B : aBk} {W : aWx} {n : Nat} {ticks : Int} : ∀ (L : List Nat) (D : aD), (∀ r ∈ L, D.1 r 7 ≠ -1) → aTurns B W n ticks L D = D
  | [], _, _ => rfl
  | r :: L, D, h => by
    unfold aTurns
    rw [if_neg (h r List.mem_cons_self)]
    exact aTurns_o L D (fun q hq => h q (List.mem_cons_of_mem _ hq))
theorem aTurns_ok {B : aBk} {W : aWx} {n : Nat} {ticks : Int} (hB : aBok B) (hW : aWok W) (hn : n ≤ 6) (ht : 0 ≤ ticks ∧ ticks ≤ 60) : ∀ (L : List Nat) (D : aD), (∀ r ∈ L, r < n) → aDok B n D → aDok B n (aTurns B W n ticks L D) ∧ (∀ o, o ∉ L → ∀ w, (aTurns B W n ticks L D).1 o w = D.1 o w) ∧ ∀ o w, w ≤ 3 → (aTurns B W n ticks L D).1 o w = D.1 o w
  | [], D, _, h => ⟨h, fun _ _ _ => rfl, fun _ _ _ => rfl⟩
  | r :: L, D, hL, h => by
    unfold aTurns
    by_cases c : D.1 r 7 = -1
    · rw [if_pos c]
      have g := aGo_ok (ticks := ticks) hB hW hn (hL r List.mem_cons_self) h c ht
      have i := aTurns_ok hB hW hn ht L _ (fun q hq => hL q (List.mem_cons_of_mem _ hq)) g.2
      refine ⟨i.1, fun o ho w => ?_, fun o w hw => ?_⟩
      · rw [i.2.1 o (fun q => ho (List.mem_cons_of_mem _ q))]
        exact g.1.1 o w (fun q => ho (by rw [q]; exact List.mem_cons_self))
      · rw [i.2.2 o w hw]
        by_cases e : o = r
        · rw [e]; exact g.1.2 w hw
        · exact g.1.1 o w e
    · rw [if_neg c]
      have i := aTurns_ok hB hW hn ht L _ (fun q hq => hL q (List.mem_cons_of_mem _ hq)) h
      exact ⟨i.1, fun o ho w => i.2.1 o (fun q => ho (List.mem_cons_of_mem _ q)) w, i.2.2⟩
theorem aTick_ok {B : aBk} {W : aWx} {n : Nat} {ticks : Int} {D : aD} (hB : aBok B) (hW : aWok W) (hn : n ≤ 6) (ht : 0 ≤ ticks ∧ ticks ≤ 60) (h : aDok B n D) : aDok B n (aTick B W n ticks D) ∧ ∀ o w, w ≤ 3 → (aTick B W n ticks D).1 o w = D.1 o w := by
  have i := aTurns_ok hB hW hn ht (aOrd (fun r => D.1 r 4) n) D (fun r hr => aOrd_m.mp hr) h
  exact ⟨i.1, i.2.2⟩
theorem aRun_ok {B : aBk} {W : aWx} {n : Nat} (hB : aBok B) (hW : aWok W) (hn : n ≤ 6) : ∀ (f : Nat) (T : Int × aD), 0 ≤ T.1 → T.1 ≤ 60 → aDok B n T.2 → aDok B n (aRun B W n f T).2 ∧ 0 ≤ (aRun B W n f T).1 ∧ (aRun B W n f T).1 ≤ 60 ∧ ∀ o w, w ≤ 3 → (aRun B W n f T).2.1 o w = T.2.1 o w
  | 0, T, h1, h2, h => ⟨h, h1, h2, fun _ _ _ => rfl⟩
  | f + 1, T, h1, h2, h => by
    unfold aRun
    by_cases c : T.1 < 60 ∧ T.2.2.1 < n
    · rw [if_pos c]
      have g := aTick_ok (ticks := T.1 + 1) hB hW hn (by omega) h
      have i := aRun_ok hB hW hn f (T.1 + 1, aTick B W n (T.1 + 1) T.2) (by show 0 ≤ T.1 + 1; omega) (by show T.1 + 1 ≤ 60; omega) g.1
      exact ⟨i.1, i.2.1, i.2.2.1, fun o w hw => (i.2.2.2 o w hw).trans (g.2 o w hw)⟩
    · rw [if_neg c]
      exact ⟨h, h1, h2, fun _ _ _ => rfl⟩
