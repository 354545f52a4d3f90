/-! a race without any draw is the same for every seed -/
def aNd (D : aD) (dr : Int64) (dw : Prop) : aD := (D.1, D.2.1, dr, dw, D.2.2.2.2)
def aDw (D : aD) : Prop := D.2.2.2.1
theorem aSteps_nd {B : aBk} {W : aWx} {n : Nat} {T : Int} {r : Nat} : ∀ (f : Nat) (D : aD) (dr : Int64) (dw : Prop), aSteps B W n T r f (aNd D dr dw) = aNd (aSteps B W n T r f D) dr dw := by
  intro f
  induction f with
  | zero => intro D dr dw; rfl
  | succ f ih =>
    intro D dr dw
    unfold aSteps
    by_cases c1 : D.1 r 6 < 4
    · rw [if_pos (show (aNd D dr dw).1 r 6 < 4 from c1), if_pos c1]
      by_cases c2 : 9 ≤ D.1 r 2 * max W.1 (-W.1)
      · rw [if_pos (show 9 ≤ (aNd D dr dw).1 r 2 * max W.1 (-W.1) from c2), if_pos c2]
        rfl
      · rw [if_neg (show ¬ 9 ≤ (aNd D dr dw).1 r 2 * max W.1 (-W.1) from c2), if_neg c2]
    · rw [if_neg (show ¬ (aNd D dr dw).1 r 6 < 4 from c1), if_neg c1]
      by_cases c2 : D.1 r 4 + 1 = B.2.2
      · rw [if_pos (show (aNd D dr dw).1 r 4 + 1 = B.2.2 from c2), if_pos c2]
        rfl
      · rw [if_neg (show ¬ (aNd D dr dw).1 r 4 + 1 = B.2.2 from c2), if_neg c2]
        by_cases c3 : aStop B W n D.1 r (D.1 r 4 + 1)
        · rw [zif_t (show aStop B W n (aNd D dr dw).1 r ((aNd D dr dw).1 r 4 + 1) from c3), zif_t c3]
          rfl
        · rw [zif_f (show ¬ aStop B W n (aNd D dr dw).1 r ((aNd D dr dw).1 r 4 + 1) from c3), zif_f c3]
          exact ih (aU (aU D.1 r 6 (D.1 r 6 - 4)) r 4 (D.1 r 4 + 1), D.2) dr dw
theorem aMove_nd {B : aBk} {W : aWx} {n : Nat} {T : Int} {r : Nat} (D : aD) (dr : Int64) (dw : Prop) : aMove B W n T r (aNd D dr dw) = aNd (aMove B W n T r D) dr dw :=
  aSteps_nd 6 (aU D.1 r 6 (D.1 r 6 + aPull B W D.1 r + zif (aWave n D.1 r) 1 0), D.2) dr dw
theorem aMove_dw {B : aBk} {W : aWx} {n : Nat} {T : Int} {r : Nat} (D : aD) : aDw (aMove B W n T r D) = aDw D := by
  have e := aMove_nd (B := B) (W := W) (n := n) (T := T) (r := r) D D.2.2.1 D.2.2.2.1
  have e2 : aNd D D.2.2.1 D.2.2.2.1 = D := rfl
  rw [e2] at e
  rw [e]
  rfl
theorem aGo_dw {B : aBk} {W : aWx} {n : Nat} {T : Int} {r : Nat} {D : aD} (h : ¬ aDw (aGo B W n T r D)) : ¬ aDw D ∧ ∀ (dr : Int64) (dw : Prop), aGo B W n T r (aNd D dr dw) = aNd (aGo B W n T r D) dr dw := by
  have ne : ¬ aEddy B D.1 r := by
    intro c
    apply h
    unfold aGo
    rw [zif_t c]
    by_cases c2 : (aDie (aNext D.2.2.1)).toInt < W.2.2
    · rw [if_pos c2]; exact trivial
    · rw [if_neg c2, aMove_dw]; exact trivial
  have e : aGo B W n T r D = aMove B W n T r D := by unfold aGo; rw [zif_f ne]
  refine ⟨?_, fun dr dw => ?_⟩
  · rw [e, aMove_dw] at h; exact h
  · rw [e, ← aMove_nd]
    unfold aGo
    rw [zif_f (show ¬ aEddy B (aNd D dr dw).1 r from ne)]
theorem aTurns_dw {B : aBk} {W : aWx} {n : Nat} {T : Int} : ∀ (L : List Nat) (D : aD), ¬ aDw (aTurns B W n T L D) → ¬ aDw D ∧ ∀ (dr : Int64) (dw : Prop), aTurns B W n T L (aNd D dr dw) = aNd (aTurns B W n T L D) dr dw
  | [], _, h => ⟨h, fun _ _ => rfl⟩
  | r :: L, D, h => by
    unfold aTurns at h ⊢
    have i := aTurns_dw L _ h
    by_cases c : D.1 r 7 = -1
    · rw [if_pos c] at h i ⊢
      have g := aGo_dw i.1
      refine ⟨g.1, fun dr dw => ?_⟩
      rw [if_pos (show (aNd D dr dw).1 r 7 = -1 from c), g.2 dr dw]
      exact i.2 dr dw
    · rw [if_neg c] at h i ⊢
      refine ⟨i.1, fun dr dw => ?_⟩
      rw [if_neg (show ¬ (aNd D dr dw).1 r 7 = -1 from c)]
      exact i.2 dr dw
theorem aRun_dw {B : aBk} {W : aWx} {n : Nat} : ∀ (f : Nat) (t : Int) (D : aD), ¬ aDw (aRun B W n f (t, D)).2 → ¬ aDw D ∧ ∀ (dr : Int64) (dw : Prop), aRun B W n f (t, aNd D dr dw) = ((aRun B W n f (t, D)).1, aNd (aRun B W n f (t, D)).2 dr dw)
  | 0, _, _, h => ⟨h, fun _ _ => rfl⟩
  | f + 1, t, D, h => by
    unfold aRun at h ⊢
    by_cases c : t < 60 ∧ D.2.1 < n
    · rw [if_pos (show (t, D).1 < 60 ∧ (t, D).2.2.1 < n from c)] at h ⊢
      have i := aRun_dw f (t + 1) (aTick B W n (t + 1) D) h
      have g := aTurns_dw (aOrd (fun r => D.1 r 4) n) D i.1
      refine ⟨g.1, fun dr dw => ?_⟩
      rw [if_pos (show (t, aNd D dr dw).1 < 60 ∧ (t, aNd D dr dw).2.2.1 < n from c)]
      have e : aTick B W n (t + 1) (aNd D dr dw) = aNd (aTick B W n (t + 1) D) dr dw := g.2 dr dw
      show aRun B W n f (t + 1, aTick B W n (t + 1) (aNd D dr dw)) = _
      rw [e]
      exact i.2 dr dw
    · rw [if_neg (show ¬ ((t, D).1 < 60 ∧ (t, D).2.2.1 < n) from c)] at h ⊢
      refine ⟨h, fun dr dw => ?_⟩
      rw [if_neg (show ¬ ((t, aNd D dr dw).1 < 60 ∧ (t, aNd D dr dw).2.2.1 < n) from c)]
/-- what a race shows of its seed: nothing, if none was drawn -/
theorem aRace_dw {B : aBk} {W : aWx} {n : Nat} {F : aFn} {s : Int64} (h : ¬ aDw (aRace B W n F s).2) (s' : Int64) : aRace B W n F s' = ((aRace B W n F s).1, aNd (aRace B W n F s).2 s' False) :=
  (aRun_dw 60 0 (aBeg n F, 0, s, False, fun _ => 0) h).2 s' False
theorem aRace_dw1 {B : aBk} {W : aWx} {n : Nat} {F : aFn} {s : Int64} (h : ¬ aDw (aRace B W n F s).2) (s' : Int64) : ¬ aDw (aRace B W n F s').2 ∧ (aRace B W n F s').2.1 = (aRace B W n F s).2.1 ∧ (aRace B W n F s').1 = (aRace B W n F s).1 := by
  rw [aRace_dw h s']
  exact ⟨id, rfl, rfl⟩
