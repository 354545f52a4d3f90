/-! the race as whole numbers: brooks (sign y x: 0 a stone, 10 an eddy; lanes, wide), weather (wind, high, hold), runners F r w (w: 0 size, 1 heavy, 2 feather, 3 from, 4 at, 5 lane, 6 rest, 7 out, 8 place, 9 held, 10 struck) -/
abbrev aBk : Type := (Nat → Nat → Int) × Int × Int
abbrev aWx : Type := Int × Int × Int
abbrev aFn : Type := Nat → Nat → Int
/-- what moves: runners, outs, draws, whether one was drawn, strikes -/
abbrev aD : Type := aFn × Int × Int64 × Prop × (Nat → Int)
def aU (F : aFn) (r w : Nat) (v : Int) : aFn := fun r' w' => if r' = r ∧ w' = w then v else F r' w'
theorem aU_s {F : aFn} {r w : Nat} {v : Int} : aU F r w v r w = v := if_pos ⟨rfl, rfl⟩
theorem aU_r {F : aFn} {r w r' w' : Nat} {v : Int} (h : r' ≠ r) : aU F r w v r' w' = F r' w' := if_neg (fun q => h q.1)
theorem aU_w {F : aFn} {r w r' w' : Nat} {v : Int} (h : w' ≠ w) : aU F r w v r' w' = F r' w' := if_neg (fun q => h q.2)
theorem aU_c {F : aFn} {r w w' : Nat} {v v' : Int} (h : w ≠ w') : aU (aU F r w v) r w' v' = aU (aU F r w' v') r w v := by
  funext a b
  unfold aU
  by_cases h1 : a = r ∧ b = w' <;> by_cases h2 : a = r ∧ b = w <;> simp [h1, h2]
  · omega
  · intro q; exact absurd q.symm h
  · intro q; exact absurd q h
theorem aU_o {F : aFn} {r w : Nat} {v v' : Int} : aU (aU F r w v) r w v' = aU F r w v' := by
  funext a b
  unfold aU
  split <;> rfl
def aInc (v : Int) : Int := (Int32.ofInt v + 1).toInt
theorem aInc_of (x : Int32) : (x + 1).toInt = aInc x.toInt := by unfold aInc; rw [ai_io]
def aBars (B : aBk) (W : aWx) (x y : Int) : Prop := W.2.1 < 2 ∧ B.1 y.toNat x.toNat = 0
def aCan (B : aBk) (W : aWx) (sz x y : Int) : Prop := 0 ≤ y ∧ y + sz ≤ B.2.1 ∧ ∀ k : Int, y ≤ k → k < y + sz → ¬ aBars B W x k
def aOcc (n : Nat) (F : aFn) (but x k : Int) : Prop := ∃ r : Nat, r < n ∧ (r : Int) ≠ but ∧ F r 7 = -1 ∧ F r 4 = x ∧ F r 5 ≤ k ∧ k < F r 5 + F r 0
def aFree (n : Nat) (F : aFn) (but sz x y : Int) : Prop := ∀ k : Int, y ≤ k → k < y + sz → ¬ aOcc n F but x k
def aPace (B : aBk) (W : aWx) (x y : Int) : Int := if B.1 y.toNat x.toNat = 0 then 1 else (if B.1 y.toNat x.toNat = 10 then 1 else B.1 y.toNat x.toNat) + W.2.1
def aSum (f : Nat → Int) : Nat → Int
  | 0 => 0
  | k + 1 => aSum f k + f k
def aTop (f : Nat → Int) : Nat → Int
  | 0 => 0
  | k + 1 => if aTop f k < f k then f k else aTop f k
def aPull (B : aBk) (W : aWx) (F : aFn) (r : Nat) : Int :=
  max 0 ((if F r 0 < 3 then aTop (fun k => aPace B W (F r 4) (F r 5 + k)) (F r 0).toNat else aSum (fun k => aPace B W (F r 4) (F r 5 + k)) (F r 0).toNat / F r 0) - max 0 (F r 1 - 5) / 2)
def aEddy (B : aBk) (F : aFn) (r : Nat) : Prop := ∃ k : Nat, (k : Int) < F r 0 ∧ B.1 (F r 5 + k).toNat (F r 4).toNat = 10
def aWave (n : Nat) (F : aFn) (r : Nat) : Prop := ∃ o : Nat, o < n ∧ F o 7 = -1 ∧ 1 ≤ F o 4 - F r 4 ∧ F o 4 - F r 4 ≤ 2 ∧ F o 5 < F r 5 + F r 0 ∧ F r 5 < F o 5 + F o 0
/-- the next draw and its tenth: closed, for the kernel would count their large numbers out -/
theorem aNext_e (dr : Int64) : ∃ x : Int64, x = dr * 6364136223846793005 + 1442695040888963407 := ⟨_, rfl⟩
noncomputable def aNext (dr : Int64) : Int64 := Classical.choose (aNext_e dr)
theorem aNext_eq (dr : Int64) : dr * 6364136223846793005 + 1442695040888963407 = aNext dr := (Classical.choose_spec (aNext_e dr)).symm
theorem aDie_e (dr : Int64) : ∃ x : Int32, x = (((dr.toUInt64 >>> ((33 : Int32).toInt64.toUInt64 &&& Int64.toUInt64 63)).toInt64) - (((dr.toUInt64 >>> ((33 : Int32).toInt64.toUInt64 &&& Int64.toUInt64 63)).toInt64) / 10 * 10) : Int64).toInt32 := ⟨_, rfl⟩
noncomputable def aDie (dr : Int64) : Int32 := Classical.choose (aDie_e dr)
theorem aDie_eq (dr : Int64) : (((dr.toUInt64 >>> ((33 : Int32).toInt64.toUInt64 &&& Int64.toUInt64 63)).toInt64) - (((dr.toUInt64 >>> ((33 : Int32).toInt64.toUInt64 &&& Int64.toUInt64 63)).toInt64) / 10 * 10) : Int64).toInt32 = aDie dr := (Classical.choose_spec (aDie_e dr)).symm
noncomputable def aAside (B : aBk) (W : aWx) (n : Nat) (F : aFn) (r : Nat) (y : Int) : aFn :=
  zif (aCan B W (F r 0) (F r 4) y ∧ aFree n F r (F r 0) (F r 4) y) (aU F r 5 y) F
def aBarred (B : aBk) (W : aWx) (n : Nat) (F : aFn) (r : Nat) (x k : Int) : Prop := aBars B W x k ∨ aOcc n F r x k
/-- whether a stick's way is barred at x -/
def aStop (B : aBk) (W : aWx) (n : Nat) (F : aFn) (r : Nat) (x : Int) : Prop := ∃ k : Int, F r 5 ≤ k ∧ k < F r 5 + F r 0 ∧ aBarred B W n F r x k
/-- whether it goes up, struck at x -/
def aUp (B : aBk) (W : aWx) (n : Nat) (F : aFn) (r : Nat) (x : Int) : Prop := ∃ k : Int, F r 5 ≤ k ∧ 2 * (k - F r 5) < F r 0 ∧ aBarred B W n F r x k
noncomputable def aStrike (B : aBk) (W : aWx) (n : Nat) (F : aFn) (r : Nat) : aFn :=
  aU (aU (aAside B W n F r (zif (aUp B W n F r (F r 4 + 1)) (F r 5 + 1) (F r 5 - 1))) r 6 0) r 10 (aInc (F r 10))
def aHit (S : Nat → Int) (x : Int) : Nat → Int := fun i => if i = x.toNat then aInc (S i) else S i
noncomputable def aSteps (B : aBk) (W : aWx) (n : Nat) (ticks : Int) (r : Nat) : Nat → aD → aD
  | 0, D => D
  | f + 1, D =>
    if D.1 r 6 < 4 then
      (if 9 ≤ D.1 r 2 * max W.1 (-W.1) then (aAside B W n D.1 r (if 0 < W.1 then D.1 r 5 + 1 else D.1 r 5 - 1), D.2) else D)
    else if D.1 r 4 + 1 = B.2.2 then (aU (aU (aU (aU D.1 r 6 (D.1 r 6 - 4)) r 4 (D.1 r 4 + 1)) r 7 ticks) r 8 D.2.1, D.2.1 + 1, D.2.2)
    else zif (aStop B W n D.1 r (D.1 r 4 + 1))
      (aStrike B W n (aU D.1 r 6 (D.1 r 6 - 4)) r, D.2.1, D.2.2.1, D.2.2.2.1, aHit D.2.2.2.2 (D.1 r 4))
      (aSteps B W n ticks r f (aU (aU D.1 r 6 (D.1 r 6 - 4)) r 4 (D.1 r 4 + 1), D.2))
/-- a runner's turn behind the draw -/
noncomputable def aMove (B : aBk) (W : aWx) (n : Nat) (ticks : Int) (r : Nat) (D : aD) : aD :=
  aSteps B W n ticks r 6 (aU D.1 r 6 (D.1 r 6 + aPull B W D.1 r + zif (aWave n D.1 r) 1 0), D.2)
noncomputable def aGo (B : aBk) (W : aWx) (n : Nat) (ticks : Int) (r : Nat) (D : aD) : aD :=
  zif (aEddy B D.1 r)
    (if (aDie (aNext D.2.2.1)).toInt < W.2.2 then (aU (aU D.1 r 6 0) r 9 (aInc (D.1 r 9)), D.2.1, aNext D.2.2.1, True, D.2.2.2.2)
      else aMove B W n ticks r (D.1, D.2.1, aNext D.2.2.1, True, D.2.2.2.2))
    (aMove B W n ticks r D)
/-- the order of a tick: the greatest x first, of several the lowest number -/
def aIns (X : Nat → Int) (i : Nat) : List Nat → List Nat
  | [] => [i]
  | j :: L => if X j < X i then i :: j :: L else j :: aIns X i L
def aOrd (X : Nat → Int) : Nat → List Nat
  | 0 => []
  | i + 1 => aIns X i (aOrd X i)
noncomputable def aTurns (B : aBk) (W : aWx) (n : Nat) (ticks : Int) : List Nat → aD → aD
  | [], D => D
  | r :: L, D => aTurns B W n ticks L (if D.1 r 7 = -1 then aGo B W n ticks r D else D)
noncomputable def aTick (B : aBk) (W : aWx) (n : Nat) (ticks : Int) (D : aD) : aD := aTurns B W n ticks (aOrd (fun r => D.1 r 4) n) D
/-- a race from some ticks on -/
noncomputable def aRun (B : aBk) (W : aWx) (n : Nat) : Nat → Int × aD → Int × aD
  | 0, T => T
  | f + 1, T => if T.1 < 60 ∧ T.2.2.1 < n then aRun B W n f (T.1 + 1, aTick B W n (T.1 + 1) T.2) else T
def aPut (F : aFn) (r w : Nat) : Int := match w with
  | 4 => 0
  | 5 => F r 3
  | 6 => 0
  | 7 => -1
  | 8 => -1
  | 9 => 0
  | 10 => 0
  | _ => F r w
def aBeg (n : Nat) (F : aFn) : aFn := fun r w => if r < n ∧ w < 11 then aPut F r w else 0
/-- a whole race: ticks and what moved -/
noncomputable def aRace (B : aBk) (W : aWx) (n : Nat) (F : aFn) (seed : Int64) : Int × aD := aRun B W n 60 (0, aBeg n F, 0, seed, False, fun _ => 0)
/-! what holds of brooks, weather, runners -/
def aBok (B : aBk) : Prop := 2 ≤ B.2.1 ∧ B.2.1 ≤ 6 ∧ 4 ≤ B.2.2 ∧ B.2.2 ≤ 16 ∧ ∀ y x : Nat, (y : Int) < B.2.1 → (x : Int) < B.2.2 → 0 ≤ B.1 y x ∧ B.1 y x ≤ 10
def aWok (W : aWx) : Prop := -3 ≤ W.1 ∧ W.1 ≤ 3 ∧ 0 ≤ W.2.1 ∧ W.2.1 ≤ 3 ∧ 0 ≤ W.2.2 ∧ W.2.2 ≤ 10
/-- a runner's stick and where it began -/
def aFst (B : aBk) (F : aFn) (r : Nat) : Prop := 1 ≤ F r 0 ∧ F r 0 ≤ 5 ∧ 0 ≤ F r 1 ∧ F r 1 ≤ 9 ∧ 0 ≤ F r 2 ∧ F r 2 ≤ 9 ∧ 0 ≤ F r 3 ∧ F r 3 + F r 0 ≤ B.2.1
/-- a runner as it lies -/
def aFok (B : aBk) (F : aFn) (r : Nat) : Prop := aFst B F r ∧ 0 ≤ F r 5 ∧ F r 5 + F r 0 ≤ B.2.1 ∧ 0 ≤ F r 4 ∧ F r 4 ≤ B.2.2 ∧ (F r 7 = -1 → F r 4 < B.2.2) ∧ 0 ≤ F r 6 ∧ (F r 7 = -1 → F r 6 ≤ 3) ∧ (F r 7 = -1 ↔ F r 8 = -1) ∧ -1 ≤ F r 7 ∧ F r 7 ≤ 60 ∧ -1 ≤ F r 8 ∧ F r 8 ≤ 5
/-- how many are not out -/
def aIn (F : aFn) : Nat → Int
  | 0 => 0
  | n + 1 => aIn F n + if F n 7 = -1 then 1 else 0
def aDok (B : aBk) (n : Nat) (D : aD) : Prop := (∀ r, r < n → aFok B D.1 r) ∧ 0 ≤ D.2.1 ∧ D.2.1 + aIn D.1 n = n
