/-! a brook read from the tape: the pure reading, the class's -/
def sgb (b : Int) : Int := if 49 ≤ b ∧ b ≤ 57 then b - 48 else if b = 111 then 0 else if b = 64 then 10 else -1
theorem sgb_b {b : Int} : sgb b = -1 ∨ (0 ≤ sgb b ∧ sgb b ≤ 10 ∧ b = pCode (sgb b)) := by
  unfold sgb
  by_cases q : 49 ≤ b ∧ b ≤ 57
  · rw [if_pos q]
    refine Or.inr ⟨by omega, by omega, ?_⟩
    unfold pCode
    rw [if_neg (by omega), if_neg (by omega)]
    omega
  · rw [if_neg q]
    by_cases q2 : b = 111
    · rw [if_pos q2]; exact Or.inr ⟨by omega, by omega, q2⟩
    · rw [if_neg q2]
      by_cases q3 : b = 64
      · rw [if_pos q3]; exact Or.inr ⟨by omega, by omega, q3⟩
      · rw [if_neg q3]; exact Or.inl rfl
/-- fault (-1: none), lanes, cells, signs; m bytes are left from i on -/
def rb (t : Nat → Int) (len : Nat) : Nat → Nat → Nat → Nat → Nat → (Nat → Nat → Int) → Int × Nat × Nat × (Nat → Nat → Int)
  | 0, _, lane, x, W, C => (if lane + 1 < 2 ∨ x < W then (len : Int) else -1, lane + 1, W, C)
  | m + 1, i, lane, x, W, C =>
    if sgb (t i) ≠ -1 then (if (if lane = 0 then 16 else W) ≤ x then ((i : Int), lane + 1, W, C) else rb t len m (i + 1) lane (x + 1) W (rC C lane x (sgb (t i))))
    else if t i = 59 then (if 5 ≤ lane ∨ x < (if lane = 0 then 4 else W) then ((i : Int), lane + 1, W, C) else rb t len m (i + 1) (lane + 1) 0 x C)
    else if t i = 32 then rb t len m (i + 1) lane x W C else ((i : Int), lane + 1, W, C)
def rbD (lane x W : Nat) : Nat → Nat → Prop := fun y x' => (y < lane ∧ x' < W) ∨ (y = lane ∧ x' < x)
section RBROOK
variable {d : Nat} {Q : Option Value → zS → Prop}
theorem p_isCell {σ : zS} {x : Int32} (hl : zLay σ) (h : Q (some (.int (zb (sgb x.toInt ≠ -1)))) σ) : zCall d kX8_isCell [.int x] σ Q := by
  have k49 : (49 : Int32).toInt = 49 := rfl
  have k57 : (57 : Int32).toInt = 57 := rfl
  have k111 : (111 : Int32).toInt = 111 := rfl
  have k64 : (64 : Int32).toInt = 64 := rfl
  have p12 : ¬ (49 ≤ x.toInt ∧ x.toInt ≤ 57) → zW d kX8_isCell 12 [.int x] [] σ Q := fun q => by
    refine (bX8_isCell_12 hl).mpr (zeq' rfl k111 (fun q2 => ?_) (fun q2 => zeq' rfl k64 (fun q3 => ?_) (fun q3 => ?_)))
    · rwa [zb_t (by unfold sgb; rw [if_neg q, if_pos q2]; omega)] at h
    · rwa [zb_t (by unfold sgb; rw [if_neg q, if_neg q2, if_pos q3]; omega)] at h
    · rwa [zb_f (fun z => z (by unfold sgb; rw [if_neg q, if_neg q2, if_neg q3]))] at h
  refine (bX8_isCell_0 hl).mpr (zlt' rfl k49 (fun q => p12 (by omega)) (fun q => zle' rfl k57 (fun q2 => ?_) (fun q2 => p12 (by omega))))
  rwa [zb_t (by unfold sgb; rw [if_pos ⟨q, q2⟩]; omega)] at h
end RBROOK
