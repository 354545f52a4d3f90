/-! the trials, told purely -/
abbrev tT := Nat × (Nat → Nat × Nat)
def tAdd (T : tT) (p : Nat × Nat) : tT := (T.1 + 1, fun t => if t = T.1 then p else T.2 t)
noncomputable def tIn (c : Nat → Nat → Prop) (s : Nat) (T : tT) : Nat → tT
  | 0 => T
  | y + 1 => zif (c s y) (tAdd (tIn c s T y) (s, y)) (tIn c s T y)
noncomputable def tOut (c : Nat → Nat → Prop) : Nat → tT
  | 0 => (0, fun _ => (0, 0))
  | s + 1 => tIn c s (tOut c s) 6
section TP
variable {c c' : Nat → Nat → Prop} {s : Nat} {T : tT}
theorem tIn_y {y : Nat} (h : c s y) : tIn c s T (y + 1) = tAdd (tIn c s T y) (s, y) := zif_t h
theorem tIn_n {y : Nat} (h : ¬ c s y) : tIn c s T (y + 1) = tIn c s T y := zif_f h
theorem tIn_no (h : ∀ y, ¬ c s y) : ∀ y, tIn c s T y = T
  | 0 => rfl
  | y + 1 => by rw [tIn_n (h y), tIn_no h y]
theorem tIn_c : ∀ n, (∀ y, y < n → c s y = c' s y) → tIn c s T n = tIn c' s T n
  | 0, _ => rfl
  | n + 1, h => by
    show zif (c s n) (tAdd (tIn c s T n) (s, n)) (tIn c s T n) = zif (c' s n) (tAdd (tIn c' s T n) (s, n)) (tIn c' s T n)
    rw [h n (by omega), tIn_c n (fun y hy => h y (by omega))]
theorem tOut_c : ∀ n, (∀ s, s < n → ∀ y, y < 6 → c s y = c' s y) → tOut c n = tOut c' n
  | 0, _ => rfl
  | n + 1, h => by
    show tIn c n (tOut c n) 6 = tIn c' n (tOut c' n) 6
    rw [tOut_c n (fun s hs => h s (by omega)), tIn_c 6 (h n (by omega))]
theorem tIn_1 {y : Nat} : (tIn c s T y).1 ≤ (tIn c s T (y + 1)).1 := by
  by_cases h : c s y
  · rw [tIn_y h]; exact Nat.le_succ _
  · rw [tIn_n h]; exact Nat.le_refl _
theorem tIn_m : ∀ k y, (tIn c s T y).1 ≤ (tIn c s T (y + k)).1
  | 0, _ => Nat.le_refl _
  | k + 1, y => Nat.le_trans (tIn_m k y) tIn_1
theorem tOut_m : ∀ k s, (tOut c s).1 ≤ (tOut c (s + k)).1
  | 0, _ => Nat.le_refl _
  | k + 1, s => Nat.le_trans (tOut_m k s) (by
    have := tIn_m (c := c) (s := s + k) (T := tOut c (s + k)) 6 0
    exact this)
theorem tMid {n y : Nat} (hs : s < n) (hy : y ≤ 6) : (tIn c s (tOut c s) y).1 ≤ (tOut c n).1 := by
  have a := tIn_m (c := c) (s := s) (T := tOut c s) (6 - y) y
  rw [show y + (6 - y) = 6 by omega] at a
  have b := tOut_m (c := c) (n - (s + 1)) (s + 1)
  rw [show s + 1 + (n - (s + 1)) = n by omega] at b
  exact Nat.le_trans a b
theorem tIn_ok {m : Nat} (hm : s < m) (h : ∀ t, t < T.1 → (T.2 t).1 < m ∧ (T.2 t).2 < 6 ∧ c (T.2 t).1 (T.2 t).2) : ∀ y, y ≤ 6 → ∀ t, t < (tIn c s T y).1 → ((tIn c s T y).2 t).1 < m ∧ ((tIn c s T y).2 t).2 < 6 ∧ c ((tIn c s T y).2 t).1 ((tIn c s T y).2 t).2
  | 0, _ => h
  | y + 1, hy => fun t ht => by
    have i := tIn_ok hm h y (by omega)
    by_cases q : c s y
    · rw [tIn_y q] at ht ⊢
      have ht2 : t < (tIn c s T y).1 + 1 := ht
      by_cases e : t = (tIn c s T y).1
      · have e2 : (tAdd (tIn c s T y) (s, y)).2 t = (s, y) := if_pos e
        rw [e2]
        exact ⟨hm, by show y < 6; omega, q⟩
      · have e2 : (tAdd (tIn c s T y) (s, y)).2 t = (tIn c s T y).2 t := if_neg e
        rw [e2]
        exact i t (by omega)
    · rw [tIn_n q] at ht ⊢
      exact i t ht
theorem tOut_ok : ∀ n t, t < (tOut c n).1 → ((tOut c n).2 t).1 < n ∧ ((tOut c n).2 t).2 < 6 ∧ c ((tOut c n).2 t).1 ((tOut c n).2 t).2
  | 0, t, h => absurd h (Nat.not_lt_zero t)
  | n + 1, t, h => tIn_ok (Nat.lt_succ_self n) (fun t ht => by
    have := tOut_ok n t ht
    exact ⟨by omega, this.2⟩) 6 (Nat.le_refl _) t h
end TP
/-- a stick can begin there on all of these brooks -/
def tOn (σ : zS) (nb : Nat) (m1 : Int32) (s y : Nat) : Prop := ∀ b, b < nb → bt m1 b = true → tOk σ b s y
def tC (σ : zS) (nb : Nat) (m1 m2 : Int32) (s y : Nat) : Prop := bt m2 s = true ∧ tOn σ nb m1 s y
noncomputable def tSn (σ : zS) (m1 : Int32) (b : Nat) (p : Nat × Nat) : Int := zif (bt m1 b = true) (aAl (mB σ b) (mW σ) (mG σ p.1 p.2) 0) (-1)
section TCC
variable {σ0 σ : zS} {nb ns : Nat} {m1 m2 : Int32}
theorem tOn_c (f : zFr iSafe σ0 σ) (h6 : nb ≤ 6) {s y : Nat} (hs : s < 10) : tOn σ nb m1 s y = tOn σ0 nb m1 s y :=
  propext ⟨fun h b hb q => by rw [← tOk_c f (by omega) hs]; exact h b hb q, fun h b hb q => by rw [tOk_c f (by omega) hs]; exact h b hb q⟩
theorem tC_c (f : zFr iSafe σ0 σ) (h6 : nb ≤ 6) {s y : Nat} (hs : s < 10) : tC σ nb m1 m2 s y = tC σ0 nb m1 m2 s y := by unfold tC; rw [tOn_c f h6 hs]
theorem tTr_c (f : zFr iSafe σ0 σ) (h6 : nb ≤ 6) (h10 : ns ≤ 10) : tOut (tC σ nb m1 m2) ns = tOut (tC σ0 nb m1 m2) ns := tOut_c ns (fun s hs y _ => tC_c f h6 (by omega))
theorem tSn_c (f : zFr iSafe σ0 σ) {b : Nat} {p : Nat × Nat} (hb : b < 6) (hp : p.1 < 10) : tSn σ m1 b p = tSn σ0 m1 b p := by
  unfold tSn
  rw [iS_mB f hb, iS_mW f, iS_mG f hp]
end TCC
