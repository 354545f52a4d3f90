/-! how many bits: the few that are ever asked -/
def cnt (f : Nat → Bool) : Nat → Nat
  | 0 => 0
  | k + 1 => cnt f k + (if f k then 1 else 0)
theorem cnt_b {f : Nat → Bool} : ∀ n, cnt f n ≤ n
  | 0 => Nat.le_refl _
  | n + 1 => by
    have i := cnt_b (f := f) n
    show cnt f n + (if f n then 1 else 0) ≤ n + 1
    split <;> omega
theorem cnt_c {f g : Nat → Bool} : ∀ n, (∀ k, k < n → f k = g k) → cnt f n = cnt g n
  | 0, _ => rfl
  | n + 1, h => by
    show cnt f n + (if f n then 1 else 0) = cnt g n + (if g n then 1 else 0)
    rw [cnt_c n (fun k hk => h k (by omega)), h n (by omega)]
theorem pc_64 : ∀ m, m < 64 → pc (nI m) = nI (cnt (bt (nI m)) 6) := by decide +kernel
theorem b_63 : ∀ i, i < 32 → bt 63 i = decide (i < 6) := by decide +kernel
theorem bt_small {x : Int32} (h : ∀ k, k < 32 → bt x k = true → k < 6) : ∃ m, m < 64 ∧ x = nI m := by
  have e : x &&& 63 = x := b_ext (fun i hi => by
    rw [b_and, b_63 i hi]
    by_cases q : bt x i = true
    · rw [q, decide_eq_true (h i hi q)]; rfl
    · have q2 : bt x i = false := by
        cases hb : bt x i
        · rfl
        · exact absurd hb q
      rw [q2]; rfl)
  have hn : x.toBitVec.toNat ≤ 63 := by
    rw [← e, Int32.toBitVec_and, BitVec.toNat_and]
    exact Nat.and_le_right
  have et : x.toInt = (x.toBitVec.toNat : Int) := BitVec.toInt_eq_toNat_of_lt (by omega)
  exact ⟨x.toBitVec.toNat, by omega, zint (by rw [et, ai_n (by omega)])⟩
theorem pc_s {x : Int32} (h : ∀ k, k < 32 → bt x k = true → k < 6) : pc x = nI (cnt (bt x) 6) := by
  obtain ⟨m, hm, e⟩ := bt_small h
  rw [e]
  exact pc_64 m hm
