/-! the invariant where the law begins -/
section BEGIN
variable {L : Nat} {xs : Nat → Int32}
theorem zscr_I {σ : zS} {c : Nat} (h0 : c ≠ 0) : zI (zscr σ L xs) c = zI σ c := if_neg h0
theorem zscr_R {σ : zS} {c : Nat} : zR (zscr σ L xs) c = zR σ c := rfl
theorem zscr_lay {σ : zS} (h : zLay σ) : zLay (zscr σ L xs) := by
  obtain ⟨⟨q, e⟩, h⟩ := h
  refine ⟨⟨(99, L), ?_⟩, fun c k v hv => by rw [zscr_R]; exact h c k v hv⟩
  show (99, L) :: σ.1.tail = _
  rw [e]
  rfl
theorem zs_I {c k : Nat} (h0 : c ≠ 0) (hc : c < 165) (hk : k < 60) (h1 : zk c < 13) (h2 : k < zl c) : zI (zscr z1 L xs) c k = zint0 (zk c) k := by
  rw [zscr_I h0]
  exact z1_I hc hk h1 h2
theorem zs_R {c k v : Nat} (hc : c < 165) (hk : k < 60) (h : zref0 c k = some v) : zR (zscr z1 L xs) c k = some v := by
  rw [zscr_R]
  exact z1_R hc hk h
theorem zs_lay : zLay (zscr z1 L xs) := zscr_lay z1_lay
theorem inv0 : iA (zscr z1 L xs) 0 0 := by
  have m : ∀ k, k < 60 → k < zl 131 → zI (zscr z1 L xs) 131 k = zint0 (zk 131) k := fun k a b => zs_I (by decide) (by decide) a (by decide +kernel) b
  refine ⟨zs_lay, ⟨0, by omega, ?_, ?_, fun i hi => absurd hi (by omega)⟩, ⟨?_, ?_, ?_, ?_⟩, ?_, ⟨by omega, ?_, ?_, fun b hb => absurd hb (by omega)⟩, ⟨by omega, ?_, ?_, fun b hb => absurd hb (by omega)⟩, ⟨0, by omega, ?_, ?_, fun i hi => absurd hi (by omega)⟩, ⟨0, by omega, ?_, ?_, Or.inl ⟨?_, rfl, ?_, ?_, ?_, ?_, ?_⟩⟩, Or.inl ⟨?_, ?_⟩, fun r hr => ?_⟩
  · rw [zs_I (by decide) (by decide) (by decide) (by decide +kernel) (by decide +kernel)]; decide +kernel
  · rw [m 2 (by decide) (by decide +kernel)]; decide +kernel
  · unfold aWok mW
    rw [m 13 (by decide) (by decide +kernel), m 14 (by decide) (by decide +kernel), m 15 (by decide) (by decide +kernel)]
    decide +kernel
  · rw [m 13 (by decide) (by decide +kernel), zs_I (by decide) (by decide) (by decide) (by decide +kernel) (by decide +kernel)]; decide +kernel
  · rw [m 14 (by decide) (by decide +kernel), zs_I (by decide) (by decide) (by decide) (by decide +kernel) (by decide +kernel)]; decide +kernel
  · rw [m 15 (by decide) (by decide +kernel), zs_I (by decide) (by decide) (by decide) (by decide +kernel) (by decide +kernel)]; decide +kernel
  · rw [m 43 (by decide) (by decide +kernel)]; decide +kernel
  · rw [zs_I (by decide) (by decide) (by decide) (by decide +kernel) (by decide +kernel)]; decide +kernel
  · rw [m 11 (by decide) (by decide +kernel)]; decide +kernel
  · rw [zs_I (by decide) (by decide) (by decide) (by decide +kernel) (by decide +kernel)]; decide +kernel
  · rw [m 12 (by decide) (by decide +kernel)]; decide +kernel
  · rw [zs_I (by decide) (by decide) (by decide) (by decide +kernel) (by decide +kernel)]; decide +kernel
  · rw [m 54 (by decide) (by decide +kernel)]; decide +kernel
  · rw [m 20 (by decide) (by decide +kernel)]; decide +kernel
  · rw [zs_I (by decide) (by decide) (by decide) (by decide +kernel) (by decide +kernel)]; decide +kernel
  · rw [m 19 (by decide) (by decide +kernel)]; decide +kernel
  · rw [m 21 (by decide) (by decide +kernel)]; decide +kernel
  · rw [zs_I (by decide) (by decide) (by decide) (by decide +kernel) (by decide +kernel)]; decide +kernel
  · exact zs_R (by decide) (by decide) (by decide +kernel)
  · rw [zs_I (by decide) (by decide) (by decide) (by decide +kernel) (by decide +kernel)]; decide +kernel
  · rw [zs_I (by decide) (by decide) (by decide) (by decide +kernel) (by decide +kernel)]; decide +kernel
  · rw [m 34 (by decide) (by decide +kernel)]; decide +kernel
  · rw [zs_I (by decide) (by decide) (by decide) (by decide +kernel) (by decide +kernel)]; decide +kernel
  · rcases (by omega : r = 0 ∨ r = 1 ∨ r = 2 ∨ r = 3 ∨ r = 4 ∨ r = 5) with e | e | e | e | e | e <;> subst e <;>
      exact ⟨⟨_, zs_R (by decide) (by decide) rfl, by decide +kernel⟩, ⟨_, zs_R (by decide) (by decide) rfl, by decide +kernel⟩⟩
end BEGIN
