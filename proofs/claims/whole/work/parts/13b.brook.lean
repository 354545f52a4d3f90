/-! the rules of the throw and of the law's call of brook -/
theorem zw_throw {d : Nat} {K : zK} {ls : List Value} {σ : zS} {Q : Option Value → zS → Prop} (hd : decode (zKcode K) 17 = .ok (.new 161, 3)) (hci : zKci K = 11) : zW d K 17 ls [] σ Q ↔ Q (some zThr) σ := zW_ret hd rfl (by
  show (match zcls (zKci K) 161 with | some tc => _ | none => if zKci K = 11 ∧ (161 : Nat) = 161 ∧ (17 : Nat) = 17 then _ else _) = _
  rw [hci]
  show (if (11 : Nat) = 11 ∧ (161 : Nat) = 161 ∧ (17 : Nat) = 17 then _ else _) = _
  rw [if_pos ⟨rfl, rfl, rfl⟩])
theorem zw_brook {d k0 a o pc : Nat} {K : zK} {p0 p1 : Int32} {ls rest : List Value} {σ : zS} {Q : Option Value → zS → Prop} (hd : decode (zKcode K) pc = .ok (.invokestatic k0, 3)) (hres : zres (zKci K) k0 = some kL_brook) (hK : zKkind K = 9) (hka : zkind σ a = 11) (han : a < znum σ) (hon : o < znum σ) (hm : zcat rest ≤ 8)
    (h : zCall (d + 6) kX11_brook [.ref a, .int p0, .int p1] σ (fun r σ' => (∃ v : Int32, r = some (.int v) ∧ zkind σ' o = 19 ∧ 0 < zlen σ' o ∧ zW (d + 8) K (pc + 3) ls (.int 0 :: rest) (zsL σ' o (vp_updL (zL σ' o) 0 v.toInt64)) Q) ∨ (r = some zThr ∧ zW (d + 8) K (pc + 3) ls (.int 1 :: rest) (zbump σ' 1 6) Q))) :
    zW (d + 8) K pc ls (.ref o :: .int p1 :: .int p0 :: .ref a :: rest) σ Q := by
  have hs : zstep K (.invokestatic k0) 3 (d + 7 + 1) pc ls (.ref o :: .int p1 :: .int p0 :: .ref a :: rest) σ = some (.inr (.inr (kL_brook, [.ref a, .int p0, .int p1, .ref o], rest))) := by
    show (match zres (zKci K) k0 with | some K' => zinvS K' (d + 7 + 1) pc ls (.ref o :: .int p1 :: .int p0 :: .ref a :: rest) σ | none => none) = _
    rw [hres]
    show zinvS kL_brook (d + 7 + 1) pc ls (.ref o :: .int p1 :: .int p0 :: .ref a :: rest) σ = _
    unfold zinvS
    rw [if_pos (show zKkind kL_brook = 0 ∨ zKkind kL_brook = 8 from Or.inr rfl), if_pos (show zKn kL_brook ≤ (Value.ref o :: Value.int p1 :: Value.int p0 :: Value.ref a :: rest).length from Nat.le_add_left 4 rest.length)]
    show zcall kL_brook [.ref a, .int p0, .int p1, .ref o] rest = _
    unfold zcall
    exact if_pos ⟨by decide, by show 4 ≤ 5; decide, hm⟩
  have hk8 : zKkind kL_brook = 8 := rfl
  obtain ⟨f, r, σ1, hr, hq⟩ := h
  rcases hq with ⟨v, rfl, q1, q2, g, r2, σ2, h2, hq⟩ | ⟨rfl, g, r2, σ2, h2, hq⟩
  · refine ⟨max f g + 1, r2, σ2, ?_, hq⟩
    conv => lhs; unfold zrun
    simp only [hd, show ((3 == zilen (.invokestatic k0) || zilen (.invokestatic k0) == 0) = true) from rfl, if_pos, hs, hk8, zrun_le hr (Nat.le_max_left f g)]
    exact (if_pos ⟨hK, hka, han, q1, hon, q2⟩).trans (zrun_le h2 (Nat.le_max_right f g))
  · refine ⟨max f g + 1, r2, σ2, ?_, hq⟩
    conv => lhs; unfold zrun
    simp only [hd, show ((3 == zilen (.invokestatic k0) || zilen (.invokestatic k0) == 0) = true) from rfl, if_pos, hs, hk8, zrun_le hr (Nat.le_max_left f g)]
    exact (if_pos ⟨hK, hka, han⟩).trans (zrun_le h2 (Nat.le_max_right f g))
