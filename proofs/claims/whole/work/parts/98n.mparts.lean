/-! the model parts the pairs -/
section MPARTS
variable {d : Nat} {Q : Option Value → zS → Prop} {σ0 σ : zS} {nb ns : Nat} {m1 m2 : Int32}
theorem m_parts {T : tT} {x1 : Int32} {a b : Nat} (hl : zLay σ) (hT : mTr σ0 nb m1 σ T) (ha : a < nb) (hb : b < nb) (h6 : nb ≤ 6)
    (h : Q (some (.int (zb (pO (bt x1) (fun t _ => decide (tSn σ0 m1 a (T.2 t) ≠ tSn σ0 m1 b (T.2 t))) T.1 0 = true))) ) σ) :
    ∀ (mm t : Nat), T.1 - t = mm → t ≤ T.1 → pO (bt x1) (fun t _ => decide (tSn σ0 m1 a (T.2 t) ≠ tSn σ0 m1 b (T.2 t))) t 0 = false → zW (d + 1) kX12_parts 3 [.ref 131, .int x1, .int (nI a), .int (nI b), .int (nI t)] [] σ Q := by
  obtain ⟨t1, t2, t3, t4⟩ := hT
  intro mm
  induction mm with
  | zero =>
    intro t hm ht hp
    obtain rfl : t = T.1 := by omega
    rw [hp, zb_f (by decide)] at h
    exact (bX12_parts_3 hl).mpr (zle' (zto t2 (ai_n (by omega))) (ai_n (by omega)) (fun _ => h) (fun q => by omega))
  | succ mm ih =>
    intro t hm ht hp
    have next : (bt x1 t && decide (tSn σ0 m1 a (T.2 t) ≠ tSn σ0 m1 b (T.2 t))) = false → zW (d + 1) kX12_parts 3 [.ref 131, .int x1, .int (nI a), .int (nI b), .int (nI t + 1)] [] σ Q := fun c => by
      rw [nI_1]
      refine ih (t + 1) (by omega) (by omega) ?_
      show (_ || (bt x1 t && decide (tSn σ0 m1 a (T.2 t) ≠ tSn σ0 m1 b (T.2 t)))) = false
      rw [hp, c]
      rfl
    have ex : ∀ k, k < 6 → (6 * nI t + nI k : Int32) = nI (6 * t + k) := fun k hk => zint (by
      rw [zadd (zmul k6 (ai_n (show t < 2147483648 by omega)) (by omega) (by omega)) (ai_n (by omega)) (by omega) (by omega), ai_n (by omega)]
      omega)
    refine (bX12_parts_3 hl).mpr (zle' (zto t2 (ai_n (by omega))) (ai_n (by omega)) (fun q => by omega) (fun _ => m_has hl (by omega) ⟨rfl, (bX12_parts_18 hl).mpr (zt0 (fun c => ?_) (fun c => next ?_))⟩))
    · rw [ex a (by omega), ex b (by omega)]
      refine ⟨vp_in_nI (by omega) (by decide), vp_in_nI (by omega) (by decide), ?_⟩
      rw [nI_clamp (by omega), nI_clamp (by omega)]
      refine zeq' (t4 t (by omega) a ha) (t4 t (by omega) b hb) (fun q => next ?_) (fun q => ?_)
      · rw [decide_eq_false (fun z => z q), Bool.and_false]
      · have e : pO (bt x1) (fun t _ => decide (tSn σ0 m1 a (T.2 t) ≠ tSn σ0 m1 b (T.2 t))) T.1 0 = true := by
          have up : ∀ n, t < n → pO (bt x1) (fun t _ => decide (tSn σ0 m1 a (T.2 t) ≠ tSn σ0 m1 b (T.2 t))) n 0 = true := by
            intro n
            induction n with
            | zero => intro z; omega
            | succ n ih2 =>
              intro z
              show (_ || (bt x1 n && decide (tSn σ0 m1 a (T.2 n) ≠ tSn σ0 m1 b (T.2 n)))) = true
              by_cases e : t = n
              · rw [← e, c, decide_eq_true q, Bool.and_true, Bool.or_true]
              · rw [ih2 (by omega), Bool.true_or]
          exact up T.1 (by omega)
        rw [e, zb_t rfl] at h
        exact h
    · have cf : bt x1 t = false := by
        cases hb : bt x1 t
        · rfl
        · exact absurd hb c
      rw [cf, Bool.false_and]
theorem m_po_b {T : tT} {x1 : Int32} {a : Nat} (hl : zLay σ) (hT : mTr σ0 nb m1 σ T) (ha : a < nb) (h6 : nb ≤ 6) {acc : Nat} (hacc : acc < 1000)
    (h : zW (d + 2) kX12_partsOf 5 [.ref 131, .int x1, .int m1, .int (nI (acc + nsum (fun b => wT σ0 m1 T (bt x1) a b) a)), .int (nI (a + 1)), .int (nI a)] [] σ Q) :
    ∀ (mm b : Nat), a - b = mm → b ≤ a → zW (d + 2) kX12_partsOf 17 [.ref 131, .int x1, .int m1, .int (nI (acc + nsum (fun b => wT σ0 m1 T (bt x1) a b) b)), .int (nI a), .int (nI b)] [] σ Q := by
  intro mm
  induction mm with
  | zero =>
    intro b hm hb
    obtain rfl : b = a := by omega
    refine (bX12_partsOf_17 hl).mpr (zle' (ai_n (by omega)) (ai_n (by omega)) (fun _ => ?_) (fun q => by omega))
    rw [nI_1]
    exact h
  | succ mm ih =>
    intro b hm hb
    have i := ih (b + 1) (by omega) (by omega)
    have es : nsum (fun b => wT σ0 m1 T (bt x1) a b) (b + 1) = nsum (fun b => wT σ0 m1 T (bt x1) a b) b + wT σ0 m1 T (bt x1) a b := rfl
    rw [es] at i
    have w0 : wT σ0 m1 T (bt x1) a b = 0 → zW (d + 2) kX12_partsOf 17 [.ref 131, .int x1, .int m1, .int (nI (acc + nsum (fun b => wT σ0 m1 T (bt x1) a b) b) + 0), .int (nI a), .int (nI b + 1)] [] σ Q := fun e => by
      rw [e] at i
      rw [nI_1, Int32.add_zero]
      exact i
    refine (bX12_partsOf_17 hl).mpr (zle' (ai_n (by omega)) (ai_n (by omega)) (fun q => by omega) (fun _ => m_has hl (by omega) ⟨rfl, (bX12_partsOf_31 hl).mpr (zt0 (fun ca => m_has hl (by omega) ⟨rfl, (bX12_partsOf_40 hl).mpr (zt0 (fun cb => ?_) (fun cb => w0 ?_))⟩) (fun ca => w0 ?_))⟩))
    · refine (bX12_parts_0 hl).mpr (m_parts (d := d) hl hT ha (show b < nb by omega) h6 ⟨rfl, (bX12_partsOf_52 hl).mpr (zt0 (fun cp => ?_) (fun cp => w0 ?_))⟩ T.1 0 (by omega) (by omega) rfl)
      · have e : wT σ0 m1 T (bt x1) a b = 1 := by
          unfold wT
          rw [ca, cb, cp]
          rfl
        rw [e] at i
        rw [nI_1, nI_1]
        exact i
      · unfold wT
        exact if_neg (fun z => cp (by rw [Bool.and_eq_true] at z; exact z.2))
    · unfold wT
      exact if_neg (fun z => cb (by rw [Bool.and_eq_true, Bool.and_eq_true] at z; exact z.1.2))
    · unfold wT
      exact if_neg (fun z => ca (by rw [Bool.and_eq_true, Bool.and_eq_true] at z; exact z.1.1))
theorem wT_b {T : tT} {X : Nat → Bool} {a b : Nat} : wT σ0 m1 T X a b ≤ 1 := by
  unfold wT
  split <;> omega
theorem m_po_a {T : tT} {x1 : Int32} (hl : zLay σ) (e11 : zI σ 131 11 = nI nb) (hT : mTr σ0 nb m1 σ T) (h6 : nb ≤ 6)
    (h : Q (some (.int (nI (nsum (fun a => nsum (fun b => wT σ0 m1 T (bt x1) a b) a) nb)))) σ) :
    ∀ (mm a : Nat) (v5 : Value), nb - a = mm → a ≤ nb → v5.category = 1 → zW (d + 2) kX12_partsOf 5 [.ref 131, .int x1, .int m1, .int (nI (nsum (fun a => nsum (fun b => wT σ0 m1 T (bt x1) a b) a) a)), .int (nI a), v5] [] σ Q := by
  intro mm
  induction mm with
  | zero =>
    intro a v5 hm ha c5
    obtain rfl : a = nb := by omega
    exact (bX12_partsOf_5 hl c5).mpr (zle' (zto e11 (ai_n (by omega))) (ai_n (by omega)) (fun _ => h) (fun q => by omega))
  | succ mm ih =>
    intro a v5 hm ha c5
    have i := ih (a + 1) (.int (nI a)) (by omega) (by omega) (zcat_i _)
    have bd : ∀ n, n ≤ 6 → nsum (fun a => nsum (fun b => wT σ0 m1 T (bt x1) a b) a) n ≤ 6 * n := fun n hn => by
      induction n with
      | zero => exact Nat.zero_le _
      | succ n ih2 =>
        have b1 := ih2 (by omega)
        have b2 := nsum_b (f := fun b => wT σ0 m1 T (bt x1) n b) (M := 1) (fun k => wT_b) n
        show nsum (fun a => nsum (fun b => wT σ0 m1 T (bt x1) a b) a) n + nsum (fun b => wT σ0 m1 T (bt x1) n b) n ≤ 6 * (n + 1)
        omega
    have b := bd a (by omega)
    refine (bX12_partsOf_5 hl c5).mpr (zle' (zto e11 (ai_n (by omega))) (ai_n (by omega)) (fun q => by omega) (fun _ => ?_))
    exact m_po_b (d := d) (acc := nsum (fun a => nsum (fun b => wT σ0 m1 T (bt x1) a b) a) a) hl hT (show a < nb by omega) h6 (by omega) i a 0 (by omega) (by omega)
theorem m_partsOf {T : tT} {x1 : Int32} (hl : zLay σ) (e11 : zI σ 131 11 = nI nb) (hT : mTr σ0 nb m1 σ T) (h6 : nb ≤ 6) (hm : tSt nb m1)
    (h : Q (some (.int (nI (nT σ0 m1 T (bt x1))))) σ) : zCall (d + 2) kX12_partsOf [.ref 131, .int x1, .int m1] σ Q :=
  (bX12_partsOf_0 hl).mpr (m_po_a (d := d) hl e11 hT h6 (by rw [nT_m h6 hm]; exact h) nb 0 _ (by omega) (by omega) (zcat_r _))
end MPARTS
