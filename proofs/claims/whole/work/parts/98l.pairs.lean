/-! pairs of brooks, and the trials that part them: purely -/
def qA (k : Nat) : Nat := if k < 5 then 0 else if k < 9 then 1 else if k < 12 then 2 else if k < 14 then 3 else 4
def qB (k : Nat) : Nat := if k < 5 then k + 1 else if k < 9 then k - 3 else if k < 12 then k - 6 else if k < 14 then k - 8 else k - 9
def qS (a : Nat) : Nat := if a = 0 then 0 else if a = 1 then 5 else if a = 2 then 9 else if a = 3 then 12 else if a = 4 then 14 else 15
theorem qS_k : ∀ a, a < 6 → ∀ b, b < 6 → a < b → qA (qS a + (b - a - 1)) = a ∧ qB (qS a + (b - a - 1)) = b ∧ qS a + (b - a - 1) < 15 := by decide +kernel
theorem qS_n : ∀ a, a < 6 → qS (a + 1) = qS a + (6 - a - 1) := by decide +kernel
theorem qAB : ∀ k, k < 15 → qA k < 6 ∧ qB k < 6 := by decide +kernel
/-- trial e parts the pair k -/
def eP (m1 : Int32) (sn : Nat → Int) (k : Nat) : Bool := (bt m1 (qA k) && bt m1 (qB k)) && decide (sn (qA k) ≠ sn (qB k))
def eI (m1 : Int32) (sn : Nat → Int) (x : Int32) (n : Nat) : Prop := ∀ k, k < 32 → (bt x k = true ↔ k < n ∧ eP m1 sn k = true)
theorem p_1bit15 : ∀ y, y < 16 → ∀ k, k < 32 → bt ((1 : Int32) <<< (nI y &&& 31)) k = decide (k = y) := by decide +kernel
theorem eI_0 {m1 : Int32} {sn : Nat → Int} : eI m1 sn 0 0 := fun k _ => by
  rw [b_0]
  exact ⟨fun q => absurd q (by decide), fun q => by omega⟩
theorem eI_n {m1 : Int32} {sn : Nat → Int} {x : Int32} {n : Nat} (h : eI m1 sn x n) (c : ¬ eP m1 sn n = true) : eI m1 sn x (n + 1) := fun k hk => by
  rw [h k hk]
  constructor
  · rintro ⟨a, b⟩
    exact ⟨by omega, b⟩
  · rintro ⟨a, b⟩
    refine ⟨?_, b⟩
    by_cases e : k = n
    · rw [e] at b; exact absurd b c
    · omega
theorem eI_y {m1 : Int32} {sn : Nat → Int} {x : Int32} {n : Nat} (hn : n < 16) (h : eI m1 sn x n) (c : eP m1 sn n = true) : eI m1 sn (x ||| ((1 : Int32) <<< (nI n &&& 31))) (n + 1) := fun k hk => by
  rw [b_or, p_1bit15 n hn k hk, Bool.or_eq_true, h k hk, decide_eq_true_iff]
  constructor
  · rintro (⟨a, b⟩ | e)
    · exact ⟨by omega, b⟩
    · rw [e]; exact ⟨by omega, c⟩
  · rintro ⟨a, b⟩
    by_cases e : k = n
    · exact Or.inr e
    · exact Or.inl ⟨by omega, b⟩
/-- some of the trials t < n that X holds has e t k -/
def pO (X : Nat → Bool) (e : Nat → Nat → Bool) : Nat → Nat → Bool
  | 0, _ => false
  | n + 1, k => pO X e n k || (X n && e n k)
theorem pO_c {X Y : Nat → Bool} {e e' : Nat → Nat → Bool} {k : Nat} : ∀ n, (∀ t, t < n → X t = Y t ∧ e t k = e' t k) → pO X e n k = pO Y e' n k
  | 0, _ => rfl
  | n + 1, h => by
    show (pO X e n k || (X n && e n k)) = (pO Y e' n k || (Y n && e' n k))
    rw [pO_c n (fun t ht => h t (by omega)), (h n (by omega)).1, (h n (by omega)).2]
theorem pO_and {X : Nat → Bool} {c : Nat → Bool} {e : Nat → Nat → Bool} {k : Nat} : ∀ n, pO X (fun t k => c k && e t k) n k = (c k && pO X e n k)
  | 0 => by
    show false = (c k && false)
    cases c k <;> rfl
  | n + 1 => by
    show (pO X (fun t k => c k && e t k) n k || (X n && (c k && e n k))) = (c k && (pO X e n k || (X n && e n k)))
    rw [pO_and n]
    cases c k <;> cases X n <;> cases e n k <;> cases pO X e n k <;> rfl
theorem pO_no {X : Nat → Bool} {e : Nat → Nat → Bool} {k : Nat} : ∀ n, (∀ t, t < n → X t = false) → pO X e n k = false
  | 0, _ => rfl
  | n + 1, h => by
    show (pO X e n k || (X n && e n k)) = false
    rw [pO_no n (fun t ht => h t (by omega)), h n (by omega)]
    rfl
theorem pO_one {X : Nat → Bool} {e : Nat → Nat → Bool} {k i : Nat} (hX : ∀ t, t < 32 → X t = decide (t = i)) : ∀ n, n ≤ 32 → i < n → pO X e n k = e i k
  | 0, _, h => absurd h (Nat.not_lt_zero i)
  | n + 1, hn, h => by
    show (pO X e n k || (X n && e n k)) = e i k
    by_cases q : n = i
    · rw [pO_no n (fun t ht => by rw [hX t (by omega)]; exact decide_eq_false (by omega)), hX n (by omega), decide_eq_true q, q]
      cases e i k <;> rfl
    · rw [pO_one hX n (by omega) (by omega), hX n (by omega), decide_eq_false q]
      cases e i k <;> rfl
theorem pO_le {X Y : Nat → Bool} {e : Nat → Nat → Bool} {k : Nat} : ∀ n, (∀ t, t < n → X t = true → Y t = true) → pO X e n k = true → pO Y e n k = true
  | 0, _, h => h
  | n + 1, h, q => by
    have q2 : (pO X e n k || (X n && e n k)) = true := q
    show (pO Y e n k || (Y n && e n k)) = true
    rw [Bool.or_eq_true] at q2 ⊢
    rcases q2 with q2 | q2
    · exact Or.inl (pO_le n (fun t ht => h t (by omega)) q2)
    · rw [Bool.and_eq_true] at q2 ⊢
      exact Or.inr ⟨h n (by omega) q2.1, q2.2⟩
theorem cnt_le {f g : Nat → Bool} : ∀ n, (∀ k, k < n → f k = true → g k = true) → cnt f n ≤ cnt g n
  | 0, _ => Nat.le_refl _
  | n + 1, h => by
    have i := cnt_le n (fun k hk => h k (by omega))
    have hn := h n (by omega)
    show cnt f n + (if f n then 1 else 0) ≤ cnt g n + (if g n then 1 else 0)
    revert hn
    cases f n <;> cases g n <;> simp <;> omega
theorem cnt_eq {f g : Nat → Bool} : ∀ n, (∀ k, k < n → f k = true → g k = true) → cnt f n = cnt g n → ∀ k, k < n → f k = g k
  | 0, _, _, k, hk => absurd hk (Nat.not_lt_zero k)
  | n + 1, h, e, k, hk => by
    have i := cnt_le n (fun k hk => h k (by omega))
    have hn := h n (by omega)
    have e2 : cnt f n + (if f n then 1 else 0) = cnt g n + (if g n then 1 else 0) := e
    have e3 : f n = g n ∧ cnt f n = cnt g n := by
      revert hn e2
      cases f n <;> cases g n <;> simp <;> omega
    by_cases q : k = n
    · rw [q]; exact e3.1
    · exact cnt_eq n (fun k hk => h k (by omega)) e3.2 k (by omega)
/-- what the pairs a > b come to, both ways -/
theorem pair_sum {w : Nat → Nat → Nat} (hs : ∀ a b, w a b = w b a) : nsum (fun a => nsum (fun b => w a b) a) 6 = nsum (fun k => w (qA k) (qB k)) 15 := by
  have q : (∀ k, k < 15 → qA k < 6) := fun k hk => (qAB k hk).1
  show (0 + nsum (fun b => w 0 b) 0 + nsum (fun b => w 1 b) 1 + nsum (fun b => w 2 b) 2 + nsum (fun b => w 3 b) 3 + nsum (fun b => w 4 b) 4 + nsum (fun b => w 5 b) 5) = 0 + w 0 1 + w 0 2 + w 0 3 + w 0 4 + w 0 5 + w 1 2 + w 1 3 + w 1 4 + w 1 5 + w 2 3 + w 2 4 + w 2 5 + w 3 4 + w 3 5 + w 4 5
  show 0 + 0 + (0 + w 1 0) + (0 + w 2 0 + w 2 1) + (0 + w 3 0 + w 3 1 + w 3 2) + (0 + w 4 0 + w 4 1 + w 4 2 + w 4 3) + (0 + w 5 0 + w 5 1 + w 5 2 + w 5 3 + w 5 4) = _
  rw [hs 1 0, hs 2 0, hs 2 1, hs 3 0, hs 3 1, hs 3 2, hs 4 0, hs 4 1, hs 4 2, hs 4 3, hs 5 0, hs 5 1, hs 5 2, hs 5 3, hs 5 4]
  omega
theorem bt_lta : ∀ n, n < 7 → ∀ m, m < 64 → m < 2 ^ n → ∀ k, k < 32 → bt (nI m) k = true → k < n := by decide +kernel
theorem pw_a : ∀ n, n < 13 → ((1 : Int32) <<< (nI n &&& 31)) = nI (2 ^ n) := by decide +kernel
theorem tSt_b {nb : Nat} {m1 : Int32} (h6 : nb ≤ 6) (h : tSt nb m1) : ∀ k, k < 32 → bt m1 k = true → k < nb := by
  have p := pow_b nb (by omega)
  have p6 : 2 ^ nb ≤ 2 ^ 6 := Nat.pow_le_pow_right (by decide) h6
  obtain ⟨h1, h2⟩ := h
  rw [pw_a nb (by omega), ai_n (by omega)] at h2
  obtain ⟨m, hm, rfl, em⟩ := ai_nx (x := m1) (by omega)
  exact bt_lta nb (by omega) m (by have : (2 : Nat) ^ 6 = 64 := by decide
                                   omega) (by omega)
/-- the pairs that some of X part -/
noncomputable def eT (σ : zS) (m1 : Int32) (T : tT) (t k : Nat) : Bool := eP m1 (fun b => tSn σ m1 b (T.2 t)) k
noncomputable def wT (σ : zS) (m1 : Int32) (T : tT) (X : Nat → Bool) (a b : Nat) : Nat := if ((bt m1 a && bt m1 b) && pO X (fun t _ => decide (tSn σ m1 a (T.2 t) ≠ tSn σ m1 b (T.2 t))) T.1 0) = true then 1 else 0
noncomputable def nT (σ : zS) (m1 : Int32) (T : tT) (X : Nat → Bool) : Nat := cnt (pO X (eT σ m1 T) T.1) 15
theorem wT_s {σ : zS} {m1 : Int32} {T : tT} {X : Nat → Bool} (a b : Nat) : wT σ m1 T X a b = wT σ m1 T X b a := by
  unfold wT
  rw [Bool.and_comm (bt m1 a) (bt m1 b)]
  have e : (fun (t : Nat) (_ : Nat) => decide (tSn σ m1 a (T.2 t) ≠ tSn σ m1 b (T.2 t))) = fun t _ => decide (tSn σ m1 b (T.2 t) ≠ tSn σ m1 a (T.2 t)) := by
    funext t _
    exact decide_eq_decide.mpr ⟨fun h q => h q.symm, fun h q => h q.symm⟩
  rw [e]
theorem nT_m {σ : zS} {m1 : Int32} {T : tT} {X : Nat → Bool} {nb : Nat} (h6 : nb ≤ 6) (h : tSt nb m1) : nsum (fun a => nsum (fun b => wT σ m1 T X a b) a) nb = nT σ m1 T X := by
  have e1 := nsum_cut (f := fun a => nsum (fun b => wT σ m1 T X a b) a) (m := nb) 6 h6 (fun a h1 h2 => nsum_0 a (fun b _ => by
    unfold wT
    refine if_neg (fun q => ?_)
    rw [Bool.and_eq_true, Bool.and_eq_true] at q
    have := tSt_b h6 h a (by omega) q.1.1
    omega))
  rw [← e1, pair_sum wT_s]
  unfold nT
  refine (cnt_n 15 (fun k hk => ?_)).symm
  unfold wT
  have e2 : pO X (eT σ m1 T) T.1 k = ((bt m1 (qA k) && bt m1 (qB k)) && pO X (fun t _ => decide (tSn σ m1 (qA k) (T.2 t) ≠ tSn σ m1 (qB k) (T.2 t))) T.1 0) := by
    have e3 := pO_and (X := X) (c := fun k => bt m1 (qA k) && bt m1 (qB k)) (e := fun t k => decide (tSn σ m1 (qA k) (T.2 t) ≠ tSn σ m1 (qB k) (T.2 t))) (k := k) T.1
    refine Eq.trans ?_ (e3.trans ?_)
    · exact pO_c T.1 (fun t _ => ⟨rfl, rfl⟩)
    · have e4 : ∀ n, pO X (fun t k => decide (tSn σ m1 (qA k) (T.2 t) ≠ tSn σ m1 (qB k) (T.2 t))) n k = pO X (fun t _ => decide (tSn σ m1 (qA k) (T.2 t) ≠ tSn σ m1 (qB k) (T.2 t))) n 0 := by
        intro n
        induction n with
        | zero => rfl
        | succ n ih =>
          show (_ || _) = (_ || _)
          rw [ih]
      rw [e4]
  rw [e2]
theorem nT_b {σ : zS} {m1 : Int32} {T : tT} {X : Nat → Bool} : nT σ m1 T X ≤ 15 := cnt_b 15
