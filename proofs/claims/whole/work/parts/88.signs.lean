/-! the signs of a brook counted, both ways -/
def nsum (f : Nat → Nat) : Nat → Nat
  | 0 => 0
  | k + 1 => nsum f k + f k
theorem nsum_c {f g : Nat → Nat} : ∀ n, (∀ k, k < n → f k = g k) → nsum f n = nsum g n
  | 0, _ => rfl
  | n + 1, h => by
    show nsum f n + f n = nsum g n + g n
    rw [nsum_c n (fun k hk => h k (by omega)), h n (by omega)]
theorem nsum_0 {f : Nat → Nat} : ∀ n, (∀ k, k < n → f k = 0) → nsum f n = 0
  | 0, _ => rfl
  | n + 1, h => by
    show nsum f n + f n = 0
    rw [nsum_0 n (fun k hk => h k (by omega)), h n (by omega)]
theorem nsum_add {f g : Nat → Nat} : ∀ n, nsum (fun k => f k + g k) n = nsum f n + nsum g n
  | 0 => rfl
  | n + 1 => by
    show nsum (fun k => f k + g k) n + (f n + g n) = (nsum f n + f n) + (nsum g n + g n)
    rw [nsum_add n]
    omega
theorem nsum_swap {f : Nat → Nat → Nat} {m : Nat} : ∀ n, nsum (fun x => nsum (fun y => f y x) m) n = nsum (fun y => nsum (fun x => f y x) n) m
  | 0 => (nsum_0 m (fun _ _ => rfl)).symm
  | n + 1 => by
    show nsum (fun x => nsum (fun y => f y x) m) n + nsum (fun y => f y n) m = nsum (fun y => nsum (fun x => f y x) n + f y n) m
    rw [nsum_swap n, nsum_add]
theorem nsum_cut {f : Nat → Nat} {m : Nat} : ∀ n, m ≤ n → (∀ k, m ≤ k → k < n → f k = 0) → nsum f n = nsum f m
  | 0, h, _ => by
    obtain rfl : m = 0 := by omega
    rfl
  | n + 1, h, h2 => by
    by_cases e : m = n + 1
    · rw [e]
    · show nsum f n + f n = nsum f m
      rw [nsum_cut n (by omega) (fun k a b => h2 k a (by omega)), h2 n (by omega) (by omega)]
      rfl
theorem nsum_b {f : Nat → Nat} {M : Nat} (h : ∀ k, f k ≤ M) : ∀ n, nsum f n ≤ M * n
  | 0 => Nat.zero_le _
  | n + 1 => by
    have i := nsum_b h n
    have hn := h n
    show nsum f n + f n ≤ M * (n + 1)
    rw [Nat.mul_succ]
    omega
def cc (B : aBk) (v : Int) (y x : Nat) : Nat := if (y : Int) < B.2.1 ∧ (x : Int) < B.2.2 ∧ B.1 y x = v then 1 else 0
theorem cc_b {B : aBk} {v : Int} {y x : Nat} : cc B v y x ≤ 1 := by unfold cc; split <;> omega
def sgn (B : aBk) (v : Int) : Nat := nsum (fun x => nsum (fun y => cc B v y x) 6) 16
theorem cnt_n {f : Nat → Bool} {g : Nat → Nat} : ∀ n, (∀ k, k < n → g k = if f k = true then 1 else 0) → cnt f n = nsum g n
  | 0, _ => rfl
  | n + 1, h => by
    show cnt f n + (if f n = true then 1 else 0) = nsum g n + g n
    rw [cnt_n n (fun k hk => h k (by omega)), h n (by omega)]
theorem sgn_m {B : aBk} {v : Int} {L W : Nat} (hL : B.2.1 = (L : Int)) (hW : B.2.2 = (W : Int)) (h6 : L ≤ 6) (h16 : W ≤ 16) : nsum (fun y => nsum (fun x => cc B v y x) W) L = sgn B v := by
  unfold sgn
  rw [nsum_swap]
  exact ((nsum_cut (m := W) 16 h16 (fun x a b => nsum_0 6 (fun y _ => by unfold cc; exact if_neg (by omega)))).trans (nsum_c W (fun x hx => nsum_cut (m := L) 6 h6 (fun y a b => by unfold cc; exact if_neg (by omega))))).symm
section SIGNS
variable {d : Nat} {Q : Option Value → zS → Prop} {σ : zS}
theorem pc_m {m : Int32} {B : aBk} {v : Int} {x : Nat} (h6 : B.2.1 ≤ 6) (hm : ∀ k, k < 32 → (bt m k = true ↔ (k : Int) < B.2.1 ∧ (x : Int) < B.2.2 ∧ B.1 k x = v)) : pc m = nI (nsum (fun y => cc B v y x) 6) := by
  rw [pc_s (fun k hk q => by have := ((hm k hk).mp q).1; omega)]
  refine congrArg nI (cnt_n 6 (fun k hk => ?_))
  unfold cc
  by_cases q : bt m k = true
  · rw [if_pos q, if_pos ((hm k (by omega)).mp q)]
  · rw [if_neg q, if_neg (fun z => q ((hm k (by omega)).mpr z))]
theorem p_stones_l {b : Nat} {B : aBk} (hl : zLay σ) (g : pBk σ b B) (hB : aBok B) (h : Q (some (.int (nI (sgn B 0)))) σ) :
    ∀ (mm x : Nat), 16 - x = mm → x ≤ 16 → zW (d + 1) kX0_stonesInAll 4 [.ref b, .int (nI (nsum (fun x => nsum (fun y => cc B 0 y x) 6) x)), .int (nI x)] [] σ Q := by
  have k16 : (16 : Int32).toInt = 16 := rfl
  intro mm
  induction mm with
  | zero =>
    intro x hm hx
    have e : x = 16 := by omega
    subst e
    exact (bX0_stonesInAll_4 hl g.1).mpr (zle' k16 (ai_n (by omega)) (fun _ => h) (fun q => by omega))
  | succ mm ih =>
    intro x hm hx
    refine (bX0_stonesInAll_4 hl g.1).mpr (zle' k16 (ai_n (by omega)) (fun q => by omega) (fun _ => ⟨vp_in_nI (by omega) (by decide), ?_⟩))
    rw [nI_clamp (by omega)]
    refine c_bc hl ⟨rfl, (bX0_stonesInAll_20 hl g.1).mpr ?_⟩
    rw [pc_m hB.2.1 (fun k hk => g.2.2.2.2.1 x k (by omega) hk), nI_add, nI_1]
    exact ih (x + 1) (by omega) (by omega)
theorem p_eddies_l {b : Nat} {B : aBk} (hl : zLay σ) (g : pBk σ b B) (hB : aBok B) (h : Q (some (.int (nI (sgn B 10)))) σ) :
    ∀ (mm x : Nat), 16 - x = mm → x ≤ 16 → zW (d + 1) kX0_eddiesInAll 4 [.ref b, .int (nI (nsum (fun x => nsum (fun y => cc B 10 y x) 6) x)), .int (nI x)] [] σ Q := by
  have k16 : (16 : Int32).toInt = 16 := rfl
  intro mm
  induction mm with
  | zero =>
    intro x hm hx
    have e : x = 16 := by omega
    subst e
    exact (bX0_eddiesInAll_4 hl g.1).mpr (zle' k16 (ai_n (by omega)) (fun _ => h) (fun q => by omega))
  | succ mm ih =>
    intro x hm hx
    refine (bX0_eddiesInAll_4 hl g.1).mpr (zle' k16 (ai_n (by omega)) (fun q => by omega) (fun _ => ⟨vp_in_nI (by omega) (by decide), ?_⟩))
    rw [nI_clamp (by omega)]
    refine c_bc hl ⟨rfl, (bX0_eddiesInAll_20 hl g.1).mpr ?_⟩
    rw [pc_m hB.2.1 (fun k hk => g.2.2.2.2.2 x k (by omega) hk), nI_add, nI_1]
    exact ih (x + 1) (by omega) (by omega)
theorem m_signs_x {b L W y : Nat} {B : aBk} {v : Int32} (hl : zLay σ) (hb : b < 7) (eB : mB σ b = B) (hB : aBok B) (hL : B.2.1 = (L : Int)) (hW : B.2.2 = (W : Int)) (hy : y < L) {c : Nat} (hc : c < 1000)
    (h : zW (d + 1) kX12_signsOf 5 [.ref 131, .int (nI b), .int v, .int (nI (c + nsum (fun x => cc B v.toInt y x) W)), .int (nI (y + 1)), .int (nI W)] [] σ Q) :
    ∀ (mm x : Nat), W - x = mm → x ≤ W → zW (d + 1) kX12_signsOf 19 [.ref 131, .int (nI b), .int v, .int (nI (c + nsum (fun x => cc B v.toInt y x) x)), .int (nI y), .int (nI x)] [] σ Q := by
  have cl : (nI b).toNatClampNeg = b := nI_clamp (by omega)
  have hW16 : W ≤ 16 := by have := hB.2.2.2.1; omega
  have hL6 : L ≤ 6 := by have := hB.2.1; omega
  have eW : (zI σ 135 b).toInt = (W : Int) := by rw [← hW, ← eB]; rfl
  intro mm
  induction mm with
  | zero =>
    intro x hm hx
    have e : x = W := by omega
    subst e
    refine (bX12_signsOf_19 hl).mpr ⟨vp_in_nI (by omega) (by decide), ?_⟩
    rw [cl, nI_1]
    exact zle' eW (ai_n (by omega)) (fun _ => h) (fun q => by omega)
  | succ mm ih =>
    intro x hm hx
    have ey : (nI y).toInt = (y : Int) := ai_n (by omega)
    have ex : (nI x).toInt = (x : Int) := ai_n (by omega)
    refine (bX12_signsOf_19 hl).mpr ⟨vp_in_nI (by omega) (by decide), ?_⟩
    rw [cl]
    refine zle' eW (ai_n (by omega)) (fun q => by omega) (fun _ => m_sign hl hb (by omega) (by omega) (fun w hw => ⟨rfl, (bX12_signsOf_40 hl).mpr ?_⟩))
    rw [eB, ey, ex] at hw
    have hw2 : w.toInt = B.1 y x := hw
    refine zeq' hw2 rfl (fun q => ?_) (fun q => ?_)
    · rw [nI_1, nI_1]
      have e : nsum (fun x => cc B v.toInt y x) (x + 1) = nsum (fun x => cc B v.toInt y x) x + 1 := by
        show nsum (fun x => cc B v.toInt y x) x + cc B v.toInt y x = _
        unfold cc
        rw [if_pos ⟨by omega, by omega, q⟩]
      have z := ih (x + 1) (by omega) (by omega)
      rw [e, ← Nat.add_assoc] at z
      exact z
    · rw [nI_1, Int32.add_zero]
      have e : nsum (fun x => cc B v.toInt y x) (x + 1) = nsum (fun x => cc B v.toInt y x) x := by
        show nsum (fun x => cc B v.toInt y x) x + cc B v.toInt y x = _
        rw [show cc B v.toInt y x = 0 from if_neg (fun z => q z.2.2), Nat.add_zero]
      have z := ih (x + 1) (by omega) (by omega)
      rw [e] at z
      exact z
theorem m_signs {b L W : Nat} {B : aBk} {v : Int32} (hl : zLay σ) (hb : b < 7) (eB : mB σ b = B) (hB : aBok B) (hL : B.2.1 = (L : Int)) (hW : B.2.2 = (W : Int)) (h : Q (some (.int (nI (sgn B v.toInt)))) σ) : zCall (d + 1) kX12_signsOf [.ref 131, .int (nI b), .int v] σ Q := by
  have cl : (nI b).toNatClampNeg = b := nI_clamp (by omega)
  have hW16 : W ≤ 16 := by have := hB.2.2.2.1; omega
  have hL6 : L ≤ 6 := by have := hB.2.1; omega
  have eL : (zI σ 134 b).toInt = (L : Int) := by rw [← hL, ← eB]; rfl
  have bound : ∀ y, y ≤ L → nsum (fun y => nsum (fun x => cc B v.toInt y x) W) y < 1000 := fun y hy => by
    have z := nsum_b (f := fun y => nsum (fun x => cc B v.toInt y x) W) (M := 16) (fun y => by
      have := nsum_b (f := fun x => cc B v.toInt y x) (M := 1) (fun _ => cc_b) W
      omega) y
    omega
  have loop : ∀ (mm y : Nat) (w : Value), L - y = mm → y ≤ L → w.category = 1 → zW (d + 1) kX12_signsOf 5 [.ref 131, .int (nI b), .int v, .int (nI (nsum (fun y => nsum (fun x => cc B v.toInt y x) W) y)), .int (nI y), w] [] σ Q := by
    intro mm
    induction mm with
    | zero =>
      intro y w hm hy cw
      have e : y = L := by omega
      subst e
      refine (bX12_signsOf_5 hl cw).mpr ⟨vp_in_nI (by omega) (by decide), ?_⟩
      rw [cl]
      refine zle' eL (ai_n (by omega)) (fun _ => ?_) (fun q => by omega)
      rw [sgn_m hL hW hL6 hW16]
      exact h
    | succ mm ih =>
      intro y w hm hy cw
      refine (bX12_signsOf_5 hl cw).mpr ⟨vp_in_nI (by omega) (by decide), ?_⟩
      rw [cl]
      refine zle' eL (ai_n (by omega)) (fun q => by omega) (fun _ => ?_)
      exact m_signs_x hl hb eB hB hL hW (by omega) (bound y hy) (ih (y + 1) _ (by omega) (by omega) (zcat_i _)) W 0 (by omega) (by omega)
  exact (bX12_signsOf_0 hl).mpr (loop L 0 _ (by omega) (by omega) (zcat_r _))
end SIGNS
