/-! a stick read from the tape: the pure reading; the class's leaves -/
abbrev isd (b : Int) : Prop := 48 ≤ b ∧ b ≤ 57
def ltr (b : Int) : Int := if b = 108 then 0 else if b = 104 then 1 else if b = 102 then 2 else -1
def tz (t : Nat → Int) (len i : Nat) : Int := if i < len then t i else 0
def dgs (t : Nat → Int) (len q : Nat) : Nat := if isd (tz t len q) then (if isd (tz t len (q + 1)) then (if isd (tz t len (q + 2)) then 3 else 2) else 1) else 0
def nmb (t : Nat → Int) (len q n : Nat) : Int := if n = 2 then 10 * (tz t len q - 48) + tz t len (q + 1) - 48 else tz t len q - 48
def gs (g : Int × Int × Int) (k v : Int) : Int × Int × Int := if k = 0 then (v, g.2.1, g.2.2) else if k = 1 then (g.1, v, g.2.2) else (g.1, g.2.1, v)
def loL (k : Int) : Int := if k = 0 then 1 else 0
def hiL (k : Int) : Int := if k = 0 then 5 else 9
def rT (T : Nat → Bool) (k : Nat) : Nat → Bool := fun j => if j = k then true else T j
def rs3 (t : Nat → Int) (len q n : Nat) (k : Int) (g : Int × Int × Int) (F : Nat → Int × Int × Int → Int × (Int × Int × Int)) : Int × (Int × Int × Int) :=
  if n = 0 then ((q : Int), g) else if 2 < n then ((q : Int) + 2, g) else if nmb t len q n < loL k ∨ hiL k < nmb t len q n then ((q : Int) + n - 1, g)
  else if len ≤ skp t len (q + n) then (-1, gs g k (nmb t len q n)) else if tz t len (skp t len (q + n)) = 44 then F (skp t len (q + n) + 1) (gs g k (nmb t len q n)) else ((skp t len (q + n) : Nat), gs g k (nmb t len q n))
def rs2 (t : Nat → Int) (len p : Nat) (T : Nat → Bool) (g : Int × Int × Int) (F : (Nat → Bool) → Nat → Int × Int × Int → Int × (Int × Int × Int)) : Int × (Int × Int × Int) :=
  if ltr (tz t len p) = -1 ∨ T (ltr (tz t len p)).toNat = true then ((p : Int), g)
  else rs3 t len (skp t len (p + 1)) (dgs t len (skp t len (p + 1))) (ltr (tz t len p)) g (F (rT T (ltr (tz t len p)).toNat))
/-- fault (-1: none), the stick; at most m items from i on, T: the letters that were -/
def rs (t : Nat → Int) (len : Nat) : Nat → Nat → (Nat → Bool) → Int × Int × Int → Int × (Int × Int × Int)
  | 0, i, _, g => ((i : Int), g)
  | m + 1, i, T, g => rs2 t len (skp t len i) T g (fun T' i' g' => rs t len m i' T' g')
theorem ltr_b (b : Int) : ltr b = -1 ∨ ((ltr b = 0 ∨ ltr b = 1 ∨ ltr b = 2) ∧ b ≠ 0) := by
  unfold ltr
  by_cases q : b = 108
  · rw [if_pos q]; exact Or.inr ⟨Or.inl rfl, by omega⟩
  · rw [if_neg q]
    by_cases q2 : b = 104
    · rw [if_pos q2]; exact Or.inr ⟨Or.inr (Or.inl rfl), by omega⟩
    · rw [if_neg q2]
      by_cases q3 : b = 102
      · rw [if_pos q3]; exact Or.inr ⟨Or.inr (Or.inr rfl), by omega⟩
      · rw [if_neg q3]; exact Or.inl rfl
theorem tz_lt {t : Nat → Int} {len i : Nat} (h : tz t len i ≠ 0) : i < len := by
  unfold tz at h
  by_cases q : i < len
  · exact q
  · rw [if_neg q] at h
    exact absurd rfl h
theorem tz_e {t : Nat → Int} {len i : Nat} (h : i < len) : tz t len i = t i := if_pos h
theorem isd_lt {t : Nat → Int} {len i : Nat} (h : isd (tz t len i)) : i < len := tz_lt (fun z => by have := h.1; rw [z] at this; exact absurd this (by decide))
/-- the digits: how many there are, and where they lie -/
theorem dgs_b {t : Nat → Int} {len q : Nat} (h : q ≤ len) : q + dgs t len q ≤ len ∧ dgs t len q ≤ 3 ∧ (1 ≤ dgs t len q → isd (tz t len q)) ∧ (2 ≤ dgs t len q → isd (tz t len (q + 1))) := by
  unfold dgs
  by_cases a : isd (tz t len q)
  · rw [if_pos a]
    have a2 := isd_lt a
    by_cases b : isd (tz t len (q + 1))
    · rw [if_pos b]
      have b2 := isd_lt b
      by_cases c : isd (tz t len (q + 2))
      · rw [if_pos c]
        have c2 := isd_lt c
        exact ⟨by omega, by omega, fun _ => a, fun _ => b⟩
      · rw [if_neg c]
        exact ⟨by omega, by omega, fun _ => a, fun _ => b⟩
    · rw [if_neg b]
      exact ⟨by omega, by omega, fun _ => a, fun z => by omega⟩
  · rw [if_neg a]
    exact ⟨by omega, by omega, fun z => by omega, fun z => by omega⟩
theorem nmb_b {t : Nat → Int} {len q n : Nat} (h : q ≤ len) (h1 : 1 ≤ dgs t len q) (h2 : n = 2 → 2 ≤ dgs t len q) : 0 ≤ nmb t len q n ∧ nmb t len q n ≤ 99 := by
  have a := (dgs_b (t := t) h).2.2.1 h1
  unfold nmb
  by_cases c : n = 2
  · rw [if_pos c]
    have b := (dgs_b (t := t) h).2.2.2 (h2 c)
    omega
  · rw [if_neg c]; omega
section PSTICKL
variable {d : Nat} {Q : Option Value → zS → Prop} {σ : zS}
theorem p_letter {x : Int32} (hl : zLay σ) (h : ∀ v : Int32, v.toInt = ltr x.toInt → Q (some (.int v)) σ) : zCall d kX8_letterOf [.int x] σ Q := by
  refine (bX8_letterOf_0 hl).mpr (zeq' rfl (show (108 : Int32).toInt = 108 from rfl) (fun q => h _ ?_) (fun q => zeq' rfl (show (104 : Int32).toInt = 104 from rfl) (fun q2 => h _ ?_) (fun q2 => zeq' rfl (show (102 : Int32).toInt = 102 from rfl) (fun q3 => h _ ?_) (fun q3 => h _ ?_))))
  · unfold ltr; rw [if_pos q]; rfl
  · unfold ltr; rw [if_neg q, if_pos q2]; rfl
  · unfold ltr; rw [if_neg q, if_neg q2, if_pos q3]; rfl
  · unfold ltr; rw [if_neg q, if_neg q2, if_neg q3]; rfl
theorem p_dg {len q n : Nat} (hl : zLay σ) (e2 : zI σ 2 1 = nI len) (hn : len ≤ 160) (hq : q ≤ 200) (h3 : n < 3) (h0 : ¬ isd (tz (tP σ) len (q + n)) → Q (some (.int (nI n))) σ) (h1 : isd (tz (tP σ) len (q + n)) → zW (d + 1) kX8_digitsFrom 2 [.ref 2, .int (nI q), .int (nI (n + 1))] [] σ Q) : zW (d + 1) kX8_digitsFrom 2 [.ref 2, .int (nI q), .int (nI n)] [] σ Q := by
  have k48 : (48 : Int32).toInt = 48 := rfl
  have k57 : (57 : Int32).toInt = 57 := rfl
  refine (bX8_digitsFrom_2 hl zk_2).mpr (zle' k3 (ai_n (by omega)) (fun q => by omega) (fun _ => ?_))
  rw [nI_add]
  refine p_byteAt hl e2 hn (by omega) (fun v hv => ⟨rfl, (bX8_digitsFrom_14 hl zk_2).mpr (zlt' hv k48 (fun z => h0 (fun z2 => by unfold tz at z2; omega)) (fun z => ?_))⟩)
  rw [nI_add]
  refine p_byteAt hl e2 hn (by omega) (fun v2 hv2 => ⟨rfl, (bX8_digitsFrom_26 hl zk_2).mpr (zlt' k57 hv2 (fun z2 => h0 (fun z3 => by unfold tz at z3; omega)) (fun z2 => ?_))⟩)
  rw [nI_1]
  exact h1 (by unfold isd tz; omega)
theorem p_digits {len q : Nat} (hl : zLay σ) (e2 : zI σ 2 1 = nI len) (hn : len ≤ 160) (hq : q ≤ 200) (h : Q (some (.int (nI (dgs (tP σ) len q)))) σ) : zCall (d + 1) kX8_digitsFrom [.ref 2, .int (nI q)] σ Q := by
  unfold dgs at h
  refine (bX8_digitsFrom_0 hl zk_2).mpr (p_dg (n := 0) hl e2 hn hq (by omega) (fun a => ?_) (fun a => p_dg (n := 1) hl e2 hn hq (by omega) (fun b => ?_) (fun b => p_dg (n := 2) hl e2 hn hq (by omega) (fun c => ?_) (fun c => ?_))))
  · rwa [if_neg (c := isd (tz (tP σ) len q)) a] at h
  · rwa [if_pos (c := isd (tz (tP σ) len q)) a, if_neg b] at h
  · rwa [if_pos (c := isd (tz (tP σ) len q)) a, if_pos b, if_neg c] at h
  · rw [if_pos (c := isd (tz (tP σ) len q)) a, if_pos b, if_pos c] at h
    exact (bX8_digitsFrom_2 hl zk_2).mpr (zle' k3 k3 (fun _ => h) (fun z => by omega))
theorem p_sput {k : Nat} {x : Int32} {v : Int} (hl : zLay σ) (hk : k < 3) (hx : x.toInt = v) (h0 : v < loL k ∨ hiL k < v → Q (some (.int 0)) σ) (h1 : ¬ (v < loL k ∨ hiL k < v) → Q (some (.int 1)) (zsI σ 95 (upd (zI σ 95) k x))) : zCall d kX6_put [.ref 95, .int (nI k), .int x] σ Q := by
  unfold loL hiL at h0 h1
  have p24 : ∀ lo : Int32, lo.toInt = (if (k : Int) = 0 then 1 else 0 : Int) → ¬ (if (k : Int) = 0 then 5 else 9 : Int) < v → zW d kX6_put 24 [.ref 95, .int (nI k), .int x] [.int lo, .int x] σ Q := fun lo el q => by
    refine (bX6_put_24 hl zk_95).mpr (zle' el hx (fun q2 => zeq' (ai_n (by omega)) k0 (fun z => ?_) (fun z => zeq' (ai_n (by omega)) k1 (fun z2 => ?_) (fun z2 => ?_))) (fun q2 => h0 (Or.inl q2)))
    · obtain rfl : k = 0 := by omega
      exact h1 (by omega)
    · obtain rfl : k = 1 := by omega
      exact h1 (by omega)
    · obtain rfl : k = 2 := by omega
      exact h1 (by omega)
  have p11 : ∀ hi : Int32, hi.toInt = (if (k : Int) = 0 then 5 else 9 : Int) → zW d kX6_put 11 [.ref 95, .int (nI k), .int x] [.int hi, .int x] σ Q := fun hi el => by
    refine (bX6_put_11 hl zk_95).mpr (zlt' el hx (fun q => h0 (Or.inr q)) (fun q => zeq' (ai_n (by omega)) k0 (fun z => p24 1 (by rw [if_pos z]; rfl) (by omega)) (fun z => p24 0 (by rw [if_neg z]; rfl) (by omega))))
  exact (bX6_put_0 hl zk_95).mpr (zeq' (ai_n (by omega)) k0 (fun z => p11 5 (by rw [if_pos z]; rfl)) (fun z => p11 9 (by rw [if_neg z]; rfl)))
end PSTICKL
