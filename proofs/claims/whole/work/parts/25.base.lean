/-! whole numbers out of Int32; choices; frames -/
theorem ai_lo (x : Int32) : -2147483648 ≤ x.toInt := Int32.le_toInt x
theorem ai_hi (x : Int32) : x.toInt < 2147483648 := Int32.toInt_lt x
theorem ai_bm {n : Int} (h1 : -2147483648 ≤ n) (h2 : n < 2147483648) : n.bmod (2 ^ 32) = n := Int.bmod_eq_of_le (by omega) (by omega)
theorem ai_add {x y : Int32} (h1 : -2147483648 ≤ x.toInt + y.toInt) (h2 : x.toInt + y.toInt < 2147483648) : (x + y).toInt = x.toInt + y.toInt := by rw [Int32.toInt_add, ai_bm h1 h2]
theorem ai_sub {x y : Int32} (h1 : -2147483648 ≤ x.toInt - y.toInt) (h2 : x.toInt - y.toInt < 2147483648) : (x - y).toInt = x.toInt - y.toInt := by rw [Int32.toInt_sub, ai_bm h1 h2]
theorem ai_mul {x y : Int32} (h1 : -2147483648 ≤ x.toInt * y.toInt) (h2 : x.toInt * y.toInt < 2147483648) : (x * y).toInt = x.toInt * y.toInt := by rw [Int32.toInt_mul, ai_bm h1 h2]
theorem ai_neg {x : Int32} (h1 : -2147483648 < x.toInt) : (-x).toInt = -x.toInt := by
  have := ai_hi x
  rw [Int32.toInt_neg, ai_bm (by omega) (by omega)]
theorem ai_le {x y : Int32} : x ≤ y ↔ x.toInt ≤ y.toInt := Int32.le_iff_toInt_le
theorem ai_lt {x y : Int32} : x < y ↔ x.toInt < y.toInt := Int32.lt_iff_toInt_lt
theorem ai_eq {x y : Int32} : x = y ↔ x.toInt = y.toInt := Int32.toInt_inj.symm
theorem ai_n {n : Nat} (h : n < 2147483648) : (nI n).toInt = (n : Int) := nI_toInt h
theorem ai_of {n : Int} (h1 : -2147483648 ≤ n) (h2 : n < 2147483648) : (Int32.ofInt n).toInt = n := Int32.toInt_ofInt_of_le h1 h2
theorem ai_io (x : Int32) : Int32.ofInt x.toInt = x := Int32.ofInt_toInt x
theorem ai_cl (x : Int32) : x.toNatClampNeg = x.toInt.toNat := rfl
theorem ai_div {x y : Int32} (h : 0 ≤ x.toInt) (h2 : 0 < y.toInt) : (x / y).toInt = x.toInt / y.toInt := by
  rw [Int32.toInt_div_of_ne_right x y (by rintro rfl; exact absurd h2 (by decide)), Int.tdiv_eq_ediv_of_nonneg h]
theorem ai_nx {x : Int32} (h : 0 ≤ x.toInt) : ∃ n : Nat, n < 2147483648 ∧ x = nI n ∧ x.toInt = (n : Int) := by
  have := ai_hi x
  refine ⟨x.toInt.toNat, by omega, ?_, by omega⟩
  rw [ai_eq, ai_n (by omega)]
  omega
theorem ai_nIa (a b : Nat) : (nI a + nI b) = nI (a + b) := nI_add a b
theorem ai_ix {r w : Nat} (hr : r < 1000) (hw : w < 1000) (m : Nat) (hm : m < 1000) : ((nI m * nI r) + nI w).toNatClampNeg = m * r + w := by
  rw [pk_mul, nI_add]
  have h1 : m * r ≤ 1000 * 1000 := Nat.mul_le_mul (by omega) (by omega)
  exact nI_clamp (by omega)
noncomputable def zif {α : Type} (c : Prop) (a b : α) : α := @ite α c (Classical.propDecidable c) a b
theorem zif_t {α : Type} {c : Prop} {a b : α} (h : c) : zif c a b = a := if_pos h
theorem zif_f {α : Type} {c : Prop} {a b : α} (h : ¬ c) : zif c a b = b := if_neg h
theorem zif_c {α : Type} {c c' : Prop} {a b : α} (h : c ↔ c') : zif c a b = zif c' a b := by rw [propext h]
noncomputable def zb (c : Prop) : Int32 := zif c 1 0
theorem zb_t {c : Prop} (h : c) : zb c = 1 := zif_t h
theorem zb_f {c : Prop} (h : ¬ c) : zb c = 0 := zif_f h
theorem zb_c {c c' : Prop} (h : c ↔ c') : zb c = zb c' := by rw [propext h]
theorem zb_0 {c : Prop} : zb c = 0 ↔ ¬ c := by
  by_cases h : c
  · rw [zb_t h]; simp [h]
  · rw [zb_f h]; simp [h]
theorem zb_1 {c : Prop} : zb c = 1 ↔ c := by
  by_cases h : c
  · rw [zb_t h]; simp [h]
  · rw [zb_f h]; simp [h]
theorem zb_01 (c : Prop) : zb c = 0 ∨ zb c = 1 := by
  by_cases h : c
  · exact Or.inr (zb_t h)
  · exact Or.inl (zb_f h)
theorem zb_I (c : Prop) : (zb c).toInt = 0 ∨ (zb c).toInt = 1 := by
  rcases zb_01 c with h | h <;> rw [h]
  · exact Or.inl rfl
  · exact Or.inr rfl
/-- a choice at the answer of a test -/
theorem zt0 {c : Prop} {A B : Prop} (h1 : c → B) (h2 : ¬ c → A) : if zb c = 0 then A else B := by
  by_cases h : c
  · rw [if_neg (by rw [zb_0]; exact fun h2 => h2 h)]
    exact h1 h
  · rw [if_pos (zb_0.mpr h)]
    exact h2 h
theorem zt1 {c : Prop} {A B : Prop} (h1 : c → A) (h2 : ¬ c → B) : if zb c = 1 then A else B := by
  by_cases h : c
  · rw [if_pos (zb_1.mpr h)]
    exact h1 h
  · rw [if_neg (by rw [zb_1]; exact h)]
    exact h2 h
theorem zti {c : Prop} [Decidable c] {A B : Prop} (h1 : c → A) (h2 : ¬ c → B) : if c then A else B := by
  by_cases h : c
  · rw [if_pos h]; exact h1 h
  · rw [if_neg h]; exact h2 h
/-- if x ≤ y .., in whole numbers -/
theorem zle {x y : Int32} {A B : Prop} (h1 : x.toInt ≤ y.toInt → A) (h2 : y.toInt < x.toInt → B) : if x ≤ y then A else B :=
  zti (fun h => h1 (ai_le.mp h)) (fun h => h2 (by rw [ai_le] at h; omega))
theorem zlt {x y : Int32} {A B : Prop} (h1 : x.toInt < y.toInt → A) (h2 : y.toInt ≤ x.toInt → B) : if x < y then A else B :=
  zti (fun h => h1 (ai_lt.mp h)) (fun h => h2 (by rw [ai_lt] at h; omega))
theorem zeq {x y : Int32} {A B : Prop} (h1 : x.toInt = y.toInt → A) (h2 : x.toInt ≠ y.toInt → B) : if x = y then A else B :=
  zti (fun h => h1 (ai_eq.mp h)) (fun h => h2 (fun h3 => h (ai_eq.mpr h3)))
theorem zin {x : Int32} {n : Nat} (h0 : 0 ≤ x.toInt) (h : x.toInt < n) : vp_in x n := vp_in_iff.mpr ⟨h0, h⟩
/-- what a run may write: W 0 c k ints, W 1 longs, W 2 references -/
def zFr (W : Nat → Nat → Nat → Prop) (σ σ' : zS) : Prop := σ'.1 = σ.1 ∧ σ'.2.2 = σ.2.2 ∧ (∀ c k, ¬ W 0 c k → zI σ' c k = zI σ c k) ∧ (∀ c k, ¬ W 1 c k → zL σ' c k = zL σ c k) ∧ (∀ c k, ¬ W 2 c k → zR σ' c k = zR σ c k)
theorem zFr.refl (W : Nat → Nat → Nat → Prop) (σ : zS) : zFr W σ σ := ⟨rfl, rfl, fun _ _ _ => rfl, fun _ _ _ => rfl, fun _ _ _ => rfl⟩
theorem zFr.trans {W : Nat → Nat → Nat → Prop} {σ σ1 σ2 : zS} (h : zFr W σ σ1) (g : zFr W σ1 σ2) : zFr W σ σ2 :=
  ⟨g.1.trans h.1, g.2.1.trans h.2.1, fun c k w => (g.2.2.1 c k w).trans (h.2.2.1 c k w), fun c k w => (g.2.2.2.1 c k w).trans (h.2.2.2.1 c k w), fun c k w => (g.2.2.2.2 c k w).trans (h.2.2.2.2 c k w)⟩
theorem zFr.mono {W W' : Nat → Nat → Nat → Prop} {σ σ1 : zS} (h : zFr W σ σ1) (g : ∀ j c k, W j c k → W' j c k) : zFr W' σ σ1 :=
  ⟨h.1, h.2.1, fun c k w => h.2.2.1 c k (fun q => w (g _ _ _ q)), fun c k w => h.2.2.2.1 c k (fun q => w (g _ _ _ q)), fun c k w => h.2.2.2.2 c k (fun q => w (g _ _ _ q))⟩
theorem zFr.i {W : Nat → Nat → Nat → Prop} {σ σ1 : zS} (h : zFr W σ σ1) {c k : Nat} (w : ¬ W 0 c k) : zI σ1 c k = zI σ c k := h.2.2.1 c k w
theorem zFr.l {W : Nat → Nat → Nat → Prop} {σ σ1 : zS} (h : zFr W σ σ1) {c k : Nat} (w : ¬ W 1 c k) : zL σ1 c k = zL σ c k := h.2.2.2.1 c k w
theorem zFr.r {W : Nat → Nat → Nat → Prop} {σ σ1 : zS} (h : zFr W σ σ1) {c k : Nat} (w : ¬ W 2 c k) : zR σ1 c k = zR σ c k := h.2.2.2.2 c k w
theorem zFr.lay {W : Nat → Nat → Nat → Prop} {σ σ1 : zS} (h : zFr W σ σ1) (hl : zLay σ) (w : ∀ c k v, zRT c k = some v → ¬ W 2 c k) : zLay σ1 := hl.same h.1 (fun c k v hv => h.r (w c k v hv))
theorem zFr_I {W : Nat → Nat → Nat → Prop} {σ : zS} {c : Nat} {f : Nat → Int32} (h : ∀ k, W 0 c k ∨ f k = zI σ c k) : zFr W σ (zsI σ c f) := by
  refine ⟨rfl, rfl, fun c' k w => ?_, fun c' k w => rfl, fun c' k w => rfl⟩
  by_cases e : c' = c
  · subst e
    rw [zI_self]
    rcases h k with q | q
    · exact absurd q w
    · exact q
  · rw [zI_ne e]
theorem zFr_U {W : Nat → Nat → Nat → Prop} {σ : zS} {c k : Nat} {x : Int32} (h : W 0 c k) : zFr W σ (zsI σ c (upd (zI σ c) k x)) := zFr_I (fun j => by
  by_cases e : j = k
  · subst e; exact Or.inl h
  · exact Or.inr (pk_un e))
theorem zFr_L {W : Nat → Nat → Nat → Prop} {σ : zS} {c k : Nat} {x : Int64} (h : W 1 c k) : zFr W σ (zsL σ c (vp_updL (zL σ c) k x)) := by
  refine ⟨rfl, rfl, fun c' k w => rfl, fun c' k' w => ?_, fun c' k w => rfl⟩
  by_cases e : c' = c
  · subst e
    rw [zL_self]
    by_cases e2 : k' = k
    · subst e2; exact absurd h w
    · exact pk_uLn e2
  · rw [zL_ne e]
theorem zFr_R {W : Nat → Nat → Nat → Prop} {σ : zS} {c k v : Nat} (h : W 2 c k) : zFr W σ (zsR σ c (va_up (zR σ c) k (some v))) := by
  refine ⟨rfl, rfl, fun c' k w => rfl, fun c' k w => rfl, fun c' k' w => ?_⟩
  by_cases e : c' = c
  · subst e
    rw [zR_self]
    by_cases e2 : k' = k
    · subst e2; exact absurd h w
    · unfold va_up
      exact if_neg e2
  · rw [zR_ne e]
theorem zbq {Q : Option Value → zS → Prop} {σ : zS} {c c' : Prop} (h : Q (some (.int (zb c))) σ) (e : c ↔ c') : Q (some (.int (zb c'))) σ := by rw [← zb_c e]; exact h
theorem zcat_i (x : Int32) : (Value.int x).category = 1 := rfl
theorem zcat_r (n : Nat) : (Value.retAddr n).category = 1 := rfl
theorem zcat_f (n : Nat) : (Value.ref n).category = 1 := rfl
theorem k0 : (0 : Int32).toInt = 0 := rfl
theorem k1 : (1 : Int32).toInt = 1 := rfl
theorem k2 : (2 : Int32).toInt = 2 := rfl
theorem k3 : (3 : Int32).toInt = 3 := rfl
theorem k4 : (4 : Int32).toInt = 4 := rfl
theorem k5 : (5 : Int32).toInt = 5 := rfl
theorem k6 : (6 : Int32).toInt = 6 := rfl
theorem k9 : (9 : Int32).toInt = 9 := rfl
theorem k10 : (10 : Int32).toInt = 10 := rfl
theorem k12 : (12 : Int32).toInt = 12 := rfl
theorem k15 : (15 : Int32).toInt = 15 := rfl
theorem k16 : (16 : Int32).toInt = 16 := rfl
theorem k20 : (20 : Int32).toInt = 20 := rfl
theorem k30 : (30 : Int32).toInt = 30 := rfl
theorem k32 : (32 : Int32).toInt = 32 := rfl
theorem k40 : (40 : Int32).toInt = 40 := rfl
theorem k48 : (48 : Int32).toInt = 48 := rfl
theorem k49 : (49 : Int32).toInt = 49 := rfl
theorem k57 : (57 : Int32).toInt = 57 := rfl
theorem k59 : (59 : Int32).toInt = 59 := rfl
theorem k60 : (60 : Int32).toInt = 60 := rfl
theorem k64 : (64 : Int32).toInt = 64 := rfl
theorem k66 : (66 : Int32).toInt = 66 := rfl
theorem k99 : (99 : Int32).toInt = 99 := rfl
theorem k111 : (111 : Int32).toInt = 111 := rfl
theorem k160 : (160 : Int32).toInt = 160 := rfl
theorem km1 : (-1 : Int32).toInt = -1 := rfl
theorem km2 : (-2 : Int32).toInt = -2 := rfl
theorem km3 : (-3 : Int32).toInt = -3 := rfl
theorem zadd {x y : Int32} {a b : Int} (hx : x.toInt = a) (hy : y.toInt = b) (h1 : -2147483648 ≤ a + b := by omega) (h2 : a + b < 2147483648 := by omega) : (x + y).toInt = a + b := by
  subst hx hy
  exact ai_add h1 h2
theorem zsub {x y : Int32} {a b : Int} (hx : x.toInt = a) (hy : y.toInt = b) (h1 : -2147483648 ≤ a - b := by omega) (h2 : a - b < 2147483648 := by omega) : (x - y).toInt = a - b := by
  subst hx hy
  exact ai_sub h1 h2
theorem zmul {x y : Int32} {a b : Int} (hx : x.toInt = a) (hy : y.toInt = b) (h1 : -2147483648 ≤ a * b := by omega) (h2 : a * b < 2147483648 := by omega) : (x * y).toInt = a * b := by
  subst hx hy
  exact ai_mul h1 h2
theorem zdiv {x y : Int32} {a b : Int} (hx : x.toInt = a) (hy : y.toInt = b) (h1 : 0 ≤ a := by omega) (h2 : 0 < b := by omega) : (x / y).toInt = a / b := by
  subst hx hy
  exact ai_div h1 h2
theorem zneg {x : Int32} {a : Int} (hx : x.toInt = a) (h1 : -2147483648 < a := by omega) : (-x).toInt = -a := by
  subst hx
  exact ai_neg h1
theorem zle' {x y : Int32} {a b : Int} {A B : Prop} (hx : x.toInt = a) (hy : y.toInt = b) (h1 : a ≤ b → A) (h2 : b < a → B) : if x ≤ y then A else B := by
  subst hx hy
  exact zle h1 h2
theorem zlt' {x y : Int32} {a b : Int} {A B : Prop} (hx : x.toInt = a) (hy : y.toInt = b) (h1 : a < b → A) (h2 : b ≤ a → B) : if x < y then A else B := by
  subst hx hy
  exact zlt h1 h2
theorem zeq' {x y : Int32} {a b : Int} {A B : Prop} (hx : x.toInt = a) (hy : y.toInt = b) (h1 : a = b → A) (h2 : a ≠ b → B) : if x = y then A else B := by
  subst hx hy
  exact zeq h1 h2
theorem zin' {x : Int32} {n : Nat} {a : Int} (hx : x.toInt = a) (h0 : 0 ≤ a := by omega) (h : a < n := by omega) : vp_in x n := by
  subst hx
  exact zin h0 h
theorem zint {x y : Int32} (h : x.toInt = y.toInt) : x = y := ai_eq.mpr h
theorem zcn {x : Int32} {a : Int} (hx : x.toInt = a) : x.toNatClampNeg = a.toNat := by
  subst hx
  rfl
theorem zmax {x y : Int32} {a b : Int} (hx : x.toInt = a) (hy : y.toInt = b) : (if x < y then y else x).toInt = max a b := by
  subst hx hy
  by_cases h : x < y
  · rw [if_pos h]
    rw [ai_lt] at h
    omega
  · rw [if_neg h]
    rw [ai_lt] at h
    omega
theorem zabs {x : Int32} {a : Int} (hx : x.toInt = a) (h : -2147483648 < a := by omega) : (if 0 ≤ x then x else 0 - x).toInt = max a (-a) := by
  subst hx
  have := ai_hi x
  by_cases q : (0 : Int32) ≤ x
  · rw [if_pos q]
    rw [ai_le, k0] at q
    omega
  · rw [if_neg q]
    rw [ai_le, k0] at q
    rw [zsub k0 rfl]
    omega
theorem ztop {x y : Int32} {a b : Int} (hx : x.toInt = a) (hy : y.toInt = b) : (if x < y then y else x).toInt = if a < b then b else a := by
  subst hx hy
  by_cases h : x < y
  · rw [if_pos h, if_pos (ai_lt.mp h)]
  · rw [if_neg h, if_neg (fun q => h (ai_lt.mpr q))]
