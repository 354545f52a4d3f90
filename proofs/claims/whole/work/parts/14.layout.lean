/-! the cells behind the constructors: 1 the class, 131 the model, 164 the row of one long; the references that never change -/
def zSH : List (Nat × Nat) := [(11, 20), (8, 2), (14, 160), (16, 6), (18, 10), (5, 4), (14, 10), (14, 10), (14, 10), (10, 3), (10, 3), (2, 10), (17, 6), (14, 6), (14, 16), (0, 5), (14, 96), (14, 16), (14, 16), (4, 9), (6, 3), (4, 9), (6, 3), (4, 9), (6, 3), (4, 9), (6, 3), (4, 9), (6, 3), (4, 9), (6, 3), (1, 3), (14, 366), (14, 366), (14, 61), (2, 10), (17, 6), (14, 6), (14, 16), (0, 5), (14, 96), (14, 16), (14, 16), (4, 9), (6, 3), (4, 9), (6, 3), (4, 9), (6, 3), (4, 9), (6, 3), (4, 9), (6, 3), (4, 9), (6, 3), (1, 3), (14, 366), (14, 366), (14, 61), (2, 10), (17, 6), (14, 6), (14, 16), (0, 5), (14, 96), (14, 16), (14, 16), (4, 9), (6, 3), (4, 9), (6, 3), (4, 9), (6, 3), (4, 9), (6, 3), (4, 9), (6, 3), (4, 9), (6, 3), (7, 3), (14, 6), (14, 6), (3, 3), (14, 40), (3, 3), (14, 40), (9, 4), (14, 12), (14, 12), (14, 6), (0, 5), (14, 96), (14, 16), (14, 16), (6, 3), (14, 21), (0, 5), (14, 96), (14, 16), (14, 16), (0, 5), (14, 96), (14, 16), (14, 16), (0, 5), (14, 96), (14, 16), (14, 16), (0, 5), (14, 96), (14, 16), (14, 16), (0, 5), (14, 96), (14, 16), (14, 16), (0, 5), (14, 96), (14, 16), (14, 16), (6, 3), (6, 3), (6, 3), (6, 3), (6, 3), (6, 3), (6, 3), (6, 3), (6, 3), (6, 3), (12, 60), (13, 160), (14, 672), (14, 7), (14, 7), (14, 11), (14, 11), (14, 11), (14, 66), (14, 66), (14, 66), (14, 366), (14, 366), (14, 61), (14, 16), (14, 366), (14, 366), (14, 61), (14, 16), (14, 6), (15, 6), (14, 22), (14, 6), (14, 12), (14, 72), (14, 10), (14, 10), (14, 10), (14, 6), (14, 6), (14, 10), (14, 10), (14, 40), (19, 1)]
def zk (c : Nat) : Nat := (((98, 0) :: zSH).getD c (98, 0)).1
def zl (c : Nat) : Nat := (((98, 0) :: zSH).getD c (98, 0)).2
/-- the references that stay: by the cell's kind and the place in it -/
def zRTk (kd c k : Nat) : Option Nat := match kd with
  | 0 => if k < 3 then some (c + 1 + k) else none
  | 1 => if k < 3 then some (c + 1 + k) else none
  | 2 => if k < 3 then some (c + 1 + k) else none
  | 3 => if k = 0 then some (c + 1) else none
  | 5 => if k < 3 then some (c + 1 + k) else none
  | 7 => if k < 2 then some (c + 1 + k) else none
  | 8 => if k = 0 then some (c + 1) else none
  | 9 => if k < 3 then some (c + 1 + k) else none
  | 11 => ([some 2, some 4, none, some 5, none, some 6, some 10, some 11, some 12, some 32, some 36, some 56, some 60, some 80, some 83, some 85, some 87, some 91, some 95, some 96] : List (Option Nat)).getD k none
  | 12 => ([none, some 132, none, none, none, some 133, some 134, some 135, some 136, some 137, some 138, none, none, none, none, none, some 139, some 140, some 141, none, none, none, none, none, none, none, none, none, none, none, none, none, none, none, none, some 142, some 143, some 144, some 145, some 146, some 147, some 148, some 149, none, some 150, some 151, some 152, some 153, some 154, some 155, none, some 156, some 157, some 158, none, some 159, some 160, some 161, some 162, some 163] : List (Option Nat)).getD k none
  | 16 => if k < 6 then some (97 + 4 * k) else none
  | 17 => if k < 6 then some (c + 7 + 2 * k) else none
  | 18 => if k < 10 then some (121 + k) else none
  | _ => none
def zRT (c k : Nat) : Option Nat := zRTk (zk c) c k
def zLay (σ : zS) : Prop := (∃ q, σ.1 = q :: zSH) ∧ ∀ c k v, zRT c k = some v → zR σ c k = some v
theorem zLay.k {σ : zS} (h : zLay σ) {c kd : Nat} (h0 : c ≠ 0) (hk : zk c = kd) : zkind σ c = kd := by
  obtain ⟨⟨q, e⟩, -⟩ := h
  obtain ⟨j, rfl⟩ : ∃ j, c = j + 1 := ⟨c - 1, by omega⟩
  rw [← hk]
  simp [zkind, zk, e]
theorem zLay.l {σ : zS} (h : zLay σ) {c n : Nat} (h0 : c ≠ 0) (hk : zl c = n) : zlen σ c = n := by
  obtain ⟨⟨q, e⟩, -⟩ := h
  obtain ⟨j, rfl⟩ : ∃ j, c = j + 1 := ⟨c - 1, by omega⟩
  rw [← hk]
  simp [zlen, zl, e]
theorem zLay.num {σ : zS} (h : zLay σ) : znum σ = 165 := by
  obtain ⟨⟨q, e⟩, -⟩ := h
  simp [znum, e, zSH]
theorem zLay.n {σ : zS} (h : zLay σ) {c : Nat} (hc : c < 165) : c < znum σ := by rw [h.num]; exact hc
theorem zLay.r {σ : zS} (h : zLay σ) {c k v : Nat} (hv : zRT c k = some v) : zR σ c k = some v := h.2 c k v hv
theorem zLay.I {σ : zS} (h : zLay σ) {c : Nat} {f : Nat → Int32} : zLay (zsI σ c f) := h
theorem zLay.L {σ : zS} (h : zLay σ) {c : Nat} {f : Nat → Int64} : zLay (zsL σ c f) := h
theorem zLay.R {σ : zS} (h : zLay σ) {c k v : Nat} (hn : zRT c k = none) : zLay (zsR σ c (va_up (zR σ c) k (some v))) := by
  refine ⟨h.1, fun c' k' v' hv => ?_⟩
  rw [zR_sR]
  split
  · rename_i e
    subst e
    unfold va_up
    split
    · rename_i e2
      subst e2
      rw [hn] at hv
      cases hv
    · exact h.2 _ _ _ hv
  · exact h.2 _ _ _ hv
theorem zLay.same {σ σ' : zS} (h : zLay σ) (h1 : σ'.1 = σ.1) (h2 : ∀ c k v, zRT c k = some v → zR σ' c k = zR σ c k) : zLay σ' := ⟨by rw [h1]; exact h.1, fun c k v hv => by rw [h2 c k v hv]; exact h.2 c k v hv⟩
theorem zk_lt {c : Nat} (h : zk c < 98) : c < 165 := by
  unfold zk at h
  rcases Nat.lt_or_ge c 165 with h1 | h1
  · exact h1
  · have e : ((98, 0) :: zSH)[c]? = none := List.getElem?_eq_none (by
      have hl : (((98, 0) : Nat × Nat) :: zSH).length = 165 := by decide +kernel
      rw [hl]
      exact h1)
    rw [List.getD_eq_getElem?_getD, e] at h
    exact absurd h (by decide)
theorem zk_pos {c : Nat} (h : zk c < 98) : c ≠ 0 := by
  rintro rfl
  revert h
  decide
theorem zf_brook0 : ∀ t, t < 165 → zk t = 0 → (zk (t + 1) = 14 ∧ zl (t + 1) = 96) ∧ (zk (t + 2) = 14 ∧ zl (t + 2) = 16) ∧ (zk (t + 3) = 14 ∧ zl (t + 3) = 16) := by decide +kernel
theorem zf_brook {t : Nat} (h : zk t = 0) : (zk (t + 1) = 14 ∧ zl (t + 1) = 96) ∧ (zk (t + 2) = 14 ∧ zl (t + 2) = 16) ∧ (zk (t + 3) = 14 ∧ zl (t + 3) = 16) := zf_brook0 t (zk_lt (by omega)) h
theorem zf_log0 : ∀ t, t < 165 → zk t = 1 → (zk (t + 1) = 14 ∧ zl (t + 1) = 366) ∧ (zk (t + 2) = 14 ∧ zl (t + 2) = 366) ∧ (zk (t + 3) = 14 ∧ zl (t + 3) = 61) := by decide +kernel
theorem zf_log {t : Nat} (h : zk t = 1) : (zk (t + 1) = 14 ∧ zl (t + 1) = 366) ∧ (zk (t + 2) = 14 ∧ zl (t + 2) = 366) ∧ (zk (t + 3) = 14 ∧ zl (t + 3) = 61) := zf_log0 t (zk_lt (by omega)) h
theorem zf_race0 : ∀ t, t < 165 → zk t = 2 → (zk (t + 1) = 17 ∧ zl (t + 1) = 6) ∧ (zk (t + 2) = 14 ∧ zl (t + 2) = 6) ∧ (zk (t + 3) = 14 ∧ zl (t + 3) = 16) ∧ (zk (t + 4) = 0 ∧ zl (t + 4) = 5) := by decide +kernel
theorem zf_race {t : Nat} (h : zk t = 2) : (zk (t + 1) = 17 ∧ zl (t + 1) = 6) ∧ (zk (t + 2) = 14 ∧ zl (t + 2) = 6) ∧ (zk (t + 3) = 14 ∧ zl (t + 3) = 16) ∧ (zk (t + 4) = 0 ∧ zl (t + 4) = 5) := zf_race0 t (zk_lt (by omega)) h
theorem zf_row0 : ∀ t, t < 165 → zk t = 3 → (zk (t + 1) = 14 ∧ zl (t + 1) = 40) := by decide +kernel
theorem zf_row {t : Nat} (h : zk t = 3) : (zk (t + 1) = 14 ∧ zl (t + 1) = 40) := zf_row0 t (zk_lt (by omega)) h
theorem zf_sights0 : ∀ t, t < 165 → zk t = 5 → (zk (t + 1) = 14 ∧ zl (t + 1) = 10) ∧ (zk (t + 2) = 14 ∧ zl (t + 2) = 10) ∧ (zk (t + 3) = 14 ∧ zl (t + 3) = 10) := by decide +kernel
theorem zf_sights {t : Nat} (h : zk t = 5) : (zk (t + 1) = 14 ∧ zl (t + 1) = 10) ∧ (zk (t + 2) = 14 ∧ zl (t + 2) = 10) ∧ (zk (t + 3) = 14 ∧ zl (t + 3) = 10) := zf_sights0 t (zk_lt (by omega)) h
theorem zf_tally0 : ∀ t, t < 165 → zk t = 7 → (zk (t + 1) = 14 ∧ zl (t + 1) = 6) ∧ (zk (t + 2) = 14 ∧ zl (t + 2) = 6) := by decide +kernel
theorem zf_tally {t : Nat} (h : zk t = 7) : (zk (t + 1) = 14 ∧ zl (t + 1) = 6) ∧ (zk (t + 2) = 14 ∧ zl (t + 2) = 6) := zf_tally0 t (zk_lt (by omega)) h
theorem zf_tape0 : ∀ t, t < 165 → zk t = 8 → (zk (t + 1) = 14 ∧ zl (t + 1) = 160) := by decide +kernel
theorem zf_tape {t : Nat} (h : zk t = 8) : (zk (t + 1) = 14 ∧ zl (t + 1) = 160) := zf_tape0 t (zk_lt (by omega)) h
theorem zf_book0 : ∀ t, t < 165 → zk t = 9 → (zk (t + 1) = 14 ∧ zl (t + 1) = 12) ∧ (zk (t + 2) = 14 ∧ zl (t + 2) = 12) ∧ (zk (t + 3) = 14 ∧ zl (t + 3) = 6) := by decide +kernel
theorem zf_book {t : Nat} (h : zk t = 9) : (zk (t + 1) = 14 ∧ zl (t + 1) = 12) ∧ (zk (t + 2) = 14 ∧ zl (t + 2) = 12) ∧ (zk (t + 3) = 14 ∧ zl (t + 3) = 6) := zf_book0 t (zk_lt (by omega)) h
theorem zf_racer0 : ∀ t, t < 165 → zk t = 2 → ∀ i, i < 6 → zk (t + 8 + 2 * i) = 4 := by decide +kernel
theorem zf_racer {t i : Nat} (h : zk t = 2) (hi : i < 6) : zk (t + 8 + 2 * i) = 4 := zf_racer0 t (zk_lt (by omega)) h i hi
