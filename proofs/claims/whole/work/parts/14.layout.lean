/-! the cells behind the constructors: 1 the class, 131 the model, 164 the row of one long; the references that never change -/
def zSH : List (Nat × Nat) := [(11, 20), (8, 2), (14, 160), (16, 6), (18, 10), (5, 4), (14, 10), (14, 10), (14, 10), (10, 3), (10, 3), (2, 10), (17, 6), (14, 6), (14, 16), (0, 5), (14, 96), (14, 16), (14, 16), (4, 9), (6, 3), (4, 9), (6, 3), (4, 9), (6, 3), (4, 9), (6, 3), (4, 9), (6, 3), (4, 9), (6, 3), (1, 3), (14, 366), (14, 366), (14, 61), (2, 10), (17, 6), (14, 6), (14, 16), (0, 5), (14, 96), (14, 16), (14, 16), (4, 9), (6, 3), (4, 9), (6, 3), (4, 9), (6, 3), (4, 9), (6, 3), (4, 9), (6, 3), (4, 9), (6, 3), (1, 3), (14, 366), (14, 366), (14, 61), (2, 10), (17, 6), (14, 6), (14, 16), (0, 5), (14, 96), (14, 16), (14, 16), (4, 9), (6, 3), (4, 9), (6, 3), (4, 9), (6, 3), (4, 9), (6, 3), (4, 9), (6, 3), (4, 9), (6, 3), (7, 3), (14, 6), (14, 6), (3, 3), (14, 40), (3, 3), (14, 40), (9, 4), (14, 12), (14, 12), (14, 6), (0, 5), (14, 96), (14, 16), (14, 16), (6, 3), (14, 21), (0, 5), (14, 96), (14, 16), (14, 16), (0, 5), (14, 96), (14, 16), (14, 16), (0, 5), (14, 96), (14, 16), (14, 16), (0, 5), (14, 96), (14, 16), (14, 16), (0, 5), (14, 96), (14, 16), (14, 16), (0, 5), (14, 96), (14, 16), (14, 16), (6, 3), (6, 3), (6, 3), (6, 3), (6, 3), (6, 3), (6, 3), (6, 3), (6, 3), (6, 3), (12, 60), (13, 160), (14, 672), (14, 7), (14, 7), (14, 11), (14, 11), (14, 11), (14, 66), (14, 66), (14, 66), (14, 366), (14, 366), (14, 61), (14, 16), (14, 366), (14, 366), (14, 61), (14, 16), (14, 6), (15, 6), (14, 22), (14, 6), (14, 12), (14, 72), (14, 10), (14, 10), (14, 10), (14, 6), (14, 6), (14, 10), (14, 10), (14, 40), (19, 1)]
def zk (c : Nat) : Nat := (((98, 0) :: zSH).getD c (98, 0)).1
def zl (c : Nat) : Nat := (((98, 0) :: zSH).getD c (98, 0)).2
/-- the references that stay: by the cell's kind and the place in it -/
def zRTk (kd c k : Nat) : Option Nat := match kd with
  | 0 => if k < 3 then some (c + 1 + k) else none
  | 1 => if k < 3 then some (c + 1 + k) else none
  | 2 => if k < 3 then some (c + 1 + k) else none
  | 3 => if k = 0 then some (c + 1) else none
  | 5 => if k < 3 then some (c + 1 + k) else none
  | 7 => if k < 2 then some (c + 1 + k) else none
  | 8 => if k = 0 then some (c + 1) else none
  | 9 => if k < 3 then some (c + 1 + k) else none
  | 11 => ([some 2, some 4, none, some 5, none, some 6, some 10, some 11, some 12, some 32, some 36, some 56, some 60, some 80, some 83, some 85, some 87, some 91, some 95, some 96] : List (Option Nat)).getD k none
  | 12 => ([none, some 132, none, none, none, some 133, some 134, some 135, some 136, some 137, some 138, none, none, none, none, none, some 139, some 140, some 141, none, none, none, none, none, none, none, none, none, none, none, none, none, none, none, none, some 142, some 143, some 144, some 145, some 146, some 147, some 148, some 149, none, some 150, some 151, some 152, some 153, some 154, some 155, none, some 156, some 157, some 158, none, some 159, some 160, some 161, some 162, some 163] : List (Option Nat)).getD k none
  | 16 => if k < 6 then some (97 + 4 * k) else none
  | 17 => if k < 6 then some (c + 7 + 2 * k) else none
  | 18 => if k < 10 then some (121 + k) else none
  | _ => none
def zRT (c k : Nat) : Option Nat := zRTk (zk c) c k
def zLay (σ : zS) : Prop := (∃ q, σ.1 = q :: zSH) ∧ ∀ c k v, zRT c k = some v → zR σ c k = some v
theorem zLay.k {σ : zS} (h : zLay σ) {c kd : Nat} (h0 : c ≠ 0) (hk : zk c = kd) : zkind σ c = kd := by
  obtain ⟨⟨q, e⟩, -⟩ := h
  obtain ⟨j, rfl⟩ : ∃ j, c = j + 1 := ⟨c - 1, by omega⟩
  rw [← hk]
  simp [zkind, zk, e]
theorem zLay.l {σ : zS} (h : zLay σ) {c n : Nat} (h0 : c ≠ 0) (hk : zl c = n) : zlen σ c = n := by
  obtain ⟨⟨q, e⟩, -⟩ := h
  obtain ⟨j, rfl⟩ : ∃ j, c = j + 1 := ⟨c - 1, by omega⟩
  rw [← hk]
  simp [zlen, zl, e]
theorem zLay.num {σ : zS} (h : zLay σ) : znum σ = 165 := by
  obtain ⟨⟨q, e⟩, -⟩ := h
  simp [znum, e, zSH]
theorem zLay.n {σ : zS} (h : zLay σ) {c : Nat} (hc : c < 165) : c < znum σ := by rw [h.num]; exact hc
theorem zLay.r {σ : zS} (h : zLay σ) {c k v : Nat} (hv : zRT c k = some v) : zR σ c k = some v := h.2 c k v hv
theorem zLay.I {σ : zS} (h : zLay σ) {c : Nat} {f : Nat → Int32} : zLay (zsI σ c f) := h
theorem zLay.L {σ : zS} (h : zLay σ) {c : Nat} {f : Nat → Int64} : zLay (zsL σ c f) := h
theorem zLay.R {σ : zS} (h : zLay σ) {c k v : Nat} (hn : zRT c k = none) : zLay (zsR σ c (va_up (zR σ c) k (some v))) := by
  refine ⟨h.1, fun c' k' v' hv => ?_⟩
  rw [zR_sR]
  split
  · rename_i e
    subst e
    unfold va_up
    split
    · rename_i e2
      subst e2
      rw [hn] at hv
      cases hv
    · exact h.2 _ _ _ hv
  · exact h.2 _ _ _ hv
theorem zLay.same {σ σ' : zS} (h : zLay σ) (h1 : σ'.1 = σ.1) (h2 : ∀ c k v, zRT c k = some v → zR σ' c k = zR σ c k) : zLay σ' := ⟨by rw [h1]; exact h.1, fun c k v hv => by rw [h2 c k v hv]; exact h.2 c k v hv⟩
theorem zk_lt {c : Nat} (h : zk c < 98) : c < 165 := by
  unfold zk at h
  rcases Nat.lt_or_ge c 165 with h1 | h1
  · exact h1
  · have e : ((98, 0) :: zSH)[c]? = none := List.getElem?_eq_none (by
      have hl : (((98, 0) : Nat × Nat) :: zSH).length = 165 := by decide +kernel
      rw [hl]
      exact h1)
    rw [List.getD_eq_getElem?_getD, e] at h
    exact absurd h (by decide)
theorem zk_pos {c : Nat} (h : zk c < 98) : c ≠ 0 := by
  rintro rfl
  revert h
  decide
theorem zf_brook0 : ∀ t, t < 165 → zk t = 0 → (zk (t + 1) = 14 ∧ zl (t + 1) = 96) ∧ (zk (t + 2) = 14 ∧ zl (t + 2) = 16) ∧ (zk (t + 3) = 14 ∧ zl (t + 3) = 16) := by decide +kernel
theorem zf_brook {t : Nat} (h : zk t = 0) : (zk (t + 1) = 14 ∧ zl (t + 1) = 96) ∧ (zk (t + 2) = 14 ∧ zl (t + 2) = 16) ∧ (zk (t + 3) = 14 ∧ zl (t + 3) = 16) := zf_brook0 t (zk_lt (by omega)) h
theorem zf_log0 : ∀ t, t < 165 → zk t = 1 → (zk (t + 1) = 14 ∧ zl (t + 1) = 366) ∧ (zk (t + 2) = 14 ∧ zl (t + 2) = 366) ∧ (zk (t + 3) = 14 ∧ zl (t + 3) = 61) := by decide +kernel
theorem zf_log {t : Nat} (h : zk t = 1) : (zk (t + 1) = 14 ∧ zl (t + 1) = 366) ∧ (zk (t + 2) = 14 ∧ zl (t + 2) = 366) ∧ (zk (t + 3) = 14 ∧ zl (t + 3) = 61) := zf_log0 t (zk_lt (by omega)) h
theorem zf_race0 : ∀ t, t < 165 → zk t = 2 → (zk (t + 1) = 17 ∧ zl (t + 1) = 6) ∧ (zk (t + 2) = 14 ∧ zl (t + 2) = 6) ∧ (zk (t + 3) = 14 ∧ zl (t + 3) = 16) ∧ (zk (t + 4) = 0 ∧ zl (t + 4) = 5) := by decide +kernel
theorem zf_race {t : Nat} (h : zk t = 2) : (zk (t + 1) = 17 ∧ zl (t + 1) = 6) ∧ (zk (t + 2) = 14 ∧ zl (t + 2) = 6) ∧ (zk (t + 3) = 14 ∧ zl (t + 3) = 16) ∧ (zk (t + 4) = 0 ∧ zl (t + 4) = 5) := zf_race0 t (zk_lt (by omega)) h
theorem zf_row0 : ∀ t, t < 165 → zk t = 3 → (zk (t + 1) = 14 ∧ zl (t + 1) = 40) := by decide +kernel
theorem zf_row {t : Nat} (h : zk t = 3) : (zk (t + 1) = 14 ∧ zl (t + 1) = 40) := zf_row0 t (zk_lt (by omega)) h
theorem zf_sights0 : ∀ t, t < 165 → zk t = 5 → (zk (t + 1) = 14 ∧ zl (t + 1) = 10) ∧ (zk (t + 2) = 14 ∧ zl (t + 2) = 10) ∧ (zk (t + 3) = 14 ∧ zl (t + 3) = 10) := by decide +kernel
theorem zf_sights {t : Nat} (h : zk t = 5) : (zk (t + 1) = 14 ∧ zl (t + 1) = 10) ∧ (zk (t + 2) = 14 ∧ zl (t + 2) = 10) ∧ (zk (t + 3) = 14 ∧ zl (t + 3) = 10) := zf_sights0 t (zk_lt (by omega)) h
theorem zf_tally0 : ∀ t, t < 165 → zk t = 7 → (zk (t + 1) = 14 ∧ zl (t + 1) = 6) ∧ (zk (t + 2) = 14 ∧ zl (t + 2) = 6) := by decide +kernel
theorem zf_tally {t : Nat} (h : zk t = 7) : (zk (t + 1) = 14 ∧ zl (t + 1) = 6) ∧ (zk (t + 2) = 14 ∧ zl (t + 2) = 6) := zf_tally0 t (zk_lt (by omega)) h
theorem zf_tape0 : ∀ t, t < 165 → zk t = 8 → (zk (t + 1) = 14 ∧ zl (t + 1) = 160) := by decide +kernel
theorem zf_tape {t : Nat} (h : zk t = 8) : (zk (t + 1) = 14 ∧ zl (t + 1) = 160) := zf_tape0 t (zk_lt (by omega)) h
theorem zf_book0 : ∀ t, t < 165 → zk t = 9 → (zk (t + 1) = 14 ∧ zl (t + 1) = 12) ∧ (zk (t + 2) = 14 ∧ zl (t + 2) = 12) ∧ (zk (t + 3) = 14 ∧ zl (t + 3) = 6) := by decide +kernel
theorem zf_book {t : Nat} (h : zk t = 9) : (zk (t + 1) = 14 ∧ zl (t + 1) = 12) ∧ (zk (t + 2) = 14 ∧ zl (t + 2) = 12) ∧ (zk (t + 3) = 14 ∧ zl (t + 3) = 6) := zf_book0 t (zk_lt (by omega)) h
theorem zf_racer0 : ∀ t, t < 165 → zk t = 2 → ∀ i, i < 6 → zk (t + 8 + 2 * i) = 4 := by decide +kernel
theorem zf_racer {t i : Nat} (h : zk t = 2) (hi : i < 6) : zk (t + 8 + 2 * i) = 4 := zf_racer0 t (zk_lt (by omega)) h i hi
theorem zLay.k2 {σ : zS} (h : zLay σ) {c kd : Nat} (hk : zk c = kd) (h9 : kd < 98 := by decide) : zkind σ c = kd := h.k (zk_pos (by omega)) hk
theorem zLay.n2 {σ : zS} (h : zLay σ) {c kd : Nat} (hk : zk c = kd) (h9 : kd < 98 := by decide) : c < znum σ := h.n (zk_lt (by omega))
theorem zLay.l2 {σ : zS} (h : zLay σ) {c kd n : Nat} (hk : zk c = kd) (hl : zl c = n) (h9 : kd < 98 := by decide) : zlen σ c = n := h.l (zk_pos (by omega)) hl
theorem zLay.Rf {σ σ' : zS} (h : zLay σ) {c k v : Nat} (hn : zRT c k = none) (e : zsR σ c (va_up (zR σ c) k (some v)) = σ') : zLay σ' := e ▸ h.R hn
theorem zk_ne {a b x y : Nat} (ha : zk a = x) (hb : zk b = y) (h : x ≠ y) : a ≠ b := fun e => h (by rw [← ha, ← hb, e])
theorem zk_1 : zk 1 = 11 := by decide +kernel
theorem zl_1 : zl 1 = 20 := by decide +kernel
theorem zk_2 : zk 2 = 8 := by decide +kernel
theorem zl_2 : zl 2 = 2 := by decide +kernel
theorem zk_3 : zk 3 = 14 := by decide +kernel
theorem zl_3 : zl 3 = 160 := by decide +kernel
theorem zk_4 : zk 4 = 16 := by decide +kernel
theorem zl_4 : zl 4 = 6 := by decide +kernel
theorem zk_5 : zk 5 = 18 := by decide +kernel
theorem zl_5 : zl 5 = 10 := by decide +kernel
theorem zk_6 : zk 6 = 5 := by decide +kernel
theorem zl_6 : zl 6 = 4 := by decide +kernel
theorem zk_7 : zk 7 = 14 := by decide +kernel
theorem zl_7 : zl 7 = 10 := by decide +kernel
theorem zk_8 : zk 8 = 14 := by decide +kernel
theorem zl_8 : zl 8 = 10 := by decide +kernel
theorem zk_9 : zk 9 = 14 := by decide +kernel
theorem zl_9 : zl 9 = 10 := by decide +kernel
theorem zk_10 : zk 10 = 10 := by decide +kernel
theorem zl_10 : zl 10 = 3 := by decide +kernel
theorem zk_11 : zk 11 = 10 := by decide +kernel
theorem zl_11 : zl 11 = 3 := by decide +kernel
theorem zk_12 : zk 12 = 2 := by decide +kernel
theorem zl_12 : zl 12 = 10 := by decide +kernel
theorem zk_13 : zk 13 = 17 := by decide +kernel
theorem zl_13 : zl 13 = 6 := by decide +kernel
theorem zk_14 : zk 14 = 14 := by decide +kernel
theorem zl_14 : zl 14 = 6 := by decide +kernel
theorem zk_15 : zk 15 = 14 := by decide +kernel
theorem zl_15 : zl 15 = 16 := by decide +kernel
theorem zk_16 : zk 16 = 0 := by decide +kernel
theorem zl_16 : zl 16 = 5 := by decide +kernel
theorem zk_17 : zk 17 = 14 := by decide +kernel
theorem zl_17 : zl 17 = 96 := by decide +kernel
theorem zk_18 : zk 18 = 14 := by decide +kernel
theorem zl_18 : zl 18 = 16 := by decide +kernel
theorem zk_19 : zk 19 = 14 := by decide +kernel
theorem zl_19 : zl 19 = 16 := by decide +kernel
theorem zk_20 : zk 20 = 4 := by decide +kernel
theorem zl_20 : zl 20 = 9 := by decide +kernel
theorem zk_21 : zk 21 = 6 := by decide +kernel
theorem zl_21 : zl 21 = 3 := by decide +kernel
theorem zk_22 : zk 22 = 4 := by decide +kernel
theorem zl_22 : zl 22 = 9 := by decide +kernel
theorem zk_23 : zk 23 = 6 := by decide +kernel
theorem zl_23 : zl 23 = 3 := by decide +kernel
theorem zk_24 : zk 24 = 4 := by decide +kernel
theorem zl_24 : zl 24 = 9 := by decide +kernel
theorem zk_25 : zk 25 = 6 := by decide +kernel
theorem zl_25 : zl 25 = 3 := by decide +kernel
theorem zk_26 : zk 26 = 4 := by decide +kernel
theorem zl_26 : zl 26 = 9 := by decide +kernel
theorem zk_27 : zk 27 = 6 := by decide +kernel
theorem zl_27 : zl 27 = 3 := by decide +kernel
theorem zk_28 : zk 28 = 4 := by decide +kernel
theorem zl_28 : zl 28 = 9 := by decide +kernel
theorem zk_29 : zk 29 = 6 := by decide +kernel
theorem zl_29 : zl 29 = 3 := by decide +kernel
theorem zk_30 : zk 30 = 4 := by decide +kernel
theorem zl_30 : zl 30 = 9 := by decide +kernel
theorem zk_31 : zk 31 = 6 := by decide +kernel
theorem zl_31 : zl 31 = 3 := by decide +kernel
theorem zk_32 : zk 32 = 1 := by decide +kernel
theorem zl_32 : zl 32 = 3 := by decide +kernel
theorem zk_33 : zk 33 = 14 := by decide +kernel
theorem zl_33 : zl 33 = 366 := by decide +kernel
theorem zk_34 : zk 34 = 14 := by decide +kernel
theorem zl_34 : zl 34 = 366 := by decide +kernel
theorem zk_35 : zk 35 = 14 := by decide +kernel
theorem zl_35 : zl 35 = 61 := by decide +kernel
theorem zk_36 : zk 36 = 2 := by decide +kernel
theorem zl_36 : zl 36 = 10 := by decide +kernel
theorem zk_37 : zk 37 = 17 := by decide +kernel
theorem zl_37 : zl 37 = 6 := by decide +kernel
theorem zk_38 : zk 38 = 14 := by decide +kernel
theorem zl_38 : zl 38 = 6 := by decide +kernel
theorem zk_39 : zk 39 = 14 := by decide +kernel
theorem zl_39 : zl 39 = 16 := by decide +kernel
theorem zk_40 : zk 40 = 0 := by decide +kernel
theorem zl_40 : zl 40 = 5 := by decide +kernel
theorem zk_41 : zk 41 = 14 := by decide +kernel
theorem zl_41 : zl 41 = 96 := by decide +kernel
theorem zk_42 : zk 42 = 14 := by decide +kernel
theorem zl_42 : zl 42 = 16 := by decide +kernel
theorem zk_43 : zk 43 = 14 := by decide +kernel
theorem zl_43 : zl 43 = 16 := by decide +kernel
theorem zk_44 : zk 44 = 4 := by decide +kernel
theorem zl_44 : zl 44 = 9 := by decide +kernel
theorem zk_45 : zk 45 = 6 := by decide +kernel
theorem zl_45 : zl 45 = 3 := by decide +kernel
theorem zk_46 : zk 46 = 4 := by decide +kernel
theorem zl_46 : zl 46 = 9 := by decide +kernel
theorem zk_47 : zk 47 = 6 := by decide +kernel
theorem zl_47 : zl 47 = 3 := by decide +kernel
theorem zk_48 : zk 48 = 4 := by decide +kernel
theorem zl_48 : zl 48 = 9 := by decide +kernel
theorem zk_49 : zk 49 = 6 := by decide +kernel
theorem zl_49 : zl 49 = 3 := by decide +kernel
theorem zk_50 : zk 50 = 4 := by decide +kernel
theorem zl_50 : zl 50 = 9 := by decide +kernel
theorem zk_51 : zk 51 = 6 := by decide +kernel
theorem zl_51 : zl 51 = 3 := by decide +kernel
theorem zk_52 : zk 52 = 4 := by decide +kernel
theorem zl_52 : zl 52 = 9 := by decide +kernel
theorem zk_53 : zk 53 = 6 := by decide +kernel
theorem zl_53 : zl 53 = 3 := by decide +kernel
theorem zk_54 : zk 54 = 4 := by decide +kernel
theorem zl_54 : zl 54 = 9 := by decide +kernel
theorem zk_55 : zk 55 = 6 := by decide +kernel
theorem zl_55 : zl 55 = 3 := by decide +kernel
theorem zk_56 : zk 56 = 1 := by decide +kernel
theorem zl_56 : zl 56 = 3 := by decide +kernel
theorem zk_57 : zk 57 = 14 := by decide +kernel
theorem zl_57 : zl 57 = 366 := by decide +kernel
theorem zk_58 : zk 58 = 14 := by decide +kernel
theorem zl_58 : zl 58 = 366 := by decide +kernel
theorem zk_59 : zk 59 = 14 := by decide +kernel
theorem zl_59 : zl 59 = 61 := by decide +kernel
theorem zk_60 : zk 60 = 2 := by decide +kernel
theorem zl_60 : zl 60 = 10 := by decide +kernel
theorem zk_61 : zk 61 = 17 := by decide +kernel
theorem zl_61 : zl 61 = 6 := by decide +kernel
theorem zk_62 : zk 62 = 14 := by decide +kernel
theorem zl_62 : zl 62 = 6 := by decide +kernel
theorem zk_63 : zk 63 = 14 := by decide +kernel
theorem zl_63 : zl 63 = 16 := by decide +kernel
theorem zk_64 : zk 64 = 0 := by decide +kernel
theorem zl_64 : zl 64 = 5 := by decide +kernel
theorem zk_65 : zk 65 = 14 := by decide +kernel
theorem zl_65 : zl 65 = 96 := by decide +kernel
theorem zk_66 : zk 66 = 14 := by decide +kernel
theorem zl_66 : zl 66 = 16 := by decide +kernel
theorem zk_67 : zk 67 = 14 := by decide +kernel
theorem zl_67 : zl 67 = 16 := by decide +kernel
theorem zk_68 : zk 68 = 4 := by decide +kernel
theorem zl_68 : zl 68 = 9 := by decide +kernel
theorem zk_69 : zk 69 = 6 := by decide +kernel
theorem zl_69 : zl 69 = 3 := by decide +kernel
theorem zk_70 : zk 70 = 4 := by decide +kernel
theorem zl_70 : zl 70 = 9 := by decide +kernel
theorem zk_71 : zk 71 = 6 := by decide +kernel
theorem zl_71 : zl 71 = 3 := by decide +kernel
theorem zk_72 : zk 72 = 4 := by decide +kernel
theorem zl_72 : zl 72 = 9 := by decide +kernel
theorem zk_73 : zk 73 = 6 := by decide +kernel
theorem zl_73 : zl 73 = 3 := by decide +kernel
theorem zk_74 : zk 74 = 4 := by decide +kernel
theorem zl_74 : zl 74 = 9 := by decide +kernel
theorem zk_75 : zk 75 = 6 := by decide +kernel
theorem zl_75 : zl 75 = 3 := by decide +kernel
theorem zk_76 : zk 76 = 4 := by decide +kernel
theorem zl_76 : zl 76 = 9 := by decide +kernel
theorem zk_77 : zk 77 = 6 := by decide +kernel
theorem zl_77 : zl 77 = 3 := by decide +kernel
theorem zk_78 : zk 78 = 4 := by decide +kernel
theorem zl_78 : zl 78 = 9 := by decide +kernel
theorem zk_79 : zk 79 = 6 := by decide +kernel
theorem zl_79 : zl 79 = 3 := by decide +kernel
theorem zk_80 : zk 80 = 7 := by decide +kernel
theorem zl_80 : zl 80 = 3 := by decide +kernel
theorem zk_81 : zk 81 = 14 := by decide +kernel
theorem zl_81 : zl 81 = 6 := by decide +kernel
theorem zk_82 : zk 82 = 14 := by decide +kernel
theorem zl_82 : zl 82 = 6 := by decide +kernel
theorem zk_83 : zk 83 = 3 := by decide +kernel
theorem zl_83 : zl 83 = 3 := by decide +kernel
theorem zk_84 : zk 84 = 14 := by decide +kernel
theorem zl_84 : zl 84 = 40 := by decide +kernel
theorem zk_85 : zk 85 = 3 := by decide +kernel
theorem zl_85 : zl 85 = 3 := by decide +kernel
theorem zk_86 : zk 86 = 14 := by decide +kernel
theorem zl_86 : zl 86 = 40 := by decide +kernel
theorem zk_87 : zk 87 = 9 := by decide +kernel
theorem zl_87 : zl 87 = 4 := by decide +kernel
theorem zk_88 : zk 88 = 14 := by decide +kernel
theorem zl_88 : zl 88 = 12 := by decide +kernel
theorem zk_89 : zk 89 = 14 := by decide +kernel
theorem zl_89 : zl 89 = 12 := by decide +kernel
theorem zk_90 : zk 90 = 14 := by decide +kernel
theorem zl_90 : zl 90 = 6 := by decide +kernel
theorem zk_91 : zk 91 = 0 := by decide +kernel
theorem zl_91 : zl 91 = 5 := by decide +kernel
theorem zk_92 : zk 92 = 14 := by decide +kernel
theorem zl_92 : zl 92 = 96 := by decide +kernel
theorem zk_93 : zk 93 = 14 := by decide +kernel
theorem zl_93 : zl 93 = 16 := by decide +kernel
theorem zk_94 : zk 94 = 14 := by decide +kernel
theorem zl_94 : zl 94 = 16 := by decide +kernel
theorem zk_95 : zk 95 = 6 := by decide +kernel
theorem zl_95 : zl 95 = 3 := by decide +kernel
theorem zk_96 : zk 96 = 14 := by decide +kernel
theorem zl_96 : zl 96 = 21 := by decide +kernel
theorem zk_97 : zk 97 = 0 := by decide +kernel
theorem zl_97 : zl 97 = 5 := by decide +kernel
theorem zk_98 : zk 98 = 14 := by decide +kernel
theorem zl_98 : zl 98 = 96 := by decide +kernel
theorem zk_99 : zk 99 = 14 := by decide +kernel
theorem zl_99 : zl 99 = 16 := by decide +kernel
theorem zk_100 : zk 100 = 14 := by decide +kernel
theorem zl_100 : zl 100 = 16 := by decide +kernel
theorem zk_101 : zk 101 = 0 := by decide +kernel
theorem zl_101 : zl 101 = 5 := by decide +kernel
theorem zk_102 : zk 102 = 14 := by decide +kernel
theorem zl_102 : zl 102 = 96 := by decide +kernel
theorem zk_103 : zk 103 = 14 := by decide +kernel
theorem zl_103 : zl 103 = 16 := by decide +kernel
theorem zk_104 : zk 104 = 14 := by decide +kernel
theorem zl_104 : zl 104 = 16 := by decide +kernel
theorem zk_105 : zk 105 = 0 := by decide +kernel
theorem zl_105 : zl 105 = 5 := by decide +kernel
theorem zk_106 : zk 106 = 14 := by decide +kernel
theorem zl_106 : zl 106 = 96 := by decide +kernel
theorem zk_107 : zk 107 = 14 := by decide +kernel
theorem zl_107 : zl 107 = 16 := by decide +kernel
theorem zk_108 : zk 108 = 14 := by decide +kernel
theorem zl_108 : zl 108 = 16 := by decide +kernel
theorem zk_109 : zk 109 = 0 := by decide +kernel
theorem zl_109 : zl 109 = 5 := by decide +kernel
theorem zk_110 : zk 110 = 14 := by decide +kernel
theorem zl_110 : zl 110 = 96 := by decide +kernel
theorem zk_111 : zk 111 = 14 := by decide +kernel
theorem zl_111 : zl 111 = 16 := by decide +kernel
theorem zk_112 : zk 112 = 14 := by decide +kernel
theorem zl_112 : zl 112 = 16 := by decide +kernel
theorem zk_113 : zk 113 = 0 := by decide +kernel
theorem zl_113 : zl 113 = 5 := by decide +kernel
theorem zk_114 : zk 114 = 14 := by decide +kernel
theorem zl_114 : zl 114 = 96 := by decide +kernel
theorem zk_115 : zk 115 = 14 := by decide +kernel
theorem zl_115 : zl 115 = 16 := by decide +kernel
theorem zk_116 : zk 116 = 14 := by decide +kernel
theorem zl_116 : zl 116 = 16 := by decide +kernel
theorem zk_117 : zk 117 = 0 := by decide +kernel
theorem zl_117 : zl 117 = 5 := by decide +kernel
theorem zk_118 : zk 118 = 14 := by decide +kernel
theorem zl_118 : zl 118 = 96 := by decide +kernel
theorem zk_119 : zk 119 = 14 := by decide +kernel
theorem zl_119 : zl 119 = 16 := by decide +kernel
theorem zk_120 : zk 120 = 14 := by decide +kernel
theorem zl_120 : zl 120 = 16 := by decide +kernel
theorem zk_121 : zk 121 = 6 := by decide +kernel
theorem zl_121 : zl 121 = 3 := by decide +kernel
theorem zk_122 : zk 122 = 6 := by decide +kernel
theorem zl_122 : zl 122 = 3 := by decide +kernel
theorem zk_123 : zk 123 = 6 := by decide +kernel
theorem zl_123 : zl 123 = 3 := by decide +kernel
theorem zk_124 : zk 124 = 6 := by decide +kernel
theorem zl_124 : zl 124 = 3 := by decide +kernel
theorem zk_125 : zk 125 = 6 := by decide +kernel
theorem zl_125 : zl 125 = 3 := by decide +kernel
theorem zk_126 : zk 126 = 6 := by decide +kernel
theorem zl_126 : zl 126 = 3 := by decide +kernel
theorem zk_127 : zk 127 = 6 := by decide +kernel
theorem zl_127 : zl 127 = 3 := by decide +kernel
theorem zk_128 : zk 128 = 6 := by decide +kernel
theorem zl_128 : zl 128 = 3 := by decide +kernel
theorem zk_129 : zk 129 = 6 := by decide +kernel
theorem zl_129 : zl 129 = 3 := by decide +kernel
theorem zk_130 : zk 130 = 6 := by decide +kernel
theorem zl_130 : zl 130 = 3 := by decide +kernel
theorem zk_131 : zk 131 = 12 := by decide +kernel
theorem zl_131 : zl 131 = 60 := by decide +kernel
theorem zk_132 : zk 132 = 13 := by decide +kernel
theorem zl_132 : zl 132 = 160 := by decide +kernel
theorem zk_133 : zk 133 = 14 := by decide +kernel
theorem zl_133 : zl 133 = 672 := by decide +kernel
theorem zk_134 : zk 134 = 14 := by decide +kernel
theorem zl_134 : zl 134 = 7 := by decide +kernel
theorem zk_135 : zk 135 = 14 := by decide +kernel
theorem zl_135 : zl 135 = 7 := by decide +kernel
theorem zk_136 : zk 136 = 14 := by decide +kernel
theorem zl_136 : zl 136 = 11 := by decide +kernel
theorem zk_137 : zk 137 = 14 := by decide +kernel
theorem zl_137 : zl 137 = 11 := by decide +kernel
theorem zk_138 : zk 138 = 14 := by decide +kernel
theorem zl_138 : zl 138 = 11 := by decide +kernel
theorem zk_139 : zk 139 = 14 := by decide +kernel
theorem zl_139 : zl 139 = 66 := by decide +kernel
theorem zk_140 : zk 140 = 14 := by decide +kernel
theorem zl_140 : zl 140 = 66 := by decide +kernel
theorem zk_141 : zk 141 = 14 := by decide +kernel
theorem zl_141 : zl 141 = 66 := by decide +kernel
theorem zk_142 : zk 142 = 14 := by decide +kernel
theorem zl_142 : zl 142 = 366 := by decide +kernel
theorem zk_143 : zk 143 = 14 := by decide +kernel
theorem zl_143 : zl 143 = 366 := by decide +kernel
theorem zk_144 : zk 144 = 14 := by decide +kernel
theorem zl_144 : zl 144 = 61 := by decide +kernel
theorem zk_145 : zk 145 = 14 := by decide +kernel
theorem zl_145 : zl 145 = 16 := by decide +kernel
theorem zk_146 : zk 146 = 14 := by decide +kernel
theorem zl_146 : zl 146 = 366 := by decide +kernel
theorem zk_147 : zk 147 = 14 := by decide +kernel
theorem zl_147 : zl 147 = 366 := by decide +kernel
theorem zk_148 : zk 148 = 14 := by decide +kernel
theorem zl_148 : zl 148 = 61 := by decide +kernel
theorem zk_149 : zk 149 = 14 := by decide +kernel
theorem zl_149 : zl 149 = 16 := by decide +kernel
theorem zk_150 : zk 150 = 14 := by decide +kernel
theorem zl_150 : zl 150 = 6 := by decide +kernel
theorem zk_151 : zk 151 = 15 := by decide +kernel
theorem zl_151 : zl 151 = 6 := by decide +kernel
theorem zk_152 : zk 152 = 14 := by decide +kernel
theorem zl_152 : zl 152 = 22 := by decide +kernel
theorem zk_153 : zk 153 = 14 := by decide +kernel
theorem zl_153 : zl 153 = 6 := by decide +kernel
theorem zk_154 : zk 154 = 14 := by decide +kernel
theorem zl_154 : zl 154 = 12 := by decide +kernel
theorem zk_155 : zk 155 = 14 := by decide +kernel
theorem zl_155 : zl 155 = 72 := by decide +kernel
theorem zk_156 : zk 156 = 14 := by decide +kernel
theorem zl_156 : zl 156 = 10 := by decide +kernel
theorem zk_157 : zk 157 = 14 := by decide +kernel
theorem zl_157 : zl 157 = 10 := by decide +kernel
theorem zk_158 : zk 158 = 14 := by decide +kernel
theorem zl_158 : zl 158 = 10 := by decide +kernel
theorem zk_159 : zk 159 = 14 := by decide +kernel
theorem zl_159 : zl 159 = 6 := by decide +kernel
theorem zk_160 : zk 160 = 14 := by decide +kernel
theorem zl_160 : zl 160 = 6 := by decide +kernel
theorem zk_161 : zk 161 = 14 := by decide +kernel
theorem zl_161 : zl 161 = 10 := by decide +kernel
theorem zk_162 : zk 162 = 14 := by decide +kernel
theorem zl_162 : zl 162 = 10 := by decide +kernel
theorem zk_163 : zk 163 = 14 := by decide +kernel
theorem zl_163 : zl 163 = 40 := by decide +kernel
theorem zk_164 : zk 164 = 19 := by decide +kernel
theorem zl_164 : zl 164 = 1 := by decide +kernel
theorem zrt_1_0 : zRT 1 0 = some 2 := by decide +kernel
theorem zrt_1_1 : zRT 1 1 = some 4 := by decide +kernel
theorem zrt_1_3 : zRT 1 3 = some 5 := by decide +kernel
theorem zrt_1_5 : zRT 1 5 = some 6 := by decide +kernel
theorem zrt_1_6 : zRT 1 6 = some 10 := by decide +kernel
theorem zrt_1_7 : zRT 1 7 = some 11 := by decide +kernel
theorem zrt_1_8 : zRT 1 8 = some 12 := by decide +kernel
theorem zrt_1_9 : zRT 1 9 = some 32 := by decide +kernel
theorem zrt_1_10 : zRT 1 10 = some 36 := by decide +kernel
theorem zrt_1_11 : zRT 1 11 = some 56 := by decide +kernel
theorem zrt_1_12 : zRT 1 12 = some 60 := by decide +kernel
theorem zrt_1_13 : zRT 1 13 = some 80 := by decide +kernel
theorem zrt_1_14 : zRT 1 14 = some 83 := by decide +kernel
theorem zrt_1_15 : zRT 1 15 = some 85 := by decide +kernel
theorem zrt_1_16 : zRT 1 16 = some 87 := by decide +kernel
theorem zrt_1_17 : zRT 1 17 = some 91 := by decide +kernel
theorem zrt_1_18 : zRT 1 18 = some 95 := by decide +kernel
theorem zrt_1_19 : zRT 1 19 = some 96 := by decide +kernel
theorem zrt_2_0 : zRT 2 0 = some 3 := by decide +kernel
theorem zrt_6_0 : zRT 6 0 = some 7 := by decide +kernel
theorem zrt_6_1 : zRT 6 1 = some 8 := by decide +kernel
theorem zrt_6_2 : zRT 6 2 = some 9 := by decide +kernel
theorem zrt_12_0 : zRT 12 0 = some 13 := by decide +kernel
theorem zrt_12_1 : zRT 12 1 = some 14 := by decide +kernel
theorem zrt_12_2 : zRT 12 2 = some 15 := by decide +kernel
theorem zrt_16_0 : zRT 16 0 = some 17 := by decide +kernel
theorem zrt_16_1 : zRT 16 1 = some 18 := by decide +kernel
theorem zrt_16_2 : zRT 16 2 = some 19 := by decide +kernel
theorem zrt_32_0 : zRT 32 0 = some 33 := by decide +kernel
theorem zrt_32_1 : zRT 32 1 = some 34 := by decide +kernel
theorem zrt_32_2 : zRT 32 2 = some 35 := by decide +kernel
theorem zrt_36_0 : zRT 36 0 = some 37 := by decide +kernel
theorem zrt_36_1 : zRT 36 1 = some 38 := by decide +kernel
theorem zrt_36_2 : zRT 36 2 = some 39 := by decide +kernel
theorem zrt_40_0 : zRT 40 0 = some 41 := by decide +kernel
theorem zrt_40_1 : zRT 40 1 = some 42 := by decide +kernel
theorem zrt_40_2 : zRT 40 2 = some 43 := by decide +kernel
theorem zrt_56_0 : zRT 56 0 = some 57 := by decide +kernel
theorem zrt_56_1 : zRT 56 1 = some 58 := by decide +kernel
theorem zrt_56_2 : zRT 56 2 = some 59 := by decide +kernel
theorem zrt_60_0 : zRT 60 0 = some 61 := by decide +kernel
theorem zrt_60_1 : zRT 60 1 = some 62 := by decide +kernel
theorem zrt_60_2 : zRT 60 2 = some 63 := by decide +kernel
theorem zrt_64_0 : zRT 64 0 = some 65 := by decide +kernel
theorem zrt_64_1 : zRT 64 1 = some 66 := by decide +kernel
theorem zrt_64_2 : zRT 64 2 = some 67 := by decide +kernel
theorem zrt_80_0 : zRT 80 0 = some 81 := by decide +kernel
theorem zrt_80_1 : zRT 80 1 = some 82 := by decide +kernel
theorem zrt_83_0 : zRT 83 0 = some 84 := by decide +kernel
theorem zrt_85_0 : zRT 85 0 = some 86 := by decide +kernel
theorem zrt_87_0 : zRT 87 0 = some 88 := by decide +kernel
theorem zrt_87_1 : zRT 87 1 = some 89 := by decide +kernel
theorem zrt_87_2 : zRT 87 2 = some 90 := by decide +kernel
theorem zrt_91_0 : zRT 91 0 = some 92 := by decide +kernel
theorem zrt_91_1 : zRT 91 1 = some 93 := by decide +kernel
theorem zrt_91_2 : zRT 91 2 = some 94 := by decide +kernel
theorem zrt_97_0 : zRT 97 0 = some 98 := by decide +kernel
theorem zrt_97_1 : zRT 97 1 = some 99 := by decide +kernel
theorem zrt_97_2 : zRT 97 2 = some 100 := by decide +kernel
theorem zrt_101_0 : zRT 101 0 = some 102 := by decide +kernel
theorem zrt_101_1 : zRT 101 1 = some 103 := by decide +kernel
theorem zrt_101_2 : zRT 101 2 = some 104 := by decide +kernel
theorem zrt_105_0 : zRT 105 0 = some 106 := by decide +kernel
theorem zrt_105_1 : zRT 105 1 = some 107 := by decide +kernel
theorem zrt_105_2 : zRT 105 2 = some 108 := by decide +kernel
theorem zrt_109_0 : zRT 109 0 = some 110 := by decide +kernel
theorem zrt_109_1 : zRT 109 1 = some 111 := by decide +kernel
theorem zrt_109_2 : zRT 109 2 = some 112 := by decide +kernel
theorem zrt_113_0 : zRT 113 0 = some 114 := by decide +kernel
theorem zrt_113_1 : zRT 113 1 = some 115 := by decide +kernel
theorem zrt_113_2 : zRT 113 2 = some 116 := by decide +kernel
theorem zrt_117_0 : zRT 117 0 = some 118 := by decide +kernel
theorem zrt_117_1 : zRT 117 1 = some 119 := by decide +kernel
theorem zrt_117_2 : zRT 117 2 = some 120 := by decide +kernel
theorem zrt_131_1 : zRT 131 1 = some 132 := by decide +kernel
theorem zrt_131_5 : zRT 131 5 = some 133 := by decide +kernel
theorem zrt_131_6 : zRT 131 6 = some 134 := by decide +kernel
theorem zrt_131_7 : zRT 131 7 = some 135 := by decide +kernel
theorem zrt_131_8 : zRT 131 8 = some 136 := by decide +kernel
theorem zrt_131_9 : zRT 131 9 = some 137 := by decide +kernel
theorem zrt_131_10 : zRT 131 10 = some 138 := by decide +kernel
theorem zrt_131_16 : zRT 131 16 = some 139 := by decide +kernel
theorem zrt_131_17 : zRT 131 17 = some 140 := by decide +kernel
theorem zrt_131_18 : zRT 131 18 = some 141 := by decide +kernel
theorem zrt_131_35 : zRT 131 35 = some 142 := by decide +kernel
theorem zrt_131_36 : zRT 131 36 = some 143 := by decide +kernel
theorem zrt_131_37 : zRT 131 37 = some 144 := by decide +kernel
theorem zrt_131_38 : zRT 131 38 = some 145 := by decide +kernel
theorem zrt_131_39 : zRT 131 39 = some 146 := by decide +kernel
theorem zrt_131_40 : zRT 131 40 = some 147 := by decide +kernel
theorem zrt_131_41 : zRT 131 41 = some 148 := by decide +kernel
theorem zrt_131_42 : zRT 131 42 = some 149 := by decide +kernel
theorem zrt_131_44 : zRT 131 44 = some 150 := by decide +kernel
theorem zrt_131_45 : zRT 131 45 = some 151 := by decide +kernel
theorem zrt_131_46 : zRT 131 46 = some 152 := by decide +kernel
theorem zrt_131_47 : zRT 131 47 = some 153 := by decide +kernel
theorem zrt_131_48 : zRT 131 48 = some 154 := by decide +kernel
theorem zrt_131_49 : zRT 131 49 = some 155 := by decide +kernel
theorem zrt_131_51 : zRT 131 51 = some 156 := by decide +kernel
theorem zrt_131_52 : zRT 131 52 = some 157 := by decide +kernel
theorem zrt_131_53 : zRT 131 53 = some 158 := by decide +kernel
theorem zrt_131_55 : zRT 131 55 = some 159 := by decide +kernel
theorem zrt_131_56 : zRT 131 56 = some 160 := by decide +kernel
theorem zrt_131_57 : zRT 131 57 = some 161 := by decide +kernel
theorem zrt_131_58 : zRT 131 58 = some 162 := by decide +kernel
theorem zrt_131_59 : zRT 131 59 = some 163 := by decide +kernel
theorem zrt0_0 {t : Nat} (h : zk t = 0) : zRT t 0 = some (t + 1) := by unfold zRT; rw [h]; rfl
theorem zrt0_1 {t : Nat} (h : zk t = 0) : zRT t 1 = some (t + 2) := by unfold zRT; rw [h]; rfl
theorem zrt0_2 {t : Nat} (h : zk t = 0) : zRT t 2 = some (t + 3) := by unfold zRT; rw [h]; rfl
theorem zrt1_0 {t : Nat} (h : zk t = 1) : zRT t 0 = some (t + 1) := by unfold zRT; rw [h]; rfl
theorem zrt1_1 {t : Nat} (h : zk t = 1) : zRT t 1 = some (t + 2) := by unfold zRT; rw [h]; rfl
theorem zrt1_2 {t : Nat} (h : zk t = 1) : zRT t 2 = some (t + 3) := by unfold zRT; rw [h]; rfl
theorem zrt2_0 {t : Nat} (h : zk t = 2) : zRT t 0 = some (t + 1) := by unfold zRT; rw [h]; rfl
theorem zrt2_1 {t : Nat} (h : zk t = 2) : zRT t 1 = some (t + 2) := by unfold zRT; rw [h]; rfl
theorem zrt2_2 {t : Nat} (h : zk t = 2) : zRT t 2 = some (t + 3) := by unfold zRT; rw [h]; rfl
theorem zrt3_0 {t : Nat} (h : zk t = 3) : zRT t 0 = some (t + 1) := by unfold zRT; rw [h]; rfl
theorem zrt5_0 {t : Nat} (h : zk t = 5) : zRT t 0 = some (t + 1) := by unfold zRT; rw [h]; rfl
theorem zrt5_1 {t : Nat} (h : zk t = 5) : zRT t 1 = some (t + 2) := by unfold zRT; rw [h]; rfl
theorem zrt5_2 {t : Nat} (h : zk t = 5) : zRT t 2 = some (t + 3) := by unfold zRT; rw [h]; rfl
theorem zrt7_0 {t : Nat} (h : zk t = 7) : zRT t 0 = some (t + 1) := by unfold zRT; rw [h]; rfl
theorem zrt7_1 {t : Nat} (h : zk t = 7) : zRT t 1 = some (t + 2) := by unfold zRT; rw [h]; rfl
theorem zrt8_0 {t : Nat} (h : zk t = 8) : zRT t 0 = some (t + 1) := by unfold zRT; rw [h]; rfl
theorem zrt9_0 {t : Nat} (h : zk t = 9) : zRT t 0 = some (t + 1) := by unfold zRT; rw [h]; rfl
theorem zrt9_1 {t : Nat} (h : zk t = 9) : zRT t 1 = some (t + 2) := by unfold zRT; rw [h]; rfl
theorem zrt9_2 {t : Nat} (h : zk t = 9) : zRT t 2 = some (t + 3) := by unfold zRT; rw [h]; rfl
theorem zrtN2_3 {t : Nat} (h : zk t = 2) : zRT t 3 = none := by unfold zRT; rw [h]; rfl
theorem zrtN4_0 {t : Nat} (h : zk t = 4) : zRT t 0 = none := by unfold zRT; rw [h]; rfl
