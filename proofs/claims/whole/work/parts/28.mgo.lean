/-! the model's turn of a runner -/
def mWr (rec : Prop) : Nat → Nat → Nat → Prop := fun j c k => (j = 0 ∧ (c = 139 ∨ c = 150 ∨ c = 151 ∨ (c = 145 ∧ rec) ∨ (c = 131 ∧ (k = 21 ∨ k = 22)))) ∨ (j = 1 ∧ c = 131 ∧ k = 31)
theorem mW_fr {W : Nat → Nat → Nat → Prop} {σ σ' : zS} (h : zFr W σ σ') (w : ¬ W 0 131 13 ∧ ¬ W 0 131 14 ∧ ¬ W 0 131 15) : mW σ' = mW σ := by
  unfold mW
  rw [h.i w.1, h.i w.2.1, h.i w.2.2]
theorem mB_fr {W : Nat → Nat → Nat → Prop} {σ σ' : zS} (h : zFr W σ σ') (b : Nat) (w : (∀ k, ¬ W 0 133 k) ∧ (∀ k, ¬ W 0 134 k) ∧ ∀ k, ¬ W 0 135 k) : mB σ' b = mB σ b := by
  unfold mB
  rw [h.i (w.2.1 b), h.i (w.2.2 b)]
  congr 1
  funext y x
  split
  · rw [h.i (w.1 _)]
  · rfl
theorem mWr_0 {rec : Prop} {c k : Nat} (h : c ≠ 139 ∧ c ≠ 150 ∧ c ≠ 151 ∧ c ≠ 145 ∧ (c = 131 → k ≠ 21 ∧ k ≠ 22)) : ¬ mWr rec 0 c k := by
  unfold mWr
  omega
theorem mWr_2 {rec : Prop} {c k : Nat} : ¬ mWr rec 2 c k := by
  unfold mWr
  omega
theorem mCx_fr {rec : Prop} {σ σ' : zS} {n bi : Nat} {B : aBk} {W : aWx} (h : zFr (mWr rec) σ σ') (C : mCx σ n bi B W) : mCx σ' n bi B W := by
  obtain ⟨c1, c2, c3, c4, c5, c6, c7, c8, c9⟩ := C
  refine ⟨h.lay c1 (fun _ _ _ _ => mWr_2), c2, ?_, c4, ?_, ?_, ?_, c8, c9⟩
  · rw [h.i (mWr_0 (by omega))]; exact c3
  · rw [h.i (mWr_0 (by omega))]; exact c5
  · rw [mB_fr h bi ⟨fun k => mWr_0 (by omega), fun k => mWr_0 (by omega), fun k => mWr_0 (by omega)⟩]; exact c6
  · rw [mW_fr h ⟨mWr_0 (by omega), mWr_0 (by omega), mWr_0 (by omega)⟩]; exact c7
/-- the same of one runner's turn -/
def mWg (rec : Prop) : Nat → Nat → Nat → Prop := fun j c k => (j = 0 ∧ (c = 139 ∨ (c = 145 ∧ rec) ∨ (c = 131 ∧ k = 22))) ∨ (j = 1 ∧ c = 131 ∧ k = 31)
theorem mWg_r {rec : Prop} {σ σ' : zS} (h : zFr (mWg rec) σ σ') : zFr (mWr rec) σ σ' := h.mono (fun j c k q => by
  unfold mWg at q
  unfold mWr
  rcases q with ⟨q0, q | q | q⟩ | q
  · exact Or.inl ⟨q0, Or.inl q⟩
  · exact Or.inl ⟨q0, Or.inr (Or.inr (Or.inr (Or.inl q)))⟩
  · exact Or.inl ⟨q0, Or.inr (Or.inr (Or.inr (Or.inr ⟨q.1, Or.inr q.2⟩)))⟩
  · exact Or.inr q)
theorem mCx_fg {rec : Prop} {σ σ' : zS} {n bi : Nat} {B : aBk} {W : aWx} (h : zFr (mWg rec) σ σ') (C : mCx σ n bi B W) : mCx σ' n bi B W := mCx_fr (mWg_r h) C
def mHas (σ : zS) (n : Nat) (rec : Prop) (D : aD) : Prop := mF σ n = D.1 ∧ (zI σ 131 22).toInt = D.2.1 ∧ zL σ 131 31 = D.2.2.1 ∧ zI σ 131 43 = zb rec ∧ (rec → ∀ x : Nat, x < 16 → (zI σ 145 x).toInt = D.2.2.2.2 x)
theorem mS_fw {rec : Prop} {σ : zS} {r w : Nat} {v : Int32} : zFr (mWg rec) σ (mS σ r w v) := mS_fr (fun _ => Or.inl ⟨rfl, Or.inl rfl⟩)
theorem mS_has {σ : zS} {n : Nat} {rec : Prop} {D : aD} {r w : Nat} {v : Int32} {a : Int} (h : mHas σ n rec D) (hr : r < n) (hw : w < 11) (hv : v.toInt = a) : mHas (mS σ r w v) n rec (aU D.1 r w a, D.2) := by
  obtain ⟨h1, h2, h3, h4, h5⟩ := h
  refine ⟨mS_F h1 hr hw hv, ?_, h3, ?_, fun q x hx => ?_⟩
  · unfold mS; rw [zI_ne (by decide)]; exact h2
  · unfold mS; rw [zI_ne (by decide)]; exact h4
  · unfold mS; rw [zI_ne (by decide)]; exact h5 q x hx
/-- what all runners keep while a race goes: lengths and lanes -/
def aLn (B : aBk) (F : aFn) (n : Nat) : Prop := ∀ o, o < n → 1 ≤ F o 0 ∧ F o 0 ≤ 5 ∧ 0 ≤ F o 5 ∧ F o 5 + F o 0 ≤ B.2.1
theorem aLn_u {B : aBk} {F : aFn} {n r w : Nat} {v : Int} (h : aLn B F n) (h0 : w ≠ 0) (h5 : w ≠ 5) : aLn B (aU F r w v) n := by
  intro o ho
  rw [aU_w h0.symm, aU_w h5.symm]
  exact h o ho
theorem aLn_6 {B : aBk} {F : aFn} {n : Nat} (hB : aBok B) (h : aLn B F n) : ∀ r, r < n → 0 ≤ F r 5 ∧ F r 5 ≤ 6 ∧ 0 ≤ F r 0 ∧ F r 0 ≤ 9 := by
  intro r hr
  have := h r hr
  have := hB.2.1
  omega
theorem aAside_w {B : aBk} {W : aWx} {n : Nat} {F : aFn} {r : Nat} {y : Int} {r' w : Nat} (h : w ≠ 5) : aAside B W n F r y r' w = F r' w := by
  unfold aAside
  by_cases c : aCan B W (F r 0) (F r 4) y ∧ aFree n F r (F r 0) (F r 4) y
  · rw [zif_t c, aU_w h]
  · rw [zif_f c]
theorem aAside_ln {B : aBk} {W : aWx} {n : Nat} {F : aFn} {r : Nat} {y : Int} (h : aLn B F n) : aLn B (aAside B W n F r y) n := by
  unfold aAside
  by_cases c : aCan B W (F r 0) (F r 4) y ∧ aFree n F r (F r 0) (F r 4) y
  · rw [zif_t c]
    intro o ho
    rw [aU_w (by decide)]
    by_cases e : o = r
    · subst e
      rw [aU_s]
      have := h o ho
      have := c.1.1
      have := c.1.2.1
      omega
    · rw [aU_r e]
      exact h o ho
  · rw [zif_f c]
    exact h
section MGO
variable {d : Nat} {σ : zS} {Q : Option Value → zS → Prop}
theorem m_pace {n bi : Nat} {B : aBk} {W : aWx} (C : mCx σ n bi B W) {x y : Int32} (hx : 0 ≤ x.toInt ∧ x.toInt < B.2.2) (hy : 0 ≤ y.toInt ∧ y.toInt < B.2.1) (h : ∀ v : Int32, v.toInt = aPace B W x.toInt y.toInt → Q (some (.int v)) σ) : zCall (d + 1) kX12_paceOf [.ref 131, .int (nI bi), .int x, .int y] σ Q := by
  obtain ⟨hl, c2, c3, c4, c5, c6, c7, c8, c9⟩ := C
  obtain ⟨b1, b2, b3, b4, b5⟩ := c8
  have eh : (zI σ 131 14).toInt = W.2.1 := by rw [← c7]; rfl
  have hs := b5 y.toInt.toNat x.toInt.toNat (by omega) (by omega)
  have w1 := c9.2.2.1
  have w2 := c9.2.2.2.1
  refine (bX12_paceOf_0 hl).mpr (m_sign hl c4 (by omega) (by omega) (fun v hv => ⟨rfl, (bX12_paceOf_7 hl).mpr ?_⟩))
  rw [c6] at hv
  unfold aPace at h
  refine zeq' hv k0 (fun e => h _ ?_) (fun e => zeq' hv k10 (fun e2 => h _ ?_) (fun e2 => h _ ?_))
  · rw [if_pos e]; rfl
  · rw [if_neg e, if_pos e2]; exact zadd k1 eh
  · rw [if_neg e, if_neg e2]; exact zadd hv eh
theorem aPace_b {B : aBk} {W : aWx} (hB : aBok B) (hW : aWok W) {x y : Int} (hx : 0 ≤ x ∧ x < B.2.2) (hy : 0 ≤ y ∧ y < B.2.1) : 0 ≤ aPace B W x y ∧ aPace B W x y ≤ 13 := by
  have hs := hB.2.2.2.2 y.toNat x.toNat (by omega) (by omega)
  have w1 := hW.2.2.1
  have w2 := hW.2.2.2.1
  unfold aPace
  split
  · omega
  · split <;> omega
theorem aSum_b {f : Nat → Int} : ∀ k : Nat, (∀ j, j < k → 0 ≤ f j ∧ f j ≤ 13) → 0 ≤ aSum f k ∧ aSum f k ≤ 13 * k
  | 0, _ => by unfold aSum; omega
  | k + 1, h => by
    have := aSum_b k (fun j hj => h j (by omega))
    have := h k (by omega)
    unfold aSum
    omega
theorem aTop_b {f : Nat → Int} : ∀ k : Nat, (∀ j, j < k → 0 ≤ f j ∧ f j ≤ 13) → 0 ≤ aTop f k ∧ aTop f k ≤ 13
  | 0, _ => by unfold aTop; omega
  | k + 1, h => by
    have := aTop_b k (fun j hj => h j (by omega))
    have := h k (by omega)
    unfold aTop
    split <;> omega
theorem m_pull_l {n bi r : Nat} {B : aBk} {W : aWx} {F : aFn} (C : mCx σ n bi B W) (hF : mF σ n = F) (hr : r < n) (hL : aLn B F n) (hx : 0 ≤ F r 4 ∧ F r 4 < B.2.2) (hh : 0 ≤ F r 1 ∧ F r 1 ≤ 9) (h : ∀ v : Int32, v.toInt = aPull B W F r → Q (some (.int v)) σ) :
    ∀ (m k : Nat) (s t : Int32) (v5 : Value), (F r 0).toNat - k = m → k ≤ (F r 0).toNat → s.toInt = aSum (fun k => aPace B W (F r 4) (F r 5 + k)) k → t.toInt = aTop (fun k => aPace B W (F r 4) (F r 5 + k)) k → v5.category = 1 → zW (d + 2) kX12_pullOf 7 [.ref 131, .int (nI r), .int s, .int t, .int (nI k), v5] [] σ Q := by
  have C' := C
  obtain ⟨hl, hn, c3, c4, c5, c6, c7, c8, c9⟩ := C
  have hB1 := c8.2.1
  have hLr := hL r hr
  have hf : ∀ j, j < (F r 0).toNat → 0 ≤ aPace B W (F r 4) (F r 5 + (j : Nat)) ∧ aPace B W (F r 4) (F r 5 + (j : Nat)) ≤ 13 := fun j hj => aPace_b c8 c9 hx (by omega)
  intro m
  induction m with
  | zero =>
    intro k s t v5 hm hk hs ht hc
    have e : k = (F r 0).toNat := by omega
    subst e
    have b1 := aSum_b _ hf
    have b2 := aTop_b _ hf
    refine (bX12_pullOf_7 hl hc).mpr (m_of hl 0 hF hn hr (by omega) (fun v hv => ⟨rfl, (bX12_pullOf_15 hl hc).mpr (zle' hv (ai_n (by omega)) (fun e => ?_) (fun e => by omega))⟩))
    refine m_of hl 0 hF hn hr (by omega) (fun v hv => ⟨rfl, (bX12_pullOf_67 hl hc).mpr ?_⟩)
    have fin : ∀ p : Int32, p.toInt = (if F r 0 < 3 then aTop (fun k => aPace B W (F r 4) (F r 5 + k)) (F r 0).toNat else aSum (fun k => aPace B W (F r 4) (F r 5 + k)) (F r 0).toNat / F r 0) → 0 ≤ p.toInt → p.toInt ≤ 100 → zW (d + 2) kX12_pullOf 83 [.ref 131, .int (nI r), .int s, .int t, .int (nI (F r 0).toNat), v5] [.int p] σ Q := by
      intro p hp hp0 hp1
      refine (bX12_pullOf_83 hl hc).mpr (m_of hl 1 hF hn hr (by omega) (fun v1 hv1 => ⟨rfl, (bX12_pullOf_95 hl hc).mpr ⟨by decide, h _ ?_⟩⟩))
      unfold aPull
      rw [← hp]
      refine zmax k0 (zsub rfl (zdiv (zmax k0 (zsub hv1 k5)) k2))
    refine zle' k3 hv (fun e2 => ?_) (fun e2 => ?_)
    · refine m_of hl 0 hF hn hr (by omega) (fun v2 hv2 => ⟨rfl, (bX12_pullOf_82 hl hc).mpr ⟨fun q => ?_, fin _ ?_ ?_ ?_⟩⟩)
      · rw [q, k0] at hv2; omega
      · rw [if_neg (by omega)]; exact zdiv hs hv2
      · rw [zdiv hs hv2]; exact Int.ediv_nonneg b1.1 (by omega)
      · rw [zdiv hs hv2]
        have b3 : aSum (fun k => aPace B W (F r 4) (F r 5 + k)) (F r 0).toNat / F r 0 ≤ 13 := Int.ediv_le_of_le_mul (by omega) (by omega)
        omega
    · refine fin _ ?_ (by omega) (by omega)
      rw [if_pos (by omega)]; exact ht
  | succ m ih =>
    intro k s t v5 hm hk hs ht hc
    have hk' : k < (F r 0).toNat := by omega
    have b1 := aSum_b k (fun j hj => hf j (by omega))
    have b2 := hf k hk'
    refine (bX12_pullOf_7 hl hc).mpr (m_of hl 0 hF hn hr (by omega) (fun v hv => ⟨rfl, (bX12_pullOf_15 hl hc).mpr (zle' hv (ai_n (by omega)) (fun e => by omega) (fun e => ?_))⟩))
    refine m_of hl 4 hF hn hr (by omega) (fun v4 hv4 => ⟨rfl, (bX12_pullOf_29 hl hc).mpr (m_of hl 5 hF hn hr (by omega) (fun vl hvl => ⟨rfl, (bX12_pullOf_35 hl hc).mpr ?_⟩))⟩)
    have ey : (vl + nI k).toInt = F r 5 + k := zadd hvl (ai_n (by omega))
    rw [c5]
    refine m_pace C' (by rw [hv4]; exact hx) (by rw [ey]; omega) (fun p hp => ⟨rfl, (bX12_pullOf_41 hl hc).mpr ?_⟩)
    rw [hv4, ey] at hp
    rw [nI_1]
    have e1 : (s + p).toInt = aSum (fun k => aPace B W (F r 4) (F r 5 + k)) k + aPace B W (F r 4) (F r 5 + (k : Int)) := zadd hs hp
    exact ih (k + 1) _ _ _ (by omega) (by omega) e1 (ztop ht hp) (zcat_i _)
theorem m_pull {n bi r : Nat} {B : aBk} {W : aWx} {F : aFn} (C : mCx σ n bi B W) (hF : mF σ n = F) (hr : r < n) (hL : aLn B F n) (hx : 0 ≤ F r 4 ∧ F r 4 < B.2.2) (hh : 0 ≤ F r 1 ∧ F r 1 ≤ 9) (h : ∀ v : Int32, v.toInt = aPull B W F r → Q (some (.int v)) σ) : zCall (d + 2) kX12_pullOf [.ref 131, .int (nI r)] σ Q :=
  (bX12_pullOf_0 C.1).mpr (m_pull_l C hF hr hL hx hh h _ 0 0 0 _ rfl (by omega) rfl rfl (zcat_r _))
theorem aPull_b {B : aBk} {W : aWx} {F : aFn} {n r : Nat} (hB : aBok B) (hW : aWok W) (hr : r < n) (hL : aLn B F n) (hx : 0 ≤ F r 4 ∧ F r 4 < B.2.2) : 0 ≤ aPull B W F r ∧ aPull B W F r ≤ 13 := by
  have hB1 := hB.2.1
  have hLr := hL r hr
  have hf : ∀ j, j < (F r 0).toNat → 0 ≤ aPace B W (F r 4) (F r 5 + (j : Nat)) ∧ aPace B W (F r 4) (F r 5 + (j : Nat)) ≤ 13 := fun j hj => aPace_b hB hW hx (by omega)
  have b1 := aSum_b _ hf
  have b2 := aTop_b _ hf
  have b3 : aSum (fun k => aPace B W (F r 4) (F r 5 + k)) (F r 0).toNat / F r 0 ≤ 13 := Int.ediv_le_of_le_mul (by omega) (by omega)
  unfold aPull
  refine ⟨by omega, ?_⟩
  split <;> omega
theorem m_eddy_l {n bi r : Nat} {B : aBk} {W : aWx} {F : aFn} (C : mCx σ n bi B W) (hF : mF σ n = F) (hr : r < n) (hL : aLn B F n) (hx : 0 ≤ F r 4 ∧ F r 4 < B.2.2) (h : Q (some (.int (zb (aEddy B F r)))) σ) :
    ∀ (m k : Nat), (F r 0).toNat - k = m → k ≤ (F r 0).toNat → (∀ j : Nat, j < k → ¬ B.1 (F r 5 + j).toNat (F r 4).toNat = 10) → zW (d + 1) kX12_isInEddy 2 [.ref 131, .int (nI r), .int (nI k)] [] σ Q := by
  obtain ⟨hl, hn, c3, c4, c5, c6, c7, c8, c9⟩ := C
  have hB1 := c8.2.1
  have hB2 := c8.2.2.2.1
  have hLr := hL r hr
  intro m
  induction m with
  | zero =>
    intro k hm hk hno
    refine (bX12_isInEddy_2 hl).mpr (m_of hl 0 hF hn hr (by omega) (fun v hv => ⟨rfl, (bX12_isInEddy_9 hl).mpr (zle' hv (ai_n (by omega)) (fun e => ?_) (fun e => by omega))⟩))
    rwa [zb_f (fun ⟨j, h1, h2⟩ => hno j (by omega) h2)] at h
  | succ m ih =>
    intro k hm hk hno
    refine (bX12_isInEddy_2 hl).mpr (m_of hl 0 hF hn hr (by omega) (fun v hv => ⟨rfl, (bX12_isInEddy_9 hl).mpr (zle' hv (ai_n (by omega)) (fun e => by omega) (fun e => ?_))⟩))
    refine m_of hl 4 hF hn hr (by omega) (fun v4 hv4 => ⟨rfl, (bX12_isInEddy_23 hl).mpr (m_of hl 5 hF hn hr (by omega) (fun vl hvl => ⟨rfl, (bX12_isInEddy_29 hl).mpr ?_⟩))⟩)
    have ey : (vl + nI k).toInt = F r 5 + k := zadd hvl (ai_n (by omega))
    rw [c5]
    refine m_sign hl c4 (by omega) (by omega) (fun p hp => ⟨rfl, (bX12_isInEddy_34 hl).mpr ?_⟩)
    rw [c6, hv4, ey] at hp
    refine zeq' hp k10 (fun e2 => ?_) (fun e2 => ?_)
    · rwa [zb_t ⟨k, by omega, e2⟩] at h
    · rw [nI_1]
      refine ih (k + 1) (by omega) (by omega) (fun j hj => ?_)
      rcases Nat.lt_succ_iff_lt_or_eq.mp hj with h1 | h1
      · exact hno j h1
      · rw [h1]; exact e2
theorem m_eddy {n bi r : Nat} {B : aBk} {W : aWx} {F : aFn} (C : mCx σ n bi B W) (hF : mF σ n = F) (hr : r < n) (hL : aLn B F n) (hx : 0 ≤ F r 4 ∧ F r 4 < B.2.2) (h : Q (some (.int (zb (aEddy B F r)))) σ) : zCall (d + 1) kX12_isInEddy [.ref 131, .int (nI r)] σ Q :=
  (bX12_isInEddy_0 C.1).mpr (m_eddy_l C hF hr hL hx h _ 0 rfl (by omega) (fun j hj => absurd hj (by omega)))
theorem m_wave_l {n bi r : Nat} {B : aBk} {W : aWx} {F : aFn} (C : mCx σ n bi B W) (hF : mF σ n = F) (hr : r < n) (hL : aLn B F n) (hx : ∀ o, o < n → 0 ≤ F o 4 ∧ F o 4 ≤ B.2.2) (h : Q (some (.int (zb (aWave n F r)))) σ) :
    ∀ (m i : Nat) (v3 : Value), n - i = m → i ≤ n → v3.category = 1 → (∀ o, o < i → ¬ (F o 7 = -1 ∧ 1 ≤ F o 4 - F r 4 ∧ F o 4 - F r 4 ≤ 2 ∧ F o 5 < F r 5 + F r 0 ∧ F r 5 < F o 5 + F o 0)) → zW (d + 2) kX12_hasWave 2 [.ref 131, .int (nI r), .int (nI i), v3] [] σ Q := by
  obtain ⟨hl, hn, c3, c4, c5, c6, c7, c8, c9⟩ := C
  have hB1 := c8.2.1
  have hB2 := c8.2.2.2.1
  have hLr := hL r hr
  have hxr := hx r hr
  intro m
  induction m with
  | zero =>
    intro i v3 hm hi hc hno
    refine (bX12_hasWave_2 hl hc).mpr (zti (fun e => ?_) (fun e => ?_))
    · rwa [zb_f (fun ⟨o, h1, h2⟩ => hno o (by omega) h2)] at h
    · rw [c3] at e
      exact absurd (nI_le (by omega) (by omega)) e
  | succ m ih =>
    intro i v3 hm hi hc hno
    have hin : i < n := by omega
    have hLi := hL i hin
    have hxi := hx i hin
    have go : ∀ v3 : Value, v3.category = 1 → (¬ (F i 7 = -1 ∧ 1 ≤ F i 4 - F r 4 ∧ F i 4 - F r 4 ≤ 2 ∧ F i 5 < F r 5 + F r 0 ∧ F r 5 < F i 5 + F i 0)) → zW (d + 2) kX12_hasWave 2 [.ref 131, .int (nI r), .int (nI i + 1), v3] [] σ Q := by
      intro v3 hc hq
      rw [nI_1]
      refine ih (i + 1) v3 (by omega) (by omega) hc (fun o ho => ?_)
      rcases Nat.lt_succ_iff_lt_or_eq.mp ho with h1 | h1
      · exact hno o h1
      · rw [h1]; exact hq
    refine (bX12_hasWave_2 hl hc).mpr (zti (fun e => ?_) (fun e => ?_))
    · rw [c3] at e
      exact absurd e (nI_ge hin (by omega))
    refine m_of hl 4 hF hn hin (by omega) (fun v4 hv4 => ⟨rfl, (bX12_hasWave_16 hl hc).mpr (m_of hl 4 hF hn hr (by omega) (fun u4 hu4 => ⟨rfl, (bX12_hasWave_22 hl hc).mpr ?_⟩))⟩)
    have ef : (v4 - u4).toInt = F i 4 - F r 4 := zsub hv4 hu4
    refine zeq' (ai_n (by omega)) (ai_n (by omega)) (fun e2 => ?_) (fun e2 => ?_)
    · have : i = r := by omega
      subst this
      exact go _ (zcat_i _) (by omega)
    refine m_isOut hl hF hn hin ⟨rfl, (bX12_hasWave_34 hl).mpr (zt0 (fun c => go _ (zcat_i _) (fun q => c q.1)) (fun c => ?_))⟩
    refine zlt' ef k1 (fun e3 => go _ (zcat_i _) (by omega)) (fun e3 => zle' ef k2 (fun e4 => ?_) (fun e4 => go _ (zcat_i _) (by omega)))
    refine m_of hl 5 hF hn hin (by omega) (fun v5 hv5 => ⟨rfl, (bX12_hasWave_56 hl).mpr (m_of hl 5 hF hn hr (by omega) (fun u5 hu5 => ⟨rfl, (bX12_hasWave_62 hl).mpr (m_of hl 0 hF hn hr (by omega) (fun u0 hu0 => ⟨rfl, (bX12_hasWave_68 hl).mpr ?_⟩))⟩))⟩)
    refine zle' (zadd hu5 hu0) hv5 (fun e5 => go _ (zcat_i _) (by omega)) (fun e5 => ?_)
    refine m_of hl 5 hF hn hr (by omega) (fun w5 hw5 => ⟨rfl, (bX12_hasWave_78 hl).mpr (m_of hl 5 hF hn hin (by omega) (fun t5 ht5 => ⟨rfl, (bX12_hasWave_84 hl).mpr (m_of hl 0 hF hn hin (by omega) (fun t0 ht0 => ⟨rfl, (bX12_hasWave_90 hl).mpr ?_⟩))⟩))⟩)
    refine zle' (zadd ht5 ht0) hw5 (fun e6 => go _ (zcat_i _) (by omega)) (fun e6 => ?_)
    rwa [zb_t ⟨i, hin, Classical.not_not.mp c, e3, e4, e5, e6⟩] at h
theorem m_wave {n bi r : Nat} {B : aBk} {W : aWx} {F : aFn} (C : mCx σ n bi B W) (hF : mF σ n = F) (hr : r < n) (hL : aLn B F n) (hx : ∀ o, o < n → 0 ≤ F o 4 ∧ F o 4 ≤ B.2.2) (h : Q (some (.int (zb (aWave n F r)))) σ) : zCall (d + 2) kX12_hasWave [.ref 131, .int (nI r)] σ Q :=
  (bX12_hasWave_0 C.1).mpr (m_wave_l C hF hr hL hx h n 0 _ (by omega) (by omega) (zcat_r _) (fun o ho => absurd ho (by omega)))
theorem m_aside {n bi r : Nat} {rec : Prop} {B : aBk} {W : aWx} {D : aD} (C : mCx σ n bi B W) (hD : mHas σ n rec D) (hr : r < n) (hL : aLn B D.1 n) (hx : 0 ≤ D.1 r 4 ∧ D.1 r 4 < B.2.2) {y : Int32} (hy : -100 ≤ y.toInt ∧ y.toInt ≤ 100) (h : ∀ σ', mHas σ' n rec (aAside B W n D.1 r y.toInt, D.2) → zFr (mWg rec) σ σ' → Q none σ') : zCall (d + 4) kX12_goAside [.ref 131, .int (nI r), .int y] σ Q := by
  obtain ⟨hl, hn, c3, c4, c5, c6, c7, c8, c9⟩ := C
  have hB2 := c8.2.2.2.1
  have hLr := hL r hr
  have no : ¬ (aCan B W (D.1 r 0) (D.1 r 4) y.toInt ∧ aFree n D.1 r (D.1 r 0) (D.1 r 4) y.toInt) → Q none σ := fun q => h σ (by unfold aAside; rw [zif_f q]; exact hD) (zFr.refl _ _)
  refine (bX12_goAside_0 hl).mpr (m_of hl 0 hD.1 hn hr (by omega) (fun v0 hv0 => ⟨rfl, (bX12_goAside_11 hl).mpr (m_of hl 4 hD.1 hn hr (by omega) (fun v4 hv4 => ⟨rfl, (bX12_goAside_17 hl).mpr ?_⟩))⟩))
  rw [c5]
  refine m_canLie hl c6 c7 c8 c4 (by omega) (by omega) ⟨rfl, (bX12_goAside_21 hl).mpr (zt0 (fun c => ?_) (fun c => (bX12_goAside_52 hl).mpr (no (fun q => c (by rw [hv0, hv4]; exact q.1)))))⟩
  refine m_of hl 0 hD.1 hn hr (by omega) (fun u0 hu0 => ⟨rfl, (bX12_goAside_32 hl).mpr (m_of hl 4 hD.1 hn hr (by omega) (fun u4 hu4 => ⟨rfl, (bX12_goAside_38 hl).mpr ?_⟩))⟩)
  refine m_isFree hl hD.1 hn c3 (aLn_6 c8 hL) hy (by omega) ⟨rfl, (bX12_goAside_42 hl).mpr (zt0 (fun c2 => ?_) (fun c2 => (bX12_goAside_52 hl).mpr (no (fun q => c2 (by rw [hu0, hu4, ai_n (by omega)]; exact q.2)))))⟩
  refine m_set hl 5 (by omega) (by omega) ⟨rfl, (bX12_goAside_52 (mS_lay hl)).mpr (h _ ?_ mS_fw)⟩
  rw [hv0, hv4] at c
  rw [hu0, hu4, ai_n (by omega)] at c2
  unfold aAside
  rw [zif_t ⟨c, c2⟩]
  exact mS_has hD hr (by omega) rfl
end MGO
