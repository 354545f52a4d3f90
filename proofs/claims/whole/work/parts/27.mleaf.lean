/-! the model's leaves -/
def mF (σ : zS) (n : Nat) : aFn := fun r w => if r < n ∧ w < 11 then (zI σ 139 (11 * r + w)).toInt else 0
def mB (σ : zS) (b : Nat) : aBk := (fun y x => if y < 6 ∧ x < 16 then (zI σ 133 (16 * (6 * b + y) + x)).toInt else 0, (zI σ 134 b).toInt, (zI σ 135 b).toInt)
def mW (σ : zS) : aWx := ((zI σ 131 13).toInt, (zI σ 131 14).toInt, (zI σ 131 15).toInt)
theorem mF_at {σ : zS} {n r w : Nat} (hr : r < n) (hw : w < 11) : mF σ n r w = (zI σ 139 (11 * r + w)).toInt := if_pos ⟨hr, hw⟩
theorem mB_at {σ : zS} {b y x : Nat} (hy : y < 6) (hx : x < 16) : (mB σ b).1 y x = (zI σ 133 (16 * (6 * b + y) + x)).toInt := if_pos ⟨hy, hx⟩
/-- the model's race stands on brook bi, n runners -/
def mCx (σ : zS) (n bi : Nat) (B : aBk) (W : aWx) : Prop := zLay σ ∧ n ≤ 6 ∧ zI σ 131 20 = nI n ∧ bi < 7 ∧ zI σ 131 19 = nI bi ∧ mB σ bi = B ∧ mW σ = W ∧ aBok B ∧ aWok W
section MLEAF
variable {d : Nat} {σ : zS} {Q : Option Value → zS → Prop}
theorem m_of (hl : zLay σ) {n r : Nat} {F : aFn} (w : Nat) (hF : mF σ n = F) (hn : n ≤ 6) (hr : r < n) (hw : w < 11) (h : ∀ v : Int32, v.toInt = F r w → Q (some (.int v)) σ) : zCall d kX12_of [.ref 131, .int (nI r), .int (nI w)] σ Q := by
  refine (bX12_of_0 hl).mpr ⟨?_, ?_⟩
  · show vp_in ((nI 11 * nI r) + nI w) 66
    rw [pk_mul, nI_add]
    exact vp_in_nI (by omega) (by decide)
  · show Q (some (.int (zI σ 139 ((nI 11 * nI r) + nI w).toNatClampNeg))) σ
    rw [ai_ix (by omega) (by omega) 11 (by omega)]
    exact h _ (by rw [← hF, mF_at hr hw])
def mS (σ : zS) (r w : Nat) (v : Int32) : zS := zsI σ 139 (upd (zI σ 139) (11 * r + w) v)
theorem mS_lay {r w : Nat} {v : Int32} (hl : zLay σ) : zLay (mS σ r w v) := hl.I
theorem mS_F {n r w : Nat} {v : Int32} {F : aFn} {a : Int} (hF : mF σ n = F) (hr : r < n) (hw : w < 11) (hv : v.toInt = a) : mF (mS σ r w v) n = aU F r w a := by
  subst hF hv
  funext r' w'
  unfold mF aU mS
  rw [zI_self]
  by_cases h : r' < n ∧ w' < 11
  · rw [if_pos h]
    by_cases e : r' = r ∧ w' = w
    · rw [if_pos e, e.1, e.2, pk_us]
    · rw [if_neg e, pk_un (by omega)]
      exact (if_pos h).symm
  · rw [if_neg h, if_neg (by omega)]
    exact (if_neg h).symm
theorem mS_fr {r w : Nat} {v : Int32} {W : Nat → Nat → Nat → Prop} (h : ∀ k, W 0 139 k) : zFr W σ (mS σ r w v) := zFr_U (h _)
theorem m_set (hl : zLay σ) {r : Nat} {v : Int32} (w : Nat) (hr : r < 6) (hw : w < 11) (h : Q none (mS σ r w v)) : zCall d kX12_set [.ref 131, .int (nI r), .int (nI w), .int v] σ Q := by
  refine (bX12_set_0 hl).mpr ⟨?_, ?_⟩
  · show vp_in ((nI 11 * nI r) + nI w) 66
    rw [pk_mul, nI_add]
    exact vp_in_nI (by omega) (by decide)
  · show Q none (zsI σ 139 (upd (zI σ 139) ((nI 11 * nI r) + nI w).toNatClampNeg v))
    rw [ai_ix (by omega) (by omega) 11 (by omega)]
    exact h
theorem m_isOut (hl : zLay σ) {n r : Nat} {F : aFn} (hF : mF σ n = F) (hn : n ≤ 6) (hr : r < n) (h : Q (some (.int (zb (¬ F r 7 = -1)))) σ) : zCall (d + 1) kX12_isOut [.ref 131, .int (nI r)] σ Q := by
  refine (bX12_isOut_0 hl).mpr (m_of hl 7 hF hn hr (by omega) (fun v hv => ⟨rfl, (bX12_isOut_7 hl).mpr (zeq' hv km1 (fun e => ?_) (fun e => ?_))⟩))
  · rwa [zb_f (fun q => q e)] at h
  · rwa [zb_t e] at h
theorem m_isIn {x a b : Int32} (hl : zLay σ) (h : Q (some (.int (zb (a.toInt ≤ x.toInt ∧ x.toInt ≤ b.toInt)))) σ) : zCall d kX12_isIn [.int x, .int a, .int b] σ Q := by
  refine (bX12_isIn_0 hl).mpr (zlt (fun e => ?_) (fun e => zlt (fun e2 => ?_) (fun e2 => ?_)))
  · rwa [zb_f (by omega)] at h
  · rwa [zb_f (by omega)] at h
  · rwa [zb_t ⟨e, e2⟩] at h
theorem m_sign (hl : zLay σ) {b : Nat} {x y : Int32} (hb : b < 7) (hx : 0 ≤ x.toInt ∧ x.toInt < 16) (hy : 0 ≤ y.toInt ∧ y.toInt < 6) (h : ∀ v : Int32, v.toInt = (mB σ b).1 y.toInt.toNat x.toInt.toNat → Q (some (.int v)) σ) : zCall d kX12_sign [.ref 131, .int (nI b), .int x, .int y] σ Q := by
  obtain ⟨i, hi, rfl, ei⟩ := ai_nx hx.1
  obtain ⟨j, hj, rfl, ej⟩ := ai_nx hy.1
  have hi2 : i < 16 := by omega
  have hj2 : j < 6 := by omega
  have e : ((16 * ((6 * nI b) + nI j)) + nI i : Int32) = nI (16 * (6 * b + j) + i) := by
    show ((nI 16 * ((nI 6 * nI b) + nI j)) + nI i : Int32) = _
    rw [pk_mul, nI_add, pk_mul, nI_add]
  refine (bX12_sign_0 hl).mpr ?_
  rw [e]
  refine ⟨vp_in_nI (by omega) (by decide), h _ ?_⟩
  rw [nI_clamp (by omega), ei, ej]
  exact (mB_at (by omega) (by omega)).symm
theorem m_bars (hl : zLay σ) {b : Nat} {B : aBk} {W : aWx} (hB : mB σ b = B) (hW : mW σ = W) {x y : Int32} (hb : b < 7) (hx : 0 ≤ x.toInt ∧ x.toInt < 16) (hy : 0 ≤ y.toInt ∧ y.toInt < 6) (h : Q (some (.int (zb (aBars B W x.toInt y.toInt)))) σ) : zCall (d + 1) kX12_bars [.ref 131, .int (nI b), .int x, .int y] σ Q := by
  subst hB hW
  refine (bX12_bars_0 hl).mpr (zle' k2 rfl (fun e => ?_) (fun e => ?_))
  · rwa [zb_f (fun q => by have := q.1; unfold mW at this; simp only at this; omega)] at h
  · refine m_sign hl hb hx hy (fun v hv => ⟨rfl, (bX12_bars_15 hl).mpr (zeq' hv k0 (fun e2 => ?_) (fun e2 => ?_))⟩)
    · rwa [zb_t ⟨e, e2⟩] at h
    · rwa [zb_f (fun q => e2 q.2)] at h
theorem m_canLie_l (hl : zLay σ) {b : Nat} {B : aBk} {W : aWx} (hB : mB σ b = B) (hW : mW σ = W) {x sz y : Int32} (hb : b < 7) (hx : 0 ≤ x.toInt ∧ x.toInt < 16) (hy : 0 ≤ y.toInt) (hs : y.toInt + sz.toInt ≤ 6) (hs0 : 0 ≤ sz.toInt) :
    ∀ (m : Nat) (k : Int32), (y.toInt + sz.toInt - k.toInt).toNat = m → y.toInt ≤ k.toInt → k.toInt ≤ 6 → Q (some (.int (zb (∀ j : Int, k.toInt ≤ j → j < y.toInt + sz.toInt → ¬ aBars B W x.toInt j)))) σ → zW (d + 2) kX12_canLie 24 [.ref 131, .int (nI b), .int sz, .int x, .int y, .int k] [] σ Q := by
  intro m
  induction m with
  | zero =>
    intro k hm hk hk2 h
    refine (bX12_canLie_24 hl).mpr (zle' (zadd rfl rfl) rfl (fun e => ?_) (fun e => by omega))
    rwa [zb_t (fun j h1 h2 => by omega)] at h
  | succ m ih =>
    intro k hm hk hk2 h
    refine (bX12_canLie_24 hl).mpr (zle' (zadd rfl rfl) rfl (fun e => by omega) (fun e => ?_))
    refine m_bars hl hB hW hb hx (by omega) ⟨rfl, (bX12_canLie_41 hl).mpr (zt0 (fun c => ?_) (fun c => ?_))⟩
    · rwa [zb_f (fun q => q k.toInt (Int.le_refl _) e c)] at h
    · have ek : (k + 1).toInt = k.toInt + 1 := zadd rfl k1
      refine ih (k + 1) (by omega) (by omega) (by omega) ?_
      rw [ek]
      refine zbq h ⟨fun q j h1 h2 => q j (by omega) h2, fun q j h1 h2 => ?_⟩
      rcases Int.lt_or_eq_of_le h1 with h3 | h3
      · exact q j (by omega) h2
      · subst h3
        exact c
theorem m_canLie (hl : zLay σ) {b : Nat} {B : aBk} {W : aWx} (hB : mB σ b = B) (hW : mW σ = W) (hBo : aBok B) {x sz y : Int32} (hb : b < 7) (hx : 0 ≤ x.toInt ∧ x.toInt < 16) (hs0 : 0 ≤ sz.toInt ∧ sz.toInt ≤ 9) (h : Q (some (.int (zb (aCan B W sz.toInt x.toInt y.toInt)))) σ) : zCall (d + 2) kX12_canLie [.ref 131, .int (nI b), .int sz, .int x, .int y] σ Q := by
  have eB : (zI σ 134 b).toInt = B.2.1 := by rw [← hB]; rfl
  have hB6 := hBo.2.1
  have hB2 := hBo.1
  refine (bX12_canLie_0 hl).mpr (zlt' rfl k0 (fun e => ?_) (fun e => ⟨vp_in_nI hb (by decide), ?_⟩))
  · rwa [zb_f (fun q => by have := q.1; omega)] at h
  · rw [nI_clamp (by omega)]
    refine zle' rfl (zsub eB rfl) (fun e2 => ?_) (fun e2 => ?_)
    · refine m_canLie_l hl hB hW hb hx e (by omega) hs0.1 _ y rfl (Int.le_refl _) (by omega) ?_
      exact zbq h ⟨fun q => q.2.2, fun q => ⟨e, by omega, q⟩⟩
    · rwa [zb_f (fun q => by have := q.2.1; omega)] at h
theorem m_whoIs_l (hl : zLay σ) {n : Nat} {F : aFn} (hF : mF σ n = F) (hn : n ≤ 6) (hm : zI σ 131 20 = nI n) {x y but : Int32} (hok : ∀ r, r < n → 0 ≤ F r 5 ∧ F r 5 ≤ 6 ∧ 0 ≤ F r 0 ∧ F r 0 ≤ 9) (h : ∀ v : Int32, ((v.toInt = -1 ∧ ¬ aOcc n F but.toInt x.toInt y.toInt) ∨ (∃ r : Nat, r < n ∧ v = nI r ∧ (r : Int) ≠ but.toInt ∧ F r 7 = -1 ∧ F r 4 = x.toInt ∧ F r 5 ≤ y.toInt ∧ y.toInt < F r 5 + F r 0)) → Q (some (.int v)) σ) :
    ∀ (m i : Nat), n - i = m → i ≤ n → (∀ r, r < i → ¬ ((r : Int) ≠ but.toInt ∧ F r 7 = -1 ∧ F r 4 = x.toInt ∧ F r 5 ≤ y.toInt ∧ y.toInt < F r 5 + F r 0)) → zW (d + 2) kX12_whoIs 3 [.ref 131, .int x, .int y, .int but, .int (nI i)] [] σ Q := by
  intro m
  induction m with
  | zero =>
    intro i hm2 hi hno
    refine (bX12_whoIs_3 hl).mpr (zti (fun e => h _ (Or.inl ⟨km1, fun ⟨r, h1, h2⟩ => hno r (by omega) h2⟩)) (fun e => ?_))
    rw [hm] at e
    exact absurd (nI_le (by omega) (by omega)) e
  | succ m ih =>
    intro i hm2 hi hno
    have hin : i < n := by omega
    have go : (¬ ((i : Int) ≠ but.toInt ∧ F i 7 = -1 ∧ F i 4 = x.toInt ∧ F i 5 ≤ y.toInt ∧ y.toInt < F i 5 + F i 0)) → zW (d + 2) kX12_whoIs 3 [.ref 131, .int x, .int y, .int but, .int (nI i + 1)] [] σ Q := by
      intro hq
      rw [nI_1]
      refine ih (i + 1) (by omega) (by omega) (fun r hr => ?_)
      rcases Nat.lt_succ_iff_lt_or_eq.mp hr with h1 | h1
      · exact hno r h1
      · rw [h1]; exact hq
    have hoki := hok i hin
    refine (bX12_whoIs_3 hl).mpr (zti (fun e => ?_) (fun e => zeq' (ai_n (by omega)) rfl (fun e2 => ?_) (fun e2 => ?_)))
    · rw [hm] at e
      exact absurd e (nI_ge hin (by omega))
    · exact go (fun q => q.1 e2)
    · refine m_isOut hl hF hn hin ⟨rfl, (bX12_whoIs_24 hl).mpr (zt0 (fun c => ?_) (fun c => ?_))⟩
      · exact go (fun q => c q.2.1)
      · refine m_of hl 4 hF hn hin (by omega) (fun v hv => ⟨rfl, (bX12_whoIs_34 hl).mpr (zeq' hv rfl (fun e3 => ?_) (fun e3 => ?_))⟩)
        · refine m_of hl 5 hF hn hin (by omega) (fun v5 hv5 => ⟨rfl, (bX12_whoIs_46 hl).mpr ?_⟩)
          refine m_of hl 5 hF hn hin (by omega) (fun v6 hv6 => ⟨rfl, (bX12_whoIs_53 hl).mpr ?_⟩)
          refine m_of hl 0 hF hn hin (by omega) (fun v0 hv0 => ⟨rfl, (bX12_whoIs_60 hl).mpr ?_⟩)
          refine m_isIn hl ⟨rfl, (bX12_whoIs_66 hl).mpr (zt0 (fun c3 => ?_) (fun c3 => ?_))⟩
          · rw [zsub (zadd hv6 hv0) k1, hv5] at c3
            exact h _ (Or.inr ⟨i, hin, rfl, e2, Classical.not_not.mp c, e3, c3.1, by omega⟩)
          · rw [zsub (zadd hv6 hv0) k1, hv5] at c3
            exact go (fun q => c3 ⟨q.2.2.2.1, by omega⟩)
        · exact go (fun q => e3 q.2.2.1)
theorem m_whoIs (hl : zLay σ) {n : Nat} {F : aFn} (hF : mF σ n = F) (hn : n ≤ 6) (hm : zI σ 131 20 = nI n) {x y but : Int32} (hok : ∀ r, r < n → 0 ≤ F r 5 ∧ F r 5 ≤ 6 ∧ 0 ≤ F r 0 ∧ F r 0 ≤ 9) (h : ∀ v : Int32, ((v.toInt = -1 ∧ ¬ aOcc n F but.toInt x.toInt y.toInt) ∨ (∃ r : Nat, r < n ∧ v = nI r ∧ (r : Int) ≠ but.toInt ∧ F r 7 = -1 ∧ F r 4 = x.toInt ∧ F r 5 ≤ y.toInt ∧ y.toInt < F r 5 + F r 0)) → Q (some (.int v)) σ) :
    zCall (d + 2) kX12_whoIs [.ref 131, .int x, .int y, .int but] σ Q :=
  (bX12_whoIs_0 hl).mpr (m_whoIs_l hl hF hn hm hok h n 0 (by omega) (by omega) (fun r hr => absurd hr (by omega)))
theorem m_isFree_l (hl : zLay σ) {n : Nat} {F : aFn} (hF : mF σ n = F) (hn : n ≤ 6) (hm : zI σ 131 20 = nI n) {r sz x y : Int32} (hok : ∀ r, r < n → 0 ≤ F r 5 ∧ F r 5 ≤ 6 ∧ 0 ≤ F r 0 ∧ F r 0 ≤ 9) (hy : -100 ≤ y.toInt ∧ y.toInt ≤ 100) (hs : 0 ≤ sz.toInt ∧ sz.toInt ≤ 9) :
    ∀ (m : Nat) (k : Int32), (y.toInt + sz.toInt - k.toInt).toNat = m → y.toInt ≤ k.toInt → k.toInt ≤ 200 → Q (some (.int (zb (∀ j : Int, k.toInt ≤ j → j < y.toInt + sz.toInt → ¬ aOcc n F r.toInt x.toInt j)))) σ → zW (d + 3) kX12_isFree 4 [.ref 131, .int r, .int sz, .int x, .int y, .int k] [] σ Q := by
  intro m
  induction m with
  | zero =>
    intro k hm2 hk hk2 h
    refine (bX12_isFree_4 hl).mpr (zle' (zadd rfl rfl) rfl (fun e => ?_) (fun e => by omega))
    rwa [zb_t (fun j h1 h2 => by omega)] at h
  | succ m ih =>
    intro k hm2 hk hk2 h
    refine (bX12_isFree_4 hl).mpr (zle' (zadd rfl rfl) rfl (fun e => by omega) (fun e => ?_))
    refine m_whoIs hl hF hn hm hok (fun v hv => ⟨rfl, (bX12_isFree_21 hl).mpr (zeq' rfl km1 (fun c => ?_) (fun c => ?_))⟩)
    · have hno : ¬ aOcc n F r.toInt x.toInt k.toInt := by
        rcases hv with ⟨_, q⟩ | ⟨j, hj, rfl, _⟩
        · exact q
        · rw [ai_n (by omega)] at c
          omega
      clear hv
      have ek : (k + 1).toInt = k.toInt + 1 := zadd rfl k1
      refine ih (k + 1) (by omega) (by omega) (by omega) ?_
      rw [ek]
      refine zbq h ⟨fun q j h1 h2 => q j (by omega) h2, fun q j h1 h2 => ?_⟩
      rcases Int.lt_or_eq_of_le h1 with h3 | h3
      · exact q j (by omega) h2
      · subst h3
        exact hno
    · have hno : aOcc n F r.toInt x.toInt k.toInt := by
        rcases hv with ⟨q, _⟩ | ⟨j, hj, rfl, q⟩
        · exact absurd q c
        · exact ⟨j, hj, q⟩
      rwa [zb_f (fun q => q k.toInt (Int.le_refl _) e hno)] at h
theorem m_isFree (hl : zLay σ) {n : Nat} {F : aFn} (hF : mF σ n = F) (hn : n ≤ 6) (hm : zI σ 131 20 = nI n) {r sz x y : Int32} (hok : ∀ r, r < n → 0 ≤ F r 5 ∧ F r 5 ≤ 6 ∧ 0 ≤ F r 0 ∧ F r 0 ≤ 9) (hy : -100 ≤ y.toInt ∧ y.toInt ≤ 100) (hs : 0 ≤ sz.toInt ∧ sz.toInt ≤ 9) (h : Q (some (.int (zb (aFree n F r.toInt sz.toInt x.toInt y.toInt)))) σ) : zCall (d + 3) kX12_isFree [.ref 131, .int r, .int sz, .int x, .int y] σ Q :=
  (bX12_isFree_0 hl).mpr (m_isFree_l hl hF hn hm hok hy hs _ y rfl (Int.le_refl _) (by omega) h)
end MLEAF
