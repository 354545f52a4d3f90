/-! the verb fair: its rows and gaps -/
def pcS (x k : Int32) : Int32 := (x.toUInt32 >>> (k.toUInt32 &&& Int32.toUInt32 31)).toInt32
def pc1 (x : Int32) : Int32 := x - (pcS x 1 &&& 1431655765)
def pc2 (x : Int32) : Int32 := (x &&& 858993459) + (pcS x 2 &&& 858993459)
def pc3 (x : Int32) : Int32 := (x + pcS x 4) &&& 252645135
def pc4 (x : Int32) : Int32 := x + pcS x 8
def pc5 (x : Int32) : Int32 := x + pcS x 16
/-- how many bits -/
def pc (x : Int32) : Int32 := pc5 (pc4 (pc3 (pc2 (pc1 x)))) &&& 63
theorem c_bc {d : Nat} {σ : zS} {Q : Option Value → zS → Prop} (hl : zLay σ) {x : Int32} (h : Q (some (.int (pc x))) σ) : zCall d kJ6_bitCount_0f7a4 [.int x] σ Q := (bJ6_bitCount_0f7a4_0 hl).mpr h
noncomputable def fr (σ : zS) (b s : Nat) : Nat → List Int
  | 0 => []
  | y + 1 => @ite _ (tOk σ b s y) (Classical.propDecidable _) (rPut (aAl (mB σ b) (mW σ) (mG σ s y) 0) (fr σ b s y)) (fr σ b s y)
theorem fr_y {σ : zS} {b s y : Nat} (h : tOk σ b s y) : fr σ b s (y + 1) = rPut (aAl (mB σ b) (mW σ) (mG σ s y) 0) (fr σ b s y) := if_pos h
theorem fr_n {σ : zS} {b s y : Nat} (h : ¬ tOk σ b s y) : fr σ b s (y + 1) = fr σ b s y := if_neg h
theorem fr_c {σ0 σ : zS} (f : zFr iSafe σ0 σ) {b s : Nat} (hb : b < 6) (hs : s < 10) : ∀ y, fr σ b s y = fr σ0 b s y
  | 0 => rfl
  | y + 1 => by
    have i := fr_c f hb hs y
    have e := tOk_c f (y := y) hb hs
    by_cases q : tOk σ0 b s y
    · rw [fr_y (by rw [e]; exact q), fr_y q, i, iS_mB f hb, iS_mW f, iS_mG f hs]
    · rw [fr_n (by rw [e]; exact q), fr_n q, i]
theorem fr_i {σ0 : zS} {nb ns b s : Nat} (g0 : iA σ0 nb ns) (hb : b < nb) (hs : s < ns) : ∀ y, (fr σ0 b s y).length ≤ y ∧ ∀ x ∈ fr σ0 b s y, 0 ≤ x ∧ x ≤ 99
  | 0 => ⟨Nat.le_refl _, fun x hx => absurd hx (by show ¬ x ∈ ([] : List Int); simp)⟩
  | y + 1 => by
    obtain ⟨i1, i2⟩ := fr_i g0 hb hs y
    by_cases q : tOk σ0 b s y
    · rw [fr_y q, rPut_l]
      refine ⟨by omega, fun x hx => ?_⟩
      rcases rPut_m hx with e | e
      · subst e
        exact aAl_b (g0.bok hb) g0.wok (tGst g0 hs q)
      · exact i2 x e
    · rw [fr_n q]
      exact ⟨by omega, i2⟩
noncomputable def gT (R : List Int) (row : Int32) (t k : Nat) : Int := zif (bt row (t - 1 - k) = true) (-(60 - R.getD (R.length - 1 - k) 0)) (60 - R.getD (R.length - 1 - k) 0)
noncomputable def gp (R : List Int) (row : Int32) (t : Nat) : Int := if 0 ≤ aSum (gT R row t) t then aSum (gT R row t) t else -aSum (gT R row t) t
theorem gS_b {R : List Int} {row : Int32} {t : Nat} (hR : ∀ x ∈ R, 0 ≤ x ∧ x ≤ 99) (ht : t ≤ R.length) : ∀ k, k ≤ t → -60 * (k : Int) ≤ aSum (gT R row t) k ∧ aSum (gT R row t) k ≤ 60 * k
  | 0, _ => by show -60 * ((0 : Nat) : Int) ≤ 0 ∧ (0 : Int) ≤ _; omega
  | k + 1, hk => by
    have i := gS_b (row := row) hR ht k (by omega)
    have b := hR _ (rR_mem (show R.length - 1 - k < R.length by omega))
    have e : aSum (gT R row t) (k + 1) = aSum (gT R row t) k + gT R row t k := rfl
    have g : -60 ≤ gT R row t k ∧ gT R row t k ≤ 60 := by
      unfold gT
      by_cases q : bt row (t - 1 - k) = true
      · rw [zif_t q]; omega
      · rw [zif_f q]; omega
    rw [e]
    omega
section FAIR
variable {d : Nat} {Q : Option Value → zS → Prop} {σ0 : zS} {nb ns : Nat}
theorem nI_back {t k : Nat} (hk : k < t) (ht : t ≤ 40) : ((nI t - 1) - nI k : Int32) = nI (t - 1 - k) := by
  refine zint ?_
  rw [zsub (zsub (ai_n (by omega)) k1 (by omega) (by omega)) (ai_n (by omega)) (by omega) (by omega), ai_n (by omega)]
  omega
theorem p_gap_l {R : List Int} {row : Int32} {t : Nat} {σ : zS} (hl : zLay σ) (hr : rowR (zI σ 84) R) (e83 : zI σ 83 1 = nI R.length) (hR : ∀ x ∈ R, 0 ≤ x ∧ x ≤ 99) (hR6 : R.length ≤ 6) (ht : t ≤ R.length) (h : ∀ v : Int32, v.toInt = gp R row t → Q (some (.int v)) σ) :
    ∀ (mm k : Nat) (x : Int32) (w : Value), t - k = mm → k ≤ t → w.category = 1 → x.toInt = aSum (gT R row t) k → zW (d + 1) kX11_gapOf 5 [.ref 1, .int row, .int (nI t), .int x, .int (nI k), w] [] σ Q := by
  intro mm
  induction mm with
  | zero =>
    intro k x w hm hk cw hx
    have e : k = t := by omega
    subst e
    have b := gS_b (row := row) hR ht k (Nat.le_refl _)
    refine (bX11_gapOf_5 hl cw).mpr (zle' (ai_n (by omega)) (ai_n (by omega)) (fun _ => zle' k0 hx (fun q => h x ?_) (fun q => h _ ?_)) (fun q => by omega))
    · unfold gp; rw [if_pos q]; exact hx
    · unfold gp
      rw [if_neg (by omega)]
      rw [show (-x : Int32) = 0 - x by rw [Int32.zero_sub], zsub k0 hx (by omega) (by omega)]
      omega
  | succ mm ih =>
    intro k x w hm hk cw hx
    have b := gS_b (row := row) hR ht (k + 1) (by omega)
    have b0 := gS_b (row := row) hR ht k (by omega)
    have bx := hR _ (rR_mem (show R.length - 1 - k < R.length by omega))
    have e : aSum (gT R row t) (k + 1) = aSum (gT R row t) k + gT R row t k := rfl
    refine (bX11_gapOf_5 hl cw).mpr (zle' (ai_n (by omega)) (ai_n (by omega)) (fun q => by omega) (fun _ => p_rowAt (R := R) zk_83 hl e83 (by omega) hr (by omega) (fun v hv => ⟨rfl, (bX11_gapOf_22 hl cw).mpr ?_⟩)))
    rw [nI_back (by omega) (by omega)]
    have ev : (60 - v : Int32).toInt = 60 - R.getD (R.length - 1 - k) 0 := zsub (show (60 : Int32).toInt = 60 from rfl) hv (by omega) (by omega)
    refine p_hasBit hl (by omega) ⟨rfl, (bX11_gapOf_36 hl).mpr (zt0 (fun q => ?_) (fun q => ?_))⟩
    · rw [nI_1]
      refine ih (k + 1) _ _ (by omega) (by omega) (zcat_i _) ?_
      have eg : gT R row t k = -(60 - R.getD (R.length - 1 - k) 0) := by unfold gT; rw [zif_t q]
      have en : (-(60 - v) : Int32).toInt = -(60 - R.getD (R.length - 1 - k) 0) := by
        rw [show (-(60 - v) : Int32) = 0 - (60 - v) by rw [Int32.zero_sub], zsub k0 ev (by omega) (by omega)]
        omega
      rw [e, eg]
      exact zadd hx en (by omega) (by omega)
    · rw [nI_1]
      refine ih (k + 1) _ _ (by omega) (by omega) (zcat_i _) ?_
      have eg : gT R row t k = 60 - R.getD (R.length - 1 - k) 0 := by unfold gT; rw [zif_f q]
      rw [e, eg]
      exact zadd hx ev (by omega) (by omega)
theorem p_gap {R : List Int} {row : Int32} {t : Nat} {σ : zS} (hl : zLay σ) (hr : rowR (zI σ 84) R) (e83 : zI σ 83 1 = nI R.length) (hR : ∀ x ∈ R, 0 ≤ x ∧ x ≤ 99) (hR6 : R.length ≤ 6) (ht : t ≤ R.length) (h : ∀ v : Int32, v.toInt = gp R row t → Q (some (.int v)) σ) : zCall (d + 1) kX11_gapOf [.ref 1, .int row, .int (nI t)] σ Q :=
  (bX11_gapOf_0 hl).mpr (p_gap_l hl hr e83 hR hR6 ht h t 0 0 _ (by omega) (by omega) (zcat_r _) rfl)
theorem m_diff_l {R : List Int} {row : Int32} {t : Nat} {σ : zS} (hl : zLay σ) (hr : rowR (zI σ 159) R) (hR : ∀ x ∈ R, 0 ≤ x ∧ x ≤ 99) (hR6 : R.length ≤ 6) (ht : t ≤ R.length) (h : ∀ v : Int32, v.toInt = gp R row t → Q (some (.int v)) σ) :
    ∀ (mm k : Nat) (x : Int32), t - k = mm → k ≤ t → x.toInt = aSum (gT R row t) k → zW (d + 1) kX12_differenceOf 5 [.ref 131, .int row, .int (nI t), .int x, .int (nI k)] [] σ Q := by
  intro mm
  induction mm with
  | zero =>
    intro k x hm hk hx
    have e : k = t := by omega
    subst e
    have b := gS_b (row := row) hR ht k (Nat.le_refl _)
    refine (bX12_differenceOf_5 hl).mpr (zle' (ai_n (by omega)) (ai_n (by omega)) (fun _ => h _ ?_) (fun q => by omega))
    unfold gp
    by_cases q : 0 ≤ aSum (gT R row k) k
    · rw [if_pos q, if_pos (show (0 : Int32) ≤ x from Int32.le_iff_toInt_le.mpr (by rw [hx, k0]; exact q))]; exact hx
    · rw [if_neg q, if_neg (show ¬ (0 : Int32) ≤ x from fun z => q (by have := Int32.le_iff_toInt_le.mp z; rw [hx, k0] at this; exact this)), zsub k0 hx (by omega) (by omega)]
      omega
  | succ mm ih =>
    intro k x hm hk hx
    have b := gS_b (row := row) hR ht (k + 1) (by omega)
    have b0 := gS_b (row := row) hR ht k (by omega)
    have bx := hR _ (rR_mem (show R.length - 1 - k < R.length by omega))
    have e : aSum (gT R row t) (k + 1) = aSum (gT R row t) k + gT R row t k := rfl
    have hv : (zI σ 159 k).toInt = R.getD (R.length - 1 - k) 0 := rowR_at k hr (by omega)
    have ev : (60 - zI σ 159 k : Int32).toInt = 60 - R.getD (R.length - 1 - k) 0 := zsub (show (60 : Int32).toInt = 60 from rfl) hv (by omega) (by omega)
    refine (bX12_differenceOf_5 hl).mpr (zle' (ai_n (by omega)) (ai_n (by omega)) (fun q => by omega) (fun _ => ?_))
    rw [nI_back (by omega) (by omega)]
    refine m_has hl (by omega) ⟨rfl, (bX12_differenceOf_22 hl).mpr (zt0 (fun q => ?_) (fun q => ?_))⟩
    · refine (bX12_differenceOf_30 hl).mpr ⟨vp_in_nI (by omega) (by decide), ?_⟩
      rw [nI_1, nI_clamp (by omega)]
      refine ih (k + 1) _ (by omega) (by omega) ?_
      have eg : gT R row t k = -(60 - R.getD (R.length - 1 - k) 0) := by unfold gT; rw [zif_t q]
      rw [e, eg]
      have em := zmul km1 ev (by omega) (by omega)
      rw [show (-1 : Int) * (60 - R.getD (R.length - 1 - k) 0) = -(60 - R.getD (R.length - 1 - k) 0) by omega] at em
      exact zadd hx em (by omega) (by omega)
    · refine (bX12_differenceOf_30 hl).mpr ⟨vp_in_nI (by omega) (by decide), ?_⟩
      rw [nI_1, nI_clamp (by omega)]
      refine ih (k + 1) _ (by omega) (by omega) ?_
      have eg : gT R row t k = 60 - R.getD (R.length - 1 - k) 0 := by unfold gT; rw [zif_f q]
      rw [e, eg]
      have em := zmul k1 ev (by omega) (by omega)
      rw [Int.one_mul] at em
      exact zadd hx em (by omega) (by omega)
theorem m_diff {R : List Int} {row : Int32} {t : Nat} {σ : zS} (hl : zLay σ) (hr : rowR (zI σ 159) R) (hR : ∀ x ∈ R, 0 ≤ x ∧ x ≤ 99) (hR6 : R.length ≤ 6) (ht : t ≤ R.length) (h : ∀ v : Int32, v.toInt = gp R row t → Q (some (.int v)) σ) : zCall (d + 1) kX12_differenceOf [.ref 131, .int row, .int (nI t)] σ Q :=
  (bX12_differenceOf_0 hl).mpr (m_diff_l hl hr hR hR6 ht h t 0 0 (by omega) (by omega) rfl)
end FAIR
