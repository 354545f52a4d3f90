/-! luck and close -/
def lRow (n w : Int32) (f : Nat → Int32) : Nat → Int32 := fun j => if j = 0 then f 0 * (n - w) / n + 0 else f j * (n - w) / n + f (j - 1) * w / n
def lPar (n w : Int32) : Nat → Nat → Int32
  | 0 => fun j => if j = 0 then 1000000 else 0
  | k + 1 => lRow n w (lPar n w k)
def lTl (f : Nat → Int32) : Nat → Nat → Int32 → Int32
  | 0, _, c => c
  | m + 1, i, c => lTl f m (i + 1) (c + f i)
theorem lTl_c {f g : Nat → Int32} : ∀ (m i : Nat) (c : Int32), (∀ k, i ≤ k → k < i + m → f k = g k) → lTl f m i c = lTl g m i c
  | 0, _, _, _ => rfl
  | m + 1, i, c, h => by
    show lTl f m (i + 1) (c + f i) = lTl g m (i + 1) (c + g i)
    rw [h i (by omega) (by omega)]
    exact lTl_c m (i + 1) _ (fun k h1 h2 => h k (by omega) (by omega))
theorem k21 : (21 : Int32).toInt = 21 := rfl
section LUCK
variable {d : Nat} {Q : Option Value → zS → Prop}
theorem p_spr_in {n w x1 x4 : Int32} {f : Nat → Int32} (hn : ¬ n = 0) :
    ∀ (m : Nat) (σ : zS) (x5 : Int32) (v6 : Value), x5.toInt = (m : Int) - 1 → m ≤ 21 → v6.category = 1 → zLay σ → (∀ i, i < m → zI σ 96 i = f i) → (∀ i, m ≤ i → i ≤ 20 → zI σ 96 i = lRow n w f i) →
    (∀ (σ' : zS) (y5 : Int32) (u6 : Value), u6.category = 1 → zLay σ' → (∀ i, i ≤ 20 → zI σ' 96 i = lRow n w f i) → zFr (fun j c _ => j = 0 ∧ c = 96) σ σ' → zW (d + 1) kX11_spreadParts 26 [.ref 1, .int x1, .int w, .int n, .int (x4 + 1), .int y5, u6] [] σ' Q) → zW (d + 1) kX11_spreadParts 41 [.ref 1, .int x1, .int w, .int n, .int x4, .int x5, v6] [] σ Q := by
  intro m
  induction m with
  | zero =>
    intro σ x5 v6 h5 hm hc hl h1 h2 h
    exact (bX11_spreadParts_41 hl hc).mpr (zlt' rfl k0 (fun _ => h σ x5 v6 hc hl (fun i hi => h2 i (by omega) hi) (zFr.refl _ _)) (fun q => by omega))
  | succ m ih =>
    intro σ x5 v6 h5 hm hc hl h1 h2 h
    obtain rfl : x5 = nI m := zint (by rw [h5, ai_n (by omega)]; omega)
    have p68 : ∀ y0 : Int32, f m * (n - w) / n + y0 = lRow n w f m → zW (d + 1) kX11_spreadParts 68 [.ref 1, .int x1, .int w, .int n, .int x4, .int (nI m), v6] [.int y0] σ Q := by
      intro y0 hy
      refine (bX11_spreadParts_68 hl hc).mpr ⟨vp_in_nI (by omega) (by decide), hn, vp_in_nI (by omega) (by decide), ?_⟩
      rw [nI_clamp (by omega), h1 m (by omega), hy]
      have f1 : zFr (fun j c _ => j = 0 ∧ c = 96) σ (zsI σ 96 (upd (zI σ 96) m (lRow n w f m))) := zFr_U ⟨rfl, rfl⟩
      refine ih _ (nI m + -1) _ (by rw [zadd (ai_n (by omega)) km1]; omega) (by omega) (zcat_i _) hl.I (fun i hi => ?_) (fun i hi hi2 => ?_) (fun σ' y5 u6 q1 q2 q3 q4 => h σ' y5 u6 q1 q2 q3 (f1.trans q4))
      · rw [zI_self, pk_un (by omega)]; exact h1 i (by omega)
      · rw [zI_self]
        by_cases e : i = m
        · rw [e, pk_us]
        · rw [pk_un e]; exact h2 i (by omega) hi2
    refine (bX11_spreadParts_41 hl hc).mpr (zlt' (ai_n (by omega)) k0 (fun q => by omega) (fun _ => zeq' (ai_n (by omega)) k0 (fun q => p68 0 ?_) (fun q => ?_)))
    · obtain rfl : m = 0 := by omega
      unfold lRow
      rw [if_pos rfl]
    · rw [a_pred (by omega) (by omega)]
      refine ⟨vp_in_nI (by omega) (by decide), hn, ?_⟩
      rw [nI_clamp (by omega), h1 (m - 1) (by omega)]
      refine p68 _ ?_
      unfold lRow
      rw [if_neg (by omega)]
theorem p_spr_l {n w : Int32} {K : Nat} (hn : ¬ n = 0) (hK : K ≤ 20) :
    ∀ (m k : Nat) (σ : zS) (v5 v6 : Value), K - k = m → k ≤ K → v5.category = 1 → v6.category = 1 → zLay σ → (∀ i, i ≤ 20 → zI σ 96 i = lPar n w k i) → (∀ σ', zLay σ' → (∀ i, i ≤ 20 → zI σ' 96 i = lPar n w K i) → zFr (fun j c _ => j = 0 ∧ c = 96) σ σ' → Q none σ') → zW (d + 1) kX11_spreadParts 26 [.ref 1, .int (nI K), .int w, .int n, .int (nI k), v5, v6] [] σ Q := by
  intro m
  induction m with
  | zero =>
    intro k σ v5 v6 hm hk h5 h6 hl h1 h
    have e : k = K := by omega
    subst e
    exact (bX11_spreadParts_26 hl h5 h6).mpr (zle' (ai_n (by omega)) (ai_n (by omega)) (fun _ => h σ hl h1 (zFr.refl _ _)) (fun q => by omega))
  | succ m ih =>
    intro k σ v5 v6 hm hk h5 h6 hl h1 h
    refine (bX11_spreadParts_26 hl h5 h6).mpr (zle' (ai_n (by omega)) (ai_n (by omega)) (fun q => by omega) (fun _ => ?_))
    refine p_spr_in (f := lPar n w k) hn 21 σ (21 - 1) v6 (by decide) (by omega) h6 hl (fun i hi => h1 i (by omega)) (fun i hi hi2 => by omega) (fun σ1 y5 u6 q1 q2 q3 f1 => ?_)
    rw [nI_1]
    exact ih (k + 1) σ1 _ _ (by omega) (by omega) (zcat_i _) q1 q2 q3 (fun σ' r1 r2 r3 => h σ' r1 r2 (f1.trans r3))
theorem p_spread {σ : zS} {n w : Int32} {K : Nat} (hl : zLay σ) (hn : 1 ≤ n.toInt) (hK : K ≤ 20) (h : ∀ σ', zLay σ' → (∀ i, i ≤ 20 → zI σ' 96 i = lPar n w K i) → zFr (fun j c _ => j = 0 ∧ c = 96) σ σ' → Q none σ') : zCall (d + 1) kX11_spreadParts [.ref 1, .int (nI K), .int w, .int n] σ Q := by
  refine (bX11_spreadParts_0 hl).mpr (p_fills (c := 96) zk_96 (by rw [zl_96]; decide) hl (fun σ1 z1 f1 => ⟨rfl, ?_⟩))
  have l1 : zLay σ1 := f1.lay hl (fun _ _ _ _ => by omega)
  rw [zl_96] at z1
  refine (bX11_spreadParts_8 l1).mpr ⟨vp_in_nI (n := 0) (by omega) (by decide), zle' k1 rfl (fun _ => ?_) (fun q => by omega)⟩
  have f2 : zFr (fun j c _ => j = 0 ∧ c = 96) σ1 (zsI σ1 96 (upd (zI σ1 96) (0 : Int32).toNatClampNeg 1000000)) := zFr_U ⟨rfl, rfl⟩
  refine p_spr_l (K := K) (fun q => by rw [q, k0] at hn; omega) hK K 0 _ _ _ (by omega) (by omega) (zcat_r _) (zcat_r _) l1.I (fun i hi => ?_) (fun σ' q1 q2 q3 => h σ' q1 q2 ((f1.trans f2).trans q3))
  rw [zI_self]
  show upd (zI σ1 96) 0 1000000 i = if i = 0 then 1000000 else 0
  by_cases e : i = 0
  · rw [e, pk_us, if_pos rfl]
  · rw [pk_un e, if_neg e]; exact z1 i (by omega)
theorem p_tail_l {σ : zS} {x1 x2 x4 : Int32} {K : Nat} {f : Nat → Int32} (hl : zLay σ) (hK : K ≤ 20) (hf : ∀ i, i ≤ 20 → zI σ 96 i = f i) :
    ∀ (m i : Nat) (c : Int32), K + 1 - i = m → i ≤ K + 1 → Q (some (.int (lTl f m i c))) σ → zW (d + 1) kX11_luck 71 [.ref 1, .int x1, .int x2, .int (nI K), .int x4, .int c, .int (nI i)] [] σ Q := by
  intro m
  induction m with
  | zero =>
    intro i c hm hi h
    exact (bX11_luck_71 hl).mpr (zlt' (ai_n (by omega)) (ai_n (by omega)) (fun _ => h) (fun q => by omega))
  | succ m ih =>
    intro i c hm hi h
    refine (bX11_luck_71 hl).mpr (zlt' (ai_n (by omega)) (ai_n (by omega)) (fun q => by omega) (fun _ => zle' k21 (ai_n (by omega)) (fun q => by omega) (fun _ => ⟨vp_in_nI (by omega) (by decide), ?_⟩)))
    rw [nI_clamp (by omega), nI_1, hf i (by omega)]
    exact ih (i + 1) _ (by omega) (by omega) h
theorem m_tail_l {σ : zS} {x1 x2 x4 x5 : Int32} {K : Nat} {f : Nat → Int32} (hl : zLay σ) (hK : K ≤ 20) (hf : ∀ i, i ≤ 20 → zI σ 152 i = f i) :
    ∀ (m i : Nat) (c : Int32), K + 1 - i = m → i ≤ K + 1 → Q (some (.int (lTl f m i c))) σ → zW (d + 1) kX12_luck 162 [.ref 131, .int x1, .int x2, .int (nI K), .int x4, .int x5, .int c, .int (nI i)] [] σ Q := by
  intro m
  induction m with
  | zero =>
    intro i c hm hi h
    exact (bX12_luck_162 hl).mpr (zlt' (ai_n (by omega)) (ai_n (by omega)) (fun _ => h) (fun q => by omega))
  | succ m ih =>
    intro i c hm hi h
    refine (bX12_luck_162 hl).mpr (zlt' (ai_n (by omega)) (ai_n (by omega)) (fun q => by omega) (fun _ => ⟨vp_in_nI (by omega) (by decide), ?_⟩))
    rw [nI_clamp (by omega), nI_1, hf i (by omega)]
    exact ih (i + 1) _ (by omega) (by omega) h
theorem m_spr_in {n w x1 x3 x4 x6 : Int32} {f : Nat → Int32} (hn : ¬ n = 0) :
    ∀ (m : Nat) (σ : zS) (x7 : Int32), x7.toInt = (m : Int) - 1 → m ≤ 21 → zLay σ → (∀ i, i < m → zI σ 152 i = f i) → (∀ i, m ≤ i → i ≤ 20 → zI σ 152 i = lRow n w f i) →
    (∀ (σ' : zS) (y7 : Int32), zLay σ' → (∀ i, i ≤ 20 → zI σ' 152 i = lRow n w f i) → zFr (fun j c _ => j = 0 ∧ c = 152) σ σ' → zW (d + 1) kX12_luck 83 [.ref 131, .int x1, .int n, .int x3, .int x4, .int w, .int (x6 + 1), .int y7] [] σ' Q) → zW (d + 1) kX12_luck 93 [.ref 131, .int x1, .int n, .int x3, .int x4, .int w, .int x6, .int x7] [] σ Q := by
  intro m
  induction m with
  | zero =>
    intro σ x7 h5 hm hl h1 h2 h
    exact (bX12_luck_93 hl).mpr (zlt' rfl k0 (fun _ => h σ x7 hl (fun i hi => h2 i (by omega) hi) (zFr.refl _ _)) (fun q => by omega))
  | succ m ih =>
    intro σ x7 h5 hm hl h1 h2 h
    obtain rfl : x7 = nI m := zint (by rw [h5, ai_n (by omega)]; omega)
    have nx : ∀ v : Int32, v = lRow n w f m → zW (d + 1) kX12_luck 93 [.ref 131, .int x1, .int n, .int x3, .int x4, .int w, .int x6, .int (nI m + -1)] [] (zsI σ 152 (upd (zI σ 152) m v)) Q := by
      intro v hv
      have f1 : zFr (fun j c _ => j = 0 ∧ c = 152) σ (zsI σ 152 (upd (zI σ 152) m v)) := zFr_U ⟨rfl, rfl⟩
      refine ih _ (nI m + -1) (by rw [zadd (ai_n (by omega)) km1]; omega) (by omega) hl.I (fun i hi => ?_) (fun i hi hi2 => ?_) (fun σ' y7 q1 q2 q3 => h σ' y7 q1 q2 (f1.trans q3))
      · rw [zI_self, pk_un (by omega)]; exact h1 i (by omega)
      · rw [zI_self]
        by_cases e : i = m
        · rw [e, pk_us]; exact hv
        · rw [pk_un e]; exact h2 i (by omega) hi2
    refine (bX12_luck_93 hl).mpr (zlt' (ai_n (by omega)) k0 (fun q => by omega) (fun _ => ⟨vp_in_nI (by omega) (by decide), hn, zeq' (ai_n (by omega)) k0 (fun q => ⟨vp_in_nI (by omega) (by decide), ?_⟩) (fun q => ?_)⟩))
    · rw [nI_clamp (by omega), h1 m (by omega)]
      refine nx _ ?_
      obtain rfl : m = 0 := by omega
      unfold lRow
      rw [if_pos rfl]
    · rw [a_pred (by omega) (by omega)]
      refine ⟨vp_in_nI (by omega) (by decide), hn, vp_in_nI (by omega) (by decide), ?_⟩
      rw [nI_clamp (by omega), nI_clamp (by omega), h1 m (by omega), h1 (m - 1) (by omega)]
      refine nx _ ?_
      unfold lRow
      rw [if_neg (by omega)]
theorem m_spr_l {n w x1 x4 : Int32} {K : Nat} (hn : ¬ n = 0) (hK : K ≤ 20) :
    ∀ (m k : Nat) (σ : zS) (v7 : Value), K - k = m → k ≤ K → v7.category = 1 → zLay σ → (∀ i, i ≤ 20 → zI σ 152 i = lPar n w k i) → (∀ σ', zLay σ' → (∀ i, i ≤ 20 → zI σ' 152 i = lPar n w K i) → zFr (fun j c _ => j = 0 ∧ c = 152) σ σ' → zW (d + 1) kX12_luck 162 [.ref 131, .int x1, .int n, .int (nI K), .int x4, .int w, .int 0, .int x4] [] σ' Q) → zW (d + 1) kX12_luck 83 [.ref 131, .int x1, .int n, .int (nI K), .int x4, .int w, .int (nI k), v7] [] σ Q := by
  intro m
  induction m with
  | zero =>
    intro k σ v7 hm hk h7 hl h1 h
    have e : k = K := by omega
    subst e
    exact (bX12_luck_83 hl h7).mpr (zle' (ai_n (by omega)) (ai_n (by omega)) (fun _ => h σ hl h1 (zFr.refl _ _)) (fun q => by omega))
  | succ m ih =>
    intro k σ v7 hm hk h7 hl h1 h
    refine (bX12_luck_83 hl h7).mpr (zle' (ai_n (by omega)) (ai_n (by omega)) (fun q => by omega) (fun _ => ?_))
    refine m_spr_in (f := lPar n w k) hn 21 σ 20 (by decide) (by omega) hl (fun i hi => h1 i (by omega)) (fun i hi hi2 => by omega) (fun σ1 y7 q2 q3 f1 => ?_)
    rw [nI_1]
    exact ih (k + 1) σ1 _ (by omega) (by omega) (zcat_i _) q2 q3 (fun σ' r1 r2 r3 => h σ' r1 r2 (f1.trans r3))
theorem m_lz_l {x1 x2 x3 x4 w : Int32} :
    ∀ (m i : Nat) (σ : zS), 21 - i = m → i ≤ 21 → zLay σ → (∀ k, k < i → zI σ 152 k = if k = 0 then 1000000 else 0) → (∀ σ', zLay σ' → (∀ k, k ≤ 20 → zI σ' 152 k = if k = 0 then 1000000 else 0) → zFr (fun j c _ => j = 0 ∧ c = 152) σ σ' → zW (d + 1) kX12_luck 83 [.ref 131, .int x1, .int x2, .int x3, .int x4, .int w, .int 0, .retAddr 0] [] σ' Q) → zW (d + 1) kX12_luck 48 [.ref 131, .int x1, .int x2, .int x3, .int x4, .int w, .int (nI i), .retAddr 0] [] σ Q := by
  intro m
  induction m with
  | zero =>
    intro i σ hm hi hl h1 h
    obtain rfl : i = 21 := by omega
    exact (bX12_luck_48 hl).mpr (zlt' k20 (ai_n (by omega)) (fun _ => h σ hl (fun k hk => h1 k (by omega)) (zFr.refl _ _)) (fun q => by omega))
  | succ m ih =>
    intro i σ hm hi hl h1 h
    have nx : ∀ v : Int32, v = (if i = 0 then 1000000 else 0) → zW (d + 1) kX12_luck 48 [.ref 131, .int x1, .int x2, .int x3, .int x4, .int w, .int (nI i + 1), .retAddr 0] [] (zsI σ 152 (upd (zI σ 152) i v)) Q := by
      intro v hv
      rw [nI_1]
      refine ih (i + 1) _ (by omega) (by omega) hl.I (fun k hk => ?_) (fun σ' q1 q2 q3 => h σ' q1 q2 ((zFr_U (W := fun j c _ => j = 0 ∧ c = 152) ⟨rfl, rfl⟩).trans q3))
      rw [zI_self]
      by_cases e : k = i
      · rw [e, pk_us]; exact hv
      · rw [pk_un e]; exact h1 k (by omega)
    refine (bX12_luck_48 hl).mpr (zlt' k20 (ai_n (by omega)) (fun q => by omega) (fun _ => zeq' (ai_n (by omega)) k0 (fun q => ⟨vp_in_nI (by omega) (by decide), ?_⟩) (fun q => ⟨vp_in_nI (by omega) (by decide), ?_⟩)))
    · rw [nI_clamp (by omega)]; exact nx _ (by rw [if_pos (by omega)])
    · rw [nI_clamp (by omega)]; exact nx _ (by rw [if_neg (by omega)])
end LUCK
section LUCK2
variable {σ : zS} {nb ns : Nat}
theorem e_luck (g : iA σ nb ns) (x y u v : Int32) : eCall kX11_luck kX12_luck [.int x, .int y, .int u, .int v] [.int x, .int y, .int u, .int v] σ := by
  have c1 : (1 : Int32).toInt = 1 := rfl
  have hR : ∃ n, n ≤ 6 ∧ zI σ 131 20 = nI n ∧ zI σ 12 4 = nI n ∧ (n = 0 ∨ ∃ b, iT σ nb ns n b) := by
    rcases g.race with ⟨n, b, T, -⟩ | ⟨-, m20, p4, -⟩
    · exact ⟨n, T.1, T.2.1, T.2.2.1, Or.inr ⟨b, T⟩⟩
    · exact ⟨0, by omega, m20, p4, Or.inl rfl⟩
  obtain ⟨n, n6, m20, p4, hT⟩ := hR
  -- bad rounds or won
  by_cases cu : (1 ≤ u.toInt ∧ u.toInt ≤ 20) ∧ (0 ≤ v.toInt ∧ v.toInt ≤ u.toInt)
  · have p0 : ∀ {Q : Option Value → zS → Prop}, zCall 12 kX11_noRunner [.ref 1, .int x] σ (fun r' σ' => zisN r' = true ∧ zW 13 kX11_luck 29 [.ref 1, .int x, .int y, .int u, .int v, .retAddr 0, .retAddr 0] (zRstk r' ++ []) σ' Q) → zCall 13 kX11_luck [.ref 1, .int x, .int y, .int u, .int v] σ Q := fun h =>
      (bX11_luck_0 g.1).mpr (zlt' rfl k1 (fun q => by omega) (fun _ => zlt' k20 rfl (fun q => by omega) (fun _ => zlt' rfl k0 (fun q => by omega) (fun _ => zle (fun _ => h) (fun q => by omega)))))
    rcases a_cs x n with ⟨r, hr, rfl, -⟩ | hx
    · rcases hT with hT | ⟨b, T⟩
      · omega
      have hB := g.bok T.bb
      by_cases cy : 1 ≤ y.toInt ∧ y.toInt ≤ 40
      · obtain ⟨N, hN, rfl, eN⟩ := ai_nx (x := y) (by omega)
        obtain ⟨K, hK, rfl, eK⟩ := ai_nx (x := u) (by omega)
        obtain ⟨V, hV, rfl, eV⟩ := ai_nx (x := v) (by omega)
        have pp : ∀ {Q : Option Value → zS → Prop}, zCall 12 kX11_tallyTold [.ref 1, .int (nI N)] σ (fun r' σ' => zisN r' = true ∧ zW 13 kX11_luck 44 [.ref 1, .int (nI r), .int (nI N), .int (nI K), .int (nI V), .retAddr 0, .retAddr 0] (zRstk r' ++ []) σ' Q) → zCall 13 kX11_luck [.ref 1, .int (nI r), .int (nI N), .int (nI K), .int (nI V)] σ Q := fun h =>
          p0 (p_nr0 g.1 p4 n6 hr ⟨rfl, (bX11_luck_29 g.1).mpr (zy rfl (p_sd g.1 (fun _ _ => ⟨rfl, (bX11_luck_36 g.1).mpr (zy rfl h)⟩) (fun q => absurd cy q)))⟩)
        by_cases cF : aFit (mB σ b) (mW σ) n (mFR σ 139 n)
        · -- the same number of wins
          refine e_q g (lTl (lPar (nI N) (Int32.ofInt (aSum (fun k => aWin n (aR (mB σ b) (mW σ) n (mFR σ 139 n) k) r) N)) K) (K + 1 - V) V 0).toInt (fun Q h => pp (p_tallyTold (d := 5) g T (by omega) (by omega) (fun _ σ1 l1 t1 f1 => ⟨rfl, (bX11_luck_44 l1).mpr (zn (by decide) ⟨vp_in_nI (by omega) (by decide), ?_⟩)⟩) (fun q => absurd cF q))) (fun σ1 σ2 Q l1 e2 g2 f2 h => ?_)
          · have t1r := (t1.1 r hr).1
            rw [Int.zero_add] at t1r
            rw [nI_clamp (by omega), show zI σ1 81 r = Int32.ofInt (aSum (fun k => aWin n (aR (mB σ b) (mW σ) n (mFR σ 139 n) k) r) N) by rw [← t1r, ai_io]]
            refine p_spread l1 (by omega) (by omega) (fun σ3 l3 t3 f3 => ⟨rfl, (bX11_luck_64 l3).mpr (p_tail_l l3 (by omega) t3 (K + 1 - V) V 0 rfl (by omega) (h _ σ3 rfl (f1.trans (f3.mono (fun j c k q => Or.inl ⟨q.1, Or.inl (by omega)⟩)))))⟩)
          · have C2 := mCx_q g g2 T f2
            refine (bX12_luck_0 l1).mpr ?_
            rw [e2]
            refine m_areOdds C2 (T.m f2) hr T.sz (fun _ _ => ⟨rfl, (bX12_luck_11 g2.1).mpr (zn (by decide) (m_isIn g2.1 ⟨rfl, (bX12_luck_21 g2.1).mpr (zt0 (fun _ => m_isIn g2.1 ⟨rfl, (bX12_luck_31 g2.1).mpr (zt0 (fun _ => ?_) (fun q => absurd (by rw [k0]; exact cu.2) q))⟩) (fun q => absurd (by rw [c1, k20]; exact cu.1) q))⟩))⟩) (fun q => absurd ⟨cy, cF.1⟩ q)
            refine m_oddsOf C2 (T.m f2) g2.r43 hr T.fs (by omega) (Or.inr ⟨by decide, rfl⟩) (fun w σ3 hv l3 f3 => ⟨rfl, (bX12_luck_43 l3).mpr ?_⟩)
            have ew : w = Int32.ofInt (aSum (fun k => aWin n (aR (mB σ b) (mW σ) n (mFR σ 139 n) k) r) N) := by rw [← hv, ai_io]
            rw [ew]
            refine m_lz_l 21 0 σ3 (by omega) (by omega) l3 (fun k hk => by omega) (fun σ4 l4 z4 f4 => ?_)
            refine m_spr_l (K := K) (fun q => by rw [q, k0] at cy; omega) (by omega) K 0 σ4 _ (by omega) (by omega) (zcat_r _) l4 z4 (fun σ5 l5 z5 f5 => ?_)
            refine m_tail_l l5 (by omega) z5 (K + 1 - V) V 0 rfl (by omega) (h _ σ5 rfl (f3.trans ((f4.trans f5).mono (fun j c k q => by unfold mWq; omega))))
        · refine e_q g (-1) (fun Q h => pp (p_tallyTold (d := 5) g T (by omega) (by omega) (fun q => absurd q cF) (fun _ σ1 l1 f1 => ⟨rfl, (bX11_luck_44 l1).mpr (zy rfl (h _ σ1 km1 f1))⟩))) (fun σ1 σ2 Q l1 e2 g2 f2 h => ?_)
          have C2 := mCx_q g g2 T f2
          refine (bX12_luck_0 l1).mpr ?_
          rw [e2]
          exact m_areOdds C2 (T.m f2) hr T.sz (fun _ q => absurd ⟨q, T.ap⟩ cF) (fun _ => ⟨rfl, (bX12_luck_11 g2.1).mpr (zy rfl (h _ σ2 km1 (zFr.refl _ _)))⟩)
      · refine e_q g (-1) (fun Q h => p0 (p_nr0 g.1 p4 n6 hr ⟨rfl, (bX11_luck_29 g.1).mpr (zy rfl (p_sd g.1 (fun q1 q2 => absurd ⟨q1, q2⟩ cy) (fun _ => ⟨rfl, (bX11_luck_36 g.1).mpr (zn (by decide) (h _ σ km1 (zFr.refl _ _)))⟩)))⟩)) (fun σ1 σ2 Q l1 e2 g2 f2 h => ?_)
        have C2 := mCx_q g g2 T f2
        refine (bX12_luck_0 l1).mpr ?_
        rw [e2]
        exact m_areOdds C2 (T.m f2) hr T.sz (fun q _ => absurd q cy) (fun _ => ⟨rfl, (bX12_luck_11 g2.1).mpr (zy rfl (h _ σ2 km1 (zFr.refl _ _)))⟩)
    · refine e_q g (-1) (fun Q h => p0 (p_nr1 g.1 p4 n6 hx ⟨rfl, (bX11_luck_29 g.1).mpr (zn (by decide) (h _ σ km1 (zFr.refl _ _)))⟩)) (fun σ1 σ2 Q l1 e2 g2 f2 h => ?_)
      refine (bX12_luck_0 l1).mpr ?_
      rw [e2]
      exact m_areOdds0 g2.1 n6 (by rw [f2.i (nS3 (by omega))]; exact m20) hx ⟨rfl, (bX12_luck_11 g2.1).mpr (zy rfl (h _ σ2 km1 (zFr.refl _ _)))⟩
  · refine e_q g (-1) (fun Q h => ?_) (fun σ1 σ2 Q l1 e2 g2 f2 h => ?_)
    · exact (bX11_luck_0 g.1).mpr (zlt' rfl k1 (fun q => h _ σ km1 (zFr.refl _ _)) (fun q1 => zlt' k20 rfl (fun q => h _ σ km1 (zFr.refl _ _)) (fun q2 => zlt' rfl k0 (fun q => h _ σ km1 (zFr.refl _ _)) (fun q3 => zle (fun q4 => absurd ⟨⟨q1, q2⟩, q3, q4⟩ cu) (fun q => h _ σ km1 (zFr.refl _ _))))))
    · refine (bX12_luck_0 l1).mpr ?_
      rw [e2]
      have f11 : ∀ y0 : Int32, (y0 = 0 ∨ y0 = 1) → zisN (some (.int y0)) = true ∧ zW 13 kX12_luck 11 [.ref 131, .int x, .int y, .int u, .int v, .retAddr 0, .retAddr 0, .retAddr 0] [.int y0] σ2 Q := fun y0 hy => ⟨rfl, (bX12_luck_11 g2.1).mpr (zti (fun _ => h _ σ2 km1 (zFr.refl _ _)) (fun _ => m_isIn g2.1 ⟨rfl, (bX12_luck_21 g2.1).mpr (zt0 (fun q => m_isIn g2.1 ⟨rfl, (bX12_luck_31 g2.1).mpr (zt0 (fun q2 => absurd ⟨by rw [c1, k20] at q; exact q, by rw [k0] at q2; exact q2⟩ cu) (fun _ => h _ σ2 km1 (zFr.refl _ _)))⟩) (fun _ => h _ σ2 km1 (zFr.refl _ _)))⟩))⟩
      rcases a_cs x n with ⟨r, hr, rfl, -⟩ | hx
      · rcases hT with hT | ⟨b, T⟩
        · omega
        exact m_areOdds (mCx_q g g2 T f2) (T.m f2) hr T.sz (fun _ _ => f11 1 (Or.inr rfl)) (fun _ => f11 0 (Or.inl rfl))
      · exact m_areOdds0 g2.1 n6 (by rw [f2.i (nS3 (by omega))]; exact m20) hx (f11 0 (Or.inl rfl))
end LUCK2
