/-! the verb fewest -/
def lfs (m b : Nat) : Prop := ¬ ((nI m &&& (nI m ^^^ nI b)) &&& (-(nI m ^^^ nI b)) : Int32) = 0
def bet (m b : Nat) : Prop := (pc (nI m)).toInt < (pc (nI b)).toInt ∨ ((pc (nI m)).toInt = (pc (nI b)).toInt ∧ lfs m b)
noncomputable def cF (hit : Nat → Prop) : Nat → Option Nat
  | 0 => none
  | m + 1 => match cF hit m with
    | none => zif (hit m) (some m) none
    | some b => zif (bet m b ∧ hit m) (some m) (some b)
noncomputable def mFw (hit : Nat → Prop) (full : Nat) : Nat → Nat
  | 0 => full
  | m + 1 => zif (bet m (mFw hit full m) ∧ hit m) m (mFw hit full m)
section CF
variable {hit : Nat → Prop} {n : Nat}
theorem cF_0y {m : Nat} (h : cF hit m = none) (c : hit m) : cF hit (m + 1) = some m := by
  unfold cF
  rw [h]
  exact zif_t c
theorem cF_0n {m : Nat} (h : cF hit m = none) (c : ¬ hit m) : cF hit (m + 1) = none := by
  unfold cF
  rw [h]
  exact zif_f c
theorem cF_1y {m b : Nat} (h : cF hit m = some b) (c : bet m b ∧ hit m) : cF hit (m + 1) = some m := by
  unfold cF
  rw [h]
  exact zif_t c
theorem cF_1n {m b : Nat} (h : cF hit m = some b) (c : ¬ (bet m b ∧ hit m)) : cF hit (m + 1) = some b := by
  unfold cF
  rw [h]
  exact zif_f c
theorem mFw_y {full m : Nat} (c : bet m (mFw hit full m) ∧ hit m) : mFw hit full (m + 1) = m := zif_t c
theorem mFw_n {full m : Nat} (c : ¬ (bet m (mFw hit full m) ∧ hit m)) : mFw hit full (m + 1) = mFw hit full m := zif_f c
theorem cF_m (hn : n < 13) : ∀ m, m ≤ 2 ^ n - 1 → (cF hit m = none → mFw hit (2 ^ n - 1) m = 2 ^ n - 1) ∧ ∀ b, cF hit m = some b → mFw hit (2 ^ n - 1) m = b
  | 0, _ => ⟨fun _ => rfl, fun b h => by cases h⟩
  | m + 1, hm => by
    obtain ⟨i1, i2⟩ := cF_m hn m (by omega)
    have lt := pc_lt (n := n) (m := m) hn (by omega)
    have fu := pc_full n hn
    cases hc : cF hit m with
    | none =>
      have e := i1 hc
      by_cases c : hit m
      · refine ⟨fun q => ?_, fun b q => ?_⟩
        · rw [cF_0y hc c] at q; cases q
        · rw [cF_0y hc c] at q
          cases q
          exact mFw_y ⟨by rw [e]; exact Or.inl (by omega), c⟩
      · refine ⟨fun _ => by rw [mFw_n (fun z => c z.2), e], fun b q => ?_⟩
        rw [cF_0n hc c] at q; cases q
    | some b0 =>
      have e := i2 b0 hc
      by_cases c : bet m b0 ∧ hit m
      · refine ⟨fun q => ?_, fun b q => ?_⟩
        · rw [cF_1y hc c] at q; cases q
        · rw [cF_1y hc c] at q
          cases q
          exact mFw_y (by rw [e]; exact c)
      · refine ⟨fun q => ?_, fun b q => ?_⟩
        · rw [cF_1n hc c] at q; cases q
        · rw [cF_1n hc c] at q
          cases q
          rw [mFw_n (by rw [e]; exact c), e]
theorem cF_end (hn : n < 13) (hf : hit (2 ^ n - 1)) : cF hit (2 ^ n) = some (mFw hit (2 ^ n - 1) (2 ^ n)) := by
  have p := pow_b n hn
  obtain ⟨i1, i2⟩ := cF_m (hit := hit) hn (2 ^ n - 1) (Nat.le_refl _)
  have e : 2 ^ n = (2 ^ n - 1) + 1 := by omega
  rw [e]
  rw [show 2 ^ n - 1 + 1 - 1 = 2 ^ n - 1 by omega]
  cases hc : cF hit (2 ^ n - 1) with
  | none =>
    have e1 := i1 hc
    rw [cF_0y hc hf]
    by_cases c : bet (2 ^ n - 1) (mFw hit (2 ^ n - 1) (2 ^ n - 1)) ∧ hit (2 ^ n - 1)
    · rw [mFw_y c]
    · rw [mFw_n c, e1]
  | some b0 =>
    have e1 := i2 b0 hc
    by_cases c : bet (2 ^ n - 1) b0 ∧ hit (2 ^ n - 1)
    · rw [cF_1y hc c, mFw_y (by rw [e1]; exact c)]
    · rw [cF_1n hc c, mFw_n (by rw [e1]; exact c), e1]
theorem mFw_b {full : Nat} : ∀ m, m ≤ full + 1 → mFw hit full m ≤ full
  | 0, _ => Nat.le_refl _
  | m + 1, hm => by
    by_cases c : bet m (mFw hit full m) ∧ hit m
    · rw [mFw_y c]; omega
    · rw [mFw_n c]; exact mFw_b m (by omega)
theorem mFw_c {hit' : Nat → Prop} {full : Nat} : ∀ m, (∀ k, k < m → hit k = hit' k) → mFw hit full m = mFw hit' full m
  | 0, _ => rfl
  | m + 1, h => by
    have i := mFw_c (full := full) m (fun k hk => h k (by omega))
    show zif (bet m (mFw hit full m) ∧ hit m) m (mFw hit full m) = zif (bet m (mFw hit' full m) ∧ hit' m) m (mFw hit' full m)
    rw [i, h m (by omega)]
end CF
/-- the set m parts as many as all do -/
noncomputable def hitT (σ : zS) (m1 : Int32) (T : tT) (m : Nat) : Prop := nT σ m1 T (bt (nI m)) = nT σ m1 T (bt (nI (2 ^ T.1 - 1)))
theorem b_full : ∀ n : Nat, n < 13 → ∀ t, t < n → bt (nI (2 ^ n - 1)) t = true := by decide +kernel
theorem b_4095 : ∀ t, t < 12 → bt 4095 t = true := by decide +kernel
theorem hit_p {σ : zS} {m1 : Int32} {T : tT} {m : Nat} (hT : T.1 ≤ 12) {x y : Int32} (hx : ∀ k, k < 32 → (bt x k = true ↔ k < 15 ∧ pO (bt (nI m)) (eT σ m1 T) T.1 k = true)) (hy : ∀ k, k < 32 → (bt y k = true ↔ k < 15 ∧ pO (bt 4095) (eT σ m1 T) T.1 k = true)) : x = y ↔ hitT σ m1 T m := by
  have e4 : ∀ k, pO (bt 4095) (eT σ m1 T) T.1 k = pO (bt (nI (2 ^ T.1 - 1))) (eT σ m1 T) T.1 k := fun k => pO_c T.1 (fun t ht => ⟨by rw [b_4095 t (by omega), b_full T.1 (by omega) t ht], rfl⟩)
  constructor
  · intro e
    refine cnt_c 15 (fun k hk => ?_)
    rw [← e4]
    have a := hx k (by omega)
    have b := hy k (by omega)
    rw [e] at a
    cases h1 : pO (bt (nI m)) (eT σ m1 T) T.1 k <;> cases h2 : pO (bt 4095) (eT σ m1 T) T.1 k
    · rfl
    · have := (a.mp (b.mpr ⟨hk, h2⟩)).2
      rw [h1] at this
      exact absurd this (by decide)
    · have := (b.mp (a.mpr ⟨hk, h1⟩)).2
      rw [h2] at this
      exact absurd this (by decide)
    · rfl
  · intro e
    have q := cnt_eq 15 (fun k _ => pO_le T.1 (fun t ht _ => b_full T.1 (by omega) t ht)) e
    refine b_ext (fun k hk => ?_)
    have a := hx k hk
    have b := hy k hk
    by_cases h15 : k < 15
    · have q1 := q k h15
      rw [← e4] at q1
      rw [q1] at a
      cases h1 : bt x k <;> cases h2 : bt y k
      · rfl
      · have := a.mpr (b.mp h2)
        rw [h1] at this
        exact absurd this (by decide)
      · have := b.mpr (a.mp h1)
        rw [h2] at this
        exact absurd this (by decide)
      · rfl
    · have n1 : ¬ bt x k = true := fun z => h15 (a.mp z).1
      have n2 : ¬ bt y k = true := fun z => h15 (b.mp z).1
      revert n1 n2
      cases bt x k <;> cases bt y k <;> simp
section FEWEST
variable {d : Nat} {Q : Option Value → zS → Prop} {σ0 : zS} {nb ns : Nat} {m1 m2 : Int32}
/-- the class's least, and its size -/
def cR (o : Option Nat) (x y : Int32) : Prop := match o with
  | none => x = -1 ∧ y = 13
  | some b => x = nI b ∧ y = pc (nI b) ∧ b < 4096
theorem p_ls_l {T : tT} {σ : zS} {all : Int32} (hl : zLay σ) (hTr : pTr σ T) (hP : pPar σ0 m1 σ T T.1) (hall : ∀ k, k < 32 → (bt all k = true ↔ k < 15 ∧ pO (bt 4095) (eT σ0 m1 T) T.1 k = true))
    (h : ∀ x y, cR (cF (hitT σ0 m1 T) (2 ^ T.1)) x y → Q (some (.int x)) σ) :
    ∀ (mm m : Nat) (x y : Int32) (v5 v6 : Value), 2 ^ T.1 - m = mm → m ≤ 2 ^ T.1 → v5.category = 1 → v6.category = 1 → cR (cF (hitT σ0 m1 T) m) x y → zW (d + 2) kX9_leastSet 16 [.ref 87, .int all, .int x, .int y, .int (nI m), v5, v6] [] σ Q := by
  have t1 := hTr.1
  have t2 := hTr.2.1
  have pb := pow_b T.1 (by omega)
  have pw := pw_a T.1 (by omega)
  have k13 : (13 : Int32).toInt = 13 := rfl
  intro mm
  induction mm with
  | zero =>
    intro m x y v5 v6 hm hle c5 c6 hR
    obtain rfl : m = 2 ^ T.1 := by omega
    refine (bX9_leastSet_16 hl zk_87 c5 c6).mpr ?_
    rw [t2, pw]
    exact zle' (ai_n (by omega)) (ai_n (by omega)) (fun _ => h x y hR) (fun q => by omega)
  | succ mm ih =>
    intro m x y v5 v6 hm hle c5 c6 hR
    have pm := pc_b (m := m) (by omega)
    -- taken, if it hits
    have p60 : (∀ v5 v6 : Value, v5.category = 1 → v6.category = 1 → hitT σ0 m1 T m → zW (d + 2) kX9_leastSet 16 [.ref 87, .int all, .int (nI m), .int (pc (nI m)), .int (nI (m + 1)), v5, v6] [] σ Q) → (∀ v5 v6 : Value, v5.category = 1 → v6.category = 1 → ¬ hitT σ0 m1 T m → zW (d + 2) kX9_leastSet 16 [.ref 87, .int all, .int x, .int y, .int (nI (m + 1)), v5, v6] [] σ Q) → zW (d + 2) kX9_leastSet 55 [.ref 87, .int all, .int x, .int y, .int (nI m), .int (pc (nI m)), v6] [] σ Q := fun hy hn => by
      refine (bX9_leastSet_55 hl zk_87 c6).mpr ((bX9_leastSet_60 hl zk_87 c6).mpr (zn (by decide) (p_parted (d := d) hl hTr hP (fun z hz => ⟨rfl, (bX9_leastSet_73 hl zk_87).mpr ?_⟩))))
      rw [nI_1]
      have hh := hit_p t1 hz hall
      exact zti (fun e => hy _ _ (zcat_i _) (zcat_i _) (hh.mp e)) (fun e => hn _ _ (zcat_i _) (zcat_i _) (fun z2 => e (hh.mpr z2)))
    have p60n : (∀ v5 v6 : Value, v5.category = 1 → v6.category = 1 → zW (d + 2) kX9_leastSet 16 [.ref 87, .int all, .int x, .int y, .int (nI (m + 1)), v5, v6] [] σ Q) → zW (d + 2) kX9_leastSet 60 [.ref 87, .int all, .int x, .int y, .int (nI m), .int (pc (nI m)), v6] [.int 0] σ Q := fun hn => by
      refine (bX9_leastSet_60 hl zk_87 c6).mpr (zy rfl ?_)
      rw [nI_1]
      exact hn _ _ (zcat_i _) (zcat_i _)
    have up : ∀ (x y : Int32) (v5 v6 : Value), v5.category = 1 → v6.category = 1 → cR (cF (hitT σ0 m1 T) (m + 1)) x y → zW (d + 2) kX9_leastSet 16 [.ref 87, .int all, .int x, .int y, .int (nI (m + 1)), v5, v6] [] σ Q := fun x y v5 v6 c5 c6 hR' => ih (m + 1) x y v5 v6 (by omega) (by omega) c5 c6 hR'
    refine (bX9_leastSet_16 hl zk_87 c5 c6).mpr ?_
    rw [t2, pw]
    refine zle' (ai_n (by omega)) (ai_n (by omega)) (fun q => by omega) (fun _ => c_bc hl ⟨rfl, (bX9_leastSet_32 hl zk_87 c5 c6).mpr ?_⟩)
    cases hc : cF (hitT σ0 m1 T) m with
    | none =>
      rw [hc] at hR
      obtain ⟨e1, e2⟩ := hR
      subst e1; subst e2
      refine zlt' rfl k13 (fun _ => p60 (fun v5 v6 c5 c6 z => up _ _ v5 v6 c5 c6 ?_) (fun v5 v6 c5 c6 z => up _ _ v5 v6 c5 c6 ?_)) (fun q => by omega)
      · rw [cF_0y hc z]; exact ⟨rfl, rfl, by omega⟩
      · rw [cF_0n hc z]; exact ⟨rfl, rfl⟩
    | some b =>
      rw [hc] at hR
      obtain ⟨e1, e2, hb⟩ := hR
      subst e1; subst e2
      have take : bet m b → zW (d + 2) kX9_leastSet 55 [.ref 87, .int all, .int (nI b), .int (pc (nI b)), .int (nI m), .int (pc (nI m)), v6] [] σ Q := fun be => p60 (fun v5 v6 c5 c6 z => up _ _ v5 v6 c5 c6 (by rw [cF_1y hc ⟨be, z⟩]; exact ⟨rfl, rfl, by omega⟩)) (fun v5 v6 c5 c6 z => up _ _ v5 v6 c5 c6 (by rw [cF_1n hc (fun q => z q.2)]; exact ⟨rfl, rfl, hb⟩))
      have leave : ¬ bet m b → zW (d + 2) kX9_leastSet 60 [.ref 87, .int all, .int (nI b), .int (pc (nI b)), .int (nI m), .int (pc (nI m)), v6] [.int 0] σ Q := fun be => p60n (fun v5 v6 c5 c6 => up _ _ v5 v6 c5 c6 (by rw [cF_1n hc (fun q => be q.1)]; exact ⟨rfl, rfl, hb⟩))
      refine zlt' rfl rfl (fun q => take (Or.inl q)) (fun q => zeq' rfl rfl (fun q2 => (bX9_lowerFirst_0 hl).mpr (zti (fun e => ⟨rfl, (bX9_leastSet_52 hl zk_87 c6).mpr (zy rfl (leave ?_))⟩) (fun e => ⟨rfl, (bX9_leastSet_52 hl zk_87 c6).mpr (zn (by decide) (take (Or.inr ⟨q2, e⟩)))⟩))) (fun q2 => leave ?_))
      · rintro (z | ⟨_, z⟩)
        · omega
        · exact z e
      · rintro (z | ⟨z, _⟩)
        · omega
        · exact q2 z
theorem p_leastS {T : tT} {σ : zS} (hl : zLay σ) (hTr : pTr σ T) (hP : pPar σ0 m1 σ T T.1) (h : Q (some (.int (nI (mFw (hitT σ0 m1 T) (2 ^ T.1 - 1) (2 ^ T.1))))) σ) : zCall (d + 2) kX9_leastSet [.ref 87] σ Q := by
  have t1 := hTr.1
  refine (bX9_leastSet_0 hl zk_87).mpr (p_parted (d := d) hl hTr hP (fun all hall => ⟨rfl, (bX9_leastSet_7 hl zk_87).mpr ?_⟩))
  refine p_ls_l (d := d) (σ0 := σ0) (m1 := m1) hl hTr hP hall (fun x y hR => ?_) (2 ^ T.1) 0 (-1) 13 _ _ (Nat.sub_zero _) (Nat.zero_le _) (zcat_r _) (zcat_r _) ⟨rfl, rfl⟩
  rw [cF_end (by omega) (show hitT σ0 m1 T (2 ^ T.1 - 1) from rfl)] at hR
  rw [hR.1]
  exact h
theorem m_before {σ : zS} {m b : Nat} (hl : zLay σ) (h : Q (some (.int (zb (bet m b)))) σ) : zCall (d + 1) kX12_isBefore [.int (nI m), .int (nI b)] σ Q := by
  refine (bX12_isBefore_0 hl).mpr (c_bc hl ⟨rfl, (bX12_isBefore_4 hl).mpr (c_bc hl ⟨rfl, (bX12_isBefore_9 hl).mpr (zeq' rfl rfl (fun q => zti (fun e => ?_) (fun e => ?_)) (fun q => zle' rfl rfl (fun q2 => ?_) (fun q2 => ?_)))⟩)⟩)
  · rwa [zb_f (c := bet m b) (by
      rintro (z | ⟨_, z⟩)
      · omega
      · exact z e)] at h
  · rwa [zb_t (c := bet m b) (Or.inr ⟨q, e⟩)] at h
  · rwa [zb_f (c := bet m b) (by
      rintro (z | ⟨z, _⟩)
      · omega
      · exact q z)] at h
  · rwa [zb_t (c := bet m b) (Or.inl q2)] at h
theorem m_few_l {T : tT} {σ : zS} (hl : zLay σ) (e11 : zI σ 131 11 = nI nb) (hT : mTr σ0 nb m1 σ T) (h6 : nb ≤ 6) (hm1 : tSt nb m1) (h : Q (some (.int (nI (mFw (hitT σ0 m1 T) (2 ^ T.1 - 1) (2 ^ T.1))))) σ) :
    ∀ (mm m : Nat), 2 ^ T.1 - m = mm → m ≤ 2 ^ T.1 → zW (d + 3) kX12_fewest 39 [.ref 131, .int m1, .int m2, .int (nI (2 ^ T.1 - 1)), .int (nI (nT σ0 m1 T (bt (nI (2 ^ T.1 - 1))))), .int (nI (mFw (hitT σ0 m1 T) (2 ^ T.1 - 1) m)), .int (nI m)] [] σ Q := by
  have t1 := hT.1
  have pb := pow_b T.1 (by omega)
  intro mm
  induction mm with
  | zero =>
    intro m hm hle
    obtain rfl : m = 2 ^ T.1 := by omega
    exact (bX12_fewest_39 hl).mpr (zlt' (ai_n (by omega)) (ai_n (by omega)) (fun _ => h) (fun q => by omega))
  | succ mm ih =>
    intro m hm hle
    have mb := mFw_b (hit := hitT σ0 m1 T) (full := 2 ^ T.1 - 1) m (by omega)
    have i := ih (m + 1) (by omega) (by omega)
    refine (bX12_fewest_39 hl).mpr (zlt' (ai_n (by omega)) (ai_n (by omega)) (fun q => by omega) (fun _ => m_before (d := d + 1) hl ⟨rfl, (bX12_fewest_52 hl).mpr (zt0 (fun c => m_partsOf (d := d) hl e11 hT h6 hm1 ⟨rfl, (bX12_fewest_62 hl).mpr ?_⟩) (fun c => ?_))⟩))
    · have b1 := nT_b (σ := σ0) (m1 := m1) (T := T) (X := bt (nI m))
      have b2 := nT_b (σ := σ0) (m1 := m1) (T := T) (X := bt (nI (2 ^ T.1 - 1)))
      rw [nI_1]
      refine zeq' (ai_n (by omega)) (ai_n (by omega)) (fun q => ?_) (fun q => ?_)
      · have hh : hitT σ0 m1 T m := by unfold hitT; omega
        rw [mFw_y ⟨c, hh⟩] at i
        exact i
      · have hh : ¬ hitT σ0 m1 T m := by unfold hitT; omega
        rw [mFw_n (fun z => hh z.2)] at i
        exact i
    · rw [nI_1]
      rw [mFw_n (fun z => c z.1)] at i
      exact i
theorem e_fewest {σ : zS} (g : iA σ nb ns) (x1 x2 : Int32) : eCall kX11_fewest kX12_fewest [.int x1, .int x2] [.int x1, .int x2] σ := by
  have h6 := g.nb6
  have h10 := g.ns10
  have ok : ∀ t, t < (tOut (tC σ nb x1 x2) ns).1 → ((tOut (tC σ nb x1 x2) ns).2 t).1 < ns ∧ ((tOut (tC σ nb x1 x2) ns).2 t).2 < 6 ∧ tOn σ nb x1 ((tOut (tC σ nb x1 x2) ns).2 t).1 ((tOut (tC σ nb x1 x2) ns).2 t).2 := fun t ht => ⟨(tOut_ok ns t ht).1, (tOut_ok ns t ht).2.1, (tOut_ok ns t ht).2.2.2⟩
  generalize hTT : tOut (tC σ nb x1 x2) ns = T at ok
  have eT : ∀ σ2, zFr iSafe σ σ2 → tOut (tC σ2 nb x1 x2) ns = T := fun σ2 f => by rw [← hTT]; exact tTr_c f h6 h10
  by_cases c : tSt nb x1 ∧ tSt ns x2 ∧ T.1 ≤ 12
  · have pb := pow_b T.1 (by have := c.2.2; omega)
    have mb := mFw_b (hit := hitT σ x1 T) (full := 2 ^ T.1 - 1) (2 ^ T.1) (by omega)
    refine e_q g (mFw (hitT σ x1 T) (2 ^ T.1 - 1) (2 ^ T.1) : Int) (fun Q h => ?_) (fun σ1 σ2 Q l1 e2 g2 f2 h => ?_)
    · refine (bX11_fewest_0 g.1).mpr (p_find (d := 8) g (fun b1 _ σ' f' hT => ⟨rfl, (bX11_fewest_6 (pZ g f').1.1).mpr (zn (by decide) ?_)⟩) (fun z => by rw [hTT] at z; exact absurd c z))
      rw [hTT] at hT
      refine p_parts (d := 6) (nb := nb) g (tSt_b h6 b1) ok f' hT (fun σ3 f3 hT3 hP3 => ⟨rfl, (bX11_fewest_16 (pZ g f3).1.1).mpr ?_⟩)
      exact p_leastS (d := 10) (σ0 := σ) (m1 := x1) (pZ g f3).1.1 hT3 hP3 ⟨rfl, (bX11_fewest_23 (pZ g f3).1.1).mpr (h _ σ3 (ai_n (by omega)) f3)⟩
    · refine (bX12_fewest_0 l1).mpr ?_
      rw [e2]
      refine m_are (d := 0) g2 (fun b1 _ σ' f' hT => ⟨rfl, (bX12_fewest_11 (mZ g2 f').1.1).mpr (zn (by decide) ?_)⟩) (fun z => by rw [eT σ2 f2] at z; exact absurd c z)
      rw [eT σ2 f2] at hT
      have l3 := (mZ g2 f').1.1
      have e1 : ((1 : Int32) <<< (zI σ' 131 50 &&& 31)) - 1 = nI (2 ^ T.1 - 1) := zint (by
        rw [hT.2.1, pw_a T.1 (by omega), zsub (ai_n (by omega)) k1 (by omega) (by omega), ai_n (by omega)]
        omega)
      rw [e1]
      refine m_partsOf (d := 10) l3 (mZ g2 f').1.e11 hT h6 b1 ⟨rfl, (bX12_fewest_31 l3).mpr ?_⟩
      refine m_few_l (d := 10) (σ0 := σ2) (m1 := x1) l3 (mZ g2 f').1.e11 hT h6 b1 (h _ σ' ?_ f') (2 ^ T.1) 0 (Nat.sub_zero _) (Nat.zero_le _)
      have eh : mFw (hitT σ2 x1 T) (2 ^ T.1 - 1) (2 ^ T.1) = mFw (hitT σ x1 T) (2 ^ T.1 - 1) (2 ^ T.1) := mFw_c _ (fun k _ => by
        unfold hitT
        rw [nT_c f2 h10 (fun t ht => (ok t ht).1), nT_c f2 h10 (fun t ht => (ok t ht).1)])
      rw [eh]
      exact ai_n (by omega)
  · refine e_q g (-1) (fun Q h => ?_) (fun σ1 σ2 Q l1 e2 g2 f2 h => ?_)
    · exact (bX11_fewest_0 g.1).mpr (p_find (d := 8) g (fun b1 b2 σ' f' hT => absurd ⟨b1, b2, by rw [← hTT]; exact hT.1⟩ c) (fun _ σ' f' => ⟨rfl, (bX11_fewest_6 (pZ g f').1.1).mpr (zy rfl (h _ σ' km1 f'))⟩))
    · refine (bX12_fewest_0 l1).mpr ?_
      rw [e2]
      exact m_are (d := 0) g2 (fun b1 b2 σ' f' hT => absurd ⟨b1, b2, by rw [← eT σ2 f2]; exact hT.1⟩ c) (fun _ σ' f' => ⟨rfl, (bX12_fewest_11 (mZ g2 f').1.1).mpr (zy rfl (h _ σ' km1 f'))⟩)
end FEWEST
