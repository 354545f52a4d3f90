/-! the model's tick and race -/
theorem mHas_i {σ : zS} {n : Nat} {rec : Prop} {D : aD} {c : Nat} {f : Nat → Int32} (h : mHas σ n rec D) (h1 : c ≠ 139) (h2 : c ≠ 131) (h3 : c ≠ 145) : mHas (zsI σ c f) n rec D := by
  obtain ⟨d1, d2, d3, d4, d5⟩ := h
  refine ⟨?_, ?_, d3, ?_, fun q x hx => ?_⟩
  · unfold mF; rw [zI_ne h1.symm]; exact d1
  · rw [zI_ne h2.symm]; exact d2
  · rw [zI_ne h2.symm]; exact d4
  · rw [zI_ne h3.symm]; exact d5 q x hx
theorem zb_nar (c : Prop) : vp_nar (zAty 15) (zb c) = zb c := by
  by_cases h : c
  · rw [zb_t h]; rfl
  · rw [zb_f h]; rfl
theorem nI_m1 {n : Nat} (h : n < 2147483648) : ¬ nI n = -1 := fun q => by
  have := congrArg Int32.toInt q
  rw [ai_n h, km1] at this
  omega
section MTICK
variable {d : Nat} {Q : Option Value → zS → Prop}
theorem m_tick_a {n bi : Nat} {rec : Prop} {B : aBk} {W : aWx} {D : aD} :
    ∀ (m i : Nat) (σ : zS), n - i = m → i ≤ n → mCx σ n bi B W → mHas σ n rec D → (∀ r, r < i → (zI σ 150 r).toInt = D.1 r 4 ∧ zI σ 151 r = zb (¬ D.1 r 7 = -1)) →
    (∀ σ', mHas σ' n rec D → (∀ r, r < n → (zI σ' 150 r).toInt = D.1 r 4 ∧ zI σ' 151 r = zb (¬ D.1 r 7 = -1)) → zFr (mWr rec) σ σ' → zI σ' 131 = zI σ 131 → zW (d + 7) kX12_goTick 51 [.ref 131, .int 0, .retAddr 0, .retAddr 0] [] σ' Q) → zW (d + 7) kX12_goTick 12 [.ref 131, .int (nI i), .retAddr 0, .retAddr 0] [] σ Q := by
  intro m
  induction m with
  | zero =>
    intro i σ hm hi C hD hs h
    obtain ⟨hl, hn, c3, -⟩ := C
    refine (bX12_goTick_12 hl).mpr (zti (fun e => h σ hD (fun r hr => hs r (by omega)) (zFr.refl _ _) rfl) (fun e => ?_))
    rw [c3] at e
    exact absurd (nI_le (by omega) (by omega)) e
  | succ m ih =>
    intro i σ hm hi C hD hs h
    have C' := C
    obtain ⟨hl, hn, c3, -⟩ := C
    have hin : i < n := by omega
    refine (bX12_goTick_12 hl).mpr (zti (fun e => ?_) (fun e => ?_))
    · rw [c3] at e
      exact absurd e (nI_ge hin (by omega))
    refine m_of hl 4 hD.1 hn hin (by omega) (fun v hv => ⟨rfl, (bX12_goTick_31 hl).mpr ⟨vp_in_nI (by omega) (by decide), ?_⟩⟩)
    rw [nI_clamp (by omega)]
    have f1 : zFr (mWr rec) σ (zsI σ 150 (upd (zI σ 150) i v)) := zFr_U (Or.inl ⟨rfl, Or.inr (Or.inl rfl)⟩)
    have hD1 : mHas (zsI σ 150 (upd (zI σ 150) i v)) n rec D := mHas_i hD (by decide) (by decide) (by decide)
    have C1 := mCx_fr f1 C'
    have g0 : zI (zsI σ 150 (upd (zI σ 150) i v)) 150 = upd (zI σ 150) i v := zI_self
    have g1 : zI (zsI σ 150 (upd (zI σ 150) i v)) 151 = zI σ 151 := zI_ne (by decide)
    have g2 : zI (zsI σ 150 (upd (zI σ 150) i v)) 131 = zI σ 131 := zI_ne (by decide)
    generalize zsI σ 150 (upd (zI σ 150) i v) = σ1 at f1 hD1 C1 g0 g1 g2 ⊢
    refine m_isOut C1.1 hD1.1 hn hin ⟨rfl, (bX12_goTick_42 C1.1).mpr ⟨vp_in_nI (by omega) (by decide), ?_⟩⟩
    rw [nI_clamp (by omega), zb_nar, nI_1]
    have f2 : zFr (mWr rec) σ1 (zsI σ1 151 (upd (zI σ1 151) i (zb (¬ D.1 i 7 = -1)))) := zFr_U (Or.inl ⟨rfl, Or.inr (Or.inr (Or.inl rfl))⟩)
    have hD2 : mHas (zsI σ1 151 (upd (zI σ1 151) i (zb (¬ D.1 i 7 = -1)))) n rec D := mHas_i hD1 (by decide) (by decide) (by decide)
    have C2 := mCx_fr f2 C1
    refine ih (i + 1) _ (by omega) (by omega) C2 hD2 (fun r hr => ?_) (fun σ' q1 q2 q3 q4 => h σ' q1 q2 (f1.trans (f2.trans q3)) (q4.trans ((zI_ne (by decide)).trans g2)))
    rw [zI_ne (by decide), zI_self, g0, g1]
    by_cases e2 : r = i
    · subst e2
      rw [pk_us, pk_us]
      exact ⟨hv, rfl⟩
    · rw [pk_un e2, pk_un e2]
      exact hs r (by omega)
/-- the next one: of those not done the first in the order -/
theorem m_tick_b {n bi : Nat} {B : aBk} {W : aWx} {X : Nat → Int} {done : Nat → Prop} {σ : zS} (C : mCx σ n bi B W) (hX : ∀ r, r < n → (zI σ 150 r).toInt = X r ∧ zI σ 151 r = zb (done r)) {t : Int32}
    (h0 : (∀ r, r < n → done r) → Q none σ)
    (h1 : ∀ (x3 : Int32) (m : Nat), m < n → ¬ done m → (∀ r, r < n → ¬ done r → r ≠ m → aLt X m r) → zCall (d + 6) kX12_go [.ref 131, .int (nI m)] (zsI σ 151 (upd (zI σ 151) m 1)) (fun r σ' => zisN r = true ∧ zW (d + 7) kX12_goTick 126 [.ref 131, .int t, .int (nI m), .int x3] (zRstk r ++ []) σ' Q)) :
    ∀ (m i : Nat) (nx : Int32), n - i = m → i ≤ n → ((nx = -1 ∧ ∀ r, r < i → done r) ∨ ∃ k, k < i ∧ nx = nI k ∧ ¬ done k ∧ ∀ r, r < i → ¬ done r → r ≠ k → aLt X k r) → zW (d + 7) kX12_goTick 63 [.ref 131, .int t, .int nx, .int (nI i)] [] σ Q := by
  obtain ⟨hl, hn, c3, -⟩ := C
  intro m
  induction m with
  | zero =>
    intro i nx hm hi hk
    have : i = n := by omega
    subst this
    refine (bX12_goTick_63 hl).mpr (zti (fun e => ?_) (fun e => ?_))
    · rcases hk with ⟨e1, e2⟩ | ⟨k, k1, rfl, k3, k4⟩
      · rw [if_pos e1]
        exact h0 e2
      · rw [if_neg (nI_m1 (by omega))]
        refine ⟨vp_in_nI (by omega) (by decide), ?_⟩
        rw [nI_clamp (by omega)]
        exact h1 _ k k1 k3 k4
    · rw [c3] at e
      exact absurd (nI_le (Nat.le_refl _) (by omega)) e
  | succ m ih =>
    intro i nx hm hi hk
    have hin : i < n := by omega
    have eX := hX i hin
    refine (bX12_goTick_63 hl).mpr (zti (fun e => ?_) (fun e => ⟨vp_in_nI (by omega) (by decide), ?_⟩))
    · rw [c3] at e
      exact absurd e (nI_ge hin (by omega))
    rw [nI_clamp (by omega), eX.2, nI_1]
    refine zt0 (fun c => ?_) (fun c => ?_)
    · refine ih (i + 1) nx (by omega) (by omega) ?_
      rcases hk with ⟨e1, e2⟩ | ⟨k, k1, k2, k3, k4⟩
      · refine Or.inl ⟨e1, fun r hr => ?_⟩
        rcases Nat.lt_succ_iff_lt_or_eq.mp hr with q | q
        · exact e2 r q
        · rw [q]; exact c
      · refine Or.inr ⟨k, by omega, k2, k3, fun r hr hd => ?_⟩
        rcases Nat.lt_succ_iff_lt_or_eq.mp hr with q | q
        · exact k4 r q hd
        · rw [q] at hd; exact absurd c hd
    · rcases hk with ⟨e1, e2⟩ | ⟨k, k1, rfl, k3, k4⟩
      · rw [if_pos e1]
        refine ih (i + 1) _ (by omega) (by omega) (Or.inr ⟨i, by omega, rfl, c, fun r hr hd hne => ?_⟩)
        exact absurd (e2 r (by omega)) hd
      · rw [if_neg (nI_m1 (by omega))]
        refine ⟨vp_in_nI (by omega) (by decide), vp_in_nI (by omega) (by decide), ?_⟩
        rw [nI_clamp (by omega)]
        refine zle' eX.1 (hX k (by omega)).1 (fun e2 => ?_) (fun e2 => ?_)
        · refine ih (i + 1) _ (by omega) (by omega) (Or.inr ⟨k, by omega, rfl, k3, fun r hr hd hne => ?_⟩)
          rcases Nat.lt_succ_iff_lt_or_eq.mp hr with q | q
          · exact k4 r q hd hne
          · subst q
            unfold aLt
            omega
        · refine ih (i + 1) _ (by omega) (by omega) (Or.inr ⟨i, by omega, rfl, c, fun r hr hd hne => ?_⟩)
          by_cases q : r = k
          · subst q
            exact Or.inl e2
          · have := k4 r (by omega) hd q
            unfold aLt at this ⊢
            omega
theorem m_tick_c {n bi : Nat} {rec : Prop} {B : aBk} {W : aWx} {D0 : aD} {T : Int} (hT : 0 ≤ T ∧ T ≤ 60) :
    ∀ (m : Nat) (t : Nat) (L1 L2 : List Nat) (σ : zS) (v2 v3 : Value), n - t = m → t ≤ n → aOrd (fun r => D0.1 r 4) n = L1 ++ L2 → t ≤ L1.length → mCx σ n bi B W → mHas σ n rec (aTurns B W n T L1 D0) → aDok B n D0 → (zI σ 131 21).toInt = T →
    (∀ r, r < n → (zI σ 150 r).toInt = D0.1 r 4 ∧ zI σ 151 r = zb (¬ D0.1 r 7 = -1 ∨ r ∈ L1)) → v2.category = 1 → v3.category = 1 →
    (∀ σ', mHas σ' n rec (aTick B W n T D0) → (zI σ' 131 21).toInt = T → zFr (mWr rec) σ σ' → Q none σ') → zW (d + 7) kX12_goTick 51 [.ref 131, .int (nI t), v2, v3] [] σ Q := by
  intro m
  induction m with
  | zero =>
    intro t L1 L2 σ v2 v3 hm ht hL hl1 C hD hok hT2 hX hc2 hc3 h
    have C' := C
    obtain ⟨hl, hn, c3, -⟩ := C
    have el : L1.length + L2.length = n := by rw [← List.length_append, ← hL]; exact aOrd_l
    have e2 : L2 = [] := List.length_eq_zero_iff.mp (by omega)
    refine (bX12_goTick_51 hl hc2 hc3).mpr (zti (fun e => h σ ?_ hT2 (zFr.refl _ _)) (fun e => ?_))
    · unfold aTick
      rw [hL, e2, List.append_nil]
      exact hD
    · rw [c3] at e
      exact absurd (nI_le (by omega) (by omega)) e
  | succ m ih =>
    intro t L1 L2 σ v2 v3 hm ht hL hl1 C hD hok hT2 hX hc2 hc3 h
    have C' := C
    obtain ⟨hl, hn, c3, c4, c5, c6, c7, c8, c9⟩ := C
    have hmem : ∀ r, r ∈ L1 ∨ r ∈ L2 ↔ r < n := fun r => by rw [← List.mem_append, ← hL]; exact aOrd_m
    have hpw : (L1 ++ L2).Pairwise (aLt (fun r => D0.1 r 4)) := hL ▸ aOrd_p
    obtain ⟨p1, p2, p3⟩ := List.pairwise_append.mp hpw
    have hdis : ∀ r, r ∈ L2 → r ∉ L1 := fun r h2 h1 => by
      have := p3 r h1 r h2
      unfold aLt at this
      omega
    have hok1 := aTurns_ok c8 c9 hn hT L1 D0 (fun r hr => (hmem r).mp (Or.inl hr)) hok
    have fin : aTick B W n T D0 = aTurns B W n T L2 (aTurns B W n T L1 D0) := by
      unfold aTick
      rw [hL, aTurns_a]
    refine (bX12_goTick_51 hl hc2 hc3).mpr (zti (fun e => ?_) (fun e => ?_))
    · rw [c3] at e
      exact absurd e (nI_ge (by omega) (by omega))
    refine m_tick_b C' hX (fun hall => h σ ?_ hT2 (zFr.refl _ _)) (fun x3 k k1 k2 k3 => ?_) n 0 (-1) rfl (by omega) (Or.inl ⟨rfl, fun r hr => absurd hr (by omega)⟩)
    · rw [fin, aTurns_o L2]
      · exact hD
      · intro r hr
        rw [hok1.2.1 r (hdis r hr)]
        rcases hall r ((hmem r).mp (Or.inr hr)) with q | q
        · exact q
        · exact absurd q (hdis r hr)
    · have kL2 : k ∈ L2 := by
        rcases (hmem k).mpr k1 with q | q
        · exact absurd (Or.inr q) k2
        · exact q
      have ko : D0.1 k 7 = -1 := Classical.not_not.mp (fun q => k2 (Or.inl q))
      obtain ⟨A, L3, e2⟩ := List.append_of_mem kL2
      have pA : ∀ a ∈ A, aLt (fun r => D0.1 r 4) a k := by
        rw [e2] at p2
        exact fun a ha => (List.pairwise_append.mp p2).2.2 a ha k List.mem_cons_self
      have hA : ∀ a ∈ A, ¬ D0.1 a 7 = -1 := by
        intro a ha q
        have aL2 : a ∈ L2 := by rw [e2]; exact List.mem_append_left _ ha
        have l1 := pA a ha
        have ne : a ≠ k := fun q => by
          rw [q] at l1
          unfold aLt at l1
          omega
        have l2 := k3 a ((hmem a).mp (Or.inr aL2)) (fun q2 => by
          rcases q2 with q2 | q2
          · exact q2 q
          · exact hdis a aL2 q2) ne
        unfold aLt at l1 l2
        omega
      have eA : aTurns B W n T A (aTurns B W n T L1 D0) = aTurns B W n T L1 D0 := aTurns_o A _ (fun a ha => by
        rw [hok1.2.1 a (hdis a (by rw [e2]; exact List.mem_append_left _ ha))]
        exact hA a ha)
      have ek : (aTurns B W n T L1 D0).1 k 7 = -1 := by
        rw [hok1.2.1 k (hdis k kL2)]
        exact ko
      have e3 : aTurns B W n T (L1 ++ A ++ [k]) D0 = aGo B W n T k (aTurns B W n T L1 D0) := by
        rw [aTurns_a, aTurns_a, eA]
        exact if_pos ek
      have f1 : zFr (mWr rec) σ (zsI σ 151 (upd (zI σ 151) k 1)) := zFr_U (Or.inl ⟨rfl, Or.inr (Or.inr (Or.inl rfl))⟩)
      have hD1 : mHas (zsI σ 151 (upd (zI σ 151) k 1)) n rec (aTurns B W n T L1 D0) := mHas_i hD (by decide) (by decide) (by decide)
      have g0 : zI (zsI σ 151 (upd (zI σ 151) k 1)) 151 = upd (zI σ 151) k 1 := zI_self
      have g1 : zI (zsI σ 151 (upd (zI σ 151) k 1)) 150 = zI σ 150 := zI_ne (by decide)
      have g2 : zI (zsI σ 151 (upd (zI σ 151) k 1)) 131 = zI σ 131 := zI_ne (by decide)
      have C1 := mCx_fr f1 C'
      generalize zsI σ 151 (upd (zI σ 151) k 1) = σ1 at f1 hD1 g0 g1 g2 C1 ⊢
      have hu : 0 ≤ (aTurns B W n T L1 D0).2.1 ∧ (aTurns B W n T L1 D0).2.1 ≤ 6 := by
        have := aIn_n (aTurns B W n T L1 D0).1 n
        have := hok1.1.2.2
        exact ⟨hok1.1.2.1, by omega⟩
      refine m_go (ticks := T) C1 hD1 (by rw [g2]; exact hT2) k1 hok1.1.1 ek hu (fun σ2 hD2 fg => ⟨rfl, ?_⟩)
      have f2 := mWg_r fg
      have g50 : ∀ k, zI σ2 150 k = zI σ1 150 k := fun k => fg.i (by unfold mWg; omega)
      have g51 : ∀ k, zI σ2 151 k = zI σ1 151 k := fun k => fg.i (by unfold mWg; omega)
      have g21 : zI σ2 131 21 = zI σ1 131 21 := fg.i (by unfold mWg; omega)
      have C2 := mCx_fr f2 C1
      refine (bX12_goTick_126 C2.1).mpr ?_
      rw [nI_1]
      refine ih (t + 1) (L1 ++ A ++ [k]) L3 σ2 _ _ (by omega) (by omega) ?_ ?_ C2 (by rw [e3]; exact hD2) hok (by rw [g21, g2]; exact hT2) (fun r hr => ?_) (zcat_i _) (zcat_i _) (fun σ' q1 q2 q3 => h σ' q1 q2 (f1.trans (f2.trans q3)))
      · rw [hL, e2]
        simp
      · simp only [List.length_append, List.length_cons, List.length_nil]
        omega
      · have hx := hX r hr
        rw [g50, g51, g0, g1]
        refine ⟨hx.1, ?_⟩
        by_cases er : r = k
        · subst er
          rw [pk_us, zb_t]
          exact Or.inr (by simp)
        · rw [pk_un er, hx.2]
          refine zb_c ⟨fun q => ?_, fun q => ?_⟩
          · rcases q with q | q
            · exact Or.inl q
            · exact Or.inr (by simp [q])
          · rcases q with q | q
            · exact Or.inl q
            · simp only [List.mem_append, List.mem_singleton] at q
              rcases q with (q | q) | q
              · exact Or.inr q
              · exact Or.inl (hA r q)
              · exact absurd q er
theorem m_goTick {n bi : Nat} {rec : Prop} {B : aBk} {W : aWx} {D : aD} {T : Int} {σ : zS} (C : mCx σ n bi B W) (hD : mHas σ n rec D) (hok : aDok B n D) (ht : (zI σ 131 21).toInt = T) (hT : 0 ≤ T ∧ T < 60) (h : ∀ σ', mHas σ' n rec (aTick B W n (T + 1) D) → (zI σ' 131 21).toInt = T + 1 → zFr (mWr rec) σ σ' → Q none σ') : zCall (d + 7) kX12_goTick [.ref 131] σ Q := by
  refine (bX12_goTick_0 C.1).mpr ?_
  have f1 : zFr (mWr rec) σ (zsI σ 131 (upd (zI σ 131) 21 (zI σ 131 21 + 1))) := zFr_U (Or.inl ⟨rfl, Or.inr (Or.inr (Or.inr (Or.inr ⟨rfl, Or.inl rfl⟩)))⟩)
  obtain ⟨d1, d2, d3, d4, d5⟩ := hD
  have hD1 : mHas (zsI σ 131 (upd (zI σ 131) 21 (zI σ 131 21 + 1))) n rec D := by
    refine ⟨?_, ?_, d3, ?_, fun q x hx => ?_⟩
    · unfold mF; rw [zI_ne (by decide)]; exact d1
    · rw [zI_self, pk_un (by decide)]; exact d2
    · rw [zI_self, pk_un (by decide)]; exact d4
    · rw [zI_ne (by decide)]; exact d5 q x hx
  have ht1 : (zI (zsI σ 131 (upd (zI σ 131) 21 (zI σ 131 21 + 1))) 131 21).toInt = T + 1 := by
    rw [zI_self, pk_us]
    exact zadd ht k1
  have C1 := mCx_fr f1 C
  generalize zsI σ 131 (upd (zI σ 131) 21 (zI σ 131 21 + 1)) = σ1 at f1 hD1 ht1 C1 ⊢
  refine m_tick_a n 0 σ1 rfl (by omega) C1 hD1 (fun r hr => absurd hr (by omega)) (fun σ2 hD2 hX f2 g => ?_)
  refine m_tick_c (by omega) n 0 [] (aOrd (fun r => D.1 r 4) n) σ2 _ _ rfl (by omega) rfl (by simp) (mCx_fr f2 C1) hD2 hok (by rw [g]; exact ht1) (fun r hr => ⟨(hX r hr).1, by rw [(hX r hr).2]; exact zb_c (by simp)⟩) (zcat_r _) (zcat_r _) (fun σ' q1 q2 q3 => h σ' q1 q2 (f1.trans (f2.trans q3)))
theorem m_goesOn {σ : zS} {T o : Int} {n : Nat} (hl : zLay σ) (hm : zI σ 131 20 = nI n) (hn : n ≤ 6) (ht : (zI σ 131 21).toInt = T) (ho : (zI σ 131 22).toInt = o) (h : Q (some (.int (zb (T < 60 ∧ o < n)))) σ) : zCall d kX12_goesOn [.ref 131] σ Q := by
  refine (bX12_goesOn_0 hl).mpr (zle' k60 ht (fun e => ?_) (fun e => ?_))
  · rwa [zb_f (by omega)] at h
  · rw [hm]
    refine zle' (ai_n (by omega)) ho (fun e2 => ?_) (fun e2 => ?_)
    · rwa [zb_f (by omega)] at h
    · rwa [zb_t (by omega)] at h
theorem aRun_stop {B : aBk} {W : aWx} {n : Nat} {T : Int × aD} (h : ¬ (T.1 < 60 ∧ T.2.2.1 < n)) : ∀ f, aRun B W n f T = T
  | 0 => rfl
  | f + 1 => by unfold aRun; rw [if_neg h]
theorem m_race_l {n bi : Nat} {rec : Prop} {B : aBk} {W : aWx} {j1 : Int64} :
    ∀ (m : Nat) (σ : zS) (T : Int × aD), (60 - T.1).toNat = m → mCx σ n bi B W → mHas σ n rec T.2 → aDok B n T.2 → (zI σ 131 21).toInt = T.1 → 0 ≤ T.1 → T.1 ≤ 60 →
    (∀ σ', mHas σ' n rec (aRun B W n m T).2 → (zI σ' 131 21).toInt = (aRun B W n m T).1 → zFr (mWr rec) σ σ' → Q none σ') → zW (d + 8) kX12_goRace 5 [.ref 131, .long j1, .retAddr 1] [] σ Q := by
  intro m
  induction m with
  | zero =>
    intro σ T hm C hD hok ht h1 h2 h
    refine (bX12_goRace_5 C.1).mpr (m_goesOn C.1 C.2.2.1 C.2.1 ht hD.2.1 ⟨rfl, (bX12_goRace_9 C.1).mpr (zt0 (fun c => ?_) (fun c => h σ hD ht (zFr.refl _ _)))⟩)
    exact absurd c.1 (by omega)
  | succ m ih =>
    intro σ T hm C hD hok ht h1 h2 h
    refine (bX12_goRace_5 C.1).mpr (m_goesOn C.1 C.2.2.1 C.2.1 ht hD.2.1 ⟨rfl, (bX12_goRace_9 C.1).mpr (zt0 (fun c => ?_) (fun c => ?_))⟩)
    · refine m_goTick C hD hok ht ⟨h1, c.1⟩ (fun σ1 hD1 ht1 f1 => ⟨rfl, ?_⟩)
      have C1 := mCx_fr f1 C
      refine (bX12_goRace_16 C1.1).mpr (ih σ1 (T.1 + 1, aTick B W n (T.1 + 1) T.2) ?_ C1 hD1 (aTick_ok C.2.2.2.2.2.2.2.1 C.2.2.2.2.2.2.2.2 C.2.1 (by omega) hok).1 ht1 ?_ ?_ (fun σ' q1 q2 q3 => h σ' ?_ ?_ (f1.trans q3)))
      · show (60 - (T.1 + 1)).toNat = m
        omega
      · show 0 ≤ T.1 + 1
        omega
      · show T.1 + 1 ≤ 60
        omega
      · unfold aRun; rw [if_pos c]; exact q1
      · unfold aRun; rw [if_pos c]; exact q2
    · refine h σ ?_ ?_ (zFr.refl _ _)
      · rw [aRun_stop c]; exact hD
      · rw [aRun_stop c]; exact ht
end MTICK
