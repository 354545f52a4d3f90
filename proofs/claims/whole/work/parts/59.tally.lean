/-! places over seeds: the tally -/
def aPd (n : Nat) (F : aFn) (u : Int) : Prop := 0 ≤ u ∧ ∀ r, r < n → F r 7 ≠ -1 → 0 ≤ F r 8 ∧ F r 8 < u ∧ ∀ o, o < n → o ≠ r → F o 7 ≠ -1 → F o 8 ≠ F r 8
def aOutS (r : Nat) (T : Int) (D D' : aD) : Prop := (D'.2.1 = D.2.1 ∧ ∀ o w, (w = 7 ∨ w = 8) → D'.1 o w = D.1 o w) ∨ (D'.2.1 = D.2.1 + 1 ∧ D'.1 r 7 = T ∧ D'.1 r 8 = D.2.1 ∧ ∀ o w, o ≠ r → (w = 7 ∨ w = 8) → D'.1 o w = D.1 o w)
theorem aU_78 {F : aFn} {r v : Nat} {x : Int} (h : v ≠ 7 ∧ v ≠ 8) : ∀ o w, (w = 7 ∨ w = 8) → aU F r v x o w = F o w := fun o w hw => aU_w (by omega)
theorem aAside_78 {B : aBk} {W : aWx} {n : Nat} {F : aFn} {r : Nat} {y : Int} : ∀ o w, (w = 7 ∨ w = 8) → aAside B W n F r y o w = F o w := fun o w hw => aAside_w (by omega)
theorem aSteps_out {B : aBk} {W : aWx} {n : Nat} {T : Int} {r : Nat} : ∀ (f : Nat) (D : aD), aOutS r T D (aSteps B W n T r f D)
  | 0, D => Or.inl ⟨rfl, fun _ _ _ => rfl⟩
  | f + 1, D => by
    unfold aSteps
    by_cases q1 : D.1 r 6 < 4
    · rw [if_pos q1]
      by_cases q2 : 9 ≤ D.1 r 2 * max W.1 (-W.1)
      · rw [if_pos q2]; exact Or.inl ⟨rfl, aAside_78⟩
      · rw [if_neg q2]; exact Or.inl ⟨rfl, fun _ _ _ => rfl⟩
    · rw [if_neg q1]
      by_cases q2 : D.1 r 4 + 1 = B.2.2
      · rw [if_pos q2]
        refine Or.inr ⟨rfl, ?_, ?_, fun o w ho hw => ?_⟩
        · show aU (aU _ r 7 T) r 8 _ r 7 = T
          rw [aU_w (by decide), aU_s]
        · exact aU_s
        · show aU (aU (aU (aU D.1 r 6 _) r 4 _) r 7 T) r 8 _ o w = _
          rw [aU_r ho, aU_r ho, aU_r ho, aU_r ho]
      · rw [if_neg q2]
        by_cases q3 : aStop B W n D.1 r (D.1 r 4 + 1)
        · rw [zif_t q3]
          refine Or.inl ⟨rfl, fun o w hw => ?_⟩
          show aStrike B W n (aU D.1 r 6 (D.1 r 6 - 4)) r o w = _
          unfold aStrike
          rw [aU_w (by omega), aU_w (by omega), aAside_w (by omega), aU_w (by omega)]
        · rw [zif_f q3]
          have e : ∀ o w, (w = 7 ∨ w = 8) → (aU (aU D.1 r 6 (D.1 r 6 - 4)) r 4 (D.1 r 4 + 1)) o w = D.1 o w := fun o w hw => by rw [aU_w (by omega), aU_w (by omega)]
          rcases aSteps_out (B := B) (W := W) (n := n) (T := T) (r := r) f (aU (aU D.1 r 6 (D.1 r 6 - 4)) r 4 (D.1 r 4 + 1), D.2) with ⟨h1, h2⟩ | ⟨h1, h2, h3, h4⟩
          · exact Or.inl ⟨h1, fun o w hw => (h2 o w hw).trans (e o w hw)⟩
          · exact Or.inr ⟨h1, h2, h3, fun o w ho hw => (h4 o w ho hw).trans (e o w hw)⟩
theorem aOutS.of {r : Nat} {T : Int} {D D1 D' : aD} (h1 : D1.2.1 = D.2.1) (h2 : ∀ o w, (w = 7 ∨ w = 8) → D1.1 o w = D.1 o w) (h : aOutS r T D1 D') : aOutS r T D D' := by
  rcases h with ⟨a1, a2⟩ | ⟨a1, a2, a3, a4⟩
  · exact Or.inl ⟨a1.trans h1, fun o w hw => (a2 o w hw).trans (h2 o w hw)⟩
  · exact Or.inr ⟨by rw [a1, h1], a2, by rw [a3, h1], fun o w ho hw => (a4 o w ho hw).trans (h2 o w hw)⟩
theorem aGo_out {B : aBk} {W : aWx} {n : Nat} {T : Int} {r : Nat} {D : aD} : aOutS r T D (aGo B W n T r D) := by
  unfold aGo
  by_cases q1 : aEddy B D.1 r
  · rw [zif_t q1]
    by_cases q2 : (aDie (aNext D.2.2.1)).toInt < W.2.2
    · rw [if_pos q2]
      refine Or.inl ⟨rfl, fun o w hw => ?_⟩
      show aU (aU D.1 r 6 0) r 9 _ o w = _
      rw [aU_w (by omega), aU_w (by omega)]
    · rw [if_neg q2]
      refine aOutS.of (D1 := (aU D.1 r 6 (D.1 r 6 + aPull B W D.1 r + zif (aWave n D.1 r) 1 0), D.2.1, aNext D.2.2.1, True, D.2.2.2.2)) rfl (fun o w hw => ?_) (aSteps_out 6 _)
      show aU D.1 r 6 _ o w = _
      rw [aU_w (by omega)]
  · rw [zif_f q1]
    refine aOutS.of (D1 := (aU D.1 r 6 (D.1 r 6 + aPull B W D.1 r + zif (aWave n D.1 r) 1 0), D.2)) rfl (fun o w hw => ?_) (aSteps_out 6 _)
    show aU D.1 r 6 _ o w = _
    rw [aU_w (by omega)]
theorem aPd_out {n r : Nat} {T : Int} {D D' : aD} (h : aPd n D.1 D.2.1) (ho : D.1 r 7 = -1) (g : aOutS r T D D') : aPd n D'.1 D'.2.1 := by
  rcases g with ⟨a1, a2⟩ | ⟨a1, a2, a3, a4⟩
  · refine ⟨by rw [a1]; exact h.1, fun s hs h7 => ?_⟩
    rw [a2 s 7 (Or.inl rfl)] at h7
    have z := h.2 s hs h7
    refine ⟨by rw [a2 s 8 (Or.inr rfl)]; exact z.1, by rw [a2 s 8 (Or.inr rfl), a1]; exact z.2.1, fun o ho2 hne h72 => ?_⟩
    rw [a2 o 7 (Or.inl rfl)] at h72
    rw [a2 o 8 (Or.inr rfl), a2 s 8 (Or.inr rfl)]
    exact z.2.2 o ho2 hne h72
  · have h0 := h.1
    refine ⟨by omega, fun s hs h7 => ?_⟩
    by_cases e : s = r
    · subst e
      refine ⟨by omega, by omega, fun o ho2 hne h72 => ?_⟩
      rw [a4 o 7 hne (Or.inl rfl)] at h72
      have z := h.2 o ho2 h72
      rw [a4 o 8 hne (Or.inr rfl)]
      omega
    · rw [a4 s 7 e (Or.inl rfl)] at h7
      have z := h.2 s hs h7
      have e8 := a4 s 8 e (Or.inr rfl)
      refine ⟨by omega, by omega, fun o ho2 hne h72 => ?_⟩
      by_cases e2 : o = r
      · subst e2; omega
      · rw [a4 o 7 e2 (Or.inl rfl)] at h72
        rw [a4 o 8 e2 (Or.inr rfl), e8]
        exact z.2.2 o ho2 hne h72
theorem aTurns_pd {B : aBk} {W : aWx} {n : Nat} {T : Int} : ∀ (L : List Nat) (D : aD), aPd n D.1 D.2.1 → aPd n (aTurns B W n T L D).1 (aTurns B W n T L D).2.1
  | [], D, h => h
  | r :: L, D, h => by
    show aPd n (aTurns B W n T L (if D.1 r 7 = -1 then aGo B W n T r D else D)).1 (aTurns B W n T L (if D.1 r 7 = -1 then aGo B W n T r D else D)).2.1
    refine aTurns_pd L _ ?_
    by_cases q : D.1 r 7 = -1
    · rw [if_pos q]; exact aPd_out h q aGo_out
    · rw [if_neg q]; exact h
theorem aRun_pd {B : aBk} {W : aWx} {n : Nat} : ∀ (f : Nat) (t : Int) (D : aD), aPd n D.1 D.2.1 → aPd n (aRun B W n f (t, D)).2.1 (aRun B W n f (t, D)).2.2.1
  | 0, t, D, h => h
  | f + 1, t, D, h => by
    unfold aRun
    by_cases q : t < 60 ∧ D.2.1 < n
    · rw [if_pos q]
      exact aRun_pd f (t + 1) (aTick B W n (t + 1) D) (aTurns_pd _ D h)
    · rw [if_neg q]; exact h
theorem aRace_pd {B : aBk} {W : aWx} {n : Nat} {F : aFn} {s : Int64} : aPd n (aRace B W n F s).2.1 (aRace B W n F s).2.2.1 := by
  unfold aRace
  refine aRun_pd 60 0 _ ⟨Int.le_refl _, fun r hr h7 => absurd ?_ h7⟩
  show aBeg n F r 7 = -1
  unfold aBeg
  rw [if_pos ⟨hr, by omega⟩]
  rfl
/-- the ticks of the one with a place: the last, the first -/
def aLo (n : Nat) (F : aFn) (p : Int) : Nat → Int
  | 0 => -1
  | i + 1 => if aPl n F i = p then F i 7 else aLo n F p i
def aFo (F : aFn) (p : Int) : Nat → Nat → Int
  | 0, _ => -1
  | m + 1, i => if ¬ F i 7 = -1 ∧ F i 8 = p then F i 7 else aFo F p m (i + 1)
theorem aPl_p {n : Nat} {F : aFn} {p : Int} {i : Nat} (h : p < n) : aPl n F i = p ↔ ¬ F i 7 = -1 ∧ F i 8 = p := by
  unfold aPl
  by_cases q : F i 7 = -1
  · rw [if_pos q]
    exact ⟨fun e => by omega, fun e => absurd q e.1⟩
  · rw [if_neg q]
    exact ⟨fun e => ⟨q, e⟩, fun e => e.2⟩
theorem aLo_none {n : Nat} {F : aFn} {p : Int} (h : p < n) : ∀ i, (∀ r, r < i → ¬ (¬ F r 7 = -1 ∧ F r 8 = p)) → aLo n F p i = -1
  | 0, _ => rfl
  | i + 1, hz => by
    unfold aLo
    rw [if_neg (fun q => hz i (by omega) ((aPl_p h).mp q))]
    exact aLo_none h i (fun r hr => hz r (by omega))
theorem aLo_some {n : Nat} {F : aFn} {p : Int} (h : p < n) {s : Nat} (hs : ¬ F s 7 = -1 ∧ F s 8 = p) : ∀ i, s < i → (∀ r, r < i → (¬ F r 7 = -1 ∧ F r 8 = p) → r = s) → aLo n F p i = F s 7
  | 0, h0, _ => by omega
  | i + 1, h0, hu => by
    unfold aLo
    by_cases q : aPl n F i = p
    · rw [if_pos q, hu i (by omega) ((aPl_p h).mp q)]
    · rw [if_neg q]
      refine aLo_some h hs i ?_ (fun r hr => hu r (by omega))
      rcases Nat.lt_or_ge s i with h1 | h1
      · exact h1
      · obtain rfl : s = i := by omega
        exact absurd ((aPl_p h).mpr hs) q
theorem aFo_none {F : aFn} {p : Int} : ∀ m i, (∀ r, i ≤ r → r < i + m → ¬ (¬ F r 7 = -1 ∧ F r 8 = p)) → aFo F p m i = -1
  | 0, _, _ => rfl
  | m + 1, i, hz => by
    unfold aFo
    rw [if_neg (hz i (by omega) (by omega))]
    exact aFo_none m (i + 1) (fun r h1 h2 => hz r (by omega) (by omega))
theorem aFo_some {F : aFn} {p : Int} {s : Nat} (hs : ¬ F s 7 = -1 ∧ F s 8 = p) : ∀ m i, i ≤ s → s < i + m → (∀ r, i ≤ r → r < i + m → (¬ F r 7 = -1 ∧ F r 8 = p) → r = s) → aFo F p m i = F s 7
  | 0, _, h1, h2, _ => by omega
  | m + 1, i, h1, h2, hu => by
    unfold aFo
    by_cases q : ¬ F i 7 = -1 ∧ F i 8 = p
    · rw [if_pos q, hu i (by omega) (by omega) q]
    · rw [if_neg q]
      refine aFo_some hs m (i + 1) ?_ (by omega) (fun r a b => hu r (by omega) (by omega))
      rcases Nat.lt_or_ge i s with h3 | h3
      · omega
      · obtain rfl : s = i := by omega
        exact absurd hs q
theorem aLo_Fo {n : Nat} {F : aFn} {u p : Int} (h : aPd n F u) (hp : p < n) : aLo n F p n = aFo F p n 0 := by
  by_cases c : ∃ s, s < n ∧ ¬ F s 7 = -1 ∧ F s 8 = p
  · obtain ⟨s, h1, hs⟩ := c
    have hu : ∀ r, r < n → (¬ F r 7 = -1 ∧ F r 8 = p) → r = s := fun r hr q => by
      by_cases e : r = s
      · exact e
      · have z := (h.2 s h1 hs.1).2.2 r hr e q.1
        rw [hs.2, q.2] at z
        exact absurd rfl z
    rw [aLo_some hp hs n h1 hu, aFo_some hs n 0 (by omega) (by omega) (fun r _ hr => hu r (by omega))]
  · rw [aLo_none hp n (fun r hr q => c ⟨r, hr, q⟩), aFo_none n 0 (fun r _ hr q => c ⟨r, by omega, q⟩)]
def aTie (n : Nat) (F : aFn) : Prop := ¬ aFo F 0 n 0 = -1 ∧ aFo F 0 n 0 = aFo F 1 n 0
def aWin (n : Nat) (F : aFn) (r : Nat) : Int := if aPl n F r = 0 then 1 else 0
theorem aPl_b {n : Nat} {F : aFn} {B : aBk} {r : Nat} (hn : n ≤ 6) (h : aFok B F r) : 0 ≤ aPl n F r ∧ aPl n F r ≤ 6 := by
  unfold aPl
  by_cases q : F r 7 = -1
  · rw [if_pos q]; omega
  · rw [if_neg q]
    have z := h.2.2.2.2.2.2.2.2
    have z1 := z.1
    have z4 := z.2.2.2
    have : ¬ F r 8 = -1 := fun e => q (z1.mpr e)
    omega
def wTl (j c _k : Nat) : Prop := j = 0 ∧ 80 ≤ c ∧ c ≤ 82
def wTm (j c _k : Nat) : Prop := j = 0 ∧ (c = 81 ∨ c = 82)
theorem wTm_l {σ σ' : zS} (h : zFr wTm σ σ') : zFr wTl σ σ' := h.mono (fun j c k q => by
  unfold wTm at q
  unfold wTl
  omega)
theorem wTl_z {σ σ' : zS} (h : zFr wTl σ σ') : zFr pWz σ σ' := h.mono (fun j c k q => by
  unfold wTl at q
  exact Or.inl ⟨q.1, Or.inl (by omega)⟩)
theorem wTl_b {b : Nat} (hb : zk b = 0) : (∀ k, ¬ wTl 0 b k) ∧ (∀ k, ¬ wTl 0 (b + 1) k) ∧ (∀ k, ¬ wTl 0 (b + 2) k) ∧ ∀ k, ¬ wTl 0 (b + 3) k := by
  have n1 : b ≠ 77 := fun e => by rw [e, zk_77] at hb; omega
  have n2 : b ≠ 78 := fun e => by rw [e, zk_78] at hb; omega
  have n3 : b ≠ 79 := fun e => by rw [e, zk_79] at hb; omega
  have n4 : b ≠ 80 := fun e => by rw [e, zk_80] at hb; omega
  have n5 : b ≠ 81 := fun e => by rw [e, zk_81] at hb; omega
  have n6 : b ≠ 82 := fun e => by rw [e, zk_82] at hb; omega
  refine ⟨fun k q => ?_, fun k q => ?_, fun k q => ?_, fun k q => ?_⟩ <;> (unfold wTl at q; omega)
theorem wTl_6 {c : Nat} (hc : zk c = 6) (k : Nat) : ¬ wTl 0 c k := fun q => by
  have z : c = 80 ∨ c = 81 ∨ c = 82 := by unfold wTl at q; omega
  rcases z with e | e | e
  · rw [e, zk_80] at hc; omega
  · rw [e, zk_81] at hc; omega
  · rw [e, zk_82] at hc; omega
theorem pCx_tl {σ σ' : zS} {n : Nat} {B : aBk} {W : aWx} (h : zFr wTl σ σ') (C : pCx σ 60 n B W 10) : pCx σ' 60 n B W 10 := by
  obtain ⟨c1, c2, c3, c4, c5, ⟨b, c6, c7⟩, c8, c9, c10, c11⟩ := C
  have eR : ∀ c k, zR σ' c k = zR σ c k := fun c k => h.r (by unfold wTl; omega)
  refine ⟨h.lay c1 (fun _ _ _ _ => by unfold wTl; omega), c2, c3, c4, by rw [h.i (by unfold wTl; omega)]; exact c5, ⟨b, by rw [eR]; exact c6, pBk_fr h (wTl_b c7.1) c7⟩, fun r hr => ?_, by rw [h.i (by unfold wTl; omega), h.i (by unfold wTl; omega), h.i (by unfold wTl; omega)]; exact c9, c10, c11⟩
  obtain ⟨s, s1, s2⟩ := c8 r hr
  exact ⟨s, by rw [eR]; exact s1, s2⟩
theorem pF_tl {σ σ' : zS} {n : Nat} {B : aBk} {W : aWx} (h : zFr wTl σ σ') (C : pCx σ 60 n B W 10) : pF σ' 60 n = pF σ 60 n := by
  obtain ⟨c1, c2, c3, c4, c5, c6, c8, c9, c10, c11⟩ := C
  funext r w
  unfold pF
  by_cases q : r < n ∧ w < 11
  · rw [if_pos q, if_pos q]
    obtain ⟨s, s1, s2⟩ := c8 r q.1
    by_cases q3 : w < 3
    · rw [if_pos q3, if_pos q3, h.r (by unfold wTl; omega), s1]
      show (zI σ' s w).toInt = (zI σ s w).toInt
      rw [h.i (wTl_6 s2 w)]
    · rw [if_neg q3, if_neg q3, h.i (by unfold wTl; omega)]
  · rw [if_neg q, if_neg q]
theorem pHas_tl {σ σ' : zS} {n : Nat} {B : aBk} {W : aWx} {D : aD} (h : zFr wTl σ σ') (C : pCx σ 60 n B W 10) (g : pHas σ 60 n D) : pHas σ' 60 n D := by
  obtain ⟨d1, d2, d3, d4, d5⟩ := g
  exact ⟨by rw [pF_tl h C]; exact d1, by rw [h.i (by unfold wTl; omega)]; exact d2, by rw [h.l (by unfold wTl; omega)]; exact d3, by rw [h.i (by unfold wTl; omega)]; exact d4, fun x hx => by rw [h.i (by unfold wTl; omega)]; exact d5 x hx⟩
section TALLY
variable {d : Nat} {Q : Option Value → zS → Prop}
theorem p_tclear {σ : zS} (hl : zLay σ) (h : ∀ σ', zLay σ' → (∀ r, r < 6 → zI σ' 81 r = 0 ∧ zI σ' 82 r = 0) → zI σ' 80 2 = 0 → zFr wTl σ σ' → Q none σ') : zCall (d + 1) kX7_clear [.ref 80] σ Q := by
  refine (bX7_clear_0 hl zk_80).mpr ?_
  have f1 : zFr wTl σ (zsI σ 80 (upd (zI σ 80) 2 0)) := zFr_U (by unfold wTl; omega)
  have g1 : zI (zsI σ 80 (upd (zI σ 80) 2 0)) 80 2 = 0 := by rw [zI_self, pk_us]
  have l1 : zLay (zsI σ 80 (upd (zI σ 80) 2 0)) := hl.I
  generalize zsI σ 80 (upd (zI σ 80) 2 0) = σ1 at f1 g1 l1 ⊢
  refine p_fills (c := 81) zk_81 (by rw [zl_81]; decide) l1 (fun σ2 z2 f2 => ⟨rfl, ?_⟩)
  have l2 : zLay σ2 := f2.lay l1 (fun _ _ _ _ => by omega)
  refine (bX7_clear_13 l2 zk_80).mpr (p_fills (c := 82) zk_82 (by rw [zl_82]; decide) l2 (fun σ3 z3 f3 => ⟨rfl, ?_⟩))
  have l3 : zLay σ3 := f3.lay l2 (fun _ _ _ _ => by omega)
  rw [zl_81] at z2
  rw [zl_82] at z3
  refine (bX7_clear_21 l3 zk_80).mpr (h σ3 l3 (fun r hr => ⟨by rw [f3.i (by omega)]; exact z2 r hr, z3 r hr⟩) (by rw [f3.i (by omega), f2.i (by omega)]; exact g1) ((f1.trans (f2.mono (fun j c k q => by unfold wTl; omega))).trans (f3.mono (fun j c k q => by unfold wTl; omega))))
/-- a race added to the tally -/
theorem p_tadd_l {n : Nat} {F : aFn} {w0 s0 : Nat → Int} (hn : n ≤ 6) (hb : ∀ r, r < n → 0 ≤ w0 r ∧ w0 r ≤ 1000000 ∧ 0 ≤ s0 r ∧ s0 r ≤ 1000000) (hp : ∀ r, r < n → 0 ≤ aPl n F r ∧ aPl n F r ≤ 6) (ho : ∀ r, r < n → (F r 7 = -1 ↔ F r 8 = -1)) {B : aBk} {W : aWx} :
    ∀ (m i : Nat) (σ : zS) (x2 x3 : Int32) (v5 : Value), n - i = m → i ≤ n → v5.category = 1 → pCx σ 60 n B W 10 → pF σ 60 n = F → x2.toInt = aLo n F 0 i → x3.toInt = aLo n F 1 i → (∀ r, r < i → (zI σ 81 r).toInt = w0 r + aWin n F r ∧ (zI σ 82 r).toInt = s0 r + aPl n F r) → (∀ r, i ≤ r → r < n → (zI σ 81 r).toInt = w0 r ∧ (zI σ 82 r).toInt = s0 r) →
    (∀ (σ' : zS) (y2 y3 : Int32) (u5 : Value), u5.category = 1 → zLay σ' → y2.toInt = aLo n F 0 n → y3.toInt = aLo n F 1 n → (∀ r, r < n → (zI σ' 81 r).toInt = w0 r + aWin n F r ∧ (zI σ' 82 r).toInt = s0 r + aPl n F r) → zFr wTm σ σ' → zW (d + 2) kX7_add 96 [.ref 80, .ref 60, .int y2, .int y3, .int (nI n), u5] [] σ' Q) → zW (d + 2) kX7_add 7 [.ref 80, .ref 60, .int x2, .int x3, .int (nI i), v5] [] σ Q := by
  intro m
  induction m with
  | zero =>
    intro i σ x2 x3 v5 hm hi hc C hF e2 e3 h1 h2 h
    have e : i = n := by omega
    subst e
    exact (bX7_add_7 C.1 zk_80 zk_60 hc).mpr (zle' (zto C.2.2.2.2.1 (ai_n (by omega))) (ai_n (by omega)) (fun _ => h σ x2 x3 v5 hc C.1 e2 e3 h1 (zFr.refl _ _)) (fun q => by omega))
  | succ m ih =>
    intro i σ x2 x3 v5 hm hi hc C hF e2 e3 h1 h2 h
    have hin : i < n := by omega
    have hpi := hp i hin
    have hbi := hb i hin
    have h2i := h2 i (Nat.le_refl _) hin
    have e7 : (zI σ (68 + 2 * i) 5).toInt = F i 7 := by rw [← hF, pF_w hin (by omega) (by omega)]
    -- behind the writing
    have nx : ∀ (σ1 : zS) (y2 y3 pl : Int32), pl.toInt = aPl n F i → zFr wTm σ σ1 → (zI σ1 81 i).toInt = w0 i + aWin n F i → (zI σ1 82 i).toInt = s0 i + aPl n F i → (∀ r, r ≠ i → zI σ1 81 r = zI σ 81 r ∧ zI σ1 82 r = zI σ 82 r) → y2.toInt = aLo n F 0 (i + 1) → y3.toInt = aLo n F 1 (i + 1) → zW (d + 2) kX7_add 7 [.ref 80, .ref 60, .int y2, .int y3, .int (nI i + 1), .int pl] [] σ1 Q := by
      intro σ1 y2 y3 pl hpl f1 a1 a2 a3 b1 b2
      have C1 := pCx_tl (wTm_l f1) C
      have hF1 : pF σ1 60 n = F := (pF_tl (wTm_l f1) C).trans hF
      rw [nI_1]
      refine ih (i + 1) σ1 y2 y3 (.int pl) (by omega) (by omega) (zcat_i _) C1 hF1 b1 b2 (fun r hr => ?_) (fun r hr hr2 => ?_) (fun σ' z2 z3 u5 q1 q2 q3 q4 q5 q6 => h σ' z2 z3 u5 q1 q2 q3 q4 q5 (f1.trans q6))
      · by_cases e : r = i
        · subst e; exact ⟨a1, a2⟩
        · rw [(a3 r e).1, (a3 r e).2]
          exact h1 r (by omega)
      · rw [(a3 r (by omega)).1, (a3 r (by omega)).2]
        exact h2 r (by omega) hr2
    refine (bX7_add_7 C.1 zk_80 zk_60 hc).mpr (zle' (zto C.2.2.2.2.1 (ai_n (by omega))) (ai_n (by omega)) (fun q => by omega) (fun _ => zle' k6 (ai_n (by omega)) (fun q => by omega) (fun _ => ?_)))
    refine p_placeOf C hF hin (ho i hin) (fun pl hpl => ⟨rfl, (bX7_add_29 C.1 zk_80 zk_60 hc).mpr ⟨vp_in_nI (by omega) (by decide), vp_in_nI (by omega) (by decide), ?_⟩⟩)
    rw [nI_clamp (by omega), show (80 + 2 : Nat) = 82 from rfl, show (80 + 1 : Nat) = 81 from rfl, show (60 + 1 : Nat) = 61 from rfl]
    have f1 : zFr wTm σ (zsI σ 82 (upd (zI σ 82) i (zI σ 82 i + pl))) := zFr_U (by unfold wTm; omega)
    have v1 : (zI σ 82 i + pl).toInt = s0 i + aPl n F i := zadd h2i.2 hpl
    have v2 : (zI σ 81 i + 1).toInt = w0 i + 1 := zadd h2i.1 k1
    have a82 : zI (zsI σ 82 (upd (zI σ 82) i (zI σ 82 i + pl))) 82 = upd (zI σ 82) i (zI σ 82 i + pl) := zI_self
    have a81 : zI (zsI σ 82 (upd (zI σ 82) i (zI σ 82 i + pl))) 81 = zI σ 81 := zI_ne (by decide)
    have l1 : zLay (zsI σ 82 (upd (zI σ 82) i (zI σ 82 i + pl))) := C.1.I
    refine zeq' hpl k0 (fun q0 => ⟨vp_in_nI (by omega) (by decide), vp_in_nI (by omega) (by decide), vp_in_nI (by omega) (by decide), ?_⟩) (fun q0 => zeq' hpl k1 (fun q1 => ⟨vp_in_nI (by omega) (by decide), ?_⟩) (fun q1 => ?_))
    · have f2 : zFr wTm (zsI σ 82 (upd (zI σ 82) i (zI σ 82 i + pl))) (zsI (zsI σ 82 (upd (zI σ 82) i (zI σ 82 i + pl))) 81 (upd (zI σ 81) i (zI σ 81 i + 1))) := zFr_U (σ := zsI σ 82 (upd (zI σ 82) i (zI σ 82 i + pl))) (by unfold wTm; omega)
      have b82 : zI (zsI (zsI σ 82 (upd (zI σ 82) i (zI σ 82 i + pl))) 81 (upd (zI σ 81) i (zI σ 81 i + 1))) 82 = upd (zI σ 82) i (zI σ 82 i + pl) := by rw [zI_ne (by decide)]; exact a82
      have b81 : zI (zsI (zsI σ 82 (upd (zI σ 82) i (zI σ 82 i + pl))) 81 (upd (zI σ 81) i (zI σ 81 i + 1))) 81 = upd (zI σ 81) i (zI σ 81 i + 1) := zI_self
      have l2 : zLay (zsI (zsI σ 82 (upd (zI σ 82) i (zI σ 82 i + pl))) 81 (upd (zI σ 81) i (zI σ 81 i + 1))) := l1.I
      have f12 := f1.trans f2
      generalize zsI (zsI σ 82 (upd (zI σ 82) i (zI σ 82 i + pl))) 81 (upd (zI σ 81) i (zI σ 81 i + 1)) = σ2 at f12 b82 b81 l2 ⊢
      rw [zR_rr (t := 60) l2 zk_60 (by omega)]
      refine (bX7_add_66 l2 zk_80 zk_60 (zf_racer (t := 60) zk_60 (by omega))).mpr (nx σ2 _ _ pl hpl f12 ?_ ?_ (fun r hr => ?_) ?_ ?_)
      · rw [b81, pk_us, v2]; unfold aWin; rw [if_pos q0]
      · rw [b82, pk_us]; exact v1
      · rw [b81, b82, pk_un hr, pk_un hr]; exact ⟨rfl, rfl⟩
      · rw [f12.i (by unfold wTm; omega)]
        show (zI σ (68 + 2 * i) 5).toInt = _
        rw [e7]
        unfold aLo
        rw [if_pos q0]
      · rw [e3]
        conv => rhs; unfold aLo
        rw [if_neg (by omega)]
    · generalize zsI σ 82 (upd (zI σ 82) i (zI σ 82 i + pl)) = σ2 at f1 a82 a81 l1 ⊢
      rw [zR_rr (t := 60) l1 zk_60 (by omega)]
      refine (bX7_add_86 l1 zk_80 zk_60 (zf_racer (t := 60) zk_60 (by omega))).mpr (nx σ2 _ _ pl hpl f1 ?_ ?_ (fun r hr => ?_) ?_ ?_)
      · rw [a81, h2i.1]; unfold aWin; rw [if_neg q0]; omega
      · rw [a82, pk_us]; exact v1
      · rw [a81, a82, pk_un hr]; exact ⟨rfl, rfl⟩
      · rw [e2]
        conv => rhs; unfold aLo
        rw [if_neg q0]
      · rw [f1.i (by unfold wTm; omega)]
        show (zI σ (68 + 2 * i) 5).toInt = _
        rw [e7]
        unfold aLo
        rw [if_pos q1]
    · refine nx _ _ _ pl hpl f1 ?_ ?_ (fun r hr => ?_) ?_ ?_
      · rw [a81, h2i.1]; unfold aWin; rw [if_neg q0]; omega
      · rw [a82, pk_us]; exact v1
      · rw [a81, a82, pk_un hr]; exact ⟨rfl, rfl⟩
      · rw [e2]
        conv => rhs; unfold aLo
        rw [if_neg q0]
      · rw [e3]
        conv => rhs; unfold aLo
        rw [if_neg q1]
noncomputable def aTi (n : Nat) (F : aFn) : Int := zif (aTie n F) 1 0
/-- what P's tally counts as a tie -/
noncomputable def aTp (n : Nat) (F : aFn) : Int := zif (¬ aLo n F 0 n = -1 ∧ aLo n F 0 n = aLo n F 1 n) 1 0
theorem aTp_b {n : Nat} {F : aFn} : 0 ≤ aTp n F ∧ aTp n F ≤ 1 := by
  unfold aTp
  by_cases c : ¬ aLo n F 0 n = -1 ∧ aLo n F 0 n = aLo n F 1 n
  · rw [zif_t c]; omega
  · rw [zif_f c]; omega
theorem p_tadd {n : Nat} {σ : zS} {F : aFn} {w0 s0 : Nat → Int} {t0 : Int} {B : aBk} {W : aWx} (C : pCx σ 60 n B W 10) (hF : pF σ 60 n = F) (hok : ∀ r, r < n → aFok B F r) (hb : ∀ r, r < n → 0 ≤ w0 r ∧ w0 r ≤ 1000000 ∧ 0 ≤ s0 r ∧ s0 r ≤ 1000000) (ht : 0 ≤ t0 ∧ t0 ≤ 1000000) (h81 : ∀ r, r < n → (zI σ 81 r).toInt = w0 r ∧ (zI σ 82 r).toInt = s0 r) (h80 : (zI σ 80 2).toInt = t0)
    (h : ∀ σ', (∀ r, r < n → (zI σ' 81 r).toInt = w0 r + aWin n F r ∧ (zI σ' 82 r).toInt = s0 r + aPl n F r) → (zI σ' 80 2).toInt = t0 + aTp n F → zFr wTl σ σ' → Q none σ') : zCall (d + 2) kX7_add [.ref 80, .ref 60] σ Q := by
  have hn := C.2.2.2.1
  refine (bX7_add_0 C.1 zk_80 zk_60).mpr (p_tadd_l hn hb (fun r hr => aPl_b hn (hok r hr)) (fun r hr => (hok r hr).2.2.2.2.2.2.2.2.1) n 0 σ (-1) (-1) _ (by omega) (by omega) (zcat_r _) C hF rfl rfl (fun r hr => by omega) (fun r _ hr => h81 r hr) (fun σ1 y2 y3 u5 hc l1 q2 q3 q4 f1 => ?_))
  have e80 : (zI σ1 80 2).toInt = t0 := by rw [f1.i (by unfold wTm; omega)]; exact h80
  have keep : aTp n F = 0 → Q none σ1 := fun e => h σ1 q4 (by rw [e80, e]; omega) (wTm_l f1)
  refine (bX7_add_96 l1 zk_80 zk_60 hc).mpr (zeq' q2 km1 (fun q => keep ?_) (fun q => zeq' q2 q3 (fun e => ?_) (fun e => keep ?_)))
  · unfold aTp; rw [zif_f (fun z => z.1 q)]
  · have et : aTp n F = 1 := by unfold aTp; rw [zif_t ⟨q, e⟩]
    refine h _ (fun r hr => ?_) ?_ ((wTm_l f1).trans (zFr_U (by unfold wTl; omega)))
    · rw [zI_ne (by decide), zI_ne (by decide)]; exact q4 r hr
    · rw [zI_self, pk_us, et]; exact zadd e80 k1
  · unfold aTp; rw [zif_f (fun z => e z.2)]
end TALLY
