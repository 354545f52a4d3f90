/-! the verb best -/
section BEST
variable {d : Nat} {Q : Option Value → zS → Prop} {σ0 : zS} {nb ns : Nat}
noncomputable def wOk (σ0 : zS) (b : Nat) (m : Int32) (s y : Nat) : Prop := bt m s = true ∧ tOk σ0 b s y
theorem i_m1 {x : Int32} {a : Int} (h : x.toInt = a) (q : ¬ x = -1) : a ≠ -1 := fun z => q (zint (by rw [h, z, km1]))
theorem i_ne {x : Int32} {a : Int} (h : x.toInt = a) (q : a ≠ -1) : ¬ x = -1 := fun z => q (by rw [← h, z, km1])
theorem p_best_y {b s n L : Nat} {m z : Int32} {t : Int × Int × Int} (g0 : iA σ0 nb ns) (hb : b < nb) (hs : s < ns) (hn : n ≤ 40) (hL : (mB σ0 b).2.1 = (L : Int)) (hm : bt m s = true) :
    ∀ (mm k : Nat) (σ : zS) (x6 x7 x8 : Int32) (v11 : Value), L - k = mm → k ≤ L → v11.category = 1 → zFr pWz σ0 σ → b3 x6 x7 x8 (bIn (wOk σ0 b m s) (tV σ0 b s n) s t k) →
    (∀ (σ' : zS) (x6 x7 x8 : Int32) (v10 v11 : Value), v10.category = 1 → v11.category = 1 → zFr pWz σ0 σ' → b3 x6 x7 x8 (bIn (wOk σ0 b m s) (tV σ0 b s n) s t L) → zW (d + 6) kX11_best 59 [.ref 1, .int (nI b), .int m, .int (nI n), .int z, .ref (97 + 4 * b), .int x6, .int x7, .int x8, .int (nI (s + 1)), v10, v11] [] σ' Q) →
    zW (d + 6) kX11_best 78 [.ref 1, .int (nI b), .int m, .int (nI n), .int z, .ref (97 + 4 * b), .int x6, .int x7, .int x8, .int (nI s), .int (nI k), v11] [] σ Q := by
  have h6 := g0.nb6
  have h10 := g0.ns10
  have hL6 : L ≤ 6 := by have := (g0.bok hb).2.1; omega
  have zb0 := zk_bk (show b < 6 by omega)
  intro mm
  induction mm with
  | zero =>
    intro k σ x6 x7 x8 v11 hmm hk c11 f h3 h
    have e : k = L := by omega
    subst e
    obtain ⟨g, fs⟩ := pZ g0 f
    have eL := (g.bp hb).2.1
    rw [iS_mB fs (show b < 6 by omega), hL] at eL
    refine (bX11_best_78 g.1 zb0 c11).mpr (zle' eL (ai_n (by omega)) (fun _ => ?_) (fun q => by omega))
    rw [nI_1]
    exact h σ x6 x7 x8 _ v11 (zcat_i _) c11 f h3
  | succ mm ih =>
    intro k σ x6 x7 x8 v11 hmm hk c11 f h3 h
    obtain ⟨g, fs⟩ := pZ g0 f
    have eL := (g.bp hb).2.1
    rw [iS_mB fs (show b < 6 by omega), hL] at eL
    refine (bX11_best_78 g.1 zb0 c11).mpr (zle' eL (ai_n (by omega)) (fun q => by omega) (fun _ => p_hasBit g.1 (by omega) ⟨rfl, ?_⟩))
    refine (bX11_best_94 g.1 zb0 c11).mpr (zt0 (fun _ => ⟨vp_in_nI (by omega) (by decide), ?_⟩) (fun q => absurd hm q))
    rw [zR_sk g.1 (by omega)]
    refine (bX11_best_107 g.1 zb0 c11 (zk_sk (by omega)) zb0).mpr (p_timeC (d := d) g0 f hb hs hn (by omega) (fun v σ1 q1 q2 f1 _ => ⟨rfl, ?_⟩))
    obtain ⟨g1, fs1⟩ := pZ g0 f1
    refine (bX11_best_113 g1.1 zb0 c11).mpr ?_
    have nx : ∀ (y6 y7 y8 : Int32) (w : Value), w.category = 1 → b3 y6 y7 y8 (bIn (wOk σ0 b m s) (tV σ0 b s n) s t (k + 1)) → zW (d + 6) kX11_best 78 [.ref 1, .int (nI b), .int m, .int (nI n), .int z, .ref (97 + 4 * b), .int y6, .int y7, .int y8, .int (nI s), .int (nI k + 1), w] [] σ1 Q := fun y6 y7 y8 w cw q => by
      rw [nI_1]
      exact ih (k + 1) σ1 y6 y7 y8 w (by omega) (by omega) cw f1 q h
    have nx2 : (wOk σ0 b m s k ∧ ((bIn (wOk σ0 b m s) (tV σ0 b s n) s t k).2.2 = -1 ∨ tV σ0 b s n k < (bIn (wOk σ0 b m s) (tV σ0 b s n) s t k).2.2)) → v.toInt = tV σ0 b s n k → zW (d + 6) kX11_best 134 [.ref 1, .int (nI b), .int m, .int (nI n), .int z, .ref (97 + 4 * b), .int x6, .int x7, .int x8, .int (nI s), .int (nI k), .int v] [] σ1 Q := fun q qv => by
      refine (bX11_best_134 g1.1 zb0).mpr (nx _ _ _ _ (zcat_i _) ?_)
      show b3 _ _ _ (bSt (bIn (wOk σ0 b m s) (tV σ0 b s n) s t k) (wOk σ0 b m s k) s k (tV σ0 b s n k))
      rw [bSt_y q.1 q.2]
      exact ⟨ai_n (by omega), ai_n (by omega), qv⟩
    by_cases c : tOk σ0 b s k
    · have bd := tV_b (n := n) g0 hb hs c
      refine zn (i_ne (q1 c) (by omega)) (zeq' h3.2.2 km1 (fun q => nx2 ⟨⟨hm, c⟩, Or.inl q⟩ (q1 c)) (fun q => zle' h3.2.2 (q1 c) (fun q2 => nx _ _ _ _ (zcat_i _) ?_) (fun q2 => nx2 ⟨⟨hm, c⟩, Or.inr q2⟩ (q1 c))))
      show b3 _ _ _ (bSt (bIn (wOk σ0 b m s) (tV σ0 b s n) s t k) (wOk σ0 b m s k) s k (tV σ0 b s n k))
      rw [bSt_n (fun _ => by omega)]
      exact h3
    · refine zy (q2 c) (nx _ _ _ _ (zcat_i _) ?_)
      show b3 _ _ _ (bSt (bIn (wOk σ0 b m s) (tV σ0 b s n) s t k) (wOk σ0 b m s k) s k (tV σ0 b s n k))
      rw [bSt_n (fun z => absurd z.2 c)]
      exact h3
theorem p_best_s {b n L : Nat} {m z : Int32} (g0 : iA σ0 nb ns) (hb : b < nb) (hn : n ≤ 40) (hL : (mB σ0 b).2.1 = (L : Int)) :
    ∀ (mm s : Nat) (σ : zS) (x6 x7 x8 : Int32) (v10 v11 : Value), ns - s = mm → s ≤ ns → v10.category = 1 → v11.category = 1 → zFr pWz σ0 σ → b3 x6 x7 x8 (bOut L (wOk σ0 b m) (fun s => tV σ0 b s n) s) →
    (∀ (σ' : zS) (x6 x7 x8 : Int32) (v10 v11 : Value), v10.category = 1 → v11.category = 1 → zFr pWz σ0 σ' → b3 x6 x7 x8 (bOut L (wOk σ0 b m) (fun s => tV σ0 b s n) ns) → zW (d + 6) kX11_best 158 [.ref 1, .int (nI b), .int m, .int (nI n), .int z, .ref (97 + 4 * b), .int x6, .int x7, .int x8, .int (nI ns), v10, v11] [] σ' Q) →
    zW (d + 6) kX11_best 59 [.ref 1, .int (nI b), .int m, .int (nI n), .int z, .ref (97 + 4 * b), .int x6, .int x7, .int x8, .int (nI s), v10, v11] [] σ Q := by
  have h6 := g0.nb6
  have h10 := g0.ns10
  have hL1 : 1 ≤ L ∧ L ≤ 6 := by have := (g0.bok hb).2.1; have := (g0.bok hb).1; omega
  have zb0 := zk_bk (show b < 6 by omega)
  intro mm
  induction mm with
  | zero =>
    intro s σ x6 x7 x8 v10 v11 hmm hk c10 c11 f h3 h
    have e : s = ns := by omega
    subst e
    obtain ⟨g, fs⟩ := pZ g0 f
    exact (bX11_best_59 g.1 zb0 c10 c11).mpr (zle' (zto g.e4 (ai_n (by omega))) (ai_n (by omega)) (fun _ => h σ x6 x7 x8 v10 v11 c10 c11 f h3) (fun q => by omega))
  | succ mm ih =>
    intro s σ x6 x7 x8 v10 v11 hmm hk c10 c11 f h3 h
    obtain ⟨g, fs⟩ := pZ g0 f
    have hs : s < ns := by omega
    refine (bX11_best_59 g.1 zb0 c10 c11).mpr (zle' (zto g.e4 (ai_n (by omega))) (ai_n (by omega)) (fun q => by omega) (fun _ => zle' km10 (ai_n (by omega)) (fun q => by omega) (fun _ => ?_)))
    by_cases hm : bt m s = true
    · exact p_best_y g0 hb hs hn hL hm L 0 σ x6 x7 x8 v11 (by omega) (by omega) c11 f h3 (fun σ' y6 y7 y8 w10 w11 k10 k11 f' q => ih (s + 1) σ' y6 y7 y8 w10 w11 (by omega) (by omega) k10 k11 f' q h)
    · have eL := (g.bp hb).2.1
      rw [iS_mB fs (show b < 6 by omega), hL] at eL
      refine (bX11_best_78 g.1 zb0 c11).mpr (zle' eL k0 (fun q => by omega) (fun _ => p_hasBit g.1 (by omega) ⟨rfl, ?_⟩))
      refine (bX11_best_94 g.1 zb0 c11).mpr (zt0 (fun q => absurd q hm) (fun _ => ?_))
      rw [nI_1]
      refine ih (s + 1) σ x6 x7 x8 _ v11 (by omega) (by omega) (zcat_i _) c11 f ?_ h
      show b3 _ _ _ (bIn (wOk σ0 b m s) (tV σ0 b s n) s (bOut L (wOk σ0 b m) (fun s => tV σ0 b s n) s) L)
      rw [bIn_no (fun k q => hm q.1)]
      exact h3
/-! the model's side -/
theorem m_best_k {b s y n : Nat} {m z : Int32} {x5 x6 x7 : Int32} (g0 : iA σ0 nb ns) (hb : b < nb) (hs : s < ns) (hy : y < 1000) (hn : n ≤ 40) (c : tOk σ0 b s y) :
    ∀ (mm k : Nat) (σ : zS) (w : Int32), n - k = mm → k ≤ n → zFr mWq σ0 σ → w.toInt = aSum (tA σ0 b s y) k →
    (∀ (σ' : zS) (w : Int32), zFr mWq σ0 σ' → w.toInt = tV σ0 b s n y → zW (d + 11) kX12_best 108 [.ref 131, .int (nI b), .int m, .int (nI n), .int z, .int x5, .int x6, .int x7, .int (nI s), .int (nI y), .int w, .int (nI n)] [] σ' Q) →
    zW (d + 11) kX12_best 108 [.ref 131, .int (nI b), .int m, .int (nI n), .int z, .int x5, .int x6, .int x7, .int (nI s), .int (nI y), .int w, .int (nI k)] [] σ Q := by
  intro mm
  induction mm with
  | zero =>
    intro k σ w hmm hk f hw h
    have e : k = n := by omega
    subst e
    exact h σ w f hw
  | succ mm ih =>
    intro k σ w hmm hk f hw h
    obtain ⟨g, fs⟩ := mZ g0 f
    have bk : 0 ≤ aSum (tA σ0 b s y) k ∧ aSum (tA σ0 b s y) k ≤ 99 * k := aSum_9 (fun k => tA_b (k := k) g0 hb hs c) (by omega) k
    have b1 := tA_b (k := k) g0 hb hs c
    refine (bX12_best_108 g.1).mpr (zle' (ai_n (by omega)) (ai_n (by omega)) (fun q => by omega) (fun _ => m_aByC (d := d) g0 f hb hs hy c (fun v σ1 hv f1 _ => ⟨rfl, (bX12_best_128 (mZ g0 f1).1.1).mpr ?_⟩)))
    have hv2 : v.toInt = tA σ0 b s y k := hv
    rw [nI_1]
    exact ih (k + 1) σ1 _ (by omega) (by omega) f1 (zadd hw hv2 (by omega) (by omega)) h
theorem m_best_y {b s n L : Nat} {m z : Int32} {t : Int × Int × Int} (g0 : iA σ0 nb ns) (hb : b < nb) (hs : s < ns) (hn : n ≤ 40) (hL : (mB σ0 b).2.1 = (L : Int)) :
    ∀ (mm k : Nat) (σ : zS) (x6 x7 x8 : Int32) (v10 v11 : Value), L - k = mm → k ≤ L → v10.category = 1 → v11.category = 1 → zFr mWq σ0 σ → b3 x6 x7 x8 (bIn (wOk σ0 b m s) (tV σ0 b s n) s t k) →
    (∀ (σ' : zS) (x6 x7 x8 : Int32) (v9 v10 v11 : Value), v9.category = 1 → v10.category = 1 → v11.category = 1 → zFr mWq σ0 σ' → b3 x6 x7 x8 (bIn (wOk σ0 b m s) (tV σ0 b s n) s t L) → zW (d + 11) kX12_best 55 [.ref 131, .int (nI b), .int m, .int (nI n), .int z, .int x6, .int x7, .int x8, .int (nI (s + 1)), v9, v10, v11] [] σ' Q) →
    zW (d + 11) kX12_best 67 [.ref 131, .int (nI b), .int m, .int (nI n), .int z, .int x6, .int x7, .int x8, .int (nI s), .int (nI k), v10, v11] [] σ Q := by
  have h6 := g0.nb6
  have h10 := g0.ns10
  have hL6 : L ≤ 6 := by have := (g0.bok hb).2.1; omega
  have cl : (nI b).toNatClampNeg = b := nI_clamp (by omega)
  intro mm
  induction mm with
  | zero =>
    intro k σ x6 x7 x8 v10 v11 hmm hk c10 c11 f h3 h
    have e : k = L := by omega
    subst e
    obtain ⟨g, fs⟩ := mZ g0 f
    have eL : (zI σ 134 b).toInt = (k : Int) := by
      have e := iS_mB fs (show b < 6 by omega)
      rw [← hL, ← e]; rfl
    refine (bX12_best_67 g.1 c10 c11).mpr ⟨vp_in_nI (by omega) (by decide), ?_⟩
    rw [cl]
    refine zle' eL (ai_n (by omega)) (fun _ => ?_) (fun q => by omega)
    rw [nI_1]
    exact h σ x6 x7 x8 _ v10 v11 (zcat_i _) c10 c11 f h3
  | succ mm ih =>
    intro k σ x6 x7 x8 v10 v11 hmm hk c10 c11 f h3 h
    obtain ⟨g, fs⟩ := mZ g0 f
    have eL : (zI σ 134 b).toInt = (L : Int) := by
      have e := iS_mB fs (show b < 6 by omega)
      rw [← hL, ← e]; rfl
    have nx : ∀ (σ1 : zS) (y6 y7 y8 : Int32) (w w' : Value), w.category = 1 → w'.category = 1 → zFr mWq σ0 σ1 → b3 y6 y7 y8 (bIn (wOk σ0 b m s) (tV σ0 b s n) s t (k + 1)) → zW (d + 11) kX12_best 67 [.ref 131, .int (nI b), .int m, .int (nI n), .int z, .int y6, .int y7, .int y8, .int (nI s), .int (nI k + 1), w, w'] [] σ1 Q := fun σ1 y6 y7 y8 w w' cw cw' f1 q => by
      rw [nI_1]
      exact ih (k + 1) σ1 y6 y7 y8 w w' (by omega) (by omega) cw cw' f1 q h
    refine (bX12_best_67 g.1 c10 c11).mpr ⟨vp_in_nI (by omega) (by decide), ?_⟩
    rw [cl]
    refine zle' eL (ai_n (by omega)) (fun q => by omega) (fun _ => m_has g.1 (by omega) ⟨rfl, (bX12_best_84 g.1 c10 c11).mpr (zt0 (fun hm => ?_) (fun hm => nx σ x6 x7 x8 v10 v11 c10 c11 f ?_))⟩)
    · refine m_cbC g0 f hb hs (by omega) ⟨rfl, (bX12_best_96 g.1 c10 c11).mpr (zt0 (fun c => ?_) (fun c => nx σ x6 x7 x8 v10 v11 c10 c11 f ?_))⟩
      · refine m_best_k (d := d) g0 hb hs (by omega) hn c n 0 σ 0 (by omega) (by omega) f rfl (fun σ1 w f1 hw => ?_)
        obtain ⟨g1, fs1⟩ := mZ g0 f1
        have nx2 : (wOk σ0 b m s k ∧ ((bIn (wOk σ0 b m s) (tV σ0 b s n) s t k).2.2 = -1 ∨ tV σ0 b s n k < (bIn (wOk σ0 b m s) (tV σ0 b s n) s t k).2.2)) → zW (d + 11) kX12_best 153 [.ref 131, .int (nI b), .int m, .int (nI n), .int z, .int x6, .int x7, .int x8, .int (nI s), .int (nI k), .int w, .int (nI n)] [] σ1 Q := fun q => by
          refine (bX12_best_153 g1.1).mpr (nx σ1 _ _ _ _ _ (zcat_i _) (zcat_i _) f1 ?_)
          show b3 _ _ _ (bSt (bIn (wOk σ0 b m s) (tV σ0 b s n) s t k) (wOk σ0 b m s k) s k (tV σ0 b s n k))
          rw [bSt_y q.1 q.2]
          exact ⟨ai_n (by omega), ai_n (by omega), hw⟩
        refine (bX12_best_108 g1.1).mpr (zle' (ai_n (by omega)) (ai_n (by omega)) (fun _ => zeq' h3.2.2 km1 (fun q => nx2 ⟨⟨hm, c⟩, Or.inl q⟩) (fun q => zlt' hw h3.2.2 (fun q2 => nx2 ⟨⟨hm, c⟩, Or.inr q2⟩) (fun q2 => nx σ1 _ _ _ _ _ (zcat_i _) (zcat_i _) f1 ?_))) (fun q => by omega))
        show b3 _ _ _ (bSt (bIn (wOk σ0 b m s) (tV σ0 b s n) s t k) (wOk σ0 b m s k) s k (tV σ0 b s n k))
        rw [bSt_n (fun _ => by omega)]
        exact h3
      · show b3 _ _ _ (bSt (bIn (wOk σ0 b m s) (tV σ0 b s n) s t k) (wOk σ0 b m s k) s k (tV σ0 b s n k))
        rw [bSt_n (fun z => absurd z.2 c)]
        exact h3
    · show b3 _ _ _ (bSt (bIn (wOk σ0 b m s) (tV σ0 b s n) s t k) (wOk σ0 b m s k) s k (tV σ0 b s n k))
      rw [bSt_n (fun z => absurd z.1 hm)]
      exact h3
theorem m_best_s {b n L : Nat} {m z : Int32} (g0 : iA σ0 nb ns) (hb : b < nb) (hn : n ≤ 40) (hL : (mB σ0 b).2.1 = (L : Int)) :
    ∀ (mm s : Nat) (σ : zS) (x6 x7 x8 : Int32) (v9 v10 v11 : Value), ns - s = mm → s ≤ ns → v9.category = 1 → v10.category = 1 → v11.category = 1 → zFr mWq σ0 σ → b3 x6 x7 x8 (bOut L (wOk σ0 b m) (fun s => tV σ0 b s n) s) →
    (∀ (σ' : zS) (x6 x7 x8 : Int32), zFr mWq σ0 σ' → b3 x6 x7 x8 (bOut L (wOk σ0 b m) (fun s => tV σ0 b s n) ns) → if z = (0 : Int32) then Q (some (.int x6)) σ' else (if z = 1 then Q (some (.int x7)) σ' else Q (some (.int x8)) σ')) →
    zW (d + 11) kX12_best 55 [.ref 131, .int (nI b), .int m, .int (nI n), .int z, .int x6, .int x7, .int x8, .int (nI s), v9, v10, v11] [] σ Q := by
  have h10 := g0.ns10
  intro mm
  induction mm with
  | zero =>
    intro s σ x6 x7 x8 v9 v10 v11 hmm hk c9 c10 c11 f h3 h
    have e : s = ns := by omega
    subst e
    obtain ⟨g, fs⟩ := mZ g0 f
    exact (bX12_best_55 g.1 c9 c10 c11).mpr (zle' (zto g.e12 (ai_n (by omega))) (ai_n (by omega)) (fun _ => h σ x6 x7 x8 f h3) (fun q => by omega))
  | succ mm ih =>
    intro s σ x6 x7 x8 v9 v10 v11 hmm hk c9 c10 c11 f h3 h
    obtain ⟨g, fs⟩ := mZ g0 f
    refine (bX12_best_55 g.1 c9 c10 c11).mpr (zle' (zto g.e12 (ai_n (by omega))) (ai_n (by omega)) (fun q => by omega) (fun _ => ?_))
    exact m_best_y (d := d) g0 hb (show s < ns by omega) hn hL L 0 σ x6 x7 x8 v10 v11 (by omega) (by omega) c10 c11 f h3 (fun σ' y6 y7 y8 w9 w10 w11 k9 k10 k11 f' q => ih (s + 1) σ' y6 y7 y8 w9 w10 w11 (by omega) (by omega) k9 k10 k11 f' q h)
end BEST
section BESTE
variable {σ : zS} {nb ns : Nat}
def b3v (z : Int) (t : Int × Int × Int) : Int := if z = 0 then t.1 else if z = 1 then t.2.1 else t.2.2
theorem b3_o {Q : Option Value → zS → Prop} {z x y w : Int32} {t : Int × Int × Int} {σ' : zS} (h3 : b3 x y w t) (h : ∀ v : Int32, v.toInt = b3v z.toInt t → Q (some (.int v)) σ') : if z = (0 : Int32) then Q (some (.int x)) σ' else (if z = 1 then Q (some (.int y)) σ' else Q (some (.int w)) σ') := by
  refine zeq' rfl k0 (fun q => h _ ?_) (fun q => zeq' rfl k1 (fun q2 => h _ ?_) (fun q2 => h _ ?_))
  · unfold b3v; rw [if_pos q]; exact h3.1
  · unfold b3v; rw [if_neg q, if_pos q2]; exact h3.2.1
  · unfold b3v; rw [if_neg q, if_neg q2]; exact h3.2.2
theorem e_best (g : iA σ nb ns) (b m n z : Int32) : eCall kX11_best kX12_best [.int b, .int m, .int n, .int z] [.int b, .int m, .int n, .int z] σ := by
  have h6 := g.nb6
  have h10 := g.ns10
  rcases a_cs b nb with ⟨b, hb, rfl, -⟩ | hx
  · have hB := g.bok hb
    obtain ⟨L, hL⟩ : ∃ L : Nat, (mB σ b).2.1 = (L : Int) := ⟨(mB σ b).2.1.toNat, by have := hB.1; omega⟩
    by_cases c : tSt ns m ∧ (1 ≤ n.toInt ∧ n.toInt ≤ 40) ∧ (0 ≤ z.toInt ∧ z.toInt ≤ 2)
    · obtain ⟨n, hn, rfl, eN⟩ := ai_nx (x := n) (by omega)
      have hN : n ≤ 40 := by omega
      refine e_q g (b3v z.toInt (bOut L (wOk σ b m) (fun s => tV σ b s n) ns)) (fun Q h => (bX11_best_0 g.1).mpr (p_nb0 g.1 g.e2 h6 hb ⟨rfl, (bX11_best_5 g.1).mpr (zy rfl ?_)⟩)) (fun σ1 σ2 Q l1 e2 g2 f2 h => ?_)
      · rw [g.e4]
        refine p_bits g.1 (fun _ => ⟨rfl, (bX11_best_16 g.1).mpr (zy rfl (p_sd g.1 (fun _ _ => ⟨rfl, (bX11_best_23 g.1).mpr (zy rfl (zlt' rfl k0 (fun q => absurd q (by omega)) (fun _ => zle' rfl k2 (fun _ => ⟨vp_in_nI (by omega) (by decide), ?_⟩) (fun q => absurd q (by omega)))))⟩) (fun q => absurd c.2.1 q)))⟩) (fun q => absurd c.1 q)
        rw [zR_bk g.1 (by omega)]
        refine (bX11_best_45 g.1 (zk_bk (by omega))).mpr (p_best_s (d := 7) g hb hN hL ns 0 σ _ _ _ _ _ (by omega) (by omega) (zcat_r _) (zcat_r _) (zFr.refl _ _) ⟨km1, km1, km1⟩ (fun σ1 x6 x7 x8 v10 v11 c10 c11 f1 h3 => ?_))
        exact (bX11_best_158 (pWz_lay f1 g.1) (zk_bk (by omega)) c10 c11).mpr (b3_o h3 (fun v hv => h v σ1 hv f1))
      · refine (bX12_best_0 l1).mpr ?_
        rw [e2]
        refine m_ib1 g2.1 g2.e11 h6 hb ⟨rfl, (bX12_best_10 g2.1).mpr (zn (by decide) (m_sticks g2.1 g2.e12 (fun _ => ⟨rfl, (bX12_best_18 g2.1).mpr (zn (by decide) (m_isIn g2.1 ⟨rfl, (bX12_best_28 g2.1).mpr (zt0 (fun _ => m_isIn g2.1 ⟨rfl, (bX12_best_38 g2.1).mpr (zt0 (fun _ => ?_) (fun q => absurd (by rw [k0, k2]; exact c.2.2) q))⟩) (fun q => absurd (by rw [k1, k40]; exact c.2.1) q))⟩))⟩) (fun q => absurd c.1 q)))⟩
        have hL2 : (mB σ2 b).2.1 = (L : Int) := by rw [iS_mB f2 (by omega)]; exact hL
        refine m_best_s (d := 2) g2 hb hN hL2 ns 0 σ2 _ _ _ _ _ _ (by omega) (by omega) (zcat_r _) (zcat_r _) (zcat_r _) (zFr.refl _ _) ⟨km1, km1, km1⟩ (fun σ3 x6 x7 x8 f3 h3 => b3_o h3 (fun v hv => h v σ3 ?_ f3))
        rw [hv, bOut_c (ok' := wOk σ b m) (v' := fun s => tV σ b s n) ns (fun s hs k _ => ⟨?_, tV_c f2 (by omega) (by omega)⟩)]
        unfold wOk
        rw [tOk_c f2 (by omega) (by omega)]
    · refine e_q g (-1) (fun Q h => ?_) (fun σ1 σ2 Q l1 e2 g2 f2 h => ?_)
      · refine (bX11_best_0 g.1).mpr (p_nb0 g.1 g.e2 h6 hb ⟨rfl, (bX11_best_5 g.1).mpr (zy rfl ?_)⟩)
        rw [g.e4]
        exact p_bits g.1 (fun c0 => ⟨rfl, (bX11_best_16 g.1).mpr (zy rfl (p_sd g.1 (fun q1 q2 => ⟨rfl, (bX11_best_23 g.1).mpr (zy rfl (zlt' rfl k0 (fun q => h _ σ km1 (zFr.refl _ _)) (fun q3 => zle' rfl k2 (fun q4 => absurd ⟨c0, ⟨q1, q2⟩, q3, q4⟩ c) (fun q => h _ σ km1 (zFr.refl _ _)))))⟩) (fun q => ⟨rfl, (bX11_best_23 g.1).mpr (zn (by decide) (h _ σ km1 (zFr.refl _ _)))⟩)))⟩) (fun q => ⟨rfl, (bX11_best_16 g.1).mpr (zn (by decide) (h _ σ km1 (zFr.refl _ _)))⟩)
      · refine (bX12_best_0 l1).mpr ?_
        rw [e2]
        exact m_ib1 g2.1 g2.e11 h6 hb ⟨rfl, (bX12_best_10 g2.1).mpr (zn (by decide) (m_sticks g2.1 g2.e12 (fun c0 => ⟨rfl, (bX12_best_18 g2.1).mpr (zn (by decide) (m_isIn g2.1 ⟨rfl, (bX12_best_28 g2.1).mpr (zt0 (fun q => m_isIn g2.1 ⟨rfl, (bX12_best_38 g2.1).mpr (zt0 (fun q2 => absurd ⟨c0, by rw [k1, k40] at q; exact q, by rw [k0, k2] at q2; exact q2⟩ c) (fun _ => h _ σ2 km1 (zFr.refl _ _)))⟩) (fun _ => h _ σ2 km1 (zFr.refl _ _)))⟩))⟩) (fun q => ⟨rfl, (bX12_best_18 g2.1).mpr (zy rfl (h _ σ2 km1 (zFr.refl _ _)))⟩)))⟩
  · refine e_q g (-1) (fun Q h => (bX11_best_0 g.1).mpr (p_nb1 g.1 g.e2 h6 hx ⟨rfl, (bX11_best_5 g.1).mpr (zn (by decide) (h _ σ km1 (zFr.refl _ _)))⟩)) (fun σ1 σ2 Q l1 e2 g2 f2 h => ?_)
    refine (bX12_best_0 l1).mpr ?_
    rw [e2]
    exact m_ib0 g2.1 g2.e11 h6 hx ⟨rfl, (bX12_best_10 g2.1).mpr (zy rfl (h _ σ2 km1 (zFr.refl _ _)))⟩
end BESTE
