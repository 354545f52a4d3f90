/-! the model lays the trials -/
def mTr (σ0 : zS) (nb : Nat) (m1 : Int32) (σ : zS) (T : tT) : Prop := T.1 ≤ 12 ∧ zI σ 131 50 = nI T.1 ∧ (∀ t, t < T.1 → zI σ 154 t = nI (16 * (T.2 t).1 + (T.2 t).2)) ∧ ∀ t, t < T.1 → ∀ b, b < nb → (zI σ 155 (6 * t + b)).toInt = tSn σ0 m1 b (T.2 t)
theorem mTr_fr {W : Nat → Nat → Nat → Prop} {σ0 σ σ' : zS} {nb : Nat} {m1 : Int32} {T : tT} (f : zFr W σ σ') (w : ¬ W 0 131 50 ∧ ∀ k, ¬ W 0 154 k ∧ ¬ W 0 155 k) (h : mTr σ0 nb m1 σ T) : mTr σ0 nb m1 σ' T :=
  ⟨h.1, by rw [f.i w.1]; exact h.2.1, fun t ht => by rw [f.i (w.2 t).1]; exact h.2.2.1 t ht, fun t ht b hb => by rw [f.i (w.2 _).2]; exact h.2.2.2 t ht b hb⟩
section MLAY
variable {d : Nat} {Q : Option Value → zS → Prop} {σ0 : zS} {nb ns : Nat} {m1 m2 : Int32}
theorem m_brooks {σ : zS} (hl : zLay σ) {m : Int32} (e : zI σ 131 11 = nI nb) (h0 : tSt nb m → Q (some (.int 1)) σ) (h1 : ¬ tSt nb m → Q (some (.int 0)) σ) : zCall d kX12_areBrooks [.ref 131, .int m] σ Q := by
  refine (bX12_areBrooks_0 hl).mpr ?_
  rw [e]
  exact zle' rfl k0 (fun q => h1 (fun z => by have := z.1; omega)) (fun q => zle' rfl rfl (fun q2 => h1 (fun z => by have := z.2; omega)) (fun q2 => h0 ⟨q, q2⟩))
/-- whether the stick can begin on all of them -/
theorem m_all {σ : zS} {s y : Nat} (g0 : iA σ0 nb ns) (f : zFr mWq σ0 σ) (hs : s < ns) (hy : y < 1000) (h : zW (d + 4) kX12_layTrials 39 [.ref 131, .int m1, .int m2, .int (nI s), .int (nI y), .int (zb (tOn σ0 nb m1 s y)), .int (nI nb)] [] σ Q) :
    ∀ (mm b : Nat), nb - b = mm → b ≤ nb → zW (d + 4) kX12_layTrials 39 [.ref 131, .int m1, .int m2, .int (nI s), .int (nI y), .int (zb (∀ b', b' < b → bt m1 b' = true → tOk σ0 b' s y)), .int (nI b)] [] σ Q := by
  have h6 := g0.nb6
  have h10 := g0.ns10
  obtain ⟨g, fs⟩ := mZ g0 f
  intro mm
  induction mm with
  | zero =>
    intro b hm hb
    obtain rfl : b = nb := by omega
    exact h
  | succ mm ih =>
    intro b hm hb
    have i := ih (b + 1) (by omega) (by omega)
    refine (bX12_layTrials_39 g.1).mpr (zle' (zto g.e11 (ai_n (by omega))) (ai_n (by omega)) (fun q => by omega) (fun _ => zt0 (fun c => m_has g.1 (by omega) ⟨rfl, (bX12_layTrials_59 g.1).mpr (zt0 (fun c1 => m_cbC (d := d) g0 f (show b < nb by omega) hs hy ⟨rfl, (bX12_layTrials_71 g.1).mpr (zt0 (fun c2 => ?_) (fun c2 => ?_))⟩) (fun c1 => ?_))⟩) (fun c => ?_)))
    · rw [nI_1]
      rwa [zb_t (c := ∀ b', b' < b + 1 → bt m1 b' = true → tOk σ0 b' s y) (fun b' hb' q => by
        by_cases e : b' = b
        · rw [e]; exact c2
        · exact c b' (by omega) q)] at i
    · rw [nI_1]
      rwa [zb_f (c := ∀ b', b' < b + 1 → bt m1 b' = true → tOk σ0 b' s y) (fun z => c2 (z b (by omega) c1))] at i
    · rw [nI_1]
      rwa [zb_t (c := ∀ b', b' < b + 1 → bt m1 b' = true → tOk σ0 b' s y) (fun b' hb' q => by
        by_cases e : b' = b
        · rw [e] at q; exact absurd q c1
        · exact c b' (by omega) q)] at i
    · rw [nI_1]
      rwa [zb_f (c := ∀ b', b' < b + 1 → bt m1 b' = true → tOk σ0 b' s y) (fun z => c (fun b' hb' q => z b' (by omega) q))] at i
/-- what is seen of a trial -/
theorem m_seen {s y : Nat} {x5 : Int32} {T : tT} (g0 : iA σ0 nb ns) (hs : s < ns) (hy : y < 1000) (hon : tOn σ0 nb m1 s y) (hT : T.1 < 12)
    (hk : ∀ (σ' : zS) (v6 : Value), v6.category = 1 → zFr mWq σ0 σ' → mTr σ0 nb m1 σ' (tAdd T (s, y)) → zW (d + 11) kX12_layTrials 18 [.ref 131, .int m1, .int m2, .int (nI s), .int (nI (y + 1)), .int x5, v6] [] σ' Q) :
    ∀ (mm b : Nat) (σ : zS), nb - b = mm → b ≤ nb → zFr mWq σ0 σ → mTr σ0 nb m1 σ T → zI σ 154 T.1 = nI (16 * s + y) → (∀ b', b' < b → (zI σ 155 (6 * T.1 + b')).toInt = tSn σ0 m1 b' (s, y)) → zW (d + 11) kX12_layTrials 125 [.ref 131, .int m1, .int m2, .int (nI s), .int (nI y), .int x5, .int (nI b)] [] σ Q := by
  have h6 := g0.nb6
  have h10 := g0.ns10
  intro mm
  induction mm with
  | zero =>
    intro b σ hm hb f hT2 h154 hj
    obtain rfl : b = nb := by omega
    obtain ⟨g, fs⟩ := mZ g0 f
    obtain ⟨t1, t2, t3, t4⟩ := hT2
    refine (bX12_layTrials_125 g.1).mpr (zle' (zto g.e11 (ai_n (by omega))) (ai_n (by omega)) (fun _ => ?_) (fun q => by omega))
    rw [nI_1, t2, nI_1]
    refine hk _ _ (zcat_i _) (f.trans (zFr_U (by unfold mWq; omega))) ⟨by show T.1 + 1 ≤ 12; omega, ?_, fun t ht => ?_, fun t ht b' hb' => ?_⟩
    · rw [zI_self, pk_us]; rfl
    · have ht2 : t < T.1 + 1 := ht
      rw [zI_ne (by decide)]
      by_cases e : t = T.1
      · have e2 : (tAdd T (s, y)).2 t = (s, y) := if_pos e
        rw [e2, e]; exact h154
      · have e2 : (tAdd T (s, y)).2 t = T.2 t := if_neg e
        rw [e2]; exact t3 t (by omega)
    · have ht2 : t < T.1 + 1 := ht
      rw [zI_ne (by decide)]
      by_cases e : t = T.1
      · have e2 : (tAdd T (s, y)).2 t = (s, y) := if_pos e
        rw [e2, e]; exact hj b' hb'
      · have e2 : (tAdd T (s, y)).2 t = T.2 t := if_neg e
        rw [e2]; exact t4 t (by omega) b' hb'
  | succ mm ih =>
    intro b σ hm hb f hT2 h154 hj
    obtain ⟨g, fs⟩ := mZ g0 f
    have t2 := hT2.2.1
    have ei : (6 * nI T.1 + nI b : Int32) = nI (6 * T.1 + b) := zint (by
      rw [zadd (zmul k6 (ai_n (show T.1 < 2147483648 by omega)) (by omega) (by omega)) (ai_n (by omega)) (by omega) (by omega), ai_n (by omega)]
      omega)
    -- one more
    have on : ∀ (σ1 : zS) (v : Int32), zFr mWq σ0 σ1 → mTr σ0 nb m1 σ1 T → zI σ1 154 T.1 = nI (16 * s + y) → (∀ b', b' < b → (zI σ1 155 (6 * T.1 + b')).toInt = tSn σ0 m1 b' (s, y)) → v.toInt = tSn σ0 m1 b (s, y) → zW (d + 11) kX12_layTrials 125 [.ref 131, .int m1, .int m2, .int (nI s), .int (nI y), .int x5, .int (nI (b + 1))] [] (zsI σ1 155 (upd (zI σ1 155) (6 * T.1 + b) v)) Q := fun σ1 v f1 hT1 h1541 hj1 hv => by
      obtain ⟨u1, u2, u3, u4⟩ := hT1
      refine ih (b + 1) _ (by omega) (by omega) (f1.trans (zFr_U (by unfold mWq; omega))) ⟨u1, ?_, fun t ht => ?_, fun t ht b' hb' => ?_⟩ ?_ (fun b' hb' => ?_)
      · rw [zI_ne (by decide)]; exact u2
      · rw [zI_ne (by decide)]; exact u3 t ht
      · rw [zI_self, pk_un (by omega)]; exact u4 t ht b' hb'
      · rw [zI_ne (by decide)]; exact h1541
      · rw [zI_self]
        by_cases e : b' = b
        · rw [e, pk_us]; exact hv
        · rw [pk_un (by omega)]; exact hj1 b' (by omega)
    refine (bX12_layTrials_125 g.1).mpr (zle' (zto g.e11 (ai_n (by omega))) (ai_n (by omega)) (fun q => by omega) (fun _ => m_has g.1 (by omega) ⟨rfl, (bX12_layTrials_154 g.1).mpr (zt0 (fun c => ?_) (fun c => ?_))⟩))
    · refine m_aByC (d := d) g0 f (show b < nb by omega) hs hy (hon b (by omega) c) (fun v σ1 hv f1 fn => ⟨rfl, (bX12_layTrials_167 (mZ g0 f1).1.1).mpr ?_⟩)
      rw [t2, ei]
      refine ⟨vp_in_nI (by omega) (by decide), ?_⟩
      rw [nI_clamp (by omega), nI_1]
      refine on σ1 v f1 (mTr_fr fn ⟨by unfold nWq; omega, fun k => ⟨by unfold nWq; omega, by unfold nWq; omega⟩⟩ hT2) ?_ (fun b' hb' => ?_) ?_
      · rw [fn.i (by unfold nWq; omega)]; exact h154
      · rw [fn.i (by unfold nWq; omega)]; exact hj b' hb'
      · unfold tSn; rw [zif_t c]; exact hv
    · rw [t2, ei]
      refine ⟨vp_in_nI (by omega) (by decide), ?_⟩
      rw [nI_clamp (by omega), nI_1]
      refine on σ _ f hT2 h154 hj ?_
      unfold tSn; rw [zif_f c]; rfl
theorem m_lt_in (g0 : iA σ0 nb ns) {s : Nat} (hs : s < ns) (hbit : bt m2 s = true)
    (hk : ∀ (σ' : zS) (v4 v5 v6 : Value), v4.category = 1 → v5.category = 1 → v6.category = 1 → zFr mWq σ0 σ' → mTr σ0 nb m1 σ' (tOut (tC σ0 nb m1 m2) (s + 1)) → zW (d + 11) kX12_layTrials 7 [.ref 131, .int m1, .int m2, .int (nI (s + 1)), v4, v5, v6] [] σ' Q)
    (hf : 12 < (tOut (tC σ0 nb m1 m2) ns).1 → ∀ σ', zFr mWq σ0 σ' → Q (some (.int 0)) σ') :
    ∀ (mm y : Nat) (σ : zS) (v5 v6 : Value), 6 - y = mm → y ≤ 6 → v5.category = 1 → v6.category = 1 → zFr mWq σ0 σ → mTr σ0 nb m1 σ (tIn (tC σ0 nb m1 m2) s (tOut (tC σ0 nb m1 m2) s) y) → zW (d + 11) kX12_layTrials 18 [.ref 131, .int m1, .int m2, .int (nI s), .int (nI y), v5, v6] [] σ Q := by
  have h6 := g0.nb6
  have h10 := g0.ns10
  intro mm
  induction mm with
  | zero =>
    intro y σ v5 v6 hm hy c5 c6 f hT
    obtain rfl : y = 6 := by omega
    obtain ⟨g, fs⟩ := mZ g0 f
    refine (bX12_layTrials_18 g.1 c5 c6).mpr (zle' k6 (ai_n (by omega)) (fun _ => ?_) (fun q => by omega))
    rw [nI_1]
    exact hk σ _ _ _ (zcat_i _) c5 c6 f hT
  | succ mm ih =>
    intro y σ v5 v6 hm hy c5 c6 f hT
    obtain ⟨g, fs⟩ := mZ g0 f
    refine (bX12_layTrials_18 g.1 c5 c6).mpr (zle' k6 (ai_n (by omega)) (fun q => by omega) (fun _ => m_has g.1 (by omega) ⟨rfl, (bX12_layTrials_30 g.1 c5 c6).mpr (zt0 (fun _ => ?_) (fun c => absurd hbit c))⟩))
    have all := m_all (d := d + 7) (m1 := m1) (m2 := m2) (Q := Q) g0 f hs (show y < 1000 by omega) ?_ nb 0 (by omega) (by omega)
    · rw [zb_t (c := ∀ b', b' < 0 → bt m1 b' = true → tOk σ0 b' s y) (fun b' hb' => absurd hb' (Nat.not_lt_zero b'))] at all
      exact all
    · refine (bX12_layTrials_39 g.1).mpr (zle' (zto g.e11 (ai_n (by omega))) (ai_n (by omega)) (fun _ => zt0 (fun c => ?_) (fun c => ?_)) (fun q => by omega))
      · have cc : tC σ0 nb m1 m2 s y := ⟨hbit, c⟩
        have ey := tIn_y (T := tOut (tC σ0 nb m1 m2) s) cc
        have mid := tMid (c := tC σ0 nb m1 m2) (s := s) (n := ns) (y := y + 1) hs (by omega)
        rw [ey] at mid
        have mid2 : (tIn (tC σ0 nb m1 m2) s (tOut (tC σ0 nb m1 m2) s) y).1 + 1 ≤ (tOut (tC σ0 nb m1 m2) ns).1 := mid
        have t1 := hT.1
        have t2 := hT.2.1
        have ei : (16 * nI s + nI y : Int32) = nI (16 * s + y) := zint (by
          rw [zadd (zmul (show (16 : Int32).toInt = 16 from rfl) (ai_n (show s < 2147483648 by omega)) (by omega) (by omega)) (ai_n (by omega)) (by omega) (by omega), ai_n (by omega)]
          omega)
        rw [t2, ei]
        refine zeq' (ai_n (by omega)) k12 (fun q12 => hf (by omega) σ f) (fun q12 => ⟨vp_in_nI (by omega) (by decide), ?_⟩)
        rw [nI_clamp (by omega)]
        refine m_seen (d := d) (T := tIn (tC σ0 nb m1 m2) s (tOut (tC σ0 nb m1 m2) s) y) g0 hs (by omega) c (by omega) (fun σ' v6' cv f' hT' => ih (y + 1) σ' _ v6' (by omega) (by omega) (zcat_i _) cv f' (by rw [ey]; exact hT')) nb 0 _ (by omega) (by omega) (f.trans (zFr_U (by unfold mWq; omega))) ⟨hT.1, ?_, fun t ht => ?_, fun t ht b' hb' => ?_⟩ ?_ (fun b' hb' => by omega)
        · rw [zI_ne (by decide)]; exact t2
        · rw [zI_self, pk_un (by omega)]; exact hT.2.2.1 t ht
        · rw [zI_ne (by decide)]; exact hT.2.2.2 t ht b' hb'
        · rw [zI_self, pk_us]
      · rw [nI_1]
        refine ih (y + 1) σ _ _ (by omega) (by omega) (zcat_i _) (zcat_i _) f ?_
        rw [tIn_n (fun z => c z.2)]
        exact hT
theorem m_lt_out (g0 : iA σ0 nb ns)
    (h1 : ∀ σ', zFr mWq σ0 σ' → mTr σ0 nb m1 σ' (tOut (tC σ0 nb m1 m2) ns) → Q (some (.int 1)) σ')
    (hf : 12 < (tOut (tC σ0 nb m1 m2) ns).1 → ∀ σ', zFr mWq σ0 σ' → Q (some (.int 0)) σ') :
    ∀ (mm s : Nat) (σ : zS) (v4 v5 v6 : Value), ns - s = mm → s ≤ ns → v4.category = 1 → v5.category = 1 → v6.category = 1 → zFr mWq σ0 σ → mTr σ0 nb m1 σ (tOut (tC σ0 nb m1 m2) s) → zW (d + 11) kX12_layTrials 7 [.ref 131, .int m1, .int m2, .int (nI s), v4, v5, v6] [] σ Q := by
  have h6 := g0.nb6
  have h10 := g0.ns10
  intro mm
  induction mm with
  | zero =>
    intro s σ v4 v5 v6 hm hs c4 c5 c6 f hT
    obtain rfl : s = ns := by omega
    obtain ⟨g, fs⟩ := mZ g0 f
    exact (bX12_layTrials_7 g.1 c4 c5 c6).mpr (zle' (zto g.e12 (ai_n (by omega))) (ai_n (by omega)) (fun _ => h1 σ f hT) (fun q => by omega))
  | succ mm ih =>
    intro s σ v4 v5 v6 hm hs c4 c5 c6 f hT
    obtain ⟨g, fs⟩ := mZ g0 f
    refine (bX12_layTrials_7 g.1 c4 c5 c6).mpr (zle' (zto g.e12 (ai_n (by omega))) (ai_n (by omega)) (fun q => by omega) (fun _ => ?_))
    by_cases hbit : bt m2 s = true
    · exact m_lt_in (d := d) g0 (by omega) hbit (fun σ' v4 v5 v6 a4 a5 a6 f' hT' => ih (s + 1) σ' v4 v5 v6 (by omega) (by omega) a4 a5 a6 f' hT') hf 6 0 σ _ _ (by omega) (by omega) c5 c6 f hT
    · refine (bX12_layTrials_18 g.1 c5 c6).mpr (zn (by decide) (m_has g.1 (by omega) ⟨rfl, (bX12_layTrials_30 g.1 c5 c6).mpr (zt0 (fun c => absurd c hbit) (fun _ => ?_))⟩))
      rw [nI_1]
      refine ih (s + 1) σ _ _ _ (by omega) (by omega) (zcat_i _) c5 c6 f ?_
      have e : tOut (tC σ0 nb m1 m2) (s + 1) = tOut (tC σ0 nb m1 m2) s := tIn_no (fun y z => hbit z.1) 6
      rw [e]
      exact hT
theorem m_are {σ : zS} (g0 : iA σ nb ns)
    (h1 : tSt nb m1 → tSt ns m2 → ∀ σ', zFr mWq σ σ' → mTr σ nb m1 σ' (tOut (tC σ nb m1 m2) ns) → Q (some (.int 1)) σ')
    (h0 : ¬ (tSt nb m1 ∧ tSt ns m2 ∧ (tOut (tC σ nb m1 m2) ns).1 ≤ 12) → ∀ σ', zFr mWq σ σ' → Q (some (.int 0)) σ') : zCall (d + 12) kX12_areTrials [.ref 131, .int m1, .int m2] σ Q := by
  have h6 := g0.nb6
  have h10 := g0.ns10
  refine (bX12_areTrials_0 g0.1).mpr (m_brooks g0.1 g0.e11 (fun b1 => ⟨rfl, (bX12_areTrials_5 g0.1).mpr (zn (by decide) ?_)⟩) (fun b1 => ⟨rfl, (bX12_areTrials_5 g0.1).mpr (zy rfl (h0 (fun z => b1 z.1) σ (zFr.refl _ _)))⟩))
  refine m_sticks g0.1 g0.e12 (fun b2 => ⟨rfl, (bX12_areTrials_13 g0.1).mpr (zn (by decide) ?_)⟩) (fun b2 => ⟨rfl, (bX12_areTrials_13 g0.1).mpr (zy rfl (h0 (fun z => b2 z.2.1) σ (zFr.refl _ _)))⟩)
  refine (bX12_layTrials_0 g0.1).mpr ?_
  have f1 : zFr mWq σ (zsI σ 131 (upd (zI σ 131) 50 0)) := zFr_U (by unfold mWq; omega)
  refine m_lt_out (d := d) g0 (fun σ' f' hT => ⟨rfl, (bX12_areTrials_22 (mZ g0 f').1.1).mpr (zn (by decide) (h1 b1 b2 σ' f' hT))⟩) (fun q σ' f' => ⟨rfl, (bX12_areTrials_22 (mZ g0 f').1.1).mpr (zy rfl (h0 (fun z => by have := z.2.2; omega) σ' f'))⟩) ns 0 _ _ _ _ (by omega) (by omega) (zcat_r _) (zcat_r _) (zcat_r _) f1 ⟨by show 0 ≤ 12; omega, by rw [zI_self, pk_us]; rfl, fun t ht => absurd ht (Nat.not_lt_zero t), fun t ht => absurd ht (Nat.not_lt_zero t)⟩
theorem e_trials {σ : zS} (g : iA σ nb ns) (x1 x2 x3 : Int32) : eCall kX11_trials kX12_trials [.int x1, .int x2, .int x3] [.int x1, .int x2, .int x3] σ := by
  have h6 := g.nb6
  have h10 := g.ns10
  have ok : ∀ t, t < (tOut (tC σ nb x1 x2) ns).1 → ((tOut (tC σ nb x1 x2) ns).2 t).1 < ns ∧ ((tOut (tC σ nb x1 x2) ns).2 t).2 < 6 := fun t ht => ⟨(tOut_ok ns t ht).1, (tOut_ok ns t ht).2.1⟩
  by_cases c : tSt nb x1 ∧ tSt ns x2 ∧ (tOut (tC σ nb x1 x2) ns).1 ≤ 12
  · refine e_q g (if x3.toInt = -1 then ((tOut (tC σ nb x1 x2) ns).1 : Int) else if 0 ≤ x3.toInt ∧ x3.toInt < (tOut (tC σ nb x1 x2) ns).1 then ((16 * ((tOut (tC σ nb x1 x2) ns).2 x3.toInt.toNat).1 + ((tOut (tC σ nb x1 x2) ns).2 x3.toInt.toNat).2 : Nat) : Int) else -1) (fun Q h => ?_) (fun σ1 σ2 Q l1 e2 g2 f2 h => ?_)
    · refine (bX11_trials_0 g.1).mpr (p_find (d := 8) g (fun _ _ σ' f' hT => ⟨rfl, (bX11_trials_6 (pZ g f').1.1).mpr (zn (by decide) ?_)⟩) (fun z => absurd c z))
      obtain ⟨t1, t2, t3⟩ := hT
      rw [t2]
      refine zeq' rfl km1 (fun q => h _ σ' ?_ f') (fun q => zlt' rfl k0 (fun q2 => h _ σ' ?_ f') (fun q2 => zle' (ai_n (by omega)) rfl (fun q3 => h _ σ' ?_ f') (fun q3 => zlt' rfl k12 (fun q4 => ⟨zin (by omega) (by omega), h _ σ' ?_ f'⟩) (fun q4 => by omega))))
      · rw [if_pos q]; exact ai_n (by omega)
      · rw [if_neg q, if_neg (by omega)]; rfl
      · rw [if_neg q, if_neg (by omega)]; rfl
      · rw [if_neg q, if_pos ⟨q2, q3⟩, ai_cl, t3 _ (by omega)]
        have := ok x3.toInt.toNat (by omega)
        exact ai_n (by omega)
    · have eT : tOut (tC σ2 nb x1 x2) ns = tOut (tC σ nb x1 x2) ns := tTr_c f2 h6 h10
      refine (bX12_trials_0 l1).mpr ?_
      rw [e2]
      refine m_are (d := 0) g2 (fun _ _ σ' f' hT => ⟨rfl, (bX12_trials_11 (mZ g2 f').1.1).mpr (zn (by decide) ?_)⟩) (fun z => by rw [eT] at z; exact absurd c z)
      rw [eT] at hT
      obtain ⟨t1, t2, t3, -⟩ := hT
      have l3 := (mZ g2 f').1.1
      rw [t2]
      refine zeq' rfl km1 (fun q => h _ σ' ?_ f') (fun q => m_isIn l3 ⟨rfl, (bX12_trials_39 l3).mpr ?_⟩)
      · rw [if_pos q]; exact ai_n (by omega)
      · rw [k0, zsub (ai_n (show (tOut (tC σ nb x1 x2) ns).1 < 2147483648 by omega)) k1 (by omega) (by omega)]
        refine zt0 (fun q2 => ⟨zin (by omega) (by omega), h _ σ' ?_ f'⟩) (fun q2 => h _ σ' ?_ f')
        · rw [if_neg q, if_pos ⟨by omega, by omega⟩, ai_cl, t3 _ (by omega)]
          have := ok x3.toInt.toNat (by omega)
          exact ai_n (by omega)
        · rw [if_neg q, if_neg (by omega)]; rfl
  · refine e_q g (-1) (fun Q h => ?_) (fun σ1 σ2 Q l1 e2 g2 f2 h => ?_)
    · refine (bX11_trials_0 g.1).mpr (p_find (d := 8) g (fun b1 b2 σ' f' hT => absurd ⟨b1, b2, hT.1⟩ c) (fun _ σ' f' => ⟨rfl, (bX11_trials_6 (pZ g f').1.1).mpr (zy rfl (h _ σ' km1 f'))⟩))
    · have eT : tOut (tC σ2 nb x1 x2) ns = tOut (tC σ nb x1 x2) ns := tTr_c f2 h6 h10
      refine (bX12_trials_0 l1).mpr ?_
      rw [e2]
      exact m_are (d := 0) g2 (fun b1 b2 σ' f' hT => absurd ⟨b1, b2, by rw [← eT]; exact hT.1⟩ c) (fun _ σ' f' => ⟨rfl, (bX12_trials_11 (mZ g2 f').1.1).mpr (zy rfl (h _ σ' km1 f'))⟩)
end MLAY
