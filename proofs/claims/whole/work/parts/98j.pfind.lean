/-! the class finds the trials -/
def pTr (σ : zS) (T : tT) : Prop := T.1 ≤ 12 ∧ zI σ 87 3 = nI T.1 ∧ ∀ t, t < T.1 → zI σ 88 t = nI (16 * (T.2 t).1 + (T.2 t).2)
theorem pTr_fr {W : Nat → Nat → Nat → Prop} {σ σ' : zS} {T : tT} (f : zFr W σ σ') (w : ∀ k, ¬ W 0 87 k ∧ ¬ W 0 88 k) (h : pTr σ T) : pTr σ' T := ⟨h.1, by rw [f.i (w 3).1]; exact h.2.1, fun t ht => by rw [f.i (w t).2]; exact h.2.2 t ht⟩
section PFIND
variable {d : Nat} {Q : Option Value → zS → Prop} {σ0 : zS} {nb ns : Nat} {m1 m2 : Int32}
theorem p_liesA_l {σ : zS} {s y : Nat} (g : iA σ nb ns) (hs : s < ns) (hy : y < 1000) (hQ : Q (some (.int (zb (tOn σ nb m1 s y)))) σ) :
    ∀ (mm b : Nat), nb - b = mm → b ≤ nb → (∀ b', b' < b → bt m1 b' = true → tOk σ b' s y) → zW (d + 3) kX11_liesOnAll 3 [.ref 1, .int m1, .ref (121 + s), .int (nI y), .int (nI b)] [] σ Q := by
  have h6 := g.nb6
  have h10 := g.ns10
  have zs : zk (121 + s) = 6 := zk_sk (by omega)
  have one : (∀ b', b' < nb → bt m1 b' = true → tOk σ b' s y) → Q (some (.int 1)) σ := fun c => by rwa [zb_t (show tOn σ nb m1 s y from c)] at hQ
  intro mm
  induction mm with
  | zero =>
    intro b hm hb hj
    obtain rfl : b = nb := by omega
    exact (bX11_liesOnAll_3 g.1 zs).mpr (zle' (zto g.e2 (ai_n (by omega))) (ai_n (by omega)) (fun _ => one hj) (fun q => by omega))
  | succ mm ih =>
    intro b hm hb hj
    refine (bX11_liesOnAll_3 g.1 zs).mpr (zle' (zto g.e2 (ai_n (by omega))) (ai_n (by omega)) (fun q => by omega) (fun _ => zle' k6 (ai_n (by omega)) (fun q => by omega) (fun _ => p_hasBit g.1 (by omega) ⟨rfl, (bX11_liesOnAll_25 g.1 zs).mpr (zt0 (fun c => ⟨vp_in_nI (by omega) (by decide), ?_⟩) (fun c => ?_))⟩)))
    · rw [zR_bk g.1 (by omega)]
      refine (bX11_liesOnAll_35 g.1 zs (zk_bk (by omega))).mpr (p_holds (l := (zI σ 136 s).toInt) g.1 (g.bp (by omega)) (g.bok (by omega)) zs (mG_p (y := (0 : Int)) (g.stk hs) 0 (by omega)) (g.stk hs).1 g.wp.2.1 ⟨rfl, (bX11_liesOnAll_48 g.1 zs).mpr (zt0 (fun c2 => ?_) (fun c2 => ?_))⟩)
      · rw [nI_1]
        refine ih (b + 1) (by omega) (by omega) (fun b' hb' q => ?_)
        by_cases e : b' = b
        · rw [e]
          have z := c2.2.2
          rw [ai_n (by omega)] at z
          exact z
        · exact hj b' (by omega) q
      · have no : ¬ tOn σ nb m1 s y := fun z => c2 (by
          have w := g.bok (show b < nb by omega)
          refine ⟨by decide, ?_, ?_⟩
          · have := w.2.2.1
            rw [k0]
            omega
          · have z2 := z b (by omega) c
            rw [ai_n (by omega)]
            exact z2)
        rw [zb_f no] at hQ
        exact hQ
    · rw [nI_1]
      refine ih (b + 1) (by omega) (by omega) (fun b' hb' q => ?_)
      by_cases e : b' = b
      · rw [e] at q; exact absurd q c
      · exact hj b' (by omega) q
theorem p_liesA {σ : zS} {s y : Nat} (g : iA σ nb ns) (hs : s < ns) (hy : y < 1000) (hQ : Q (some (.int (zb (tOn σ nb m1 s y)))) σ) : zCall (d + 3) kX11_liesOnAll [.ref 1, .int m1, .ref (121 + s), .int (nI y)] σ Q := by
  have h10 := g.ns10
  exact (bX11_liesOnAll_0 g.1 (zk_sk (by omega))).mpr (p_liesA_l (d := d) g hs hy hQ nb 0 (by omega) (by omega) (fun b' hb' => by omega))
theorem p_ft_in (g0 : iA σ0 nb ns) {s : Nat} (hs : s < ns) (hbit : bt m2 s = true)
    (hk : ∀ (σ' : zS) (v4 : Value), v4.category = 1 → zFr pWz σ0 σ' → pTr σ' (tOut (tC σ0 nb m1 m2) (s + 1)) → zW (d + 4) kX11_findTrials 34 [.ref 1, .int m1, .int m2, .int (nI (s + 1)), v4] [] σ' Q)
    (hf : 12 < (tOut (tC σ0 nb m1 m2) ns).1 → ∀ σ', zFr pWz σ0 σ' → Q (some (.int 0)) σ') :
    ∀ (mm y : Nat) (σ : zS), 6 - y = mm → y ≤ 6 → zFr pWz σ0 σ → pTr σ (tIn (tC σ0 nb m1 m2) s (tOut (tC σ0 nb m1 m2) s) y) → zW (d + 4) kX11_findTrials 51 [.ref 1, .int m1, .int m2, .int (nI s), .int (nI y)] [] σ Q := by
  have h6 := g0.nb6
  have h10 := g0.ns10
  intro mm
  induction mm with
  | zero =>
    intro y σ hm hy f hT
    obtain rfl : y = 6 := by omega
    obtain ⟨g, fs⟩ := pZ g0 f
    refine (bX11_findTrials_51 g.1).mpr (zle' k6 (ai_n (by omega)) (fun _ => ?_) (fun q => by omega))
    rw [nI_1]
    exact hk σ _ (zcat_i _) f hT
  | succ mm ih =>
    intro y σ hm hy f hT
    obtain ⟨g, fs⟩ := pZ g0 f
    refine (bX11_findTrials_51 g.1).mpr (zle' k6 (ai_n (by omega)) (fun q => by omega) (fun _ => p_hasBit g.1 (by omega) ⟨rfl, (bX11_findTrials_63 g.1).mpr (zt0 (fun _ => ⟨vp_in_nI (by omega) (by decide), ?_⟩) (fun c => absurd hbit c))⟩))
    rw [zR_sk g.1 (by omega)]
    refine (bX11_findTrials_74 g.1 (zk_sk (by omega))).mpr (p_liesA (d := d) g hs (by omega) ⟨rfl, (bX11_findTrials_79 g.1).mpr ?_⟩)
    rw [tOn_c fs h6 (by omega)]
    refine zt0 (fun c => ?_) (fun c => ?_)
    · have cc : tC σ0 nb m1 m2 s y := ⟨hbit, c⟩
      have ey := tIn_y (T := tOut (tC σ0 nb m1 m2) s) cc
      have mid := tMid (c := tC σ0 nb m1 m2) (s := s) (n := ns) (y := y + 1) hs (by omega)
      obtain ⟨t1, t2, t3⟩ := hT
      rw [ey] at mid
      have mid2 : (tIn (tC σ0 nb m1 m2) s (tOut (tC σ0 nb m1 m2) s) y).1 + 1 ≤ (tOut (tC σ0 nb m1 m2) ns).1 := mid
      have ei : (16 * nI s + nI y : Int32) = nI (16 * s + y) := zint (by
        rw [zadd (zmul (show (16 : Int32).toInt = 16 from rfl) (ai_n (show s < 2147483648 by omega)) (by omega) (by omega)) (ai_n (by omega)) (by omega) (by omega), ai_n (by omega)]
        omega)
      rw [ei]
      refine (bX9_add_0 g.1 zk_87).mpr ?_
      rw [t2]
      refine zlt' (ai_n (by omega)) k0 (fun q => by omega) (fun _ => zlt' (ai_n (by omega)) k12 (fun q12 => ⟨vp_in_nI (by omega) (by decide), rfl, (bX11_findTrials_96 g.1.I.I).mpr (zn (by decide) ?_)⟩) (fun q12 => ⟨rfl, (bX11_findTrials_96 g.1).mpr (zy rfl (hf (by omega) σ f))⟩))
      rw [nI_1, nI_clamp (by omega), nI_1]
      refine ih (y + 1) _ (by omega) (by omega) (f.trans (zFr.trans (σ1 := zsI σ 88 (upd (zI σ 88) (tIn (tC σ0 nb m1 m2) s (tOut (tC σ0 nb m1 m2) s) y).1 (nI (16 * s + y)))) (zFr_U (by unfold pWz; omega)) (zFr_U (by unfold pWz; omega)))) ?_
      rw [ey]
      refine ⟨by show _ + 1 ≤ 12; omega, ?_, fun t ht => ?_⟩
      · rw [zI_self, pk_us]; rfl
      · have ht2 : t < (tIn (tC σ0 nb m1 m2) s (tOut (tC σ0 nb m1 m2) s) y).1 + 1 := ht
        rw [zI_ne (by decide), zI_self]
        by_cases e : t = (tIn (tC σ0 nb m1 m2) s (tOut (tC σ0 nb m1 m2) s) y).1
        · have e2 : (tAdd (tIn (tC σ0 nb m1 m2) s (tOut (tC σ0 nb m1 m2) s) y) (s, y)).2 t = (s, y) := if_pos e
          rw [e2, e, pk_us]
        · have e2 : (tAdd (tIn (tC σ0 nb m1 m2) s (tOut (tC σ0 nb m1 m2) s) y) (s, y)).2 t = (tIn (tC σ0 nb m1 m2) s (tOut (tC σ0 nb m1 m2) s) y).2 t := if_neg e
          rw [e2, pk_un e]
          exact t3 t (by omega)
    · rw [nI_1]
      refine ih (y + 1) σ (by omega) (by omega) f ?_
      rw [tIn_n (fun z => c z.2)]
      exact hT
theorem p_ft_out (g0 : iA σ0 nb ns)
    (h1 : ∀ σ', zFr pWz σ0 σ' → pTr σ' (tOut (tC σ0 nb m1 m2) ns) → Q (some (.int 1)) σ')
    (hf : 12 < (tOut (tC σ0 nb m1 m2) ns).1 → ∀ σ', zFr pWz σ0 σ' → Q (some (.int 0)) σ') :
    ∀ (mm s : Nat) (σ : zS) (v4 : Value), ns - s = mm → s ≤ ns → v4.category = 1 → zFr pWz σ0 σ → pTr σ (tOut (tC σ0 nb m1 m2) s) → zW (d + 4) kX11_findTrials 34 [.ref 1, .int m1, .int m2, .int (nI s), v4] [] σ Q := by
  have h6 := g0.nb6
  have h10 := g0.ns10
  intro mm
  induction mm with
  | zero =>
    intro s σ v4 hm hs c4 f hT
    obtain rfl : s = ns := by omega
    obtain ⟨g, fs⟩ := pZ g0 f
    exact (bX11_findTrials_34 g.1 c4).mpr (zle' (zto g.e4 (ai_n (by omega))) (ai_n (by omega)) (fun _ => h1 σ f hT) (fun q => by omega))
  | succ mm ih =>
    intro s σ v4 hm hs c4 f hT
    obtain ⟨g, fs⟩ := pZ g0 f
    refine (bX11_findTrials_34 g.1 c4).mpr (zle' (zto g.e4 (ai_n (by omega))) (ai_n (by omega)) (fun q => by omega) (fun _ => zle' km10 (ai_n (by omega)) (fun q => by omega) (fun _ => ?_)))
    by_cases hbit : bt m2 s = true
    · exact p_ft_in (d := d) g0 (by omega) hbit (fun σ' v4 cv f' hT' => ih (s + 1) σ' v4 (by omega) (by omega) cv f' hT') hf 6 0 σ (by omega) (by omega) f hT
    · refine (bX11_findTrials_51 g.1).mpr (zn (by decide) (p_hasBit g.1 (by omega) ⟨rfl, (bX11_findTrials_63 g.1).mpr (zt0 (fun c => absurd c hbit) (fun _ => ?_))⟩))
      rw [nI_1]
      refine ih (s + 1) σ _ (by omega) (by omega) (zcat_i _) f ?_
      have e : tOut (tC σ0 nb m1 m2) (s + 1) = tOut (tC σ0 nb m1 m2) s := tIn_no (fun y z => hbit z.1) 6
      rw [e]
      exact hT
theorem p_find {σ : zS} (g0 : iA σ nb ns)
    (h1 : tSt nb m1 → tSt ns m2 → ∀ σ', zFr pWz σ σ' → pTr σ' (tOut (tC σ nb m1 m2) ns) → Q (some (.int 1)) σ')
    (h0 : ¬ (tSt nb m1 ∧ tSt ns m2 ∧ (tOut (tC σ nb m1 m2) ns).1 ≤ 12) → ∀ σ', zFr pWz σ σ' → Q (some (.int 0)) σ') : zCall (d + 4) kX11_findTrials [.ref 1, .int m1, .int m2] σ Q := by
  have h6 := g0.nb6
  have h10 := g0.ns10
  refine (bX11_findTrials_0 g0.1).mpr ?_
  have f1 : zFr pWz σ (zsI σ 87 (upd (zI σ 87) 3 0)) := zFr_U (by unfold pWz; omega)
  have e1 : zI (zsI σ 87 (upd (zI σ 87) 3 0)) 87 3 = nI 0 := by rw [zI_self, pk_us]; rfl
  rw [g0.e2]
  generalize zsI σ 87 (upd (zI σ 87) 3 0) = σ1 at f1 e1 ⊢
  obtain ⟨g, fs⟩ := pZ g0 f1
  refine p_bits g.1 (fun b1 => ⟨rfl, (bX11_findTrials_16 g.1).mpr (zy rfl ?_)⟩) (fun b1 => ⟨rfl, (bX11_findTrials_16 g.1).mpr (zn (by decide) (h0 (fun z => b1 z.1) σ1 f1))⟩)
  rw [g.e4]
  refine p_bits g.1 (fun b2 => ⟨rfl, (bX11_findTrials_27 g.1).mpr (zy rfl ?_)⟩) (fun b2 => ⟨rfl, (bX11_findTrials_27 g.1).mpr (zn (by decide) (h0 (fun z => b2 z.2.1) σ1 f1))⟩)
  exact p_ft_out (d := d) g0 (h1 b1 b2) (fun q => h0 (fun z => by have := z.2.2; omega)) ns 0 σ1 _ (by omega) (by omega) (zcat_r _) f1 ⟨by show 0 ≤ 12; omega, e1, fun t ht => absurd ht (Nat.not_lt_zero t)⟩
end PFIND
