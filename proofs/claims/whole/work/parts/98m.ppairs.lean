/-! the class parts the pairs -/
section PPAIRS
variable {d : Nat} {Q : Option Value → zS → Prop} {σ0 : zS} {nb ns : Nat} {m1 m2 : Int32}
theorem p_pr_b {σ : zS} {i a : Nat} {sn : Nat → Int} (hl : zLay σ) (hm : ∀ k, k < 32 → bt m1 k = true → k < nb) (hsn : ∀ b, b < nb → (zI σ (87 + 3) b).toInt = sn b) (ha : a < 6)
    (hk : ∀ (x : Int32), eI m1 sn x (qS (a + 1)) → zW (d + 1) kX9_partPairs 19 [.ref 87, .int (nI i), .int m1, .int x, .int (nI (qS (a + 1))), .int (nI (a + 1)), .int (nI 6)] [] σ Q) :
    ∀ (mm b : Nat) (x : Int32), 6 - b = mm → a < b → b ≤ 6 → eI m1 sn x (qS a + (b - a - 1)) → zW (d + 1) kX9_partPairs 32 [.ref 87, .int (nI i), .int m1, .int x, .int (nI (qS a + (b - a - 1))), .int (nI a), .int (nI b)] [] σ Q := by
  intro mm
  induction mm with
  | zero =>
    intro b x hmm hab hb hx
    obtain rfl : b = 6 := by omega
    refine (bX9_partPairs_32 hl zk_87).mpr (zle' k6 (ai_n (by omega)) (fun _ => ?_) (fun q => by omega))
    rw [← qS_n a ha] at hx ⊢
    rw [nI_1]
    exact hk x hx
  | succ mm ih =>
    intro b x hmm hab hb hx
    have hb5 : b < 6 := by omega
    obtain ⟨q1, q2, q3⟩ := qS_k a ha b hb5 hab
    have en : qS a + (b - a - 1) + 1 = qS a + (b + 1 - a - 1) := by omega
    have go0 : ¬ eP m1 sn (qS a + (b - a - 1)) = true → zW (d + 1) kX9_partPairs 32 [.ref 87, .int (nI i), .int m1, .int x, .int (nI (qS a + (b - a - 1)) + 1), .int (nI a), .int (nI b + 1)] [] σ Q := fun c => by
      have z := eI_n hx c
      rw [nI_1, nI_1, en]
      rw [en] at z
      exact ih (b + 1) x (by omega) (by omega) (by omega) z
    have eE : eP m1 sn (qS a + (b - a - 1)) = ((bt m1 a && bt m1 b) && decide (sn a ≠ sn b)) := by
      unfold eP
      rw [q1, q2]
    refine (bX9_partPairs_32 hl zk_87).mpr (zle' k6 (ai_n (by omega)) (fun q => by omega) (fun _ => p_hasBit hl (by omega) ⟨rfl, (bX9_partPairs_45 hl zk_87).mpr (zt0 (fun ca => p_hasBit hl (by omega) ⟨rfl, (bX9_partPairs_54 hl zk_87).mpr (zt0 (fun cb => ⟨vp_in_nI (by omega) (by decide), vp_in_nI (by omega) (by decide), ?_⟩) (fun cb => go0 (by rw [eE, Bool.and_eq_true, Bool.and_eq_true]; exact fun z => cb z.1.2)))⟩) (fun ca => go0 (by rw [eE, Bool.and_eq_true, Bool.and_eq_true]; exact fun z => ca z.1.1)))⟩))
    have a1 := hm a (by omega) ca
    have b1 := hm b (by omega) cb
    rw [nI_clamp (by omega), nI_clamp (by omega)]
    refine zeq' (hsn a a1) (hsn b b1) (fun z => go0 ?_) (fun z => ?_)
    · rw [eE, Bool.and_eq_true, decide_eq_true_iff]
      exact fun z2 => z2.2 z
    · have z2 := eI_y (by omega) hx (by
        rw [eE, Bool.and_eq_true, Bool.and_eq_true, decide_eq_true_iff]
        exact ⟨⟨ca, cb⟩, z⟩)
      rw [nI_1, nI_1, en]
      rw [en] at z2
      exact ih (b + 1) _ (by omega) (by omega) (by omega) z2
theorem p_pr_a {σ : zS} {i : Nat} {sn : Nat → Int} (hl : zLay σ) (hi : i < 12) (hm : ∀ k, k < 32 → bt m1 k = true → k < nb) (hsn : ∀ b, b < nb → (zI σ (87 + 3) b).toInt = sn b)
    (h : ∀ x, eI m1 sn x 15 → Q none (zsI σ (87 + 2) (upd (zI σ (87 + 2)) i x))) :
    ∀ (mm a : Nat) (x : Int32) (v6 : Value), 6 - a = mm → a ≤ 6 → v6.category = 1 → eI m1 sn x (qS a) → zW (d + 1) kX9_partPairs 19 [.ref 87, .int (nI i), .int m1, .int x, .int (nI (qS a)), .int (nI a), v6] [] σ Q := by
  intro mm
  induction mm with
  | zero =>
    intro a x v6 hmm ha c6 hx
    obtain rfl : a = 6 := by omega
    refine (bX9_partPairs_19 hl zk_87 c6).mpr (zle' k6 (ai_n (by omega)) (fun _ => ⟨vp_in_nI hi (by decide), ?_⟩) (fun q => by omega))
    rw [nI_clamp (by omega)]
    exact h x hx
  | succ mm ih =>
    intro a x v6 hmm ha c6 hx
    refine (bX9_partPairs_19 hl zk_87 c6).mpr (zle' k6 (ai_n (by omega)) (fun q => by omega) (fun _ => ?_))
    rw [nI_1]
    have e : qS a = qS a + (a + 1 - a - 1) := by omega
    have z := p_pr_b (d := d) (Q := Q) (i := i) hl hm hsn (show a < 6 by omega) (fun x' hx' => ih (a + 1) x' _ (by omega) (by omega) (zcat_i _) hx') (6 - (a + 1)) (a + 1) x rfl (by omega) (by omega) (by rw [← e]; exact hx)
    rw [← e] at z
    exact z
theorem p_pr {σ : zS} {i : Nat} {sn : Nat → Int} (hl : zLay σ) (hi : i < 12) (hm : ∀ k, k < 32 → bt m1 k = true → k < nb) (hsn : ∀ b, b < nb → (zI σ (87 + 3) b).toInt = sn b)
    (h : ∀ x, eI m1 sn x 15 → Q none (zsI σ (87 + 2) (upd (zI σ (87 + 2)) i x))) : zCall (d + 1) kX9_partPairs [.ref 87, .int (nI i), .int m1] σ Q :=
  (bX9_partPairs_0 hl zk_87).mpr (zlt' (ai_n (by omega)) k0 (fun q => by omega) (fun _ => zlt' (ai_n (by omega)) k12 (fun _ => p_pr_a (d := d) hl hi hm hsn h 6 0 0 _ (by omega) (by omega) (zcat_r _) eI_0) (fun q => by omega)))
def wSn (j c k : Nat) : Prop := pWq 60 j c k ∨ (j = 0 ∧ c = 90)
theorem wSn_z {σ σ' : zS} (f : zFr wSn σ σ') : zFr pWz σ σ' := f.mono (fun j c k q => by
  rcases q with q | ⟨q1, q2⟩
  · unfold pWq at q; unfold pWz; omega
  · unfold pWz; omega)
theorem nSn {c k : Nat} (h : 87 ≤ c) (h2 : c ≤ 89) : ¬ wSn 0 c k := fun q => by
  rcases q with q | q
  · unfold pWq at q; omega
  · omega
/-- what is seen of the trial i -/
theorem p_seen {i s y : Nat} {σz : zS} (g0 : iA σ0 nb ns) (hs : s < ns) (hy : y < 1000) (hon : tOn σ0 nb m1 s y) (fz : zFr pWz σ0 σz)
    (hk : ∀ (σ' : zS) (v6 : Value), v6.category = 1 → zFr wSn σz σ' → (∀ b, b < nb → (zI σ' 90 b).toInt = tSn σ0 m1 b (s, y)) → zW (d + 6) kX11_partPairs 134 [.ref 1, .int m1, .int (nI i), .int (nI s), .int (nI y), .int (nI nb), v6] [] σ' Q) :
    ∀ (mm b : Nat) (σ : zS) (v6 : Value), nb - b = mm → b ≤ nb → v6.category = 1 → zFr wSn σz σ → (∀ b', b' < b → (zI σ 90 b').toInt = tSn σ0 m1 b' (s, y)) → zW (d + 6) kX11_partPairs 49 [.ref 1, .int m1, .int (nI i), .int (nI s), .int (nI y), .int (nI b), v6] [] σ Q := by
  have h6 := g0.nb6
  have h10 := g0.ns10
  intro mm
  induction mm with
  | zero =>
    intro b σ v6 hm hb c6 f hj
    obtain rfl : b = nb := by omega
    obtain ⟨g, fs⟩ := pZ g0 (fz.trans (wSn_z f))
    exact (bX11_partPairs_49 g.1 c6).mpr (zle' (zto g.e2 (ai_n (by omega))) (ai_n (by omega)) (fun _ => hk σ v6 c6 f hj) (fun q => by omega))
  | succ mm ih =>
    intro b σ v6 hm hb c6 f hj
    have f0 := fz.trans (wSn_z f)
    obtain ⟨g, fs⟩ := pZ g0 f0
    have on : ∀ (σ1 : zS) (v v6 : Int32), zFr wSn σz σ1 → (∀ b', b' < b → (zI σ1 90 b').toInt = tSn σ0 m1 b' (s, y)) → v.toInt = tSn σ0 m1 b (s, y) → zW (d + 6) kX11_partPairs 49 [.ref 1, .int m1, .int (nI i), .int (nI s), .int (nI y), .int (nI (b + 1)), .int v6] [] (zsI σ1 90 (upd (zI σ1 90) b v)) Q := fun σ1 v v6 f1 hj1 hv => by
      refine ih (b + 1) _ _ (by omega) (by omega) (zcat_i _) (f1.trans (zFr_U (Or.inr ⟨rfl, rfl⟩))) (fun b' hb' => ?_)
      rw [zI_self]
      by_cases e : b' = b
      · rw [e, pk_us]; exact hv
      · rw [pk_un e]; exact hj1 b' (by omega)
    refine (bX11_partPairs_49 g.1 c6).mpr (zle' (zto g.e2 (ai_n (by omega))) (ai_n (by omega)) (fun q => by omega) (fun _ => zle' k6 (ai_n (by omega)) (fun q => by omega) (fun _ => p_hasBit g.1 (by omega) ⟨rfl, (bX11_partPairs_71 g.1 c6).mpr (zt0 (fun c => ?_) (fun c => ?_))⟩)))
    · refine p_ns0 g.1 g.e4 h10 hs ⟨rfl, (bX11_partPairs_79 g.1 c6).mpr (zy rfl ((bX11_partPairs_87 g.1 c6).mpr (zn (by decide) ⟨vp_in_nI (by omega) (by decide), ?_⟩)))⟩
      rw [zR_bk g.1 (by omega)]
      refine (bX11_partPairs_111 g.1 (zk_bk (by omega))).mpr ⟨vp_in_nI (by omega) (by decide), ?_⟩
      rw [zR_sk g.1 (by omega)]
      refine (bX11_partPairs_117 g.1 (zk_sk (by omega)) (zk_bk (by omega))).mpr (p_tAlC (d := d) g0 f0 (show b < nb by omega) hs hy (fun v σ1 hv f1 fn => ⟨rfl, ?_⟩))
      rw [zif_t (hon b (by omega) c)] at hv
      refine (bX11_partPairs_123 (pZ g0 f1).1.1).mpr ⟨vp_in_nI (by omega) (by decide), ?_⟩
      rw [nI_clamp (by omega), nI_1]
      refine on σ1 v _ (f.trans (fn.mono (fun j c k q => Or.inl q))) (fun b' hb' => ?_) ?_
      · rw [fn.i (by unfold pWq; omega)]; exact hj b' hb'
      · unfold tSn; rw [zif_t c]; exact hv
    · refine (bX11_partPairs_86 g.1 c6).mpr ((bX11_partPairs_87 g.1 c6).mpr (zy rfl ⟨vp_in_nI (by omega) (by decide), ?_⟩))
      rw [nI_clamp (by omega), nI_1]
      refine on σ _ _ f hj ?_
      unfold tSn; rw [zif_f c]; rfl
/-- the pairs that each trial parts, as bits -/
def pPar (σ0 : zS) (m1 : Int32) (σ : zS) (T : tT) (n : Nat) : Prop := ∀ t, t < n → eI m1 (fun b => tSn σ0 m1 b (T.2 t)) (zI σ 89 t) 15
theorem p_parts_l {T : tT} (g0 : iA σ0 nb ns) (hm : ∀ k, k < 32 → bt m1 k = true → k < nb) (hT : ∀ t, t < T.1 → (T.2 t).1 < ns ∧ (T.2 t).2 < 6 ∧ tOn σ0 nb m1 (T.2 t).1 (T.2 t).2)
    (h : ∀ σ', zFr pWz σ0 σ' → pTr σ' T → pPar σ0 m1 σ' T T.1 → Q none σ') :
    ∀ (mm i : Nat) (σ : zS) (v3 v4 v5 v6 : Value), T.1 - i = mm → i ≤ T.1 → v3.category = 1 → v4.category = 1 → v5.category = 1 → v6.category = 1 → zFr pWz σ0 σ → pTr σ T → pPar σ0 m1 σ T i → zW (d + 6) kX11_partPairs 2 [.ref 1, .int m1, .int (nI i), v3, v4, v5, v6] [] σ Q := by
  have h6 := g0.nb6
  have h10 := g0.ns10
  intro mm
  induction mm with
  | zero =>
    intro i σ v3 v4 v5 v6 hmm hi c3 c4 c5 c6 f hTr hP
    obtain rfl : i = T.1 := by omega
    obtain ⟨g, fs⟩ := pZ g0 f
    have t1 := hTr.1
    exact (bX11_partPairs_2 g.1 c3 c4 c5 c6).mpr (zle' (zto hTr.2.1 (ai_n (by omega))) (ai_n (by omega)) (fun _ => h σ f hTr hP) (fun q => by omega))
  | succ mm ih =>
    intro i σ v3 v4 v5 v6 hmm hi c3 c4 c5 c6 f hTr hP
    obtain ⟨g, fs⟩ := pZ g0 f
    obtain ⟨t1, t2, t3⟩ := hTr
    obtain ⟨u1, u2, u3⟩ := hT i (by omega)
    refine (bX11_partPairs_2 g.1 c3 c4 c5 c6).mpr (zle' (zto t2 (ai_n (by omega))) (ai_n (by omega)) (fun q => by omega) (fun _ => zle' k12 (ai_n (by omega)) (fun q => by omega) (fun _ => ⟨vp_in_nI (by omega) (by decide), by decide, vp_in_nI (by omega) (by decide), by decide, ?_⟩)))
    rw [nI_clamp (by omega), t3 i (by omega)]
    have e1 : (nI (16 * (T.2 i).1 + (T.2 i).2) / 16 : Int32) = nI (T.2 i).1 := zint (by
      rw [zdiv (ai_n (by omega)) (show (16 : Int32).toInt = 16 from rfl) (by omega) (by omega), ai_n (by omega)]
      omega)
    have e2 : (nI (16 * (T.2 i).1 + (T.2 i).2) - nI (16 * (T.2 i).1 + (T.2 i).2) / 16 * 16 : Int32) = nI (T.2 i).2 := zint (by
      rw [e1, zsub (ai_n (by omega)) (zmul (ai_n (show (T.2 i).1 < 2147483648 by omega)) (show (16 : Int32).toInt = 16 from rfl) (by omega) (by omega)) (by omega) (by omega), ai_n (by omega)]
      omega)
    rw [e2, e1]
    refine p_seen (d := d) (i := i) g0 u1 (show (T.2 i).2 < 1000 by omega) u3 f (fun σ1 v6' c6' f1 hs1 => ?_) nb 0 σ v6 (by omega) (by omega) c6 (zFr.refl _ _) (fun b' hb' => by omega)
    have f01 := f.trans (wSn_z f1)
    have l1 := (pZ g0 f01).1.1
    have tr1 : pTr σ1 T := pTr_fr f1 (fun k => ⟨nSn (by omega) (by omega), nSn (by omega) (by omega)⟩) ⟨t1, t2, t3⟩
    refine (bX11_partPairs_134 l1 c6').mpr (p_pr (d := d + 4) (nb := nb) (sn := fun b => tSn σ0 m1 b (T.2 i)) l1 (by omega) hm hs1 (fun x hx => ⟨rfl, (bX11_partPairs_143 l1.I c6').mpr ?_⟩))
    rw [nI_1]
    have f2 : zFr (fun j c k => j = 0 ∧ c = 89) σ1 (zsI σ1 (87 + 2) (upd (zI σ1 (87 + 2)) i x)) := zFr_U ⟨rfl, rfl⟩
    refine ih (i + 1) _ _ _ _ _ (by omega) (by omega) (zcat_i _) (zcat_i _) (zcat_i _) c6' (f01.trans (f2.mono (fun j c k q => by unfold pWz; omega))) (pTr_fr f2 (fun k => ⟨by omega, by omega⟩) tr1) (fun t ht => ?_)
    have e89 : zI (zsI σ1 (87 + 2) (upd (zI σ1 (87 + 2)) i x)) 89 = upd (zI σ1 89) i x := zI_self
    rw [e89]
    by_cases e : t = i
    · rw [e, pk_us]; exact hx
    · rw [pk_un e, f1.i (nSn (by omega) (by omega))]
      exact hP t (by omega)
theorem p_parts {T : tT} {σ : zS} (g0 : iA σ0 nb ns) (hm : ∀ k, k < 32 → bt m1 k = true → k < nb) (hT : ∀ t, t < T.1 → (T.2 t).1 < ns ∧ (T.2 t).2 < 6 ∧ tOn σ0 nb m1 (T.2 t).1 (T.2 t).2) (f : zFr pWz σ0 σ) (hTr : pTr σ T)
    (h : ∀ σ', zFr pWz σ0 σ' → pTr σ' T → pPar σ0 m1 σ' T T.1 → Q none σ') : zCall (d + 6) kX11_partPairs [.ref 1, .int m1] σ Q :=
  (bX11_partPairs_0 (pZ g0 f).1.1).mpr (p_parts_l (d := d) g0 hm hT h T.1 0 σ _ _ _ _ (by omega) (by omega) (zcat_r _) (zcat_r _) (zcat_r _) (zcat_r _) f hTr (fun t ht => by omega))
/-- the pairs that a set parts -/
theorem p_by {T : tT} {σ : zS} {x1 : Int32} (hl : zLay σ) (hTr : pTr σ T) (hP : pPar σ0 m1 σ T T.1) (h : ∀ x : Int32, (∀ k, k < 32 → (bt x k = true ↔ k < 15 ∧ pO (bt x1) (eT σ0 m1 T) T.1 k = true)) → Q (some (.int x)) σ) :
    ∀ (mm i : Nat) (x : Int32), T.1 - i = mm → i ≤ T.1 → (∀ k, k < 32 → (bt x k = true ↔ k < 15 ∧ pO (bt x1) (eT σ0 m1 T) i k = true)) → zW (d + 1) kX9_partedBy 4 [.ref 87, .int x1, .int x, .int (nI i)] [] σ Q := by
  obtain ⟨t1, t2, t3⟩ := hTr
  intro mm
  induction mm with
  | zero =>
    intro i x hm hi hx
    obtain rfl : i = T.1 := by omega
    exact (bX9_partedBy_4 hl zk_87).mpr (zle' (zto t2 (ai_n (by omega))) (ai_n (by omega)) (fun _ => h x hx) (fun q => by omega))
  | succ mm ih =>
    intro i x hm hi hx
    refine (bX9_partedBy_4 hl zk_87).mpr (zle' (zto t2 (ai_n (by omega))) (ai_n (by omega)) (fun q => by omega) (fun _ => zle' k12 (ai_n (by omega)) (fun q => by omega) (fun _ => p_hasBit hl (by omega) ⟨rfl, (bX9_partedBy_23 hl zk_87).mpr (zt0 (fun c => ⟨vp_in_nI (by omega) (by decide), ?_⟩) (fun c => ?_))⟩)))
    · rw [nI_clamp (by omega), nI_1]
      refine ih (i + 1) _ (by omega) (by omega) (fun k hk => ?_)
      have e89 : zI σ (87 + 2) i = zI σ 89 i := rfl
      have z := hP i (by omega) k hk
      rw [b_or, Bool.or_eq_true, hx k hk, e89, z]
      show _ ↔ k < 15 ∧ (pO (bt x1) (eT σ0 m1 T) i k || (bt x1 i && eT σ0 m1 T i k)) = true
      rw [Bool.or_eq_true, Bool.and_eq_true, c]
      constructor
      · rintro (⟨a, b⟩ | ⟨a, b⟩)
        · exact ⟨a, Or.inl b⟩
        · exact ⟨a, Or.inr ⟨rfl, b⟩⟩
      · rintro ⟨a, b | ⟨_, b⟩⟩
        · exact Or.inl ⟨a, b⟩
        · exact Or.inr ⟨a, b⟩
    · rw [nI_1]
      refine ih (i + 1) x (by omega) (by omega) (fun k hk => ?_)
      rw [hx k hk]
      show _ ↔ k < 15 ∧ (pO (bt x1) (eT σ0 m1 T) i k || (bt x1 i && eT σ0 m1 T i k)) = true
      have cf : bt x1 i = false := by
        cases hb : bt x1 i
        · rfl
        · exact absurd hb c
      rw [cf]
      cases pO (bt x1) (eT σ0 m1 T) i k <;> simp
theorem p_parted {T : tT} {σ : zS} {x1 : Int32} (hl : zLay σ) (hTr : pTr σ T) (hP : pPar σ0 m1 σ T T.1) (h : ∀ x : Int32, (∀ k, k < 32 → (bt x k = true ↔ k < 15 ∧ pO (bt x1) (eT σ0 m1 T) T.1 k = true)) → Q (some (.int x)) σ) : zCall (d + 1) kX9_partedBy [.ref 87, .int x1] σ Q :=
  (bX9_partedBy_0 hl zk_87).mpr (p_by (d := d) hl hTr hP h T.1 0 0 (by omega) (by omega) (fun k _ => by
    rw [b_0]
    exact ⟨fun q => absurd q (by decide), fun q => absurd q.2 (by show ¬ false = true; decide)⟩))
end PPAIRS
