/-! races over seeds on both sides, and the calls that rest on them -/
noncomputable def aR (B : aBk) (W : aWx) (n : Nat) (F : aFn) (k : Nat) : aFn := (aRace B W n F (aSd k)).2.1
theorem aR_c {B : aBk} {W : aWx} {n : Nat} {F F' : aFn} {k : Nat} (h : ∀ r w, r < n → w ≤ 3 → F r w = F' r w) : aR B W n F k = aR B W n F' k := by unfold aR; rw [aRace_c h]
theorem aR_ok {B : aBk} {W : aWx} {n : Nat} {F : aFn} {k : Nat} (hB : aBok B) (hW : aWok W) (hn : n ≤ 6) (h : ∀ r, r < n → aFst B F r) : (∀ r, r < n → aFok B (aR B W n F k) r) ∧ ∀ r w, r < n → w ≤ 3 → aR B W n F k r w = F r w :=
  ⟨(aRace_ok hB hW hn h).1.1, (aRace_ok hB hW hn h).2.2.2⟩
theorem aWin_b {n : Nat} {F : aFn} {r : Nat} : 0 ≤ aWin n F r ∧ aWin n F r ≤ 1 := by
  unfold aWin
  by_cases c : aPl n F r = 0
  · rw [if_pos c]; omega
  · rw [if_neg c]; omega
theorem aSum_s {f : Nat → Int} {k : Nat} : aSum f (k + 1) = aSum f k + f k := rfl
theorem aSum_b2 {f : Nat → Int} {m : Int} (hm : 0 ≤ m) (h : ∀ k, 0 ≤ f k ∧ f k ≤ m) {k N : Nat} (hk : k ≤ N) : 0 ≤ aSum f k ∧ aSum f k ≤ m * N := by
  have z := aSum_9 h hm k
  have : m * (k : Int) ≤ m * N := Int.mul_le_mul_of_nonneg_left (by omega) hm
  omega
/-- the tally behind k seeds -/
def pTal (σ : zS) (n : Nat) (w0 s0 : Nat → Int) (t0 : Int) (R : Nat → aFn) (k : Nat) : Prop := (∀ r, r < n → (zI σ 81 r).toInt = w0 r + aSum (fun j => aWin n (R j) r) k ∧ (zI σ 82 r).toInt = s0 r + aSum (fun j => aPl n (R j) r) k) ∧ (zI σ 80 2).toInt = t0 + aSum (fun j => aTp n (R j)) k
section ODDS
variable {d : Nat} {Q : Option Value → zS → Prop}
theorem pTd_tl {σ σ' : zS} {n b : Nat} {F : aFn} (h : zFr wTl σ σ') (T : pTd σ 60 n b F) : pTd σ' 60 n b F :=
  pTd_fr h (h.lay T.1 (fun _ _ _ _ => by unfold wTl; omega)) (fun c k q => wTl_6 q k) (by unfold wTl; omega) (fun r hr => by unfold wTl; omega) (fun c k => by unfold wTl; omega) T
theorem p_seeds_l {n b N : Nat} {F : aFn} {B : aBk} {W : aWx} {w0 s0 : Nat → Int} {t0 : Int} (hB : aBok B) (hW : aWok W) (gb : zk b = 0) (hn : n ≤ 6) (hst : ∀ r, r < n → aFst B F r) (hN : N ≤ 40) (hb : ∀ r, r < n → 0 ≤ w0 r ∧ w0 r ≤ 100000 ∧ 0 ≤ s0 r ∧ s0 r ≤ 100000) (ht : 0 ≤ t0 ∧ t0 ≤ 100000) :
    ∀ (m k : Nat) (σ : zS), N - k = m → k ≤ N → pTd σ 60 n b F → pBk σ b B → ((zI σ 10 0).toInt = W.1 ∧ (zI σ 10 1).toInt = W.2.1 ∧ (zI σ 10 2).toInt = W.2.2) → pTal σ n w0 s0 t0 (aR B W n F) k → (k = 0 ∨ ∃ sd, pHas σ 60 n (aRace B W n F sd).2) →
    (∀ σ', zLay σ' → pTal σ' n w0 s0 t0 (aR B W n F) N → zFr pWz σ σ' → Q none σ') → zW (d + 5) kX11_tallySeeds 2 [.ref 1, .int (nI N), .int (nI k)] [] σ Q := by
  intro m
  induction m with
  | zero =>
    intro k σ hm hk T g eW hT _ h
    have e : k = N := by omega
    subst e
    exact (bX11_tallySeeds_2 T.1).mpr (zle' (ai_n (by omega)) (ai_n (by omega)) (fun _ => h σ T.1 hT (zFr.refl _ _)) (fun q => by omega))
  | succ m ih =>
    intro k σ hm hk T g eW hT hd h
    have p43 : ∀ (σ1 : zS) (sd : Int64), pTd σ1 60 n b F → pBk σ1 b B → ((zI σ1 10 0).toInt = W.1 ∧ (zI σ1 10 1).toInt = W.2.1 ∧ (zI σ1 10 2).toInt = W.2.2) → pHas σ1 60 n (aRace B W n F sd).2 → (aRace B W n F sd).2.1 = aR B W n F k → zI σ1 80 = zI σ 80 → zI σ1 81 = zI σ 81 → zI σ1 82 = zI σ 82 → zFr pWz σ σ1 → zW (d + 5) kX11_tallySeeds 43 [.ref 1, .int (nI N), .int (nI k)] [] σ1 Q := by
      intro σ1 sd T1 g1 eW1 hD1 eD e80 e81 e82 f1
      have C1 : pCx σ1 60 n B W 10 := pTd_cx T1 g1 hB zk_10 eW1 hW
      have ok := (aR_ok (k := k) hB hW hn hst).1
      refine (bX11_tallySeeds_43 T1.1).mpr (p_tadd (d := d + 2) (w0 := fun r => w0 r + aSum (fun j => aWin n (aR B W n F j) r) k) (s0 := fun r => s0 r + aSum (fun j => aPl n (aR B W n F j) r) k) (t0 := t0 + aSum (fun j => aTp n (aR B W n F j)) k) C1 (hD1.1.trans eD) ok (fun r hr => ?_) ?_ (fun r hr => by rw [e81, e82]; exact hT.1 r hr) (by rw [e80]; exact hT.2) (fun σ2 q1 q2 f2 => ⟨rfl, ?_⟩))
      · have b1 := aSum_b2 (f := fun j => aWin n (aR B W n F j) r) (m := 1) (by omega) (fun j => aWin_b) (show k ≤ 40 by omega)
        have b2 := aSum_b2 (f := fun j => aPl n (aR B W n F j) r) (m := 6) (by omega) (fun j => aPl_b hn ((aR_ok hB hW hn hst).1 r hr)) (show k ≤ 40 by omega)
        have := hb r hr
        show 0 ≤ w0 r + _ ∧ w0 r + _ ≤ _ ∧ 0 ≤ s0 r + _ ∧ s0 r + _ ≤ _
        omega
      · have b1 := aSum_b2 (f := fun j => aTp n (aR B W n F j)) (m := 1) (by omega) (fun j => aTp_b) (show k ≤ 40 by omega)
        omega
      · have l2 : zLay σ2 := f2.lay T1.1 (fun _ _ _ _ => by unfold wTl; omega)
        refine (bX11_tallySeeds_54 l2).mpr ?_
        rw [nI_1]
        refine ih (k + 1) σ2 (by omega) (by omega) (pTd_tl f2 T1) (pBk_fr f2 (wTl_b gb) g1) (by rw [f2.i (by unfold wTl; omega), f2.i (by unfold wTl; omega), f2.i (by unfold wTl; omega)]; exact eW1) ⟨fun r hr => ?_, ?_⟩ (Or.inr ⟨sd, pHas_tl f2 C1 hD1⟩) (fun σ' r0 r1 r2 => h σ' r0 r1 (f1.trans ((wTl_z f2).trans r2)))
        · rw [aSum_s, aSum_s, (q1 r hr).1, (q1 r hr).2]
          exact ⟨Int.add_assoc _ _ _, Int.add_assoc _ _ _⟩
        · rw [aSum_s, q2]
          exact Int.add_assoc _ _ _
    have p21 : zW (d + 5) kX11_tallySeeds 21 [.ref 1, .int (nI N), .int (nI k)] [] σ Q := by
      refine (bX11_tallySeeds_21 T.1).mpr (p_begin (d := d + 3) T (fun σ1 T1 hD1 t1 _ f1 => ⟨rfl, ?_⟩))
      have f1q := pWr_q f1
      have g1 := pBk_fr f1q (pWq_b zk_60 gb) g
      have eW1 := pWx_q zk_60 zk_10 f1q eW
      have C1 : pCx σ1 60 n B W 10 := pTd_cx T1 g1 hB zk_10 eW1 hW
      have ok := aBeg_ok (n := n) (F := F) (X := (aSd k, False, fun _ => 0)) hB hst
      refine (bX11_tallySeeds_30 T1.1).mpr ((bX2_run_0 C1.1 zk_60 zk_10).mpr (p_runN (N := 60) (by omega) 60 0 σ1 (0, aBeg n F, 0, aSd k, False, fun _ => 0) _ _ rfl (by omega) C1 hD1 ok t1 (Int.le_refl _) (by show (0 : Int) ≤ 60; decide) (zcat_r _) (zcat_r _) (fun σ2 hD2 t2 f2 => ⟨rfl, ?_⟩)))
      have f2q := f1q.trans (pWr_q f2)
      exact p43 σ2 (aSd k) (pTd_r f2 T1) (pBk_fr f2q (pWq_b zk_60 gb) g) (pWx_q zk_60 zk_10 f2q eW) hD2 rfl (funext fun k => f2q.i (by unfold pWq; omega)) (funext fun k => f2q.i (by unfold pWq; omega)) (funext fun k => f2q.i (by unfold pWq; omega)) (pWq_z f2q)
    refine (bX11_tallySeeds_2 T.1).mpr (zle' (ai_n (by omega)) (ai_n (by omega)) (fun q => by omega) (fun _ => zeq' (ai_n (by omega)) k0 (fun _ => p21) (fun q => ?_)))
    rcases hd with q2 | ⟨sd, hD⟩
    · exact absurd (by omega) q
    · rw [hD.2.2.2.1]
      refine zt0 (fun _ => p21) (fun c => ?_)
      exact p43 σ sd T g eW hD (aRace_dw1 c (aSd k)).2.1.symm rfl rfl rfl (zFr.refl _ _)
/-- the runners as told, each from the place of the one k further on -/
def aTurn (F : aFn) (n k : Nat) : aFn := fun r w => if w = 3 then F (if r + k < n then r + k else r + k - n) 3 else F r w
theorem aAdd_self {F : aFn} {i : Nat} : aAdd F i (F i) = F := by
  funext r w
  unfold aAdd
  by_cases h : r = i
  · rw [if_pos h, h]
  · rw [if_neg h]
theorem p_turn_l {σ0 : zS} {nb ns n b k : Nat} (g : iA σ0 nb ns) (T : iT σ0 nb ns n b) (hk : k < n) :
    ∀ (m i : Nat) (σ : zS) (v3 : Value), n - i = m → i ≤ n → v3.category = 1 → pTd σ 60 i (97 + 4 * b) (aTurn (mFR σ0 139 n) n k) → zFr (pWq 60) σ0 σ →
    (∀ σ', pTd σ' 60 n (97 + 4 * b) (aTurn (mFR σ0 139 n) n k) → zFr (pWq 60) σ0 σ' → Q none σ') → zW (d + 2) kX11_turnRunners 16 [.ref 1, .int (nI k), .int (nI i), v3] [] σ Q := by
  have n6 := T.1
  have T0 := T.td g
  intro m
  induction m with
  | zero =>
    intro i σ v3 hm hi hc TD f h
    have e : i = n := by omega
    subst e
    have e4 : zI σ 12 4 = nI i := by rw [f.i (by unfold pWq; omega)]; exact T.2.2.1
    exact (bX11_turnRunners_16 TD.1 hc).mpr (zle' (zto e4 (ai_n (by omega))) (ai_n (by omega)) (fun _ => h σ TD f) (fun q => by omega))
  | succ m ih =>
    intro i σ v3 hm hi hc TD f h
    have hin : i < n := by omega
    have e4 : zI σ 12 4 = nI n := by rw [f.i (by unfold pWq; omega)]; exact T.2.2.1
    have p63 : ∀ j : Nat, j < n → j = (if i + k < n then i + k else i + k - n) → zW (d + 2) kX11_turnRunners 63 [.ref 1, .int (nI k), .int (nI i), v3] [.int (nI j)] σ Q := by
      intro j hj ej
      refine (bX11_turnRunners_63 TD.1 hc).mpr (zlt' (ai_n (by omega)) k0 (fun q => by omega) (fun _ => zle' k6 (ai_n (by omega)) (fun q => by omega) (fun _ => ⟨vp_in_nI (by omega) (by decide), ?_⟩)))
      rw [zR_rn TD.1 (by omega)]
      refine (bX11_turnRunners_87 TD.1 (zk_rn (by omega))).mpr ?_
      obtain ⟨s, s1, s2⟩ := T.2.2.2.2.2.2.1 i hin
      have hs10 : s < 10 := by have := g.ns10; omega
      have eR : zR σ (20 + 2 * i) 0 = some (121 + s) := by rw [f.r (by unfold pWq; omega)]; exact s2
      rw [eR]
      refine (bX11_turnRunners_90 TD.1 (zk_sk hs10)).mpr ⟨vp_in_nI (by omega) (by decide), ?_⟩
      rw [zR_rn TD.1 (by omega)]
      refine (bX11_turnRunners_99 TD.1 (zk_rn (by omega)) (zk_sk hs10)).mpr ?_
      have ey : (zI σ (20 + 2 * j) 1).toInt = mFR σ0 139 n j 3 := by rw [f.i (by unfold pWq; omega)]; exact T.v (w := 3) hj (by omega) (by omega)
      have eT3 : aTurn (mFR σ0 139 n) n k i 3 = mFR σ0 139 n j 3 := by
        unfold aTurn
        rw [if_pos rfl, ← ej]
      refine p_add (d := d) (G := aTurn (mFR σ0 139 n) n k i) TD (by omega) (zk_sk hs10) (fun w hw => ?_) (by rw [eT3]; exact ey) (fun σ1 T1 _ f1 => ⟨rfl, ?_⟩)
      · rw [f.i (by unfold pWq; omega)]
        obtain ⟨⟨s', a1, a2, a3⟩, -⟩ := T0.2.2.2.2.2.2 i hin
        have e : s' = 121 + s := by
          have := a1.symm.trans s2
          cases this
          rfl
        subst e
        rw [a3 w hw]
        unfold aTurn
        rw [if_neg (by omega)]
      · rw [aAdd_self] at T1
        refine (bX11_turnRunners_105 T1.1).mpr ?_
        rw [nI_1]
        exact ih (i + 1) σ1 _ (by omega) (by omega) (zcat_i _) T1 (f.trans (pWa_q zk_60 (by omega) f1)) h
    refine (bX11_turnRunners_16 TD.1 hc).mpr (zle' (zto e4 (ai_n (by omega))) (ai_n (by omega)) (fun q => by omega) (fun _ => zle' k6 (ai_n (by omega)) (fun q => by omega) (fun _ => zle' (zto e4 (ai_n (by omega))) (zadd (ai_n (by omega)) (ai_n (by omega))) (fun q => ?_) (fun q => ?_))))
    · have e : (nI i + nI k) - zI σ 12 4 = nI (i + k - n) := zint (by rw [zsub (zadd (ai_n (by omega)) (ai_n (by omega))) (zto e4 (ai_n (by omega))), ai_n (by omega)]; omega)
      rw [e]
      exact p63 (i + k - n) (by omega) (by rw [if_neg (by omega)])
    · have e : nI i + nI k = nI (i + k) := nI_add i k
      rw [e]
      exact p63 (i + k) (by omega) (by rw [if_pos (by omega)])
theorem p_turn {σ : zS} {nb ns n b k : Nat} (g : iA σ nb ns) (T : iT σ nb ns n b) (hk : k < n) (h : ∀ σ', pTd σ' 60 n (97 + 4 * b) (aTurn (mFR σ 139 n) n k) → zFr (pWq 60) σ σ' → Q none σ') : zCall (d + 2) kX11_turnRunners [.ref 1, .int (nI k)] σ Q := by
  have hb := T.bb
  have h6 := g.nb6
  refine (bX11_turnRunners_0 g.1).mpr ?_
  rw [T.2.2.2.2.2.1]
  refine (bX11_turnRunners_11 g.1 (zk_bk (by omega))).mpr (p_clear (F := aTurn (mFR σ 139 n) n k) g.1 zk_60 (zk_bk (by omega)) (fun σ1 T1 _ f1 => ⟨rfl, (bX11_turnRunners_14 T1.1).mpr ?_⟩))
  exact p_turn_l g T hk n 0 σ1 _ (by omega) (by omega) (zcat_r _) T1 f1 h
theorem aTurn_0 {F : aFn} {n : Nat} : ∀ r w, r < n → w ≤ 3 → aTurn F n 0 r w = F r w := fun r w hr _ => by
  unfold aTurn
  by_cases e : w = 3
  · rw [if_pos e, if_pos (by omega), e]; rfl
  · rw [if_neg e]
theorem aFit_c {B : aBk} {W : aWx} {n : Nat} {F F' : aFn} (h : ∀ r w, r < n → w ≤ 3 → F r w = F' r w) : aFit B W n F ↔ aFit B W n F' := by
  have e0 : ∀ r, r < n → F r 0 = F' r 0 := fun r hr => h r 0 hr (by omega)
  have e3 : ∀ r, r < n → F r 3 = F' r 3 := fun r hr => h r 3 hr (by omega)
  unfold aFit aApart
  constructor
  · rintro ⟨h1, h2⟩
    refine ⟨fun r hr => by rw [← e0 r hr, ← e3 r hr]; exact h1 r hr, fun r hr o ho => ?_⟩
    rw [← e0 r hr, ← e3 r hr, ← e0 o (by omega), ← e3 o (by omega)]
    exact h2 r hr o ho
  · rintro ⟨h1, h2⟩
    refine ⟨fun r hr => by rw [e0 r hr, e3 r hr]; exact h1 r hr, fun r hr o ho => ?_⟩
    rw [e0 r hr, e3 r hr, e0 o (by omega), e3 o (by omega)]
    exact h2 r hr o ho
theorem p_tallyTold {σ : zS} {nb ns n b N : Nat} (g : iA σ nb ns) (T : iT σ nb ns n b) (h0 : 0 < n) (hN : N ≤ 40)
    (h1 : aFit (mB σ b) (mW σ) n (mFR σ 139 n) → ∀ σ', zLay σ' → pTal σ' n (fun _ => 0) (fun _ => 0) 0 (aR (mB σ b) (mW σ) n (mFR σ 139 n)) N → zFr pWz σ σ' → Q (some (.int 1)) σ')
    (h2 : ¬ aFit (mB σ b) (mW σ) n (mFR σ 139 n) → ∀ σ', zLay σ' → zFr pWz σ σ' → Q (some (.int 0)) σ') : zCall (d + 7) kX11_tallyTold [.ref 1, .int (nI N)] σ Q := by
  have hb := T.bb
  have h6 := g.nb6
  have hB := g.bok hb
  have n6 := T.1
  refine (bX11_tallyTold_0 g.1).mpr (p_turn (d := d + 4) (k := 0) g T h0 (fun σ1 T1 f1 => ⟨rfl, (bX11_tallyTold_5 T1.1).mpr ?_⟩))
  have g1 := pBk_fr f1 (pWq_b zk_60 (zk_bk (show b < 6 by omega))) (g.bp hb)
  have eW1 := pWx_q zk_60 zk_10 f1 g.wp
  have hfs : ∀ r, r < n → aFst (mB σ b) (aTurn (mFR σ 139 n) n 0) r := fun r hr => by
    have z := T.fs r hr
    unfold aFst at *
    rw [aTurn_0 r 0 hr (by omega), aTurn_0 r 1 hr (by omega), aTurn_0 r 2 hr (by omega), aTurn_0 r 3 hr (by omega)]
    exact z
  refine p_fits (d := d + 4) T1 g1 hB (fun r hr => ⟨(hfs r hr).1, (hfs r hr).2.1⟩) eW1.2.1 ⟨rfl, (bX11_tallyTold_19 T1.1).mpr (zt0 (fun c => ?_) (fun c => h2 (fun q => c ((aFit_c aTurn_0).mpr q)) σ1 T1.1 (pWq_z f1)))⟩
  refine p_tclear (d := d + 5) T1.1 (fun σ2 l2 z2 z80 f2 => ⟨rfl, (bX11_tallyTold_31 l2).mpr ?_⟩)
  have T2 := pTd_tl f2 T1
  have eRR : ∀ k, aR (mB σ b) (mW σ) n (aTurn (mFR σ 139 n) n 0) k = aR (mB σ b) (mW σ) n (mFR σ 139 n) k := fun k => aR_c aTurn_0
  refine (bX11_tallySeeds_0 l2).mpr (p_seeds_l (d := d + 1) (w0 := fun _ => 0) (s0 := fun _ => 0) (t0 := 0) hB g.wok (zk_bk (by omega)) n6 hfs hN (fun r hr => by omega) (by omega) N 0 σ2 (by omega) (by omega) T2 (pBk_fr f2 (wTl_b (zk_bk (by omega))) g1) (by rw [f2.i (by unfold wTl; omega), f2.i (by unfold wTl; omega), f2.i (by unfold wTl; omega)]; exact eW1) ⟨fun r hr => ?_, ?_⟩ (Or.inl rfl) (fun σ3 l3 t3 f3 => ⟨rfl, (bX11_tallyTold_36 l3).mpr ?_⟩))
  · rw [(z2 r (by omega)).1, (z2 r (by omega)).2]; exact ⟨rfl, rfl⟩
  · rw [z80]; rfl
  · rw [show aR (mB σ b) (mW σ) n (aTurn (mFR σ 139 n) n 0) = aR (mB σ b) (mW σ) n (mFR σ 139 n) from funext eRR] at t3
    exact h1 ((aFit_c aTurn_0).mp c) σ3 l3 t3 (((pWq_z f1).trans (wTl_z f2)).trans f3)
end ODDS
