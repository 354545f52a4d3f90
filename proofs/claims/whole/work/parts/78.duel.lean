/-! the verb duel -/
theorem km1000 : (-1000 : Int32).toInt = -1000 := by decide +kernel
noncomputable def dT (σ : zS) (b s1 s2 N y : Nat) : Nat → Int := fun z => zif (tFit σ b s1 s2 y z) (gm σ b s1 s2 N y z) 0
noncomputable def dR (σ : zS) (b s1 s2 N y : Nat) : Nat → Int := aSum (dT σ b s1 s2 N y)
noncomputable def dA (σ : zS) (b s1 s2 N L : Nat) : Nat → Int := aSum (fun y => dR σ b s1 s2 N y L)
def dM (σ : zS) (b s1 s2 L y k : Nat) : Prop := (∃ y' z', y' < y ∧ z' < L ∧ tFit σ b s1 s2 y' z') ∨ ∃ z', z' < k ∧ tFit σ b s1 s2 y z'
theorem dM_n {σ : zS} {b s1 s2 L y : Nat} : dM σ b s1 s2 L y L = dM σ b s1 s2 L (y + 1) 0 := propext ⟨fun h => by
    rcases h with ⟨y', z', h1, h2, h3⟩ | ⟨z', h2, h3⟩
    · exact Or.inl ⟨y', z', by omega, h2, h3⟩
    · exact Or.inl ⟨y, z', by omega, h2, h3⟩, fun h => by
    rcases h with ⟨y', z', h1, h2, h3⟩ | ⟨z', h2, h3⟩
    · by_cases e : y' = y
      · subst e; exact Or.inr ⟨z', h2, h3⟩
      · exact Or.inl ⟨y', z', by omega, h2, h3⟩
    · omega⟩
theorem dM_t {σ : zS} {b s1 s2 L y k : Nat} (c : tFit σ b s1 s2 y k) : dM σ b s1 s2 L y (k + 1) := Or.inr ⟨k, by omega, c⟩
theorem dM_f {σ : zS} {b s1 s2 L y k : Nat} (c : ¬ tFit σ b s1 s2 y k) : dM σ b s1 s2 L y (k + 1) = dM σ b s1 s2 L y k := propext ⟨fun h => by
    rcases h with h | ⟨z', h2, h3⟩
    · exact Or.inl h
    · by_cases e : z' = k
      · subst e; exact absurd h3 c
      · exact Or.inr ⟨z', by omega, h3⟩, fun h => by
    rcases h with h | ⟨z', h2, h3⟩
    · exact Or.inl h
    · exact Or.inr ⟨z', by omega, h3⟩⟩
theorem dT_b {σ : zS} {b s1 s2 N y : Nat} (hN : N ≤ 40) (z : Nat) : -40 ≤ dT σ b s1 s2 N y z ∧ dT σ b s1 s2 N y z ≤ 40 := by
  unfold dT
  by_cases c : tFit σ b s1 s2 y z
  · rw [zif_t c]; exact gm_b hN
  · rw [zif_f c]; omega
theorem dR_b {σ : zS} {b s1 s2 N y k : Nat} (hN : N ≤ 40) (hk : k ≤ 6) : -240 ≤ dR σ b s1 s2 N y k ∧ dR σ b s1 s2 N y k ≤ 240 := by
  have := aSum_pm (m := 40) (dT_b (σ := σ) (b := b) (s1 := s1) (s2 := s2) (y := y) hN) (by omega) k
  unfold dR
  omega
theorem dA_b {σ : zS} {b s1 s2 N L k : Nat} (hN : N ≤ 40) (hL : L ≤ 6) (hk : k ≤ 6) : -1440 ≤ dA σ b s1 s2 N L k ∧ dA σ b s1 s2 N L k ≤ 1440 := by
  have := aSum_pm (f := fun y => dR σ b s1 s2 N y L) (m := 240) (fun y => dR_b hN hL) (by omega) k
  unfold dA
  omega
section DUEL
variable {d : Nat} {Q : Option Value → zS → Prop} {σ0 : zS} {nb ns : Nat}
theorem p_duel_z {b s1 s2 N L y : Nat} (g0 : iA σ0 nb ns) (hb : b < nb) (h1 : s1 < ns) (h2 : s2 < ns) (hN : N ≤ 40) (hL : (mB σ0 b).2.1 = (L : Int)) (hy : y < L) :
    ∀ (mm k : Nat) (σ : zS) (x6 x7 : Int32), L - k = mm → k ≤ L → zFr pWz σ0 σ → x6 = zb (dM σ0 b s1 s2 L y k) → x7.toInt = dA σ0 b s1 s2 N L y + dR σ0 b s1 s2 N y k →
    (∀ (σ' : zS) (x7 : Int32) (w : Value), w.category = 1 → zFr pWz σ0 σ' → x7.toInt = dA σ0 b s1 s2 N L (y + 1) → zW (d + 7) kX11_duel 53 [.ref 1, .int (nI b), .int (nI s1), .int (nI s2), .int (nI N), .ref (97 + 4 * b), .int (zb (dM σ0 b s1 s2 L (y + 1) 0)), .int x7, .int (nI (y + 1)), w] [] σ' Q) →
    zW (d + 7) kX11_duel 66 [.ref 1, .int (nI b), .int (nI s1), .int (nI s2), .int (nI N), .ref (97 + 4 * b), .int x6, .int x7, .int (nI y), .int (nI k)] [] σ Q := by
  have h6 := g0.nb6
  have h10 := g0.ns10
  have hL6 : L ≤ 6 := by have := (g0.bok hb).2.1; omega
  have zb0 := zk_bk (show b < 6 by omega)
  intro mm
  induction mm with
  | zero =>
    intro k σ x6 x7 hm hk f e6 e7 h
    have e : k = L := by omega
    subst e
    obtain ⟨g, fs⟩ := pZ g0 f
    have eL := (g.bp hb).2.1
    rw [iS_mB fs (show b < 6 by omega), hL] at eL
    refine (bX11_duel_66 g.1 zb0).mpr (zle' eL (ai_n (by omega)) (fun _ => ?_) (fun q => by omega))
    rw [nI_1, e6, dM_n]
    exact h σ x7 _ (zcat_i _) f e7
  | succ mm ih =>
    intro k σ x6 x7 hm hk f e6 e7 h
    obtain ⟨g, fs⟩ := pZ g0 f
    have eL := (g.bp hb).2.1
    rw [iS_mB fs (show b < 6 by omega), hL] at eL
    have bA := dA_b (σ := σ0) (b := b) (s1 := s1) (s2 := s2) (L := L) (k := y) hN hL6 (by omega)
    have bR := dR_b (σ := σ0) (b := b) (s1 := s1) (s2 := s2) (y := y) (k := k) hN (by omega)
    have eR : dR σ0 b s1 s2 N y (k + 1) = dR σ0 b s1 s2 N y k + dT σ0 b s1 s2 N y k := rfl
    refine (bX11_duel_66 g.1 zb0).mpr (zle' eL (ai_n (by omega)) (fun q => by omega) (fun _ => ⟨vp_in_nI (by omega) (by decide), ?_⟩))
    rw [zR_sk g.1 (by omega)]
    refine (bX11_duel_85 g.1 zb0 (zk_sk (by omega)) zb0).mpr ⟨vp_in_nI (by omega) (by decide), ?_⟩
    rw [zR_sk g.1 (by omega)]
    refine (bX11_duel_93 g.1 zb0 (zk_sk (by omega)) (zk_sk (by omega)) zb0).mpr (p_two (d := d + 3) g0 f hb h1 h2 (by omega) (by omega) (fun σ1 T1 f1 => ⟨rfl, (bX11_duel_98 (pZ g0 f1).1.1 zb0).mpr (zt0 (fun c => ?_) (fun c => ?_))⟩))
    · refine p_lead (d := d) g0 f1 hb h1 h2 hN T1 c (fun v σ2 hv f2 => ⟨rfl, (bX11_duel_112 (pZ g0 f2).1.1 zb0).mpr ?_⟩)
      have bg := gm_b (σ := σ0) (b := b) (s1 := s1) (s2 := s2) (y := y) (z := k) hN
      rw [nI_1]
      refine ih (k + 1) σ2 _ _ (by omega) (by omega) f2 (by rw [zb_t (dM_t c)]) ?_ h
      rw [eR, show dT σ0 b s1 s2 N y k = gm σ0 b s1 s2 N y k from zif_t c, ← Int.add_assoc]
      exact zadd e7 hv (by omega) (by omega)
    · rw [nI_1]
      refine ih (k + 1) σ1 x6 x7 (by omega) (by omega) f1 (by rw [dM_f c]; exact e6) ?_ h
      rw [eR, show dT σ0 b s1 s2 N y k = 0 from zif_f c, Int.add_zero]
      exact e7
theorem p_duel_y {b s1 s2 N L : Nat} (g0 : iA σ0 nb ns) (hb : b < nb) (h1 : s1 < ns) (h2 : s2 < ns) (hN : N ≤ 40) (hL : (mB σ0 b).2.1 = (L : Int)) (h : ∀ (v : Int32) (σ' : zS), v.toInt = zif (dM σ0 b s1 s2 L L 0) (dA σ0 b s1 s2 N L L) (-1000) → zFr pWz σ0 σ' → Q (some (.int v)) σ') :
    ∀ (mm y : Nat) (σ : zS) (x7 : Int32) (w : Value), L - y = mm → y ≤ L → w.category = 1 → zFr pWz σ0 σ → x7.toInt = dA σ0 b s1 s2 N L y →
    zW (d + 7) kX11_duel 53 [.ref 1, .int (nI b), .int (nI s1), .int (nI s2), .int (nI N), .ref (97 + 4 * b), .int (zb (dM σ0 b s1 s2 L y 0)), .int x7, .int (nI y), w] [] σ Q := by
  have h6 := g0.nb6
  have hL6 : L ≤ 6 := by have := (g0.bok hb).2.1; omega
  have zb0 := zk_bk (show b < 6 by omega)
  intro mm
  induction mm with
  | zero =>
    intro y σ x7 w hm hk cw f e7
    have e : y = L := by omega
    subst e
    obtain ⟨g, fs⟩ := pZ g0 f
    have eL := (g.bp hb).2.1
    rw [iS_mB fs (show b < 6 by omega), hL] at eL
    refine (bX11_duel_53 g.1 zb0 cw).mpr (zle' eL (ai_n (by omega)) (fun _ => zt0 (fun c => h x7 σ ?_ f) (fun c => h _ σ ?_ f)) (fun q => by omega))
    · rw [zif_t c]; exact e7
    · rw [zif_f c]; exact km1000
  | succ mm ih =>
    intro y σ x7 w hm hk cw f e7
    obtain ⟨g, fs⟩ := pZ g0 f
    have eL := (g.bp hb).2.1
    rw [iS_mB fs (show b < 6 by omega), hL] at eL
    refine (bX11_duel_53 g.1 zb0 cw).mpr (zle' eL (ai_n (by omega)) (fun q => by omega) (fun _ => ?_))
    exact p_duel_z g0 hb h1 h2 hN hL (by omega) L 0 σ _ x7 (by omega) (by omega) f rfl (by show _ = _ + (0 : Int); omega) (fun σ' x7 w cw f' q => ih (y + 1) σ' x7 w (by omega) (by omega) cw f' q)
theorem m_duel_z {b s1 s2 N L y : Nat} (g0 : iA σ0 nb ns) (hb : b < nb) (h1 : s1 < ns) (h2 : s2 < ns) (hN : N ≤ 40) (hL : (mB σ0 b).2.1 = (L : Int)) (hy : y < L) :
    ∀ (mm k : Nat) (σ : zS) (x6 x7 : Int32), L - k = mm → k ≤ L → zFr mWx σ0 σ → mKept σ0 σ → x6 = zb (dM σ0 b s1 s2 L y k) → x7.toInt = dA σ0 b s1 s2 N L y + dR σ0 b s1 s2 N y k →
    (∀ (σ' : zS) (x7 : Int32) (w : Value), w.category = 1 → zFr mWx σ0 σ' → mKept σ0 σ' → x7.toInt = dA σ0 b s1 s2 N L (y + 1) → zW (d + 11) kX12_duel 57 [.ref 131, .int (nI b), .int (nI s1), .int (nI s2), .int (nI N), .int (zb (dM σ0 b s1 s2 L (y + 1) 0)), .int x7, .int (nI (y + 1)), w] [] σ' Q) →
    zW (d + 11) kX12_duel 71 [.ref 131, .int (nI b), .int (nI s1), .int (nI s2), .int (nI N), .int x6, .int x7, .int (nI y), .int (nI k)] [] σ Q := by
  have h6 := g0.nb6
  have h10 := g0.ns10
  have hL6 : L ≤ 6 := by have := (g0.bok hb).2.1; omega
  have cl : (nI b).toNatClampNeg = b := nI_clamp (by omega)
  have cl1 : (nI s1).toNatClampNeg = s1 := nI_clamp (by omega)
  have cl2 : (nI s2).toNatClampNeg = s2 := nI_clamp (by omega)
  intro mm
  induction mm with
  | zero =>
    intro k σ x6 x7 hm hk f hK e6 e7 h
    have e : k = L := by omega
    subst e
    obtain ⟨l, e1, e2, e3, e4⟩ := mX g0 f
    have eL : (zI σ 134 b).toInt = (k : Int) := by
      have e := e1 b
      rw [← hL, ← e]; rfl
    refine (bX12_duel_71 l).mpr ⟨vp_in_nI (by omega) (by decide), ?_⟩
    rw [cl]
    refine zle' eL (ai_n (by omega)) (fun _ => ?_) (fun q => by omega)
    rw [nI_1, e6, dM_n]
    exact h σ x7 _ (zcat_i _) f hK e7
  | succ mm ih =>
    intro k σ x6 x7 hm hk f hK e6 e7 h
    obtain ⟨l, e1, e2, e3, e4⟩ := mX g0 f
    have eL : (zI σ 134 b).toInt = (L : Int) := by
      have e := e1 b
      rw [← hL, ← e]; rfl
    have bA := dA_b (σ := σ0) (b := b) (s1 := s1) (s2 := s2) (L := L) (k := y) hN hL6 (by omega)
    have bR := dR_b (σ := σ0) (b := b) (s1 := s1) (s2 := s2) (y := y) (k := k) hN (by omega)
    have eR : dR σ0 b s1 s2 N y (k + 1) = dR σ0 b s1 s2 N y k + dT σ0 b s1 s2 N y k := rfl
    have ey : (nI y).toInt = (y : Int) := ai_n (by omega)
    have ek : (nI k).toInt = (k : Int) := ai_n (by omega)
    have no : ¬ tFit σ0 b s1 s2 y k → zW (d + 11) kX12_duel 71 [.ref 131, .int (nI b), .int (nI s1), .int (nI s2), .int (nI N), .int x6, .int x7, .int (nI y), .int (nI k + 1)] [] σ Q := fun c => by
      rw [nI_1]
      refine ih (k + 1) σ x6 x7 (by omega) (by omega) f hK (by rw [dM_f c]; exact e6) ?_ h
      rw [eR, show dT σ0 b s1 s2 N y k = 0 from zif_f c, Int.add_zero]
      exact e7
    refine (bX12_duel_71 l).mpr ⟨vp_in_nI (by omega) (by decide), ?_⟩
    rw [cl]
    refine zle' eL (ai_n (by omega)) (fun q => by omega) (fun _ => m_cbX g0 f hb h1 (by omega) ⟨rfl, (bX12_duel_90 l).mpr (zt0 (fun c1 => m_cbX g0 f hb h2 (by omega) ⟨rfl, (bX12_duel_101 l).mpr (zt0 (fun c2 => ⟨vp_in_nI (by omega) (by decide), vp_in_nI (by omega) (by decide), ?_⟩) (fun c2 => no (fun z => c2 (tFit_i.mp z).2.1)))⟩) (fun c1 => no (fun z => c1 (tFit_i.mp z).1)))⟩)
    rw [cl1, cl2, (e4 s1).1, (e4 s2).1]
    have q1 := (g0.stk h1).1
    have q2 := (g0.stk h2).1
    refine m_areApart l ey rfl ek rfl (by omega) ⟨rfl, (bX12_duel_123 l).mpr (zt0 (fun c3 => ?_) (fun c3 => no (fun z => c3 (tFit_i.mp z).2.2)))⟩
    have c := tFit_i.mpr ⟨c1, c2, c3⟩
    refine m_game (d := d) g0 f hb h1 h2 (by omega) (by omega) hN c (fun v σ1 hv f1 => ⟨rfl, ?_⟩)
    have f01 := f.trans (mWy_x f1)
    refine (bX12_duel_147 (mX g0 f01).1).mpr ?_
    have bg := gm_b (σ := σ0) (b := b) (s1 := s1) (s2 := s2) (y := y) (z := k) hN
    rw [nI_1]
    refine ih (k + 1) σ1 _ _ (by omega) (by omega) f01 (mKept_y hK f1) (by rw [zb_t (dM_t c)]) ?_ h
    rw [eR, show dT σ0 b s1 s2 N y k = gm σ0 b s1 s2 N y k from zif_t c, ← Int.add_assoc]
    exact zadd e7 hv (by omega) (by omega)
theorem m_duel_y {b s1 s2 N L : Nat} (g0 : iA σ0 nb ns) (hb : b < nb) (h1 : s1 < ns) (h2 : s2 < ns) (hN : N ≤ 40) (hL : (mB σ0 b).2.1 = (L : Int)) (h : ∀ (v : Int32) (σ' : zS), v.toInt = zif (dM σ0 b s1 s2 L L 0) (dA σ0 b s1 s2 N L L) (-1000) → zFr mWq σ0 σ' → Q (some (.int v)) σ') :
    ∀ (mm y : Nat) (σ : zS) (x7 : Int32) (w : Value), L - y = mm → y ≤ L → w.category = 1 → zFr mWx σ0 σ → mKept σ0 σ → x7.toInt = dA σ0 b s1 s2 N L y →
    zW (d + 11) kX12_duel 57 [.ref 131, .int (nI b), .int (nI s1), .int (nI s2), .int (nI N), .int (zb (dM σ0 b s1 s2 L y 0)), .int x7, .int (nI y), w] [] σ Q := by
  have h6 := g0.nb6
  have hL6 : L ≤ 6 := by have := (g0.bok hb).2.1; omega
  have cl : (nI b).toNatClampNeg = b := nI_clamp (by omega)
  intro mm
  induction mm with
  | zero =>
    intro y σ x7 w hm hk cw f hK e7
    have e : y = L := by omega
    subst e
    obtain ⟨l, e1, e2, e3, e4⟩ := mX g0 f
    have eL : (zI σ 134 b).toInt = (y : Int) := by
      have e := e1 b
      rw [← hL, ← e]; rfl
    refine (bX12_duel_57 l cw).mpr ⟨vp_in_nI (by omega) (by decide), ?_⟩
    rw [cl]
    refine zle' eL (ai_n (by omega)) (fun _ => m_back l hK f (fun σ1 f1 => ⟨rfl, (bX12_duel_166 (f1.lay g0.1 (fun _ _ _ _ => mWq_2)) cw).mpr (zt0 (fun c => h x7 σ1 ?_ f1) (fun c => h _ σ1 ?_ f1))⟩)) (fun q => by omega)
    · rw [zif_t c]; exact e7
    · rw [zif_f c]; exact km1000
  | succ mm ih =>
    intro y σ x7 w hm hk cw f hK e7
    obtain ⟨l, e1, e2, e3, e4⟩ := mX g0 f
    have eL : (zI σ 134 b).toInt = (L : Int) := by
      have e := e1 b
      rw [← hL, ← e]; rfl
    refine (bX12_duel_57 l cw).mpr ⟨vp_in_nI (by omega) (by decide), ?_⟩
    rw [cl]
    refine zle' eL (ai_n (by omega)) (fun q => by omega) (fun _ => ?_)
    exact m_duel_z (d := d) g0 hb h1 h2 hN hL (by omega) L 0 σ _ x7 (by omega) (by omega) f hK rfl (by show _ = _ + (0 : Int); omega) (fun σ' x7 w cw f' hK' q => ih (y + 1) σ' x7 w (by omega) (by omega) cw f' hK' q)
theorem e_duel {σ : zS} (g : iA σ nb ns) (b s1 s2 n : Int32) : eCall kX11_duel kX12_duel [.int b, .int s1, .int s2, .int n] [.int b, .int s1, .int s2, .int n] σ := by
  have h6 := g.nb6
  have h10 := g.ns10
  rcases a_cs b nb with ⟨b, hb, rfl, -⟩ | hx
  · have hB := g.bok hb
    obtain ⟨L, hL⟩ : ∃ L : Nat, (mB σ b).2.1 = (L : Int) := ⟨(mB σ b).2.1.toNat, by have := hB.1; omega⟩
    rcases a_cs s1 ns with ⟨s1, h1, rfl, -⟩ | hx
    · rcases a_cs s2 ns with ⟨s2, h2, rfl, -⟩ | hx
      · by_cases c : 1 ≤ n.toInt ∧ n.toInt ≤ 40
        · obtain ⟨n, hn, rfl, eN⟩ := ai_nx (x := n) (by omega)
          have hN : n ≤ 40 := by omega
          have nM : dM σ b s1 s2 L 0 0 = False := eq_false (fun z => by
            rcases z with ⟨_, _, q, _⟩ | ⟨_, q, _⟩ <;> omega)
          refine e_q g (zif (dM σ b s1 s2 L L 0) (dA σ b s1 s2 n L L) (-1000)) (fun Q h => (bX11_duel_0 g.1).mpr (p_nb0 g.1 g.e2 h6 hb ⟨rfl, (bX11_duel_5 g.1).mpr (zy rfl (p_ns0 g.1 g.e4 h10 h1 ⟨rfl, (bX11_duel_13 g.1).mpr (zy rfl (p_ns0 g.1 g.e4 h10 h2 ⟨rfl, (bX11_duel_21 g.1).mpr (zy rfl (p_sd g.1 (fun _ _ => ⟨rfl, (bX11_duel_29 g.1).mpr (zy rfl ⟨vp_in_nI (by omega) (by decide), ?_⟩)⟩) (fun q => absurd c q)))⟩))⟩))⟩)) (fun σ1 σ2 Q l1 e2 g2 f2 h => ?_)
          · rw [zR_bk g.1 (by omega)]
            refine (bX11_duel_42 g.1 (zk_bk (by omega))).mpr ?_
            have z := p_duel_y (d := 6) (Q := Q) g hb h1 h2 hN hL (fun v σ' hv f => h v σ' hv f) L 0 σ 0 (.retAddr 0) (by omega) (by omega) (zcat_r _) (zFr.refl _ _) rfl
            rw [nM, zb_f id] at z
            exact z
          · have hL2 : (mB σ2 b).2.1 = (L : Int) := by rw [iS_mB f2 (by omega)]; exact hL
            refine (bX12_duel_0 l1).mpr ?_
            rw [e2]
            refine m_ib1 g2.1 g2.e11 h6 hb ⟨rfl, (bX12_duel_10 g2.1).mpr (zn (by decide) (m_is1 g2.1 g2.e12 h10 h1 ⟨rfl, (bX12_duel_18 g2.1).mpr (zn (by decide) (m_is1 g2.1 g2.e12 h10 h2 ⟨rfl, (bX12_duel_26 g2.1).mpr (zn (by decide) (m_isIn g2.1 ⟨rfl, (bX12_duel_37 g2.1).mpr (zt0 (fun _ => ?_) (fun q => absurd (by rw [k1, k40]; exact c) q))⟩))⟩))⟩))⟩
            refine m_keep g2.1 (fun σ3 k3 f3 e139 e131 e31 => ⟨rfl, (bX12_duel_54 (f3.lay g2.1 (fun _ _ _ _ => mWq_2))).mpr ?_⟩)
            have tf : ∀ y z, tFit σ2 b s1 s2 y z = tFit σ b s1 s2 y z := fun y z => tFit_c f2 (by omega) (by omega) (by omega)
            have eM : ∀ y k, dM σ2 b s1 s2 L y k = dM σ b s1 s2 L y k := fun y k => by
              unfold dM
              simp only [tf]
            have eA : dA σ2 b s1 s2 n L L = dA σ b s1 s2 n L L := by
              unfold dA dR dT
              simp only [tf, gm_c f2 (show b < 6 by omega) (show s1 < 10 by omega) (show s2 < 10 by omega)]
            have z := m_duel_y (d := 2) (Q := Q) g2 hb h1 h2 hN hL2 (fun v σ' hv f => h v σ' (by rw [eM, eA] at hv; exact hv) f) L 0 σ3 0 (.retAddr 0) (by omega) (by omega) (zcat_r _) (mWq_x f3) k3 rfl
            rw [eM, nM, zb_f id] at z
            exact z
        · refine e_q g (-1000) (fun Q h => (bX11_duel_0 g.1).mpr (p_nb0 g.1 g.e2 h6 hb ⟨rfl, (bX11_duel_5 g.1).mpr (zy rfl (p_ns0 g.1 g.e4 h10 h1 ⟨rfl, (bX11_duel_13 g.1).mpr (zy rfl (p_ns0 g.1 g.e4 h10 h2 ⟨rfl, (bX11_duel_21 g.1).mpr (zy rfl (p_sd g.1 (fun q1 q2 => absurd ⟨q1, q2⟩ c) (fun q => ⟨rfl, (bX11_duel_29 g.1).mpr (zn (by decide) (h _ σ km1000 (zFr.refl _ _)))⟩)))⟩))⟩))⟩)) (fun σ1 σ2 Q l1 e2 g2 f2 h => ?_)
          refine (bX12_duel_0 l1).mpr ?_
          rw [e2]
          exact m_ib1 g2.1 g2.e11 h6 hb ⟨rfl, (bX12_duel_10 g2.1).mpr (zn (by decide) (m_is1 g2.1 g2.e12 h10 h1 ⟨rfl, (bX12_duel_18 g2.1).mpr (zn (by decide) (m_is1 g2.1 g2.e12 h10 h2 ⟨rfl, (bX12_duel_26 g2.1).mpr (zn (by decide) (m_isIn g2.1 ⟨rfl, (bX12_duel_37 g2.1).mpr (zt0 (fun q => absurd (by rw [k1, k40] at q; exact q) c) (fun _ => h _ σ2 km1000 (zFr.refl _ _)))⟩))⟩))⟩))⟩
      · refine e_q g (-1000) (fun Q h => (bX11_duel_0 g.1).mpr (p_nb0 g.1 g.e2 h6 hb ⟨rfl, (bX11_duel_5 g.1).mpr (zy rfl (p_ns0 g.1 g.e4 h10 h1 ⟨rfl, (bX11_duel_13 g.1).mpr (zy rfl (p_ns1 g.1 g.e4 h10 hx ⟨rfl, (bX11_duel_21 g.1).mpr (zn (by decide) (h _ σ km1000 (zFr.refl _ _)))⟩))⟩))⟩)) (fun σ1 σ2 Q l1 e2 g2 f2 h => ?_)
        refine (bX12_duel_0 l1).mpr ?_
        rw [e2]
        exact m_ib1 g2.1 g2.e11 h6 hb ⟨rfl, (bX12_duel_10 g2.1).mpr (zn (by decide) (m_is1 g2.1 g2.e12 h10 h1 ⟨rfl, (bX12_duel_18 g2.1).mpr (zn (by decide) (m_is0 g2.1 g2.e12 h10 hx ⟨rfl, (bX12_duel_26 g2.1).mpr (zy rfl (h _ σ2 km1000 (zFr.refl _ _)))⟩))⟩))⟩
    · refine e_q g (-1000) (fun Q h => (bX11_duel_0 g.1).mpr (p_nb0 g.1 g.e2 h6 hb ⟨rfl, (bX11_duel_5 g.1).mpr (zy rfl (p_ns1 g.1 g.e4 h10 hx ⟨rfl, (bX11_duel_13 g.1).mpr (zn (by decide) (h _ σ km1000 (zFr.refl _ _)))⟩))⟩)) (fun σ1 σ2 Q l1 e2 g2 f2 h => ?_)
      refine (bX12_duel_0 l1).mpr ?_
      rw [e2]
      exact m_ib1 g2.1 g2.e11 h6 hb ⟨rfl, (bX12_duel_10 g2.1).mpr (zn (by decide) (m_is0 g2.1 g2.e12 h10 hx ⟨rfl, (bX12_duel_18 g2.1).mpr (zy rfl (h _ σ2 km1000 (zFr.refl _ _)))⟩))⟩
  · refine e_q g (-1000) (fun Q h => (bX11_duel_0 g.1).mpr (p_nb1 g.1 g.e2 h6 hx ⟨rfl, (bX11_duel_5 g.1).mpr (zn (by decide) (h _ σ km1000 (zFr.refl _ _)))⟩)) (fun σ1 σ2 Q l1 e2 g2 f2 h => ?_)
    refine (bX12_duel_0 l1).mpr ?_
    rw [e2]
    exact m_ib0 g2.1 g2.e11 h6 hx ⟨rfl, (bX12_duel_10 g2.1).mpr (zy rfl (h _ σ2 km1000 (zFr.refl _ _)))⟩
end DUEL
