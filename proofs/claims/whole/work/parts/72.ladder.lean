/-! the verb ladder -/
noncomputable def lS (σ : zS) (b s n L : Nat) : Int := (bIn (tOk σ b s) (tV σ b s n) 0 (-1, -1, -1) L).2.2
theorem bIn_i {ok : Nat → Prop} {v : Nat → Int} {s M : Int} {t : Int × Int × Int} (ht : t.2.2 = -1 ∨ (0 ≤ t.2.2 ∧ t.2.2 ≤ M)) (h : ∀ k, ok k → 0 ≤ v k ∧ v k ≤ M) : ∀ n, (bIn ok v s t n).2.2 = -1 ∨ (0 ≤ (bIn ok v s t n).2.2 ∧ (bIn ok v s t n).2.2 ≤ M)
  | 0 => ht
  | n + 1 => by
    show (bSt (bIn ok v s t n) (ok n) s n (v n)).2.2 = -1 ∨ _
    by_cases c : ok n ∧ ((bIn ok v s t n).2.2 = -1 ∨ v n < (bIn ok v s t n).2.2)
    · rw [show bIn ok v s t (n + 1) = bSt (bIn ok v s t n) (ok n) s n (v n) from rfl, bSt_y c.1 c.2]
      exact Or.inr (h n c.1)
    · rw [show bIn ok v s t (n + 1) = bSt (bIn ok v s t n) (ok n) s n (v n) from rfl, bSt_n (fun z q => c ⟨z, q⟩)]
      exact bIn_i ht h n
theorem lS_c {σ0 σ : zS} (f : zFr iSafe σ0 σ) {b s n L : Nat} (hb : b < 6) (hs : s < 10) : lS σ b s n L = lS σ0 b s n L := by
  unfold lS
  rw [bIn_c L (fun k _ => ⟨tOk_c f hb hs, tV_c f hb hs⟩)]
section LEAST
variable {d : Nat} {Q : Option Value → zS → Prop} {σ0 : zS} {nb ns : Nat}
theorem lS_b (g0 : iA σ0 nb ns) {b s n L : Nat} (hb : b < nb) (hs : s < ns) (hn : n ≤ 40) : lS σ0 b s n L = -1 ∨ (0 ≤ lS σ0 b s n L ∧ lS σ0 b s n L ≤ 3960) :=
  bIn_i (Or.inl rfl) (fun k c => by have := tV_b (n := n) g0 hb hs c; omega) L
theorem p_least_l {b s n L : Nat} (g0 : iA σ0 nb ns) (hb : b < nb) (hs : s < ns) (hn : n ≤ 40) (hL : (mB σ0 b).2.1 = (L : Int)) :
    ∀ (mm k : Nat) (σ : zS) (x : Int32) (w : Value), L - k = mm → k ≤ L → w.category = 1 → zFr pWz σ0 σ → x.toInt = lS σ0 b s n k →
    ∀ (σz : zS), zFr pWv σz σ → (∀ (σ' : zS) (v : Int32), zFr pWz σ0 σ' → zFr pWv σz σ' → v.toInt = lS σ0 b s n L → Q (some (.int v)) σ') →
    zW (d + 6) kX11_leastSum 6 [.ref 1, .ref (97 + 4 * b), .ref (121 + s), .int (nI n), .int x, .int (nI k), w] [] σ Q := by
  have h6 := g0.nb6
  have h10 := g0.ns10
  have hL6 : L ≤ 6 := by have := (g0.bok hb).2.1; omega
  have zb0 := zk_bk (show b < 6 by omega)
  have zs0 := zk_sk (show s < 10 by omega)
  intro mm
  induction mm with
  | zero =>
    intro k σ x w hmm hk cw f hx σz fz h
    have e : k = L := by omega
    subst e
    obtain ⟨g, fs⟩ := pZ g0 f
    have eL := (g.bp hb).2.1
    rw [iS_mB fs (show b < 6 by omega), hL] at eL
    exact (bX11_leastSum_6 g.1 zb0 zs0 cw).mpr (zle' eL (ai_n (by omega)) (fun _ => h σ x f fz hx) (fun q => by omega))
  | succ mm ih =>
    intro k σ x w hmm hk cw f hx σz fz h
    obtain ⟨g, fs⟩ := pZ g0 f
    have eL := (g.bp hb).2.1
    rw [iS_mB fs (show b < 6 by omega), hL] at eL
    refine (bX11_leastSum_6 g.1 zb0 zs0 cw).mpr (zle' eL (ai_n (by omega)) (fun q => by omega) (fun _ => p_timeC (d := d) g0 f hb hs hn (by omega) (fun v σ1 q1 q2 f1 fn => ⟨rfl, ?_⟩)))
    obtain ⟨g1, fs1⟩ := pZ g0 f1
    have nx : ∀ (y w : Int32), y.toInt = lS σ0 b s n (k + 1) → zW (d + 6) kX11_leastSum 6 [.ref 1, .ref (97 + 4 * b), .ref (121 + s), .int (nI n), .int y, .int (nI k + 1), .int w] [] σ1 Q := fun y w q => by
      rw [nI_1]
      exact ih (k + 1) σ1 y _ (by omega) (by omega) (zcat_i _) f1 q σz (fz.trans fn) h
    have eS : lS σ0 b s n (k + 1) = (bSt (bIn (tOk σ0 b s) (tV σ0 b s n) 0 (-1, -1, -1) k) (tOk σ0 b s k) 0 k (tV σ0 b s n k)).2.2 := rfl
    have hx2 : x.toInt = (bIn (tOk σ0 b s) (tV σ0 b s n) 0 (-1, -1, -1) k).2.2 := hx
    refine (bX11_leastSum_24 g1.1 zb0 zs0 cw).mpr ?_
    by_cases c : tOk σ0 b s k
    · have bd := tV_b (n := n) g0 hb hs c
      have e1 := q1 c
      refine zn (i_ne e1 (by omega)) (zeq' hx2 km1 (fun q => nx v v ?_) (fun q => zle' hx2 e1 (fun q2 => nx x v ?_) (fun q2 => nx v v ?_)))
      · rw [eS, bSt_y c (Or.inl q)]; exact e1
      · rw [eS, bSt_n (fun _ => by omega)]; exact hx2
      · rw [eS, bSt_y c (Or.inr q2)]; exact e1
    · refine zy (q2 c) (nx x v ?_)
      rw [eS, bSt_n (fun z => absurd z c)]; exact hx2
theorem m_least_k {b s y n : Nat} {x4 : Int32} (g0 : iA σ0 nb ns) (hb : b < nb) (hs : s < ns) (hy : y < 1000) (hn : n ≤ 40) (c : tOk σ0 b s y) :
    ∀ (mm k : Nat) (σ : zS) (w : Int32), n - k = mm → k ≤ n → zFr mWq σ0 σ → w.toInt = aSum (tA σ0 b s y) k →
    ∀ (σz : zS), zFr nWq σz σ → (∀ (σ' : zS) (w : Int32), zFr mWq σ0 σ' → zFr nWq σz σ' → w.toInt = tV σ0 b s n y → zW (d + 11) kX12_leastSum 37 [.ref 131, .int (nI b), .int (nI s), .int (nI n), .int x4, .int (nI y), .int w, .int (nI n)] [] σ' Q) →
    zW (d + 11) kX12_leastSum 37 [.ref 131, .int (nI b), .int (nI s), .int (nI n), .int x4, .int (nI y), .int w, .int (nI k)] [] σ Q := by
  intro mm
  induction mm with
  | zero =>
    intro k σ w hmm hk f hw σz fz h
    have e : k = n := by omega
    subst e
    exact h σ w f fz hw
  | succ mm ih =>
    intro k σ w hmm hk f hw σz fz h
    obtain ⟨g, fs⟩ := mZ g0 f
    have bk : 0 ≤ aSum (tA σ0 b s y) k ∧ aSum (tA σ0 b s y) k ≤ 99 * k := aSum_9 (fun k => tA_b (k := k) g0 hb hs c) (by omega) k
    have b1 := tA_b (k := k) g0 hb hs c
    refine (bX12_leastSum_37 g.1).mpr (zle' (ai_n (by omega)) (ai_n (by omega)) (fun q => by omega) (fun _ => m_aByC (d := d) g0 f hb hs hy c (fun v σ1 hv f1 fn => ⟨rfl, (bX12_leastSum_56 (mZ g0 f1).1.1).mpr ?_⟩)))
    have hv2 : v.toInt = tA σ0 b s y k := hv
    rw [nI_1]
    exact ih (k + 1) σ1 _ (by omega) (by omega) f1 (zadd hw hv2 (by omega) (by omega)) σz (fz.trans fn) h
theorem m_least_l {b s n L : Nat} (g0 : iA σ0 nb ns) (hb : b < nb) (hs : s < ns) (hn : n ≤ 40) (hL : (mB σ0 b).2.1 = (L : Int)) :
    ∀ (mm k : Nat) (σ : zS) (x : Int32) (w w' : Value), L - k = mm → k ≤ L → w.category = 1 → w'.category = 1 → zFr mWq σ0 σ → x.toInt = lS σ0 b s n k →
    ∀ (σz : zS), zFr nWq σz σ → (∀ (σ' : zS) (v : Int32), zFr mWq σ0 σ' → zFr nWq σz σ' → v.toInt = lS σ0 b s n L → Q (some (.int v)) σ') →
    zW (d + 11) kX12_leastSum 6 [.ref 131, .int (nI b), .int (nI s), .int (nI n), .int x, .int (nI k), w, w'] [] σ Q := by
  have h6 := g0.nb6
  have h10 := g0.ns10
  have hL6 : L ≤ 6 := by have := (g0.bok hb).2.1; omega
  have cl : (nI b).toNatClampNeg = b := nI_clamp (by omega)
  intro mm
  induction mm with
  | zero =>
    intro k σ x w w' hmm hk cw cw' f hx σz fz h
    have e : k = L := by omega
    subst e
    obtain ⟨g, fs⟩ := mZ g0 f
    have eL : (zI σ 134 b).toInt = (k : Int) := by
      have e := iS_mB fs (show b < 6 by omega)
      rw [← hL, ← e]; rfl
    refine (bX12_leastSum_6 g.1 cw cw').mpr ⟨vp_in_nI (by omega) (by decide), ?_⟩
    rw [cl]
    exact zle' eL (ai_n (by omega)) (fun _ => h σ x f fz hx) (fun q => by omega)
  | succ mm ih =>
    intro k σ x w w' hmm hk cw cw' f hx σz fz h
    obtain ⟨g, fs⟩ := mZ g0 f
    have eL : (zI σ 134 b).toInt = (L : Int) := by
      have e := iS_mB fs (show b < 6 by omega)
      rw [← hL, ← e]; rfl
    have eS : lS σ0 b s n (k + 1) = (bSt (bIn (tOk σ0 b s) (tV σ0 b s n) 0 (-1, -1, -1) k) (tOk σ0 b s k) 0 k (tV σ0 b s n k)).2.2 := rfl
    have hx2 : x.toInt = (bIn (tOk σ0 b s) (tV σ0 b s n) 0 (-1, -1, -1) k).2.2 := hx
    refine (bX12_leastSum_6 g.1 cw cw').mpr ⟨vp_in_nI (by omega) (by decide), ?_⟩
    rw [cl]
    refine zle' eL (ai_n (by omega)) (fun q => by omega) (fun _ => m_cbC g0 f hb hs (by omega) ⟨rfl, (bX12_leastSum_25 g.1 cw cw').mpr (zt0 (fun c => ?_) (fun c => ?_))⟩)
    · refine m_least_k (d := d) g0 hb hs (by omega) hn c n 0 σ 0 (by omega) (by omega) f rfl σz fz (fun σ1 v f1 fz1 hv => ?_)
      obtain ⟨g1, fs1⟩ := mZ g0 f1
      refine (bX12_leastSum_37 g1.1).mpr (zle' (ai_n (by omega)) (ai_n (by omega)) (fun _ => zeq' hx2 km1 (fun q => ?_) (fun q => ?_)) (fun q => by omega))
      · rw [nI_1]
        refine ih (k + 1) σ1 v _ _ (by omega) (by omega) (zcat_i _) (zcat_i _) f1 ?_ σz fz1 h
        rw [eS, bSt_y c (Or.inl q)]; exact hv
      · rw [nI_1]
        refine ih (k + 1) σ1 _ _ _ (by omega) (by omega) (zcat_i _) (zcat_i _) f1 ?_ σz fz1 h
        rw [eS]
        by_cases q2 : tV σ0 b s n k < (bIn (tOk σ0 b s) (tV σ0 b s n) 0 (-1, -1, -1) k).2.2
        · rw [if_pos (show v < x from Int32.lt_iff_toInt_lt.mpr (by rw [hv, hx2]; exact q2)), bSt_y c (Or.inr q2)]; exact hv
        · rw [if_neg (show ¬ v < x from fun z => q2 (by have := Int32.lt_iff_toInt_lt.mp z; rw [hv, hx2] at this; exact this)), bSt_n (fun _ => by omega)]; exact hx2
    · rw [nI_1]
      refine ih (k + 1) σ x w w' (by omega) (by omega) cw cw' f ?_ σz fz h
      rw [eS, bSt_n (fun z => absurd z c)]; exact hx2
theorem m_least {b s n L : Nat} {σ : zS} (g0 : iA σ0 nb ns) (hb : b < nb) (hs : s < ns) (hn : n ≤ 40) (hL : (mB σ0 b).2.1 = (L : Int)) (f : zFr mWq σ0 σ) (h : ∀ (σ' : zS) (v : Int32), zFr mWq σ0 σ' → zFr nWq σ σ' → v.toInt = lS σ0 b s n L → Q (some (.int v)) σ') : zCall (d + 11) kX12_leastSum [.ref 131, .int (nI b), .int (nI s), .int (nI n)] σ Q :=
  (bX12_leastSum_0 (mZ g0 f).1.1).mpr (m_least_l (d := d) g0 hb hs hn hL L 0 σ _ _ _ (by omega) (by omega) (zcat_r _) (zcat_r _) f km1 σ (zFr.refl _ _) h)
theorem p_least {b s n L : Nat} {σ : zS} (g0 : iA σ0 nb ns) (hb : b < nb) (hs : s < ns) (hn : n ≤ 40) (hL : (mB σ0 b).2.1 = (L : Int)) (f : zFr pWz σ0 σ) (h : ∀ (σ' : zS) (v : Int32), zFr pWz σ0 σ' → zFr pWv σ σ' → v.toInt = lS σ0 b s n L → Q (some (.int v)) σ') : zCall (d + 6) kX11_leastSum [.ref 1, .ref (97 + 4 * b), .ref (121 + s), .int (nI n)] σ Q :=
  (bX11_leastSum_0 (pZ g0 f).1.1 (zk_bk (by have := g0.nb6; omega)) (zk_sk (by have := g0.ns10; omega))).mpr (p_least_l (d := d) g0 hb hs hn hL L 0 σ _ _ (by omega) (by omega) (zcat_r _) f km1 σ (zFr.refl _ _) h)
end LEAST
