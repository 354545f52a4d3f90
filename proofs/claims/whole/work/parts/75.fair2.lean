/-! the verb fair: its loops -/
theorem gp_0 {R : List Int} {row : Int32} {t : Nat} : 0 ≤ gp R row t := by
  unfold gp
  split <;> omega
noncomputable def fS (R : List Int) (t : Nat) : Nat → Int × Int × Int := bIn (fun j => pc (nI j) = nI t / 2) (fun j => gp R (nI j) t) 0 (-1, -1, -1)
theorem fS_s {R : List Int} {t k : Nat} : fS R t (k + 1) = bSt (fS R t k) (pc (nI k) = nI t / 2) 0 k (gp R (nI k) t) := rfl
theorem fS_i {R : List Int} {t : Nat} : ∀ k, ((fS R t k).2.2 = -1 ∧ (fS R t k).2.1 = -1 ∧ ∀ j, j < k → ¬ pc (nI j) = nI t / 2) ∨ ∃ j : Nat, j < k ∧ (fS R t k).2.1 = (j : Int) ∧ (fS R t k).2.2 = gp R (nI j) t
  | 0 => Or.inl ⟨rfl, rfl, fun j hj => by omega⟩
  | k + 1 => by
    have g0 := gp_0 (R := R) (row := nI k) (t := t)
    rw [fS_s]
    by_cases c : pc (nI k) = nI t / 2 ∧ ((fS R t k).2.2 = -1 ∨ gp R (nI k) t < (fS R t k).2.2)
    · rw [bSt_y c.1 c.2]
      exact Or.inr ⟨k, by omega, rfl, rfl⟩
    · rw [bSt_n (fun a b => c ⟨a, b⟩)]
      rcases fS_i (R := R) (t := t) k with ⟨a, b, e⟩ | ⟨j, a, b, e⟩
      · refine Or.inl ⟨a, b, fun j hj => ?_⟩
        by_cases q : j = k
        · subst q
          exact fun z => c ⟨z, Or.inl a⟩
        · exact e j (by omega)
      · exact Or.inr ⟨j, by omega, b, e⟩
theorem fS_e {R : List Int} {t : Nat} (h2 : 2 ≤ t) (h6 : t ≤ 6) : ∃ j : Nat, j < 64 ∧ (fS R t (2 ^ t)).2.1 = (j : Int) ∧ (fS R t (2 ^ t)).2.2 = gp R (nI j) t := by
  have hp : 2 ^ t ≤ 64 := by
    rcases (by omega : t = 2 ∨ t = 3 ∨ t = 4 ∨ t = 5 ∨ t = 6) with e | e | e | e | e <;> subst e <;> decide
  have hx : ∃ j, j < 2 ^ t ∧ pc (nI j) = nI t / 2 := by
    rcases (by omega : t = 2 ∨ t = 3 ∨ t = 4 ∨ t = 5 ∨ t = 6) with e | e | e | e | e <;> subst e
    · exact ⟨1, by decide, by decide +kernel⟩
    · exact ⟨1, by decide, by decide +kernel⟩
    · exact ⟨3, by decide, by decide +kernel⟩
    · exact ⟨3, by decide, by decide +kernel⟩
    · exact ⟨7, by decide, by decide +kernel⟩
  obtain ⟨j0, a0, b0⟩ := hx
  rcases fS_i (R := R) (t := t) (2 ^ t) with ⟨_, _, e⟩ | ⟨j, a, b, e⟩
  · exact absurd b0 (e j0 a0)
  · exact ⟨j, by omega, b, e⟩
theorem p_pow {t : Nat} (h2 : 2 ≤ t) (h6 : t ≤ 6) : (1 : Int32) <<< (nI t &&& 31) = nI (2 ^ t) ∧ 2 ^ t ≤ 64 := by
  rcases (by omega : t = 2 ∨ t = 3 ∨ t = 4 ∨ t = 5 ∨ t = 6) with e | e | e | e | e <;> subst e <;> exact ⟨by decide +kernel, by decide⟩
section FAIR2
variable {d : Nat} {Q : Option Value → zS → Prop} {σ0 : zS} {nb ns : Nat}
theorem p_fair_r {R : List Int} {t a5 : Nat} {x1 x2 z : Int32} {σ : zS} (ha : zk a5 = 0) (hl : zLay σ) (hr : rowR (zI σ 84) R) (e83 : zI σ 83 1 = nI R.length) (hR : ∀ x ∈ R, 0 ≤ x ∧ x ≤ 99) (hR6 : R.length ≤ 6) (ht : t ≤ R.length) (h2 : 2 ≤ t) (h : ∀ v : Int32, v.toInt = (if z.toInt = 0 then (fS R t (2 ^ t)).2.1 else (fS R t (2 ^ t)).2.2) → Q (some (.int v)) σ) :
    ∀ (mm k : Nat) (x y : Int32) (w : Value), 2 ^ t - k = mm → k ≤ 2 ^ t → w.category = 1 → x.toInt = (fS R t k).2.1 → y.toInt = (fS R t k).2.2 → zW (d + 2) kX11_fair 128 [.ref 1, .int x1, .int x2, .int (nI t), .int z, .ref a5, .int x, .int y, .int (nI k), w] [] σ Q := by
  obtain ⟨pp, p64⟩ := p_pow h2 (show t ≤ 6 by omega)
  intro mm
  induction mm with
  | zero =>
    intro k x y w hm hk cw hx hy
    have e : k = 2 ^ t := by omega
    subst e
    refine (bX11_fair_128 hl ha cw).mpr ?_
    rw [pp]
    refine zle' (ai_n (by omega)) (ai_n (by omega)) (fun _ => zeq' rfl k0 (fun q => h x ?_) (fun q => h y ?_)) (fun q => by omega)
    · rw [if_pos q]; exact hx
    · rw [if_neg q]; exact hy
  | succ mm ih =>
    intro k x y w hm hk cw hx hy
    have nx : ∀ (x' y' : Int32) (w' : Value), w'.category = 1 → x'.toInt = (fS R t (k + 1)).2.1 → y'.toInt = (fS R t (k + 1)).2.2 → zW (d + 2) kX11_fair 128 [.ref 1, .int x1, .int x2, .int (nI t), .int z, .ref a5, .int x', .int y', .int (nI k + 1), w'] [] σ Q := fun x' y' w' c' q1 q2 => by
      rw [nI_1]
      exact ih (k + 1) x' y' w' (by omega) (by omega) c' q1 q2
    have n0 := gp_0 (R := R) (row := nI k) (t := t)
    refine (bX11_fair_128 hl ha cw).mpr ?_
    rw [pp]
    refine zle' (ai_n (by omega)) (ai_n (by omega)) (fun q => by omega) (fun _ => c_bc hl ⟨rfl, (bX11_fair_141 hl ha cw).mpr ⟨by decide, ?_⟩⟩)
    by_cases c : pc (nI k) = nI t / 2
    · refine zy c (p_gap (d := d) hl hr e83 hR hR6 ht (fun v hv => ⟨rfl, (bX11_fair_154 hl ha cw).mpr ((bX11_fair_158 hl ha cw).mpr (zn (i_ne hv (by omega)) (zeq' hy km1 (fun q => nx _ _ _ (zcat_i _) ?_ ?_) (fun q => zle' hy hv (fun q2 => nx _ _ _ (zcat_i _) ?_ ?_) (fun q2 => nx _ _ _ (zcat_i _) ?_ ?_)))))⟩))
      · rw [fS_s, bSt_y c (Or.inl q)]; exact ai_n (by omega)
      · rw [fS_s, bSt_y c (Or.inl q)]; exact hv
      · rw [fS_s, bSt_n (fun _ => by omega)]; exact hx
      · rw [fS_s, bSt_n (fun _ => by omega)]; exact hy
      · rw [fS_s, bSt_y c (Or.inr q2)]; exact ai_n (by omega)
      · rw [fS_s, bSt_y c (Or.inr q2)]; exact hv
    · refine zn c ((bX11_fair_158 hl ha cw).mpr (zy rfl (nx _ _ _ (zcat_i _) ?_ ?_)))
      · rw [fS_s, bSt_n (fun q => absurd q c)]; exact hx
      · rw [fS_s, bSt_n (fun q => absurd q c)]; exact hy
theorem m_fair_r {R : List Int} {t : Nat} {x1 x2 z : Int32} {σ : zS} (hl : zLay σ) (hr : rowR (zI σ 159) R) (hR : ∀ x ∈ R, 0 ≤ x ∧ x ≤ 99) (hR6 : R.length ≤ 6) (ht : t ≤ R.length) (h2 : 2 ≤ t) (h : ∀ v : Int32, v.toInt = (if z.toInt = 0 then (fS R t (2 ^ t)).2.1 else (fS R t (2 ^ t)).2.2) → Q (some (.int v)) σ) :
    ∀ (mm k : Nat) (x : Int32), 2 ^ t - k = mm → k ≤ 2 ^ t → x.toInt = (fS R t k).2.1 → zW (d + 2) kX12_fair 59 [.ref 131, .int x1, .int x2, .int (nI t), .int z, .int x, .int (nI k)] [] σ Q := by
  obtain ⟨pp, p64⟩ := p_pow h2 (show t ≤ 6 by omega)
  intro mm
  induction mm with
  | zero =>
    intro k x hm hk hx
    have e : k = 2 ^ t := by omega
    subst e
    obtain ⟨j, j64, ej, eg⟩ := fS_e (R := R) h2 (show t ≤ 6 by omega)
    refine (bX12_fair_59 hl).mpr ?_
    rw [pp]
    refine zle' (ai_n (by omega)) (ai_n (by omega)) (fun _ => zeq' rfl k0 (fun q => (bX12_fair_128 hl).mpr (h x ?_)) (fun q => ?_)) (fun q => by omega)
    · rw [if_pos q]; exact hx
    · have ex : x = nI j := zint (by rw [hx, ej, ai_n (by omega)])
      rw [ex]
      refine m_diff (d := d) hl hr hR hR6 ht (fun v hv => ⟨rfl, (bX12_fair_128 hl).mpr (h v ?_)⟩)
      rw [if_neg q, eg]; exact hv
  | succ mm ih =>
    intro k x hm hk hx
    have nx : ∀ (x' : Int32), x'.toInt = (fS R t (k + 1)).2.1 → zW (d + 2) kX12_fair 59 [.ref 131, .int x1, .int x2, .int (nI t), .int z, .int x', .int (nI k + 1)] [] σ Q := fun x' q1 => by
      rw [nI_1]
      exact ih (k + 1) x' (by omega) (by omega) q1
    refine (bX12_fair_59 hl).mpr ?_
    rw [pp]
    refine zle' (ai_n (by omega)) (ai_n (by omega)) (fun q => by omega) (fun _ => c_bc hl ⟨rfl, (bX12_fair_72 hl).mpr ⟨by decide, ?_⟩⟩)
    by_cases c : pc (nI k) = nI t / 2
    · refine zy c (zeq' hx km1 (fun q => nx _ ?_) (fun q => ?_))
      · rcases fS_i (R := R) (t := t) k with ⟨a, b, e⟩ | ⟨j, a, b, e⟩
        · rw [fS_s, bSt_y c (Or.inl a)]; exact ai_n (by omega)
        · omega
      · rcases fS_i (R := R) (t := t) k with ⟨a, b, e⟩ | ⟨j, a, b, e⟩
        · exact absurd b q
        · have ex : x = nI j := zint (by rw [hx, b, ai_n (by omega)])
          refine m_diff (d := d) hl hr hR hR6 ht (fun v hv => ⟨rfl, (bX12_fair_91 hl).mpr ?_⟩)
          rw [ex]
          have g0 := gp_0 (R := R) (row := nI j) (t := t)
          refine m_diff (d := d) hl hr hR hR6 ht (fun v2 hv2 => ⟨rfl, (bX12_fair_98 hl).mpr (zle' hv2 hv (fun q2 => nx _ ?_) (fun q2 => nx _ ?_))⟩)
          · rw [fS_s, bSt_n (fun _ => by rw [e]; omega), b]
            exact ai_n (by omega)
          · rw [fS_s, bSt_y c (Or.inr (by rw [e]; exact q2))]
            exact ai_n (by omega)
    · refine zn c (nx _ ?_)
      rw [fS_s, bSt_n (fun q => absurd q c)]; exact hx
theorem p_fair_y {b s L : Nat} {t z : Int32} (g0 : iA σ0 nb ns) (hb : b < nb) (hs : s < ns) (hL : (mB σ0 b).2.1 = (L : Int)) :
    ∀ (mm y : Nat) (σ : zS) (w : Value), L - y = mm → y ≤ L → w.category = 1 → zFr pWz σ0 σ → rowR (zI σ 84) (fr σ0 b s y) → zI σ 83 1 = nI (fr σ0 b s y).length → (0 ≤ (zI σ 83 2).toInt ∧ (zI σ 83 2).toInt ≤ 99 * y) →
    (∀ (σ' : zS), zFr pWz σ0 σ' → rowR (zI σ' 84) (fr σ0 b s L) → zI σ' 83 1 = nI (fr σ0 b s L).length → if t ≤ nI (fr σ0 b s L).length then zW (d + 6) kX11_fair 128 [.ref 1, .int (nI b), .int (nI s), .int t, .int z, .ref (97 + 4 * b), .int (-1), .int (-1), .int 0, .retAddr 0] [] σ' Q else Q (some (.int (-1))) σ') →
    zW (d + 6) kX11_fair 58 [.ref 1, .int (nI b), .int (nI s), .int t, .int z, .ref (97 + 4 * b), .int (nI y), w, .retAddr 0, .retAddr 0] [] σ Q := by
  have h6 := g0.nb6
  have h10 := g0.ns10
  have hL6 : L ≤ 6 := by have := (g0.bok hb).2.1; omega
  have zb0 := zk_bk (show b < 6 by omega)
  intro mm
  induction mm with
  | zero =>
    intro y σ w hm hk cw f h1 h2 h3 h
    have e : y = L := by omega
    subst e
    obtain ⟨g, fs⟩ := pZ g0 f
    have eL := (g.bp hb).2.1
    rw [iS_mB fs (show b < 6 by omega), hL] at eL
    refine (bX11_fair_58 g.1 zb0 cw).mpr (zle' eL (ai_n (by omega)) (fun _ => ?_) (fun q => by omega))
    rw [h2]
    exact h σ f h1 h2
  | succ mm ih =>
    intro y σ w hm hk cw f h1 h2 h3 h
    obtain ⟨g, fs⟩ := pZ g0 f
    have eL := (g.bp hb).2.1
    rw [iS_mB fs (show b < 6 by omega), hL] at eL
    obtain ⟨i1, i2⟩ := fr_i g0 hb hs y
    refine (bX11_fair_58 g.1 zb0 cw).mpr (zle' eL (ai_n (by omega)) (fun q => by omega) (fun _ => ⟨vp_in_nI (by omega) (by decide), ?_⟩))
    rw [zR_sk g.1 (by omega)]
    refine (bX11_fair_77 g.1 zb0 cw (zk_sk (by omega)) zb0).mpr (p_tAlC (d := d) g0 f hb hs (by omega) (fun v σ1 hv f1 fn => ⟨rfl, ?_⟩))
    obtain ⟨g1, fs1⟩ := pZ g0 f1
    have e83 : zI σ1 83 = zI σ 83 := funext (fun k => fn.i (by unfold pWq; rw [zk_83]; omega))
    have e84 : zI σ1 84 = zI σ 84 := funext (fun k => fn.i (by unfold pWq; rw [zk_84]; omega))
    refine (bX11_fair_83 g1.1 zb0 cw).mpr ?_
    by_cases c : tOk σ0 b s y
    · rw [zif_t c] at hv
      have bd : 0 ≤ aAl (mB σ0 b) (mW σ0) (mG σ0 s y) 0 ∧ aAl (mB σ0 b) (mW σ0) (mG σ0 s y) 0 ≤ 99 := aAl_b (g0.bok hb) g0.wok (tGst g0 hs c)
      refine zn (i_ne hv (by omega)) (p_rowAdd (R := fr σ0 b s y) zk_83 g1.1 (by rw [e83]; exact h2) (by omega) (by show rowR (zI σ1 84) _; rw [e84]; exact h1) (by rw [e83, hv]; omega) (by rw [e83, hv]; omega) (fun σ2 r1 r2 r3 f2 => ⟨rfl, ?_⟩))
      have f2z : zFr pWz σ1 σ2 := f2.mono (fun j c k q => by unfold pWz; omega)
      have f02 := f1.trans f2z
      rw [hv] at r1
      refine (bX11_fair_100 (pZ g0 f02).1.1 zb0).mpr ?_
      rw [nI_1]
      refine ih (y + 1) σ2 _ (by omega) (by omega) (zcat_i _) f02 (by rw [fr_y c]; exact r1) (by rw [fr_y c, rPut_l]; exact r2) ?_ h
      rw [r3, e83, hv]
      omega
    · rw [zif_f c] at hv
      refine zy (zint (by rw [hv, km1])) ((bX11_fair_100 g1.1 zb0).mpr ?_)
      rw [nI_1]
      exact ih (y + 1) σ1 _ (by omega) (by omega) (zcat_i _) f1 (by rw [fr_n c, e84]; exact h1) (by rw [fr_n c, e83]; exact h2) (by rw [e83]; omega) h
theorem m_wput {x1 x2 x4 v : Int32} :
    ∀ (R : List Int) (N : Nat) (σ : zS), zLay σ → R.length < 6 → rowR (zI σ 159) R →
    (∀ (w : Int32) (σ' : zS), rowR (zI σ' 159) (rPut v.toInt R) → (∀ k, R.length < k → zI σ' 159 k = zI σ 159 k) → zFr (fun j c _ => j = 0 ∧ c = 159) σ σ' → zW (d + 1) kX12_layWorths 5 [.ref 131, .int x1, .int x2, .int (nI N + 1), .int (x4 + 1), .int v, .int w] [] σ' Q) → zW (d + 1) kX12_layWorths 44 [.ref 131, .int x1, .int x2, .int (nI N), .int x4, .int v, .int (nI R.length)] [] σ Q := by
  have stop : ∀ (R : List Int) (N : Nat) (σ : zS), zLay σ → R.length < 6 → rowR (zI σ 159) R → rPut v.toInt R = v.toInt :: R →
      (∀ (w : Int32) (σ' : zS), rowR (zI σ' 159) (rPut v.toInt R) → (∀ k, R.length < k → zI σ' 159 k = zI σ 159 k) → zFr (fun j c _ => j = 0 ∧ c = 159) σ σ' → zW (d + 1) kX12_layWorths 5 [.ref 131, .int x1, .int x2, .int (nI N + 1), .int (x4 + 1), .int v, .int w] [] σ' Q) → zW (d + 1) kX12_layWorths 85 [.ref 131, .int x1, .int x2, .int (nI N), .int x4, .int v, .int (nI R.length)] [] σ Q := by
    intro R N σ hl hR hr er h
    refine (bX12_layWorths_85 hl).mpr ⟨vp_in_nI hR (by decide), ?_⟩
    rw [nI_clamp (by omega)]
    refine h _ _ ?_ (fun k hk2 => ?_) (zFr_U ⟨rfl, rfl⟩)
    · rw [er, zI_self]
      refine ⟨by rw [pk_us], rowR_c hr (fun k q => pk_un (by omega))⟩
    · rw [zI_self, pk_un (by omega)]
  intro R
  induction R with
  | nil =>
    intro N σ hl hR hr h
    exact (bX12_layWorths_44 hl).mpr (zle' (ai_n (by decide)) k0 (fun _ => stop [] N σ hl hR hr rfl h) (fun q => by simp at q))
  | cons x R ih =>
    intro N σ hl hR hr h
    simp only [List.length_cons] at hR
    have ep : (nI (x :: R).length - 1 : Int32) = nI R.length := nI_pred _
    refine (bX12_layWorths_44 hl).mpr (zle' (ai_n (by simp only [List.length_cons]; omega)) k0 (fun q => by simp only [List.length_cons] at q; omega) (fun _ => ?_))
    rw [ep]
    refine ⟨vp_in_nI (by omega) (by decide), ?_⟩
    rw [nI_clamp (by omega)]
    refine zle' hr.1 rfl (fun q => stop (x :: R) N σ hl (by simp only [List.length_cons]; omega) hr (by unfold rPut; rw [if_neg (by omega)]) h) (fun q => ?_)
    refine ⟨vp_in_nI (by omega) (by decide), vp_in_nI (by simp only [List.length_cons]; omega) (by decide), ?_⟩
    have em : (nI (x :: R).length + (-1) : Int32) = nI R.length := pk_m1 _
    rw [em, nI_clamp (show (x :: R).length < 2 ^ 31 by simp only [List.length_cons]; omega)]
    have g1 : zI (zsI σ 159 (upd (zI σ 159) (x :: R).length (zI σ 159 R.length))) 159 = upd (zI σ 159) (x :: R).length (zI σ 159 R.length) := zI_self
    refine ih N _ hl.I (by omega) (by rw [g1]; exact rowR_c hr.2 (fun k q2 => pk_un (by simp only [List.length_cons]; omega))) (fun w σ' q1 q2 q5 => h w σ' ?_ (fun k hk2 => ?_) ((zFr_U ⟨rfl, rfl⟩).trans q5))
    · unfold rPut
      rw [if_pos q]
      refine ⟨?_, q1⟩
      rw [rPut_l, q2 _ (by omega), g1]
      show (upd _ (R.length + 1) _ (R.length + 1)).toInt = x
      rw [pk_us]
      exact hr.1
    · simp only [List.length_cons] at hk2
      rw [q2 k (by omega), g1, pk_un (by simp only [List.length_cons]; omega)]
theorem m_fair_y {b s L : Nat} (g0 : iA σ0 nb ns) (hb : b < nb) (hs : s < ns) (hL : (mB σ0 b).2.1 = (L : Int)) (h : ∀ (σ' : zS), zFr mWq σ0 σ' → rowR (zI σ' 159) (fr σ0 b s L) → Q (some (.int (nI (fr σ0 b s L).length))) σ') :
    ∀ (mm y : Nat) (σ : zS) (w w' : Value), L - y = mm → y ≤ L → w.category = 1 → w'.category = 1 → zFr mWq σ0 σ → rowR (zI σ 159) (fr σ0 b s y) →
    zW (d + 11) kX12_layWorths 5 [.ref 131, .int (nI b), .int (nI s), .int (nI (fr σ0 b s y).length), .int (nI y), w, w'] [] σ Q := by
  have h6 := g0.nb6
  have h10 := g0.ns10
  have hL6 : L ≤ 6 := by have := (g0.bok hb).2.1; omega
  have cl : (nI b).toNatClampNeg = b := nI_clamp (by omega)
  intro mm
  induction mm with
  | zero =>
    intro y σ w w' hm hk cw cw' f h1
    have e : y = L := by omega
    subst e
    obtain ⟨g, fs⟩ := mZ g0 f
    have eL : (zI σ 134 b).toInt = (y : Int) := by
      have e := iS_mB fs (show b < 6 by omega)
      rw [← hL, ← e]; rfl
    refine (bX12_layWorths_5 g.1 cw cw').mpr ⟨vp_in_nI (by omega) (by decide), ?_⟩
    rw [cl]
    exact zle' eL (ai_n (by omega)) (fun _ => h σ f h1) (fun q => by omega)
  | succ mm ih =>
    intro y σ w w' hm hk cw cw' f h1
    obtain ⟨g, fs⟩ := mZ g0 f
    have eL : (zI σ 134 b).toInt = (L : Int) := by
      have e := iS_mB fs (show b < 6 by omega)
      rw [← hL, ← e]; rfl
    obtain ⟨i1, i2⟩ := fr_i g0 hb hs y
    refine (bX12_layWorths_5 g.1 cw cw').mpr ⟨vp_in_nI (by omega) (by decide), ?_⟩
    rw [cl]
    refine zle' eL (ai_n (by omega)) (fun q => by omega) (fun _ => m_cbC g0 f hb hs (by omega) ⟨rfl, (bX12_layWorths_24 g.1 cw cw').mpr (zt0 (fun c => ?_) (fun c => ?_))⟩)
    · refine m_aByC (d := d) g0 f hb hs (by omega) c (fun v σ1 hv f1 fn => ⟨rfl, ?_⟩)
      have e159 : zI σ1 159 = zI σ 159 := funext (fun k => fn.i (by unfold nWq; omega))
      have l1 := (mZ g0 f1).1.1
      refine (bX12_layWorths_39 l1 cw cw').mpr (m_wput (d := d + 10) (fr σ0 b s y) (fr σ0 b s y).length σ1 l1 (by omega) (by rw [e159]; exact h1) (fun w σ2 q1 _ f2 => ?_))
      rw [hv] at q1
      have f2q : zFr mWq σ1 σ2 := f2.mono (fun j c k q => by unfold mWq; omega)
      have eL2 : (fr σ0 b s y).length + 1 = (fr σ0 b s (y + 1)).length := by rw [fr_y c, rPut_l]
      rw [nI_1, nI_1, eL2]
      exact ih (y + 1) σ2 _ _ (by omega) (by omega) (zcat_i _) (zcat_i _) (f1.trans f2q) (by rw [fr_y c]; exact q1)
    · rw [nI_1, ← fr_n c]
      exact ih (y + 1) σ w w' (by omega) (by omega) cw cw' f (by rw [fr_n c]; exact h1)
end FAIR2
