/-! the ladder's rungs -/
theorem rPut_m {v x : Int} : ∀ {R : List Int}, x ∈ rPut v R → x = v ∨ x ∈ R
  | [], h => by
    unfold rPut at h
    simp at h
    exact Or.inl h
  | y :: R, h => by
    unfold rPut at h
    split at h
    · rcases List.mem_cons.mp h with e | e
      · exact Or.inr (by rw [e]; exact List.mem_cons_self)
      · rcases rPut_m e with e2 | e2
        · exact Or.inl e2
        · exact Or.inr (List.mem_cons_of_mem _ e2)
    · rcases List.mem_cons.mp h with e | e
      · exact Or.inl e
      · exact Or.inr e
noncomputable def lad (σ : zS) (b : Nat) (m : Int32) (n L : Nat) : Nat → List Int
  | 0 => []
  | s + 1 => @ite _ (bt m s = true ∧ lS σ b s n L ≠ -1) (Classical.propDecidable _) (rPut (16 * lS σ b s n L + s) (lad σ b m n L s)) (lad σ b m n L s)
theorem lad_y {σ : zS} {b : Nat} {m : Int32} {n L s : Nat} (h : bt m s = true) (h2 : lS σ b s n L ≠ -1) : lad σ b m n L (s + 1) = rPut (16 * lS σ b s n L + s) (lad σ b m n L s) := if_pos ⟨h, h2⟩
theorem lad_n {σ : zS} {b : Nat} {m : Int32} {n L s : Nat} (h : bt m s = true → lS σ b s n L = -1) : lad σ b m n L (s + 1) = lad σ b m n L s := if_neg (fun z => z.2 (h z.1))
theorem lad_c {σ0 σ : zS} (f : zFr iSafe σ0 σ) {b : Nat} {m : Int32} {n L : Nat} (hb : b < 6) : ∀ s, s ≤ 10 → lad σ b m n L s = lad σ0 b m n L s
  | 0, _ => rfl
  | s + 1, hs => by
    have e := lS_c f (n := n) (L := L) hb (show s < 10 by omega)
    have i := lad_c f (m := m) (n := n) (L := L) hb s (by omega)
    by_cases q : bt m s = true ∧ lS σ0 b s n L ≠ -1
    · rw [lad_y q.1 (by rw [e]; exact q.2), lad_y q.1 q.2, e, i]
    · have h0 : bt m s = true → lS σ0 b s n L = -1 := fun z => Classical.not_not.mp (fun y => q ⟨z, y⟩)
      rw [lad_n (fun z => by rw [e]; exact h0 z), lad_n h0, i]
theorem lad_i {σ0 : zS} {nb ns b : Nat} {m : Int32} {n L : Nat} (g0 : iA σ0 nb ns) (hb : b < nb) (hn : n ≤ 40) : ∀ s, s ≤ ns → (lad σ0 b m n L s).length ≤ s ∧ ∀ x ∈ lad σ0 b m n L s, 0 ≤ x ∧ x % 16 < s ∧ x < 100000
  | 0, _ => ⟨Nat.le_refl _, fun x hx => absurd hx (by show ¬ x ∈ ([] : List Int); simp)⟩
  | s + 1, hs => by
    have h10 := g0.ns10
    obtain ⟨i1, i2⟩ := lad_i g0 (m := m) (n := n) (L := L) hb hn s (by omega)
    by_cases q : bt m s = true ∧ lS σ0 b s n L ≠ -1
    · rw [lad_y q.1 q.2, rPut_l]
      refine ⟨by omega, fun x hx => ?_⟩
      have bd := (lS_b (L := L) g0 hb (show s < ns by omega) hn).resolve_left q.2
      rcases rPut_m hx with e | e
      · subst e; omega
      · have := i2 x e; omega
    · rw [lad_n (fun z => Classical.not_not.mp (fun y => q ⟨z, y⟩))]
      exact ⟨by omega, fun x hx => by have := i2 x hx; omega⟩
def rowG (g : Int → Int) (f : Nat → Int32) : List Int → Prop
  | [] => True
  | x :: R => (f R.length).toInt = g x ∧ rowG g f R
theorem rowG_c {g : Int → Int} {f f' : Nat → Int32} : ∀ {R : List Int}, rowG g f R → (∀ k, k < R.length → f' k = f k) → rowG g f' R
  | [], _, _ => trivial
  | x :: R, h, e => ⟨by rw [e R.length (by simp)]; exact h.1, rowG_c h.2 (fun k q => e k (by simp only [List.length_cons]; omega))⟩
theorem rowG_at {g : Int → Int} {f : Nat → Int32} : ∀ {R : List Int} (k : Nat), rowG g f R → k < R.length → (f k).toInt = g (R.getD (R.length - 1 - k) 0)
  | [], k, _, q => absurd q (by simp)
  | x :: R, k, h, q => by
    simp only [List.length_cons] at q ⊢
    by_cases e : k = R.length
    · subst e
      rw [show R.length + 1 - 1 - R.length = 0 by omega]
      exact h.1
    · have i := rowG_at k h.2 (by omega)
      rw [i, show R.length + 1 - 1 - k = (R.length - 1 - k) + 1 by omega]
      rfl
section LADDER
variable {d : Nat} {Q : Option Value → zS → Prop} {σ0 : zS} {nb ns : Nat}
theorem m_lput {x1 x2 x3 x4 x5 x6 v : Int32} {sv : Int} (h6 : x6.toInt = sv) (hs : 0 ≤ sv ∧ sv < 16) :
    ∀ (R : List Int) (σ : zS), zLay σ → R.length < 10 → rowG (· / 16) (zI σ 162) R → rowG (· % 16) (zI σ 161) R → (∀ x ∈ R, 16 * v.toInt + sv < x ↔ v.toInt < x / 16) →
    (∀ (w : Int32) (σ' : zS), rowG (· / 16) (zI σ' 162) (rPut (16 * v.toInt + sv) R) → rowG (· % 16) (zI σ' 161) (rPut (16 * v.toInt + sv) R) → (∀ k, R.length < k → zI σ' 162 k = zI σ 162 k ∧ zI σ' 161 k = zI σ 161 k) → zFr (fun j c _ => j = 0 ∧ (c = 161 ∨ c = 162)) σ σ' → zW (d + 1) kX12_ladder 39 [.ref 131, .int x1, .int x2, .int x3, .int x4, .int (x5 + 1), .int (x6 + 1), .int v, .int w] [] σ' Q) → zW (d + 1) kX12_ladder 84 [.ref 131, .int x1, .int x2, .int x3, .int x4, .int x5, .int x6, .int v, .int (nI R.length)] [] σ Q := by
  have stop : ∀ (R : List Int) (σ : zS), zLay σ → R.length < 10 → rowG (· / 16) (zI σ 162) R → rowG (· % 16) (zI σ 161) R → rPut (16 * v.toInt + sv) R = (16 * v.toInt + sv) :: R →
      (∀ (w : Int32) (σ' : zS), rowG (· / 16) (zI σ' 162) (rPut (16 * v.toInt + sv) R) → rowG (· % 16) (zI σ' 161) (rPut (16 * v.toInt + sv) R) → (∀ k, R.length < k → zI σ' 162 k = zI σ 162 k ∧ zI σ' 161 k = zI σ 161 k) → zFr (fun j c _ => j = 0 ∧ (c = 161 ∨ c = 162)) σ σ' → zW (d + 1) kX12_ladder 39 [.ref 131, .int x1, .int x2, .int x3, .int x4, .int (x5 + 1), .int (x6 + 1), .int v, .int w] [] σ' Q) → zW (d + 1) kX12_ladder 141 [.ref 131, .int x1, .int x2, .int x3, .int x4, .int x5, .int x6, .int v, .int (nI R.length)] [] σ Q := by
    intro R σ hl hR hr1 hr2 er h
    refine (bX12_ladder_141 hl).mpr ⟨vp_in_nI hR (by decide), vp_in_nI hR (by decide), ?_⟩
    rw [nI_clamp (by omega)]
    have e1 : zI (zsI (zsI σ 162 (upd (zI σ 162) R.length v)) 161 (upd (zI σ 161) R.length x6)) 162 = upd (zI σ 162) R.length v := by rw [zI_ne (by decide), zI_self]
    have e2 : zI (zsI (zsI σ 162 (upd (zI σ 162) R.length v)) 161 (upd (zI σ 161) R.length x6)) 161 = upd (zI σ 161) R.length x6 := zI_self
    refine h _ _ ?_ ?_ (fun k hk => ?_) ((zFr_U ⟨rfl, Or.inr rfl⟩).trans (zFr_I (fun k => Or.inl ⟨rfl, Or.inl rfl⟩)))
    · rw [er, e1]
      exact ⟨by rw [pk_us]; show _ = (16 * v.toInt + sv) / 16; omega, rowG_c hr1 (fun k q => pk_un (by omega))⟩
    · rw [er, e2]
      exact ⟨by rw [pk_us]; show _ = (16 * v.toInt + sv) % 16; omega, rowG_c hr2 (fun k q => pk_un (by omega))⟩
    · rw [e1, e2, pk_un (by omega), pk_un (by omega)]
      exact ⟨rfl, rfl⟩
  intro R
  induction R with
  | nil =>
    intro σ hl hR hr1 hr2 hx h
    exact (bX12_ladder_84 hl).mpr (zle' (ai_n (by decide)) k0 (fun _ => stop [] σ hl hR hr1 hr2 rfl h) (fun q => by simp at q))
  | cons x R ih =>
    intro σ hl hR hr1 hr2 hx h
    simp only [List.length_cons] at hR
    have ep : (nI (x :: R).length - 1 : Int32) = nI R.length := nI_pred _
    have hxx := hx x List.mem_cons_self
    refine (bX12_ladder_84 hl).mpr (zle' (ai_n (by simp only [List.length_cons]; omega)) k0 (fun q => by simp only [List.length_cons] at q; omega) (fun _ => ?_))
    rw [ep]
    refine ⟨vp_in_nI (by omega) (by decide), ?_⟩
    rw [nI_clamp (by omega)]
    refine zle' hr1.1 rfl (fun q => stop (x :: R) σ hl (by simp only [List.length_cons]; omega) hr1 hr2 (by unfold rPut; rw [if_neg (fun z => by have z2 := hxx.mp z; have q2 : x / 16 ≤ v.toInt := q; omega)]) h) (fun q => ?_)
    refine ⟨vp_in_nI (by omega) (by decide), vp_in_nI (by simp only [List.length_cons]; omega) (by decide), vp_in_nI (by omega) (by decide), vp_in_nI (by simp only [List.length_cons]; omega) (by decide), ?_⟩
    have em : (nI (x :: R).length + (-1) : Int32) = nI R.length := pk_m1 _
    rw [em, nI_clamp (show (x :: R).length < 2 ^ 31 by simp only [List.length_cons]; omega)]
    have e1 : zI (zsI (zsI σ 162 (upd (zI σ 162) (x :: R).length (zI σ 162 R.length))) 161 (upd (zI σ 161) (x :: R).length (zI σ 161 R.length))) 162 = upd (zI σ 162) (x :: R).length (zI σ 162 R.length) := by rw [zI_ne (by decide), zI_self]
    have e2 : zI (zsI (zsI σ 162 (upd (zI σ 162) (x :: R).length (zI σ 162 R.length))) 161 (upd (zI σ 161) (x :: R).length (zI σ 161 R.length))) 161 = upd (zI σ 161) (x :: R).length (zI σ 161 R.length) := zI_self
    refine ih _ hl.I.I (by omega) (by rw [e1]; exact rowG_c hr1.2 (fun k q2 => pk_un (by simp only [List.length_cons]; omega))) (by rw [e2]; exact rowG_c hr2.2 (fun k q2 => pk_un (by simp only [List.length_cons]; omega))) (fun y hy => hx y (List.mem_cons_of_mem _ hy)) (fun w σ' q1 q2 q3 q5 => h w σ' ?_ ?_ (fun k hk2 => ?_) (((zFr_U ⟨rfl, Or.inr rfl⟩).trans (zFr_I (fun k => Or.inl ⟨rfl, Or.inl rfl⟩))).trans q5))
    · unfold rPut
      rw [if_pos (hxx.mpr q)]
      refine ⟨?_, q1⟩
      rw [rPut_l, (q3 _ (by omega)).1, e1]
      show (upd _ (R.length + 1) _ (R.length + 1)).toInt = _
      rw [pk_us]
      exact hr1.1
    · unfold rPut
      rw [if_pos (hxx.mpr q)]
      refine ⟨?_, q2⟩
      rw [rPut_l, (q3 _ (by omega)).2, e2]
      show (upd _ (R.length + 1) _ (R.length + 1)).toInt = _
      rw [pk_us]
      exact hr2.1
    · simp only [List.length_cons] at hk2
      rw [(q3 k (by omega)).1, (q3 k (by omega)).2, e1, e2, pk_un (by simp only [List.length_cons]; omega), pk_un (by simp only [List.length_cons]; omega)]
      exact ⟨rfl, rfl⟩
theorem m_ladder_l {b n L : Nat} {m z : Int32} (g0 : iA σ0 nb ns) (hb : b < nb) (hn : n ≤ 40) (hL : (mB σ0 b).2.1 = (L : Int)) :
    ∀ (mm s : Nat) (σ : zS) (v7 v8 : Value), ns - s = mm → s ≤ ns → v7.category = 1 → v8.category = 1 → zFr mWq σ0 σ → rowG (· / 16) (zI σ 162) (lad σ0 b m n L s) → rowG (· % 16) (zI σ 161) (lad σ0 b m n L s) →
    (∀ (σ' : zS) (v7 v8 : Value), v7.category = 1 → v8.category = 1 → zFr mWq σ0 σ' → rowG (· % 16) (zI σ' 161) (lad σ0 b m n L ns) → zW (d + 12) kX12_ladder 39 [.ref 131, .int (nI b), .int m, .int (nI n), .int z, .int (nI (lad σ0 b m n L ns).length), .int (nI ns), v7, v8] [] σ' Q) →
    zW (d + 12) kX12_ladder 39 [.ref 131, .int (nI b), .int m, .int (nI n), .int z, .int (nI (lad σ0 b m n L s).length), .int (nI s), v7, v8] [] σ Q := by
  have h6 := g0.nb6
  have h10 := g0.ns10
  intro mm
  induction mm with
  | zero =>
    intro s σ v7 v8 hmm hk c7 c8 f h1 h2 h
    have e : s = ns := by omega
    subst e
    exact h σ v7 v8 c7 c8 f h2
  | succ mm ih =>
    intro s σ v7 v8 hmm hk c7 c8 f h1 h2 h
    obtain ⟨g, fs⟩ := mZ g0 f
    have hs : s < ns := by omega
    obtain ⟨i1, i2⟩ := lad_i g0 (m := m) (n := n) (L := L) hb hn s hk
    have no : ∀ (σ1 : zS) (w w' : Value), w.category = 1 → w'.category = 1 → (bt m s = true → lS σ0 b s n L = -1) → zFr mWq σ0 σ1 → (zI σ1 162 = zI σ 162) → (zI σ1 161 = zI σ 161) → zW (d + 12) kX12_ladder 39 [.ref 131, .int (nI b), .int m, .int (nI n), .int z, .int (nI (lad σ0 b m n L s).length), .int (nI s + 1), w, w'] [] σ1 Q := fun σ1 w w' cw cw' q f1 e1 e2 => by
      rw [nI_1, ← lad_n q]
      exact ih (s + 1) σ1 w w' (by omega) (by omega) cw cw' f1 (by rw [lad_n q, e1]; exact h1) (by rw [lad_n q, e2]; exact h2) h
    refine (bX12_ladder_39 g.1 c7 c8).mpr (zle' (zto g.e12 (ai_n (by omega))) (ai_n (by omega)) (fun q => by omega) (fun _ => m_has g.1 (by omega) ⟨rfl, (bX12_ladder_54 g.1 c7 c8).mpr (zt0 (fun hm => ?_) (fun hm => ?_))⟩))
    · refine m_least (d := d) g0 hb hs hn hL f (fun σ1 v f1 fn hv => ⟨rfl, ?_⟩)
      have l1 := (mZ g0 f1).1.1
      have e162 : zI σ1 162 = zI σ 162 := funext (fun k => fn.i (by unfold nWq; omega))
      have e161 : zI σ1 161 = zI σ 161 := funext (fun k => fn.i (by unfold nWq; omega))
      refine (bX12_ladder_65 l1 c7 c8).mpr ((bX12_ladder_69 l1 c7 c8).mpr (zeq' hv km1 (fun q => no σ1 _ v8 (zcat_i _) c8 (fun _ => q) f1 e162 e161) (fun q => ?_)))
      have bd := (lS_b (L := L) g0 hb hs hn).resolve_left q
      have es : (nI s).toInt = (s : Int) := ai_n (by omega)
      refine m_lput (d := d + 11) es (by omega) (lad σ0 b m n L s) σ1 l1 (by omega) (by rw [e162]; exact h1) (by rw [e161]; exact h2) (fun x hx => ?_) (fun w σ2 r1 r2 _ f2 => ?_)
      · have := i2 x hx
        omega
      · rw [hv] at r1 r2
        have f2q : zFr mWq σ1 σ2 := f2.mono (fun j c k q => by unfold mWq; omega)
        have eL : (lad σ0 b m n L s).length + 1 = (lad σ0 b m n L (s + 1)).length := by rw [lad_y hm q, rPut_l]
        rw [nI_1, nI_1, eL]
        exact ih (s + 1) σ2 _ _ (by omega) (by omega) (zcat_i _) (zcat_i _) (f1.trans f2q) (by rw [lad_y hm q]; exact r1) (by rw [lad_y hm q]; exact r2) h
    · exact (bX12_ladder_69 g.1 c7 c8).mpr (zy rfl (no σ _ v8 (zcat_i _) c8 (fun z => absurd z hm) f rfl rfl))
theorem p_ladder_l {b n L : Nat} {m z : Int32} (g0 : iA σ0 nb ns) (hb : b < nb) (hn : n ≤ 40) (hL : (mB σ0 b).2.1 = (L : Int)) :
    ∀ (mm s : Nat) (σ : zS) (v6 : Value), ns - s = mm → s ≤ ns → v6.category = 1 → zFr pWz σ0 σ → rowR (zI σ 86) (lad σ0 b m n L s) → zI σ 85 1 = nI (lad σ0 b m n L s).length → (0 ≤ (zI σ 85 2).toInt ∧ (zI σ 85 2).toInt ≤ 70000 * s) →
    (∀ (σ' : zS) (v6 : Value), v6.category = 1 → zFr pWz σ0 σ' → rowR (zI σ' 86) (lad σ0 b m n L ns) → zI σ' 85 1 = nI (lad σ0 b m n L ns).length → zW (d + 7) kX11_ladder 120 [.ref 1, .int (nI b), .int m, .int (nI n), .int z, .int (nI ns), v6] [] σ' Q) →
    zW (d + 7) kX11_ladder 44 [.ref 1, .int (nI b), .int m, .int (nI n), .int z, .int (nI s), v6] [] σ Q := by
  have h6 := g0.nb6
  have h10 := g0.ns10
  intro mm
  induction mm with
  | zero =>
    intro s σ v6 hmm hk c6 f h1 h2 h3 h
    have e : s = ns := by omega
    subst e
    obtain ⟨g, fs⟩ := pZ g0 f
    exact (bX11_ladder_44 g.1 c6).mpr (zle' (zto g.e4 (ai_n (by omega))) (ai_n (by omega)) (fun _ => h σ v6 c6 f h1 h2) (fun q => by omega))
  | succ mm ih =>
    intro s σ v6 hmm hk c6 f h1 h2 h3 h
    obtain ⟨g, fs⟩ := pZ g0 f
    have hs : s < ns := by omega
    obtain ⟨i1, i2⟩ := lad_i g0 (m := m) (n := n) (L := L) hb hn s hk
    have es : (nI s).toInt = (s : Int) := ai_n (by omega)
    have no : ∀ (σ1 : zS) (w : Int32), (bt m s = true → lS σ0 b s n L = -1) → zFr pWz σ0 σ1 → zI σ1 85 = zI σ 85 → zI σ1 86 = zI σ 86 → zW (d + 7) kX11_ladder 114 [.ref 1, .int (nI b), .int m, .int (nI n), .int z, .int (nI s), .int w] [] σ1 Q := fun σ1 w q f1 e1 e2 => by
      refine (bX11_ladder_114 (pZ g0 f1).1.1).mpr ?_
      rw [nI_1]
      exact ih (s + 1) σ1 _ (by omega) (by omega) (zcat_i _) f1 (by rw [lad_n q, e2]; exact h1) (by rw [lad_n q, e1]; exact h2) (by rw [e1]; omega) h
    refine (bX11_ladder_44 g.1 c6).mpr (zle' (zto g.e4 (ai_n (by omega))) (ai_n (by omega)) (fun q => by omega) (fun _ => zle' km10 (ai_n (by omega)) (fun q => by omega) (fun _ => p_hasBit g.1 (by omega) ⟨rfl, (bX11_ladder_66 g.1 c6).mpr (zt0 (fun hm => ⟨vp_in_nI (by omega) (by decide), ?_⟩) (fun hm => (bX11_ladder_91 g.1 c6).mpr (zy rfl (no σ _ (fun z => absurd z hm) f rfl rfl))))⟩)))
    rw [zR_bk g.1 (by omega)]
    refine (bX11_ladder_76 g.1 c6 (zk_bk (by omega))).mpr ⟨vp_in_nI (by omega) (by decide), ?_⟩
    rw [zR_sk g.1 (by omega)]
    refine (bX11_ladder_83 g.1 c6 (zk_sk (by omega)) (zk_bk (by omega))).mpr (p_least (d := d) g0 hb hs hn hL f (fun σ1 v f1 fn hv => ⟨rfl, ?_⟩))
    have l1 := (pZ g0 f1).1.1
    have e85 : zI σ1 85 = zI σ 85 := funext (fun k => fn.i (by unfold pWv pWq pWt; omega))
    have e86 : zI σ1 86 = zI σ 86 := funext (fun k => fn.i (by unfold pWv pWq pWt; omega))
    refine (bX11_ladder_87 l1 c6).mpr ((bX11_ladder_91 l1 c6).mpr (zeq' hv km1 (fun q => no σ1 _ (fun _ => q) f1 e85 e86) (fun q => ?_)))
    have bd := (lS_b (L := L) g0 hb hs hn).resolve_left q
    have ev : (16 * v + nI s : Int32).toInt = 16 * lS σ0 b s n L + s := zadd (zmul (show (16 : Int32).toInt = 16 from rfl) hv (by omega) (by omega)) es (by omega) (by omega)
    refine p_rowAdd (R := lad σ0 b m n L s) zk_85 l1 (by rw [e85]; exact h2) (by omega) (by show rowR (zI σ1 86) _; rw [e86]; exact h1) (by rw [e85, ev]; omega) (by rw [e85, ev]; omega) (fun σ2 r1 r2 r3 f2 => ⟨rfl, ?_⟩)
    rw [ev] at r1
    have f2z : zFr pWz σ1 σ2 := f2.mono (fun j c k q => by unfold pWz; omega)
    have f02 := f1.trans f2z
    refine (bX11_ladder_114 (pZ g0 f02).1.1).mpr ?_
    rw [nI_1]
    refine ih (s + 1) σ2 _ (by omega) (by omega) (zcat_i _) f02 (by rw [lad_y (hm) q]; exact r1) (by rw [lad_y hm q, rPut_l]; exact r2) ?_ h
    rw [r3, e85, ev]
    omega
end LADDER
theorem rR_mem : ∀ {R : List Int} {i : Nat}, i < R.length → R.getD i 0 ∈ R
  | [], i, h => absurd h (by simp)
  | x :: R, 0, _ => List.mem_cons_self
  | x :: R, i + 1, h => List.mem_cons_of_mem _ (by
    have h2 : i < R.length := by simp only [List.length_cons] at h; omega
    exact rR_mem h2)
section LADDERE
variable {σ : zS} {nb ns : Nat}
/-- the rung asked for -/
def ladV (R : List Int) (i : Int) : Int := if i = -1 then R.length else if 0 ≤ i ∧ i < R.length then R.getD (R.length - 1 - i.toNat) 0 % 16 else -1
theorem e_ladder (g : iA σ nb ns) (b m n z : Int32) : eCall kX11_ladder kX12_ladder [.int b, .int m, .int n, .int z] [.int b, .int m, .int n, .int z] σ := by
  have h6 := g.nb6
  have h10 := g.ns10
  rcases a_cs b nb with ⟨b, hb, rfl, -⟩ | hx
  · have hB := g.bok hb
    obtain ⟨L, hL⟩ : ∃ L : Nat, (mB σ b).2.1 = (L : Int) := ⟨(mB σ b).2.1.toNat, by have := hB.1; omega⟩
    by_cases c : tSt ns m ∧ (1 ≤ n.toInt ∧ n.toInt ≤ 40)
    · obtain ⟨n, hn, rfl, eN⟩ := ai_nx (x := n) (by omega)
      have hN : n ≤ 40 := by omega
      obtain ⟨i1, i2⟩ := lad_i g (m := m) (n := n) (L := L) hb hN ns (Nat.le_refl _)
      refine e_q g (ladV (lad σ b m n L ns) z.toInt) (fun Q h => (bX11_ladder_0 g.1).mpr (p_nb0 g.1 g.e2 h6 hb ⟨rfl, (bX11_ladder_5 g.1).mpr (zy rfl ?_)⟩)) (fun σ1 σ2 Q l1 e2 g2 f2 h => ?_)
      · rw [g.e4]
        refine p_bits g.1 (fun _ => ⟨rfl, (bX11_ladder_16 g.1).mpr (zy rfl (p_sd g.1 (fun _ _ => ⟨rfl, (bX11_ladder_23 g.1).mpr (zy rfl (zle' km1 rfl (fun q0 => ?_) (fun q => h _ σ (by unfold ladV; rw [if_neg (by omega), if_neg (by omega)]; rfl) (zFr.refl _ _))))⟩) (fun q => absurd c.2 q)))⟩) (fun q => absurd c.1 q)
        refine p_rowClear zk_85 g.1 (fun σ1 q1 q2 f1 => ⟨rfl, ?_⟩)
        have f1z : zFr pWz σ σ1 := f1.mono (fun j c k q => by unfold pWz; omega)
        refine (bX11_ladder_41 (pZ g f1z).1.1).mpr (p_ladder_l (d := 6) g hb hN hL ns 0 σ1 _ (by omega) (by omega) (zcat_r _) f1z trivial q1 (by rw [q2, k0]; omega) (fun σ3 v6 c6 f3 r1 r2 => ?_))
        have l3 := (pZ g f3).1.1
        refine (bX11_ladder_120 l3 c6).mpr (zeq' rfl km1 (fun q => ?_) (fun q => ?_))
        · refine h _ σ3 ?_ f3
          unfold ladV
          rw [if_pos q, r2, ai_n (by omega)]
        · obtain ⟨i, hi, rfl, ei⟩ := ai_nx (x := z) (by omega)
          rw [r2]
          refine zlt' ei (ai_n (by omega)) (fun q3 => p_rowAt (R := lad σ b m n L ns) zk_85 l3 r2 (by omega) r1 (by omega) (fun w hw => ⟨rfl, (bX11_ladder_159 l3 c6).mpr ⟨by decide, h _ σ3 ?_ f3⟩⟩)) (fun q3 => h _ σ3 ?_ f3)
          · have hx : 0 ≤ w.toInt ∧ w.toInt < 100000 := by
              rw [hw]
              have hlt : (lad σ b m n L ns).length - 1 - i < (lad σ b m n L ns).length := by omega
              have := i2 _ (rR_mem hlt)
              omega
            unfold ladV
            rw [if_neg q, if_pos ⟨by omega, by omega⟩]
            have e16 : (16 : Int32).toInt = 16 := rfl
            rw [zsub rfl (zmul (zdiv rfl e16 (by omega) (by omega)) e16 (by omega) (by omega)) (by omega) (by omega), hw, ei]
            show _ = (lad σ b m n L ns).getD ((lad σ b m n L ns).length - 1 - i) 0 % 16
            omega
          · unfold ladV
            rw [if_neg q, if_neg (by omega)]; rfl
      · refine (bX12_ladder_0 l1).mpr ?_
        rw [e2]
        refine m_ib1 g2.1 g2.e11 h6 hb ⟨rfl, (bX12_ladder_10 g2.1).mpr (zn (by decide) (m_sticks g2.1 g2.e12 (fun _ => ⟨rfl, (bX12_ladder_18 g2.1).mpr (zn (by decide) (m_isIn g2.1 ⟨rfl, (bX12_ladder_28 g2.1).mpr (zt0 (fun _ => ?_) (fun q => absurd (by rw [k1, k40]; exact c.2) q))⟩))⟩) (fun q => absurd c.1 q)))⟩
        have hL2 : (mB σ2 b).2.1 = (L : Int) := by rw [iS_mB f2 (by omega)]; exact hL
        refine m_ladder_l (d := 1) g2 hb hN hL2 ns 0 σ2 _ _ (by omega) (by omega) (zcat_r _) (zcat_r _) (zFr.refl _ _) trivial trivial (fun σ3 v7 v8 c7 c8 f3 r1 => ?_)
        rw [lad_c f2 (by omega) ns h10] at r1 ⊢
        have l3 := (mZ g2 f3).1.1
        refine (bX12_ladder_39 l3 c7 c8).mpr (zle' (zto (mZ g2 f3).1.e12 (ai_n (by omega))) (ai_n (by omega)) (fun _ => zeq' rfl km1 (fun q => h _ σ3 ?_ f3) (fun q => m_isIn l3 ⟨rfl, (bX12_ladder_189 l3 c7 c8).mpr (zt0 (fun q2 => ?_) (fun q2 => h _ σ3 ?_ f3))⟩)) (fun q => by omega))
        · unfold ladV
          rw [if_pos q, ai_n (by omega)]
        · rw [k0, zsub (ai_n (by omega)) k1 (by omega) (by omega)] at q2
          obtain ⟨i, hi, rfl, ei⟩ := ai_nx (x := z) (by omega)
          refine ⟨vp_in_nI (by omega) (by decide), h _ σ3 ?_ f3⟩
          rw [nI_clamp (by omega), rowG_at i r1 (by omega)]
          unfold ladV
          rw [if_neg q, if_pos ⟨by omega, by omega⟩, ei]
          rfl
        · rw [k0, zsub (ai_n (by omega)) k1 (by omega) (by omega)] at q2
          unfold ladV
          rw [if_neg q, if_neg (by omega)]; rfl
    · refine e_q g (-1) (fun Q h => ?_) (fun σ1 σ2 Q l1 e2 g2 f2 h => ?_)
      · refine (bX11_ladder_0 g.1).mpr (p_nb0 g.1 g.e2 h6 hb ⟨rfl, (bX11_ladder_5 g.1).mpr (zy rfl ?_)⟩)
        rw [g.e4]
        exact p_bits g.1 (fun c0 => ⟨rfl, (bX11_ladder_16 g.1).mpr (zy rfl (p_sd g.1 (fun q1 q2 => absurd ⟨c0, q1, q2⟩ c) (fun q => ⟨rfl, (bX11_ladder_23 g.1).mpr (zn (by decide) (h _ σ km1 (zFr.refl _ _)))⟩)))⟩) (fun q => ⟨rfl, (bX11_ladder_16 g.1).mpr (zn (by decide) (h _ σ km1 (zFr.refl _ _)))⟩)
      · refine (bX12_ladder_0 l1).mpr ?_
        rw [e2]
        exact m_ib1 g2.1 g2.e11 h6 hb ⟨rfl, (bX12_ladder_10 g2.1).mpr (zn (by decide) (m_sticks g2.1 g2.e12 (fun c0 => ⟨rfl, (bX12_ladder_18 g2.1).mpr (zn (by decide) (m_isIn g2.1 ⟨rfl, (bX12_ladder_28 g2.1).mpr (zt0 (fun q => absurd ⟨c0, by rw [k1, k40] at q; exact q⟩ c) (fun _ => h _ σ2 km1 (zFr.refl _ _)))⟩))⟩) (fun q => ⟨rfl, (bX12_ladder_18 g2.1).mpr (zy rfl (h _ σ2 km1 (zFr.refl _ _)))⟩)))⟩
  · refine e_q g (-1) (fun Q h => (bX11_ladder_0 g.1).mpr (p_nb1 g.1 g.e2 h6 hx ⟨rfl, (bX11_ladder_5 g.1).mpr (zn (by decide) (h _ σ km1 (zFr.refl _ _)))⟩)) (fun σ1 σ2 Q l1 e2 g2 f2 h => ?_)
    refine (bX12_ladder_0 l1).mpr ?_
    rw [e2]
    exact m_ib0 g2.1 g2.e11 h6 hx ⟨rfl, (bX12_ladder_10 g2.1).mpr (zy rfl (h _ σ2 km1 (zFr.refl _ _)))⟩
end LADDERE
