/-! the class's sorting, ticks and races -/
theorem aIns_ac {X : Nat → Int} {i : Nat} : ∀ (A : List Nat) {C : List Nat}, (∀ a ∈ A, ¬ X a < X i) → (∀ c ∈ C, X c < X i) → aIns X i (A ++ C) = A ++ i :: C
  | [], [], _, _ => rfl
  | [], c :: C, _, h => by
    show (if X c < X i then i :: c :: C else c :: aIns X i C) = _
    rw [if_pos (h c List.mem_cons_self)]
    rfl
  | a :: A, C, h, h2 => by
    show (if X a < X i then i :: a :: (A ++ C) else a :: aIns X i (A ++ C)) = _
    rw [if_neg (h a List.mem_cons_self), aIns_ac A (fun b hb => h b (List.mem_cons_of_mem _ hb)) h2]
    rfl
/-- a row of numbers holds a list from some place on -/
def pRow (f : Nat → Int32) (k0 : Nat) (L : List Nat) : Prop := ∀ k x, L[k]? = some x → f (k0 + k) = nI x
theorem pRow_nil (f : Nat → Int32) (k0 : Nat) : pRow f k0 [] := fun k x h => by simp at h
theorem pRow_a {f : Nat → Int32} {k0 : Nat} {A C : List Nat} : pRow f k0 (A ++ C) ↔ pRow f k0 A ∧ pRow f (k0 + A.length) C := by
  constructor
  · intro h
    refine ⟨fun k x e => h k x ?_, fun k x e => ?_⟩
    · have hk : k < A.length := by
        rcases Nat.lt_or_ge k A.length with q | q
        · exact q
        · rw [List.getElem?_eq_none q] at e; cases e
      rw [List.getElem?_append_left hk]; exact e
    · have := h (A.length + k) x (by rw [List.getElem?_append_right (by omega)]; rw [show A.length + k - A.length = k by omega]; exact e)
      rw [← Nat.add_assoc] at this
      exact this
  · rintro ⟨h1, h2⟩ k x e
    rcases Nat.lt_or_ge k A.length with q | q
    · rw [List.getElem?_append_left q] at e
      exact h1 k x e
    · rw [List.getElem?_append_right q] at e
      have := h2 _ x e
      rw [show k0 + A.length + (k - A.length) = k0 + k by omega] at this
      exact this
theorem pRow_1 {f : Nat → Int32} {k0 a : Nat} : pRow f k0 [a] ↔ f k0 = nI a := by
  constructor
  · intro h; exact h 0 a rfl
  · intro h k x e
    cases k with
    | zero => cases e; exact h
    | succ k => simp at e
theorem pRow_u {f : Nat → Int32} {k0 j : Nat} {v : Int32} {A : List Nat} (h : pRow f k0 A) (hj : j < k0 ∨ k0 + A.length ≤ j) : pRow (upd f j v) k0 A := fun k x e => by
  have hk : k < A.length := by
    rcases Nat.lt_or_ge k A.length with q | q
    · exact q
    · rw [List.getElem?_eq_none q] at e; cases e
  rw [pk_un (by omega)]
  exact h k x e
theorem pHas_i {σ : zS} {t n c : Nat} {D : aD} {f : Nat → Int32} (hst : ∀ r, r < n → ∃ s, zR σ (t + 8 + 2 * r) 0 = some s ∧ zk s = 6) (hn : n ≤ 6) (ht : zk t = 2) (hD : pHas σ t n D) (h6 : zk c ≠ 6) (h4 : zk c ≠ 4) (h2 : c ≠ t) (h3 : c ≠ t + 3) : pHas (zsI σ c f) t n D := by
  obtain ⟨d1, d2, d3, d4, d5⟩ := hD
  refine ⟨?_, ?_, d3, ?_, fun x hx => ?_⟩
  · rw [← d1]
    funext r' w'
    unfold pF
    by_cases q : r' < n ∧ w' < 11
    · rw [if_pos q, if_pos q]
      by_cases q3 : w' < 3
      · rw [if_pos q3, if_pos q3]
        obtain ⟨s, hs, ks⟩ := hst r' q.1
        show (zI (zsI σ c _) ((zR σ (t + 8 + 2 * r') 0).getD 0) w').toInt = _
        rw [hs]
        show (zI (zsI σ c _) s w').toInt = (zI σ s w').toInt
        rw [zI_ne (fun e => h6 (by rw [← e]; exact ks))]
      · rw [if_neg q3, if_neg q3, zI_ne (fun e => h4 (by rw [← e]; exact zf_racer ht (by omega)))]
    · rw [if_neg q, if_neg q]
  · rw [zI_ne h2.symm]; exact d2
  · rw [zI_ne h2.symm]; exact d4
  · rw [zI_ne h3.symm]; exact d5 x hx
section PRUN
variable {d : Nat} {Q : Option Value → zS → Prop}
theorem p_xOf {σ : zS} {t n r : Nat} {F : aFn} {B : aBk} {W : aWx} {w : Nat} (C : pCx σ t n B W w) (hF : pF σ t n = F) (hr : r < n) (h : ∀ v : Int32, v.toInt = F r 4 → Q (some (.int v)) σ) : zCall d kX2_xOf [.ref t, .int (nI r)] σ Q := by
  have hn := C.2.2.2.1
  obtain ⟨rr, hkr⟩ := p_run C (show r < 6 by omega)
  refine (bX2_xOf_0 C.1 C.2.1).mpr (zlt' (ai_n (by omega)) k0 (fun q => by omega) (fun _ => zlt' (ai_n (by omega)) k6 (fun _ => ⟨vp_in_nI (by omega) (by decide), ?_⟩) (fun q => by omega)))
  rw [nI_clamp (by omega), rr]
  exact (bX2_xOf_20 C.1 C.2.1 hkr).mpr (h _ (pF_4 hF hr))
def pWs (t : Nat) : Nat → Nat → Nat → Prop := fun j c _ => j = 0 ∧ c = t + 2
theorem pWs_r {t : Nat} {σ σ' : zS} (h : zFr (pWs t) σ σ') : zFr (pWr t) σ σ' := h.mono (fun j c k q => Or.inl ⟨q.1, Or.inr (Or.inl q.2)⟩)
theorem p_sort_in {t n i : Nat} {B : aBk} {W : aWx} {w : Nat} {D : aD} (hi : i < n) :
    ∀ (m : Nat) (A C : List Nat) (σ : zS), A.length = m → pCx σ t n B W w → pHas σ t n D → (∀ a ∈ A, a < n) → A.length + C.length = i → pRow (zI σ (t + 2)) 0 A → pRow (zI σ (t + 2)) (A.length + 1) C → (A ++ C).Pairwise (aLt (fun r => D.1 r 4)) → (∀ c ∈ C, D.1 c 4 < D.1 i 4) →
    (∀ (σ' : zS) (x2 : Int32), pHas σ' t n D → pRow (zI σ' (t + 2)) 0 (aIns (fun r => D.1 r 4) i (A ++ C)) → zFr (pWs t) σ σ' → zW (d + 1) kX2_sortByX 2 [.ref t, .int (nI i + 1), .int x2] [] σ' Q) →
    zW (d + 1) kX2_sortByX 18 [.ref t, .int (nI i), .int (nI m)] [] σ Q := by
  intro m
  induction m with
  | zero =>
    intro A C σ hm Cx hD hA hl hr1 hr2 hp hC h
    have hn := Cx.2.2.2.1
    have hk := zf_race Cx.2.1
    have eA : A = [] := List.length_eq_zero_iff.mp hm
    subst eA
    refine (bX2_sortByX_18 Cx.1 Cx.2.1).mpr (zle' (ai_n (by omega)) k0 (fun _ => ?_) (fun q => by omega))
    refine (bX2_sortByX_62 Cx.1 Cx.2.1).mpr ⟨vp_in_nI (by omega) (by decide), ?_⟩
    rw [nI_clamp (by omega)]
    refine h _ _ (pHas_i Cx.2.2.2.2.2.2.1 hn Cx.2.1 hD (by omega) (by omega) (by omega) (by omega)) ?_ (zFr_U ⟨rfl, rfl⟩)
    rw [zI_self, aIns_ac [] (fun a ha => by simp at ha) hC]
    show pRow _ 0 ([i] ++ C)
    rw [pRow_a, pRow_1, pk_us]
    exact ⟨rfl, pRow_u hr2 (Or.inl (by show 0 < 0 + 1; omega))⟩
  | succ m ih =>
    intro A C σ hm Cx hD hA hl hr1 hr2 hp hC h
    have hn := Cx.2.2.2.1
    have hk := zf_race Cx.2.1
    obtain ⟨A', a, eA⟩ : ∃ A' a, A = A' ++ [a] := by
      refine ⟨A.dropLast, A.getLast (fun q => by rw [q] at hm; simp at hm), (List.dropLast_concat_getLast _).symm⟩
    subst eA
    have hl' : A'.length = m := by simpa using hm
    simp only [List.length_append, List.length_cons, List.length_nil] at hl hr2
    have han : a < n := hA a (by simp)
    rw [pRow_a, pRow_1] at hr1
    have era : zI σ (t + 2) m = nI a := by rw [← hl', ← Nat.zero_add A'.length]; exact hr1.2
    have ep : (nI (m + 1) - 1 : Int32) = nI m := nI_pred m
    have stop : ¬ D.1 a 4 < D.1 i 4 → zW (d + 1) kX2_sortByX 62 [.ref t, .int (nI i), .int (nI (m + 1))] [] σ Q := by
      intro q
      refine (bX2_sortByX_62 Cx.1 Cx.2.1).mpr ⟨vp_in_nI (by omega) (by decide), ?_⟩
      rw [nI_clamp (by omega)]
      refine h _ _ (pHas_i Cx.2.2.2.2.2.2.1 hn Cx.2.1 hD (by omega) (by omega) (by omega) (by omega)) ?_ (zFr_U ⟨rfl, rfl⟩)
      rw [zI_self, aIns_ac (A' ++ [a]) (fun b hb => ?_) hC]
      · refine pRow_a.mpr ⟨pRow_u (pRow_a.mpr ⟨hr1.1, pRow_1.mpr hr1.2⟩) (Or.inr (by simp; omega)), ?_⟩
        rw [show i :: C = [i] ++ C from rfl, pRow_a, pRow_1]
        simp only [List.length_append, List.length_cons, List.length_nil, Nat.zero_add] at hr2 ⊢
        rw [show A'.length + 1 = m + 1 by omega] at hr2 ⊢
        rw [pk_us]
        exact ⟨rfl, pRow_u hr2 (Or.inl (by omega))⟩
      · rcases List.mem_append.mp hb with z | z
        · have := (List.pairwise_append.mp (List.pairwise_append.mp hp).1).2.2 b z a (by simp)
          have this' : D.1 a 4 < D.1 b 4 ∨ (D.1 b 4 = D.1 a 4 ∧ b < a) := this
          show ¬ D.1 b 4 < D.1 i 4
          omega
        · rw [List.mem_singleton.mp z]; exact q
    refine (bX2_sortByX_18 Cx.1 Cx.2.1).mpr (zle' (ai_n (by omega)) k0 (fun q => by omega) (fun _ => ?_))
    rw [ep]
    refine ⟨vp_in_nI (by omega) (by decide), ?_⟩
    rw [nI_clamp (by omega), era]
    refine p_xOf Cx hD.1 han (fun va hva => ⟨rfl, (bX2_sortByX_34 Cx.1 Cx.2.1).mpr (p_xOf Cx hD.1 hi (fun vi hvi => ⟨rfl, (bX2_sortByX_39 Cx.1 Cx.2.1).mpr (zle' hvi hva (fun q => stop (by omega)) (fun q => ?_))⟩))⟩)
    rw [ep, pk_m1]
    refine ⟨vp_in_nI (by omega) (by decide), vp_in_nI (by omega) (by decide), ?_⟩
    rw [nI_clamp (by omega), nI_clamp (by omega), era]
    have f1 : zFr (pWs t) σ (zsI σ (t + 2) (upd (zI σ (t + 2)) (m + 1) (nI a))) := zFr_U ⟨rfl, rfl⟩
    refine ih A' (a :: C) _ hl' (pCx_fr (pWs_r f1) Cx) (pHas_i Cx.2.2.2.2.2.2.1 hn Cx.2.1 hD (by omega) (by omega) (by omega) (by omega)) (fun b hb => hA b (by simp [hb])) (by simp only [List.length_cons]; omega) ?_ ?_ ?_ ?_ (fun σ' x2 q1 q2 q3 => h σ' x2 q1 ?_ (f1.trans q3))
    · rw [zI_self]; exact pRow_u hr1.1 (Or.inr (by omega))
    · rw [zI_self, show a :: C = [a] ++ C from rfl, pRow_a, pRow_1, hl', pk_us]
      refine ⟨rfl, ?_⟩
      show pRow _ (m + 1 + 1) C
      simp only [Nat.zero_add] at hr2
      rw [show A'.length + 1 + 1 = m + 1 + 1 by omega] at hr2
      exact pRow_u hr2 (Or.inl (by omega))
    · rw [show A' ++ a :: C = A' ++ [a] ++ C by simp]; exact hp
    · intro c hc
      rcases List.mem_cons.mp hc with z | z
      · rw [z]; exact q
      · exact hC c z
    · rw [show A' ++ [a] ++ C = A' ++ a :: C by simp]; exact q2
theorem p_sort {t n : Nat} {B : aBk} {W : aWx} {w : Nat} {D : aD} :
    ∀ (m i : Nat) (σ : zS) (v2 : Value), n - i = m → i ≤ n → pCx σ t n B W w → pHas σ t n D → v2.category = 1 → pRow (zI σ (t + 2)) 0 (aOrd (fun r => D.1 r 4) i) →
    (∀ σ', pHas σ' t n D → pRow (zI σ' (t + 2)) 0 (aOrd (fun r => D.1 r 4) n) → zFr (pWs t) σ σ' → Q none σ') → zW (d + 1) kX2_sortByX 2 [.ref t, .int (nI i), v2] [] σ Q := by
  intro m
  induction m with
  | zero =>
    intro i σ v2 hm hi C hD hc hr h
    have e : i = n := by omega
    subst e
    refine (bX2_sortByX_2 C.1 C.2.1 hc).mpr (zti (fun _ => h σ hD hr (zFr.refl _ _)) (fun q => ?_))
    rw [C.2.2.2.2.1] at q
    exact absurd (nI_le (Nat.le_refl _) (by have := C.2.2.2.1; omega)) q
  | succ m ih =>
    intro i σ v2 hm hi C hD hc hr h
    have hn := C.2.2.2.1
    refine (bX2_sortByX_2 C.1 C.2.1 hc).mpr (zti (fun q => ?_) (fun _ => zle' k6 (ai_n (by omega)) (fun q => by omega) (fun _ => ?_)))
    · rw [C.2.2.2.2.1] at q
      exact absurd q (nI_ge (by omega) (by omega))
    have el : (aOrd (fun r => D.1 r 4) i).length = i := aOrd_l
    refine p_sort_in (show i < n by omega) i (aOrd (fun r => D.1 r 4) i) [] σ el C hD (fun a ha => by have := aOrd_m.mp ha; omega) (by simp [el]) hr (pRow_nil _ _) (by rw [List.append_nil]; exact aOrd_p) (fun c hc => by simp at hc) (fun σ' x2 q1 q2 q3 => ?_)
    rw [nI_1]
    rw [List.append_nil] at q2
    exact ih (i + 1) σ' _ (by omega) (by omega) (pCx_fr (pWs_r q3) C) q1 (zcat_i _) q2 (fun σ2 r1 r2 r3 => h σ2 r1 r2 (q3.trans r3))
theorem p_goesOn {σ : zS} {t n : Nat} {B : aBk} {W : aWx} {w : Nat} {T o : Int} (C : pCx σ t n B W w) (ht : (zI σ t 5).toInt = T) (ho : (zI σ t 6).toInt = o) (h : Q (some (.int (zb (T < 60 ∧ o < n)))) σ) : zCall d kX2_goesOn [.ref t] σ Q := by
  have hn := C.2.2.2.1
  refine (bX2_goesOn_0 C.1 C.2.1).mpr (zle' k60 ht (fun e => ?_) (fun e => ?_))
  · rwa [zb_f (by omega)] at h
  · rw [C.2.2.2.2.1]
    refine zle' (ai_n (by omega)) ho (fun e2 => ?_) (fun e2 => ?_)
    · rwa [zb_f (by omega)] at h
    · rwa [zb_t (by omega)] at h
theorem p_turns {t n : Nat} {B : aBk} {W : aWx} {w : Nat} {D0 : aD} {T : Int} {x1 x3 : Int32} {L : List Nat} (hT : 0 ≤ T ∧ T ≤ 60) (hLn : ∀ r ∈ L, r < n) (hLl : L.length = n) :
    ∀ (m : Nat) (L1 L2 : List Nat) (σ : zS) (v5 : Value), L2.length = m → L = L1 ++ L2 → pCx σ t n B W w → pHas σ t n (aTurns B W n T L1 D0) → aDok B n D0 → (zI σ t 5).toInt = T → pRow (zI σ (t + 2)) 0 L → v5.category = 1 →
    (∀ (σ' : zS) (x4 : Int32) (v5 : Value), pHas σ' t n (aTurns B W n T L D0) → (zI σ' t 5).toInt = T → zFr (pWr t) σ σ' → v5.category = 1 → zW (d + 4) kX2_run 2 [.ref t, .int x1, .ref w, .int (x3 + 1), .int x4, v5] [] σ' Q) →
    zW (d + 4) kX2_run 31 [.ref t, .int x1, .ref w, .int x3, .int (nI L1.length), v5] [] σ Q := by
  intro m
  induction m with
  | zero =>
    intro L1 L2 σ v5 hm hL C hD hok ht hr hc h
    have hn := C.2.2.2.1
    have e2 : L2 = [] := List.length_eq_zero_iff.mp hm
    subst e2
    rw [List.append_nil] at hL
    subst hL
    refine (bX2_run_31 C.1 C.2.1 C.2.2.1 hc).mpr (zti (fun _ => h σ _ _ hD ht (zFr.refl _ _) hc) (fun q => ?_))
    rw [C.2.2.2.2.1, hLl] at q
    exact absurd (nI_le (Nat.le_refl _) (by omega)) q
  | succ m ih =>
    intro L1 L2 σ v5 hm hL C hD hok ht hr hc h
    have hn := C.2.2.2.1
    obtain ⟨a, L3, eL⟩ : ∃ a L3, L2 = a :: L3 := by
      cases L2 with
      | nil => simp at hm
      | cons a L3 => exact ⟨a, L3, rfl⟩
    subst eL
    have han : a < n := hLn a (by rw [hL]; simp)
    have hl1 : L1.length < n := by rw [← hLl, hL]; simp
    obtain ⟨rr, hkr⟩ := p_run C (show a < 6 by omega)
    have hr' := hr
    rw [hL, pRow_a, show a :: L3 = [a] ++ L3 from rfl, pRow_a, pRow_1] at hr'
    have era : zI σ (t + 2) L1.length = nI a := by rw [← Nat.zero_add L1.length]; exact hr'.2.1
    have ok1 := aTurns_ok C.2.2.2.2.2.2.2.2.1 C.2.2.2.2.2.2.2.2.2 hn hT L1 D0 (fun r q => hLn r (by rw [hL]; simp [q])) hok
    have hu : 0 ≤ (aTurns B W n T L1 D0).2.1 ∧ (aTurns B W n T L1 D0).2.1 ≤ 6 := by
      have := aIn_n (aTurns B W n T L1 D0).1 n
      have := ok1.1.2.2
      exact ⟨ok1.1.2.1, by omega⟩
    have nx : ∀ (σ' : zS) (v5 : Value), pHas σ' t n (aTurns B W n T (L1 ++ [a]) D0) → (zI σ' t 5).toInt = T → zFr (pWg t) σ σ' → v5.category = 1 → zW (d + 4) kX2_run 31 [.ref t, .int x1, .ref w, .int x3, .int (nI L1.length + 1), v5] [] σ' Q := by
      intro σ' v5 q1 q2 q3 q4
      have hk := zf_race C.2.1
      have e := ih (L1 ++ [a]) L3 σ' v5 (by simpa using hm) (by rw [hL]; simp) (pCx_fg q3 C) q1 hok q2 (fun k x z => by rw [q3.i (by unfold pWg; omega)]; exact hr k x z) q4 (fun σ2 x4 v6 z1 z2 z3 z4 => h σ2 x4 v6 z1 z2 ((pWg_r q3).trans z3) z4)
      rw [nI_1]
      rw [show (L1 ++ [a]).length = L1.length + 1 by simp] at e
      exact e
    refine (bX2_run_31 C.1 C.2.1 C.2.2.1 hc).mpr (zti (fun q => ?_) (fun _ => zle' k6 (ai_n (by omega)) (fun q => by omega) (fun _ => ⟨vp_in_nI (by omega) (by decide), ?_⟩)))
    · rw [C.2.2.2.2.1] at q
      exact absurd q (nI_ge (by omega) (by omega))
    rw [nI_clamp (by omega), era]
    refine zlt' (ai_n (by omega)) k0 (fun q => by omega) (fun _ => zle' k6 (ai_n (by omega)) (fun q => by omega) (fun _ => ⟨vp_in_nI (by omega) (by decide), ?_⟩))
    rw [nI_clamp (by omega), rr]
    have ho : (aTurns B W n T L1 D0).1 a 7 = -1 ↔ (aTurns B W n T L1 D0).1 a 8 = -1 := (ok1.1.1 a han).2.2.2.2.2.2.2.2.1
    refine (bX2_run_75 C.1 C.2.1 C.2.2.1 hkr).mpr (p_isOut C.1 C.2.1 hn hD.1 han ho ⟨rfl, (bX2_run_78 C.1 C.2.1 C.2.2.1).mpr (zt0 (fun c => ?_) (fun c => ⟨vp_in_nI (by omega) (by decide), ?_⟩))⟩)
    · refine (bX2_run_93 C.1 C.2.1 C.2.2.1).mpr (nx σ _ ?_ ht (zFr.refl _ _) (zcat_i _))
      rw [aTurns_a]
      show pHas σ t n (if (aTurns B W n T L1 D0).1 a 7 = -1 then _ else _)
      rw [if_neg c]
      exact hD
    · rw [nI_clamp (by omega), rr]
      refine (bX2_run_89 C.1 C.2.1 C.2.2.1 hkr).mpr (p_move C hD ht han ok1.1.1 (Classical.not_not.mp c) hu (fun σ1 hD1 f1 => ⟨rfl, ?_⟩))
      have C1 := pCx_fg f1 C
      have hk := zf_race C.2.1
      refine (bX2_run_93 C1.1 C1.2.1 C1.2.2.1).mpr (nx σ1 _ ?_ (by rw [f1.i (by unfold pWg; omega)]; exact ht) f1 (zcat_i _))
      rw [aTurns_a]
      show pHas σ1 t n (if (aTurns B W n T L1 D0).1 a 7 = -1 then _ else _)
      rw [if_pos (Classical.not_not.mp c)]
      exact hD1
theorem p_runN {t n : Nat} {B : aBk} {W : aWx} {w N : Nat} (hN : N ≤ 60) :
    ∀ (m j : Nat) (σ : zS) (T : Int × aD) (v4 v5 : Value), N - j = m → j ≤ N → pCx σ t n B W w → pHas σ t n T.2 → aDok B n T.2 → (zI σ t 5).toInt = T.1 → 0 ≤ T.1 → T.1 ≤ 60 → v4.category = 1 → v5.category = 1 →
    (∀ σ', pHas σ' t n (aRun B W n m T).2 → (zI σ' t 5).toInt = (aRun B W n m T).1 → zFr (pWr t) σ σ' → Q none σ') → zW (d + 4) kX2_run 2 [.ref t, .int (nI N), .ref w, .int (nI j), v4, v5] [] σ Q := by
  intro m
  induction m with
  | zero =>
    intro j σ T v4 v5 hm hj C hD hok ht h1 h2 h4 h5 h
    exact (bX2_run_2 C.1 C.2.1 C.2.2.1 h4 h5).mpr (zle' (ai_n (by omega)) (ai_n (by omega)) (fun _ => h σ hD ht (zFr.refl _ _)) (fun q => by omega))
  | succ m ih =>
    intro j σ T v4 v5 hm hj C hD hok ht h1 h2 h4 h5 h
    have C' := C
    obtain ⟨c1, c2, c3, c4, c5, c6, c8, c9, c10, c11⟩ := C
    have hk := zf_race c2
    refine (bX2_run_2 c1 c2 c3 h4 h5).mpr (zle' (ai_n (by omega)) (ai_n (by omega)) (fun q => by omega) (fun _ => p_goesOn C' ht hD.2.1 ⟨rfl, (bX2_run_11 c1 c2 c3 h4 h5).mpr (zt0 (fun c => ?_) (fun c => ?_))⟩))
    · have f1 : zFr (pWr t) σ (zsI σ t (upd (zI σ t) 5 (zI σ t 5 + 1))) := zFr_U (Or.inl ⟨rfl, Or.inl ⟨rfl, Or.inl rfl⟩⟩)
      have hD1 : pHas (zsI σ t (upd (zI σ t) 5 (zI σ t 5 + 1))) t n T.2 := by
        obtain ⟨d1, d2, d3, d4, d5⟩ := hD
        refine ⟨?_, ?_, d3, ?_, fun x hx => ?_⟩
        · rw [← d1]
          funext r' w'
          unfold pF
          by_cases q : r' < n ∧ w' < 11
          · rw [if_pos q, if_pos q]
            by_cases q3 : w' < 3
            · rw [if_pos q3, if_pos q3]
              obtain ⟨s, hs, ks⟩ := c8 r' q.1
              show (zI (zsI σ t _) ((zR σ (t + 8 + 2 * r') 0).getD 0) w').toInt = _
              rw [hs]
              show (zI (zsI σ t _) s w').toInt = (zI σ s w').toInt
              rw [zI_ne (fun e => by rw [e] at ks; omega)]
            · rw [if_neg q3, if_neg q3, zI_ne (by omega)]
          · rw [if_neg q, if_neg q]
        · rw [zI_self, pk_un (by decide)]; exact d2
        · rw [zI_self, pk_un (by decide)]; exact d4
        · rw [zI_ne (by omega)]; exact d5 x hx
      have ht1 : (zI (zsI σ t (upd (zI σ t) 5 (zI σ t 5 + 1))) t 5).toInt = T.1 + 1 := by
        rw [zI_self, pk_us]
        exact zadd ht k1
      have C1 := pCx_fr f1 C'
      generalize zsI σ t (upd (zI σ t) 5 (zI σ t 5 + 1)) = σ1 at f1 hD1 ht1 C1 ⊢
      refine (bX2_sortByX_0 C1.1 c2).mpr (p_sort n 0 σ1 _ rfl (by omega) C1 hD1 (zcat_r _) (pRow_nil _ _) (fun σ2 hD2 hr2 f2 => ⟨rfl, ?_⟩))
      have C2 := pCx_fr (pWs_r f2) C1
      have ht2 : (zI σ2 t 5).toInt = T.1 + 1 := by rw [f2.i (by unfold pWs; omega)]; exact ht1
      refine (bX2_run_28 C2.1 c2 c3 h4 h5).mpr (p_turns (T := T.1 + 1) (D0 := T.2) (L := aOrd (fun r => T.2.1 r 4) n) (by omega) (fun r q => aOrd_m.mp q) aOrd_l n [] (aOrd (fun r => T.2.1 r 4) n) σ2 _ aOrd_l rfl C2 hD2 hok ht2 hr2 h5 (fun σ3 x4 v6 q1 q2 q3 q4 => ?_))
      have f3 := (f1.trans (pWs_r f2)).trans q3
      rw [nI_1]
      refine ih (j + 1) σ3 (T.1 + 1, aTick B W n (T.1 + 1) T.2) _ _ (by omega) (by omega) (pCx_fr f3 C') q1 (aTick_ok c10 c11 c4 (by omega) hok).1 q2 (by show 0 ≤ T.1 + 1; omega) (by show T.1 + 1 ≤ 60; omega) (zcat_i _) q4 (fun σ' r1 r2 r3 => h σ' ?_ ?_ (f3.trans r3))
      · unfold aRun; rw [if_pos c]; exact r1
      · unfold aRun; rw [if_pos c]; exact r2
    · refine h σ ?_ ?_ (zFr.refl _ _)
      · rw [aRun_stop c]; exact hD
      · rw [aRun_stop c]; exact ht
end PRUN
