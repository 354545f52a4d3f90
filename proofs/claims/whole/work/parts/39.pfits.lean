/-! the class's races: clear, add, fits, places -/
def aAdd (F : aFn) (n : Nat) (G : Nat → Int) : aFn := fun r w => if r = n then G w else F r w
def aApart (F : aFn) (r o : Nat) : Prop := F r 3 + F r 0 ≤ F o 3 ∨ F o 3 + F o 0 ≤ F r 3
/-- all can lie at their starts, no two on one cell -/
def aFit (B : aBk) (W : aWx) (n : Nat) (F : aFn) : Prop := (∀ r, r < n → aCan B W (F r 0) 0 (F r 3)) ∧ ∀ r, r < n → ∀ o, o < r → aApart F r o
def aPl (n : Nat) (F : aFn) (r : Nat) : Int := if F r 7 = -1 then n else F r 8
section PFITS
variable {d : Nat} {σ : zS} {Q : Option Value → zS → Prop}
theorem p_clear {t b : Nat} {F : aFn} (hl : zLay σ) (ht : zk t = 2) (hb : zk b = 0) (h : ∀ σ', pTd σ' t 0 b F → zI σ' t 9 = 0 → zFr (pWq t) σ σ' → Q none σ') : zCall d kX2_clear [.ref t, .ref b] σ Q := by
  refine (bX2_clear_0 hl ht hb).mpr ?_
  have f1 : zFr (pWq t) σ (zsR σ t (va_up (zR σ t) 3 (some b))) := zFr_R (Or.inr (Or.inr ⟨rfl, Or.inl ⟨rfl, rfl⟩⟩))
  have f2 : zFr (pWq t) σ (zsI (zsR σ t (va_up (zR σ t) 3 (some b))) t (upd (upd (upd (upd (zI σ t) 4 0) 5 0) 6 0) 9 0)) := f1.trans (zFr_I (fun k => Or.inl (Or.inl ⟨rfl, Or.inl rfl⟩)))
  refine h _ ⟨pWq_lay ht f2 hl, ht, by omega, ?_, ?_, hb, fun r hr => absurd hr (by omega)⟩ ?_ f2
  · rw [zI_self, pk_un (by decide), pk_un (by decide), pk_un (by decide), pk_us]; rfl
  · show zR (zsR σ t _) t 3 = _
    rw [zR_self]
    exact if_pos rfl
  · rw [zI_self, pk_us]
def pWa (t n : Nat) : Nat → Nat → Nat → Prop := fun j c k => (j = 0 ∧ ((c = t ∧ k = 4) ∨ c = t + 8 + 2 * n)) ∨ (j = 2 ∧ c = t + 8 + 2 * n ∧ k = 0)
theorem pWa_q {t n : Nat} {σ σ' : zS} (ht : zk t = 2) (hn : n < 6) (h : zFr (pWa t n) σ σ') : zFr (pWq t) σ σ' := h.mono (fun j c k q => by
  have hk := zf_racer ht hn
  unfold pWa at q
  unfold pWq
  rcases q with ⟨q0, q | q⟩ | q
  · exact Or.inl ⟨q0, Or.inl q.1⟩
  · exact Or.inl ⟨q0, Or.inr (Or.inr (Or.inr ⟨by rw [q]; exact hk, by omega, by omega⟩))⟩
  · exact Or.inr (Or.inr ⟨q.1, Or.inr ⟨by rw [q.2.1]; exact hk, by omega, by omega, q.2.2⟩⟩))
theorem p_add {t n b s : Nat} {F : aFn} {G : Nat → Int} {y : Int32} (hT : pTd σ t n b F) (hn : n < 6) (hs : zk s = 6) (hG : ∀ j, j < 3 → (zI σ s j).toInt = G j) (hy : y.toInt = G 3)
    (h : ∀ σ', pTd σ' t (n + 1) b (aAdd F n G) → (∀ w, 4 ≤ w → w < 11 → (zI σ' (t + 8 + 2 * n) (w - 2)).toInt = aPut (aAdd F n G) n w) → zFr (pWa t n) σ σ' → Q none σ') : zCall (d + 1) kX2_add [.ref t, .ref s, .int y] σ Q := by
  obtain ⟨c1, c2, c3, c4, c5, c6, c7⟩ := hT
  have hk := zf_racer c2 hn
  have ri : zR σ (t + 1) n = some (t + 8 + 2 * n) := by
    refine c1.r ?_
    unfold zRT
    rw [(zf_race c2).1.1]
    show (if n < 6 then some (t + 1 + 7 + 2 * n) else none) = _
    rw [if_pos hn]
  refine (bX2_add_0 c1 c2 hs).mpr ?_
  rw [c4]
  refine zlt' (ai_n (by omega)) k0 (fun q => by omega) (fun _ => zlt' (ai_n (by omega)) k6 (fun _ => ⟨vp_in_nI (by omega) (by decide), ?_⟩) (fun q => by omega))
  rw [nI_clamp (by omega), ri]
  refine (bX2_add_26 c1 c2 hs hk).mpr ?_
  have f1 : zFr (pWa t n) σ (zsR σ (t + 8 + 2 * n) (va_up (zR σ (t + 8 + 2 * n)) 0 (some s))) := zFr_R (Or.inr ⟨rfl, rfl, rfl⟩)
  have f2 : zFr (pWa t n) σ (zsI (zsR σ (t + 8 + 2 * n) (va_up (zR σ (t + 8 + 2 * n)) 0 (some s))) (t + 8 + 2 * n) (upd (zI σ (t + 8 + 2 * n)) 1 y)) := f1.trans (zFr_I (fun k => Or.inl (Or.inl ⟨rfl, Or.inr rfl⟩)))
  have g1 : zI (zsI (zsR σ (t + 8 + 2 * n) (va_up (zR σ (t + 8 + 2 * n)) 0 (some s))) (t + 8 + 2 * n) (upd (zI σ (t + 8 + 2 * n)) 1 y)) (t + 8 + 2 * n) 1 = y := by rw [zI_self, pk_us]
  have g2 : zR (zsI (zsR σ (t + 8 + 2 * n) (va_up (zR σ (t + 8 + 2 * n)) 0 (some s))) (t + 8 + 2 * n) (upd (zI σ (t + 8 + 2 * n)) 1 y)) (t + 8 + 2 * n) 0 = some s := by
    show zR (zsR σ (t + 8 + 2 * n) _) (t + 8 + 2 * n) 0 = _
    rw [zR_self]
    exact if_pos rfl
  have g3 : ∀ c, c ≠ t + 8 + 2 * n → zI (zsI (zsR σ (t + 8 + 2 * n) (va_up (zR σ (t + 8 + 2 * n)) 0 (some s))) (t + 8 + 2 * n) (upd (zI σ (t + 8 + 2 * n)) 1 y)) c = zI σ c := fun c hc => zI_ne hc
  generalize zsI (zsR σ (t + 8 + 2 * n) (va_up (zR σ (t + 8 + 2 * n)) 0 (some s))) (t + 8 + 2 * n) (upd (zI σ (t + 8 + 2 * n)) 1 y) = σ1 at f2 g1 g2 g3 ⊢
  have l1 := pWq_lay c2 (pWa_q c2 hn f2) c1
  refine p_rbegin l1 hk (fun σ2 g f3 => ⟨rfl, ?_⟩)
  have f4 : zFr (pWa t n) σ σ2 := f2.trans (f3.mono (fun j c k q => Or.inl ⟨q.1, Or.inr q.2.1⟩))
  have l2 := pWq_lay c2 (pWa_q c2 hn f4) c1
  refine (bX2_add_41 l2 c2 hs hk).mpr ?_
  have e4 : zI σ2 t 4 = nI n := by rw [f3.i (fun q => by omega), g3 t (by omega)]; exact c4
  have f5 : zFr (pWa t n) σ (zsI σ2 t (upd (zI σ2 t) 4 (zI σ2 t 4 + 1))) := f4.trans (zFr_U (Or.inl ⟨rfl, Or.inl ⟨rfl, rfl⟩⟩))
  have gI : ∀ c k, c ≠ t → zI (zsI σ2 t (upd (zI σ2 t) 4 (zI σ2 t 4 + 1))) c k = zI σ2 c k := fun c k q => by rw [zI_ne q]
  have g4 : zI (zsI σ2 t (upd (zI σ2 t) 4 (zI σ2 t 4 + 1))) t 4 = nI (n + 1) := by rw [zI_self, pk_us, e4, nI_1]
  have gR : zR (zsI σ2 t (upd (zI σ2 t) 4 (zI σ2 t 4 + 1))) (t + 8 + 2 * n) 0 = some s := by
    show zR σ2 (t + 8 + 2 * n) 0 = _
    rw [f3.r (fun q => by omega)]; exact g2
  generalize zsI σ2 t (upd (zI σ2 t) 4 (zI σ2 t 4 + 1)) = σ3 at f5 gI g4 gR ⊢
  obtain ⟨q1, q2, q3, q4, q5, q6, q7, q8⟩ := g
  have eN : ∀ w, aAdd F n G n w = G w := fun w => if_pos rfl
  refine h σ3 ⟨pWq_lay c2 (pWa_q c2 hn f5) c1, c2, by omega, g4, ?_, c6, fun r hr => ?_⟩ (fun w h4 h11 => ?_) f5
  · rw [f5.r (by unfold pWa; omega)]; exact c5
  · by_cases e : r = n
    · subst e
      refine ⟨⟨s, gR, hs, fun j hj => ?_⟩, ?_⟩
      · rw [eN, f5.i (by unfold pWa; intro q; rcases q with ⟨_, q | q⟩ | q <;> first | omega | (rw [q.1] at hs; omega) | (rw [q] at hs; omega))]
        exact hG j hj
      · rw [eN, gI _ _ (by omega), q1, g1]; exact hy
    · have eF : ∀ w, aAdd F n G r w = F r w := fun w => if_neg e
      obtain ⟨⟨s', s1, s2, s3⟩, s4⟩ := c7 r (by omega)
      refine ⟨⟨s', by rw [f5.r (by unfold pWa; omega)]; exact s1, s2, fun j hj => ?_⟩, ?_⟩
      · rw [eF, f5.i (by unfold pWa; intro q; rcases q with ⟨_, q | q⟩ | q <;> first | omega | (rw [q.1] at s2; omega) | (rw [q] at s2; omega))]
        exact s3 j hj
      · rw [eF, f5.i (by unfold pWa; omega)]; exact s4
  · rw [gI _ _ (by omega)]
    rcases (by omega : w = 4 ∨ w = 5 ∨ w = 6 ∨ w = 7 ∨ w = 8 ∨ w = 9 ∨ w = 10) with e | e | e | e | e | e | e <;> subst e
    · show (zI σ2 _ 2).toInt = 0; rw [q2]; rfl
    · show (zI σ2 _ 3).toInt = aAdd F n G n 3; rw [q3, g1, eN]; exact hy
    · show (zI σ2 _ 4).toInt = 0; rw [q4]; rfl
    · show (zI σ2 _ 5).toInt = -1; rw [q5]; rfl
    · show (zI σ2 _ 6).toInt = -1; rw [q6]; rfl
    · show (zI σ2 _ 7).toInt = 0; rw [q7]; rfl
    · show (zI σ2 _ 8).toInt = 0; rw [q8]; rfl
theorem p_holds {b s : Nat} {B : aBk} {W : aWx} {x y hg : Int32} {l : Int} (hl : zLay σ) (g : pBk σ b B) (hB : aBok B) (hs : zk s = 6) (e0 : (zI σ s 0).toInt = l) (hl0 : 1 ≤ l ∧ l ≤ 5) (eh : hg.toInt = W.2.1) (h : Q (some (.int (zb (0 ≤ x.toInt ∧ x.toInt < B.2.2 ∧ aCan B W l x.toInt y.toInt)))) σ) : zCall (d + 1) kX0_holds [.ref b, .ref s, .int x, .int y, .int hg] σ Q := by
  have hB0 := hB.1
  have hB1 := hB.2.1
  have hB2 := hB.2.2.2.1
  refine (bX0_holds_0 hl g.1 hs).mpr (zlt' rfl k0 (fun q => ?_) (fun x0 => zle' g.2.2.1 rfl (fun q => ?_) (fun x1 => zlt' rfl k0 (fun q => ?_) (fun y0 => zle' rfl (zsub g.2.1 e0) (fun y1 => ?_) (fun q => ?_)))))
  · rwa [zb_f (fun z => by omega)] at h
  · rwa [zb_f (fun z => by omega)] at h
  · rwa [zb_f (fun z => by have := z.2.2.1; omega)] at h
  · refine p_stonesBar hl ⟨rfl, (bX0_holds_36 hl g.1 hs).mpr (zt0 (fun c => ?_) (fun c => ?_))⟩
    · refine p_stonesAt hl g (by omega) (fun v hv => ⟨rfl, (bX0_holds_44 hl g.1 hs).mpr (p_lanesFrom hl hs e0 (by omega) (by omega) (fun u hu => ⟨rfl, (bX0_holds_49 hl g.1 hs).mpr (zti (fun q => ?_) (fun q => ?_))⟩))⟩)
      · rw [zb_t] at h
        · exact h
        · refine ⟨x0, x1, y0, by omega, fun k k1 k2 z => ?_⟩
          have e : ((k.toNat : Nat) : Int) = k := by omega
          have := p_and0.mp q k.toNat (by omega)
          rw [hv _ (by omega), hu _ (by omega), e] at this
          exact this ⟨⟨by omega, x1, z.2⟩, k1, k2⟩
      · rw [zb_f] at h
        · exact h
        · rintro ⟨-, -, z⟩
          refine q (p_and0.mpr (fun k hk z2 => ?_))
          rw [hv _ hk, hu _ hk] at z2
          refine z.2.2 k z2.2.1 z2.2.2 ⟨by omega, ?_⟩
          rw [Int.toNat_natCast]
          exact z2.1.2.2
    · rw [zb_t] at h
      · exact h
      · exact ⟨x0, x1, y0, by omega, fun k k1 k2 z => by have := z.1; omega⟩
  · rwa [zb_f (fun z => by have := z.2.2.2.1; omega)] at h
theorem p_fits_l {t n b : Nat} {B : aBk} {W : aWx} {F : aFn} {hg : Int32} (hT : pTd σ t n b F) (g : pBk σ b B) (hB : aBok B) (hst : ∀ r, r < n → 1 ≤ F r 0 ∧ F r 0 ≤ 5) (eh : hg.toInt = W.2.1) (h : Q (some (.int (zb (aFit B W n F)))) σ) :
    ∀ (m i : Nat) (x2 : Int32) (v4 v5 : Value), n - i = m → i ≤ n → v4.category = 1 → v5.category = 1 → (∀ r, r < i → aCan B W (F r 0) 0 (F r 3)) → (∀ r, r < i → ∀ o, o < r → aApart F r o) → (∀ k : Nat, k < 32 → (bt x2 k = true ↔ ∃ r, r < i ∧ F r 3 ≤ k ∧ (k : Int) < F r 3 + F r 0)) → zW (d + 2) kX2_fits 4 [.ref t, .int hg, .int x2, .int (nI i), v4, v5] [] σ Q := by
  have T' := hT
  obtain ⟨c1, c2, c3, c4, c5, c6, c7⟩ := hT
  have hB1 := hB.2.1
  have hB2 := hB.2.2.1
  intro m
  induction m with
  | zero =>
    intro i x2 v4 v5 hm hi h4 h5 hc ha hx
    have e : i = n := by omega
    subst e
    refine (bX2_fits_4 c1 c2 h4 h5).mpr (zti (fun _ => ?_) (fun q => ?_))
    · rwa [zb_t ⟨hc, ha⟩] at h
    · rw [c4] at q
      exact absurd (nI_le (Nat.le_refl _) (by omega)) q
  | succ m ih =>
    intro i x2 v4 v5 hm hi h4 h5 hc ha hx
    have hin : i < n := by omega
    obtain ⟨⟨s, s1, s2, s3⟩, s4⟩ := c7 i hin
    have hk := zf_racer c2 (show i < 6 by omega)
    have hsi := hst i hin
    have ri : zR σ (t + 1) i = some (t + 8 + 2 * i) := by
      refine c1.r ?_
      unfold zRT
      rw [(zf_race c2).1.1]
      show (if i < 6 then some (t + 1 + 7 + 2 * i) else none) = _
      rw [if_pos (by omega)]
    refine (bX2_fits_4 c1 c2 h4 h5).mpr (zti (fun q => ?_) (fun _ => zle' k6 (ai_n (by omega)) (fun q => by omega) (fun _ => ⟨vp_in_nI (by omega) (by decide), ?_⟩)))
    · rw [c4] at q
      exact absurd q (nI_ge hin (by omega))
    rw [nI_clamp (by omega), ri]
    refine (bX2_fits_24 c1 c2 h4 h5 hk).mpr ?_
    rw [c5]
    refine (bX2_fits_30 c1 c2 hk h5 c6).mpr ?_
    rw [s1]
    refine (bX2_fits_35 c1 c2 hk h5 s2 c6).mpr (p_holds c1 g hB s2 (s3 0 (by omega)) hsi eh ⟨rfl, (bX2_fits_45 c1 c2 hk h5).mpr (zt0 (fun c => ?_) (fun c => ?_))⟩)
    · rw [s4, k0] at c
      have cc := c.2.2
      have cc1 := cc.1
      have cc2 := cc.2.1
      rw [s1]
      refine (bX2_fits_55 c1 c2 hk h5 s2).mpr (p_lanesFrom c1 s2 (s3 0 (by omega)) (by omega) (by omega) (fun u hu => ⟨rfl, (bX2_fits_63 c1 c2 hk h5).mpr (zti (fun q => ?_) (fun q => ?_))⟩))
      · rw [nI_1]
        rw [s4] at hu
        refine ih (i + 1) _ _ _ (by omega) (by omega) (zcat_f _) (zcat_i _) (fun r hr => ?_) (fun r hr o ho => ?_) (fun k hk => ?_)
        · by_cases e : r = i
          · rw [e]; exact cc
          · exact hc r (by omega)
        · by_cases e : r = i
          · subst e
            have hco := hc o ho
            have h1 := hco.1
            have h2 := hco.2.1
            have hso := hst o (by omega)
            refine Classical.not_not.mp (fun z => ?_)
            unfold aApart at z
            have := p_and0.mp q (max (F r 3) (F o 3)).toNat (by omega)
            rw [hx _ (by omega), hu _ (by omega)] at this
            exact this ⟨⟨o, ho, by omega, by omega⟩, by omega, by omega⟩
          · exact ha r (by omega) o ho
        · rw [b_or, Bool.or_eq_true, hx k hk, hu k hk]
          constructor
          · rintro (⟨r, r1, r2⟩ | z)
            · exact ⟨r, by omega, r2⟩
            · exact ⟨i, by omega, z⟩
          · rintro ⟨r, r1, r2⟩
            by_cases e : r = i
            · rw [e] at r2; exact Or.inr r2
            · exact Or.inl ⟨r, by omega, r2⟩
      · rw [zb_f] at h
        · exact h
        · rintro ⟨z1, z2⟩
          rw [s4] at hu
          refine q (p_and0.mpr (fun k hk z => ?_))
          rw [hx _ hk, hu _ hk] at z
          obtain ⟨⟨o, o1, o2, o3⟩, o4, o5⟩ := z
          have := z2 i hin o o1
          unfold aApart at this
          omega
    · rw [zb_f] at h
      · exact h
      · rintro ⟨z1, -⟩
        rw [s4, k0] at c
        exact c ⟨by omega, by omega, z1 i hin⟩
theorem p_fits {t n b : Nat} {B : aBk} {W : aWx} {F : aFn} {hg : Int32} (hT : pTd σ t n b F) (g : pBk σ b B) (hB : aBok B) (hst : ∀ r, r < n → 1 ≤ F r 0 ∧ F r 0 ≤ 5) (eh : hg.toInt = W.2.1) (h : Q (some (.int (zb (aFit B W n F)))) σ) : zCall (d + 2) kX2_fits [.ref t, .int hg] σ Q :=
  (bX2_fits_0 hT.1 hT.2.1).mpr (p_fits_l hT g hB hst eh h n 0 0 _ _ rfl (by omega) (zcat_r _) (zcat_r _) (fun r hr => absurd hr (by omega)) (fun r hr => absurd hr (by omega)) (fun k hk => by
    rw [b_0]
    constructor
    · intro q; exact absurd q (by decide)
    · rintro ⟨r, r1, _⟩; omega))
theorem p_placeOf {t n r : Nat} {F : aFn} {B : aBk} {W : aWx} {w : Nat} (C : pCx σ t n B W w) (hF : pF σ t n = F) (hr : r < n) (ho : F r 7 = -1 ↔ F r 8 = -1) (h : ∀ v : Int32, v.toInt = aPl n F r → Q (some (.int v)) σ) : zCall (d + 1) kX2_placeOf [.ref t, .int (nI r)] σ Q := by
  have hn := C.2.2.2.1
  obtain ⟨rr, hkr⟩ := p_run C (show r < 6 by omega)
  refine (bX2_placeOf_0 C.1 C.2.1).mpr (zlt' (ai_n (by omega)) k0 (fun q => by omega) (fun _ => zle' k6 (ai_n (by omega)) (fun q => by omega) (fun _ => ⟨vp_in_nI (by omega) (by decide), ?_⟩)))
  rw [nI_clamp (by omega), rr]
  refine (bX2_placeOf_16 C.1 C.2.1 hkr).mpr (p_isOut C.1 C.2.1 hn hF hr ho ⟨rfl, (bX2_placeOf_19 C.1 C.2.1).mpr (zt0 (fun c => ⟨vp_in_nI (by omega) (by decide), ?_⟩) (fun c => h _ ?_))⟩)
  · rw [nI_clamp (by omega), rr]
    refine (bX2_placeOf_35 C.1 C.2.1 hkr).mpr (h _ ?_)
    unfold aPl
    rw [if_neg c, ← hF, pF_w hr (by omega) (by omega)]
  · unfold aPl
    rw [if_pos (Classical.not_not.mp c), C.2.2.2.2.1, ai_n (by omega)]
theorem p_first {t n : Nat} {F : aFn} {B : aBk} {W : aWx} {w : Nat} (C : pCx σ t n B W w) (hF : pF σ t n = F) (hr : 0 < n) (ho : F 0 7 = -1 ↔ F 0 8 = -1) (h : ∀ v : Int32, v.toInt = (if F 0 7 = -1 then 99 else F 0 7) → Q (some (.int v)) σ) : zCall (d + 1) kX2_ticksOfFirst [.ref t] σ Q := by
  have hn := C.2.2.2.1
  obtain ⟨rr, hkr⟩ := p_run C (show 0 < 6 by omega)
  refine (bX2_ticksOfFirst_0 C.1 C.2.1).mpr ⟨zin' k0, ?_⟩
  show zW _ _ _ _ (va_rf (zR σ (t + 1) 0) :: []) _ _
  rw [rr]
  refine (bX2_ticksOfFirst_6 C.1 C.2.1 hkr).mpr (p_isOut C.1 C.2.1 hn hF hr ho ⟨rfl, (bX2_ticksOfFirst_9 C.1 C.2.1).mpr (zt0 (fun c => ⟨zin' k0, ?_⟩) (fun c => h _ ?_))⟩)
  · show zW _ _ _ _ (va_rf (zR σ (t + 1) 0) :: []) _ _
    rw [rr]
    refine (bX2_ticksOfFirst_18 C.1 C.2.1 hkr).mpr (h _ ?_)
    rw [if_neg c, ← hF, pF_w hr (by omega) (by omega)]
  · rw [if_pos (Classical.not_not.mp c)]; rfl
end PFITS
