/-! the model's whole races -/
theorem aPut_u {F : aFn} {r : Nat} : aU (aU (aU (aU (aU (aU (aU F r 4 0) r 5 (F r 3)) r 6 0) r 7 (-1)) r 8 (-1)) r 9 0) r 10 0 = fun r' w => if r' = r then aPut F r w else F r' w := by
  funext r' w
  by_cases e : r' = r
  · subst e
    rw [if_pos rfl]
    unfold aPut
    split
    · rw [aU_w (by decide), aU_w (by decide), aU_w (by decide), aU_w (by decide), aU_w (by decide), aU_w (by decide), aU_s]
    · rw [aU_w (by decide), aU_w (by decide), aU_w (by decide), aU_w (by decide), aU_w (by decide), aU_s]
    · rw [aU_w (by decide), aU_w (by decide), aU_w (by decide), aU_w (by decide), aU_s]
    · rw [aU_w (by decide), aU_w (by decide), aU_w (by decide), aU_s]
    · rw [aU_w (by decide), aU_w (by decide), aU_s]
    · rw [aU_w (by decide), aU_s]
    · rw [aU_s]
    · rename_i h4 h5 h6 h7 h8 h9 h10
      rw [aU_w h10, aU_w h9, aU_w h8, aU_w h7, aU_w h6, aU_w h5, aU_w h4]
  · rw [if_neg e, aU_r e, aU_r e, aU_r e, aU_r e, aU_r e, aU_r e, aU_r e]
theorem aPut_f {F : aFn} {r w : Nat} (h : w ≤ 3 ∨ 10 < w) : aPut F r w = F r w := by
  unfold aPut
  split <;> first | omega | rfl
theorem aBeg_c {n : Nat} {F F' : aFn} (h : ∀ r w, r < n → w ≤ 3 → F r w = F' r w) : aBeg n F = aBeg n F' := by
  funext r w
  unfold aBeg
  by_cases c : r < n ∧ w < 11
  · rw [if_pos c, if_pos c]
    by_cases c3 : w ≤ 3
    · rw [aPut_f (Or.inl c3), aPut_f (Or.inl c3)]
      exact h r w c.1 c3
    · rcases (by omega : w = 4 ∨ w = 5 ∨ w = 6 ∨ w = 7 ∨ w = 8 ∨ w = 9 ∨ w = 10) with e | e | e | e | e | e | e <;> subst e <;> first | rfl | exact h r 3 c.1 (by decide)
  · rw [if_neg c, if_neg c]
theorem aRace_c {B : aBk} {W : aWx} {n : Nat} {F F' : aFn} {seed : Int64} (h : ∀ r w, r < n → w ≤ 3 → F r w = F' r w) : aRace B W n F seed = aRace B W n F' seed := by
  unfold aRace
  rw [aBeg_c h]
theorem aBeg_ok {B : aBk} {n : Nat} {F : aFn} {X : Int64 × Prop × (Nat → Int)} (hB : aBok B) (h : ∀ r, r < n → aFst B F r) : aDok B n (aBeg n F, 0, X) := by
  have e : ∀ r w, r < n → w < 11 → aBeg n F r w = aPut F r w := fun r w h1 h2 => if_pos ⟨h1, h2⟩
  have hb := hB.2.2.1
  refine ⟨fun r hr => ?_, Int.le_refl _, ?_⟩
  · have hr2 := h r hr
    unfold aFok aFst at *
    dsimp only
    rw [e r 0 hr (by decide), e r 1 hr (by decide), e r 2 hr (by decide), e r 3 hr (by decide), e r 4 hr (by decide), e r 5 hr (by decide), e r 6 hr (by decide), e r 7 hr (by decide), e r 8 hr (by decide)]
    show (1 ≤ F r 0 ∧ F r 0 ≤ 5 ∧ 0 ≤ F r 1 ∧ F r 1 ≤ 9 ∧ 0 ≤ F r 2 ∧ F r 2 ≤ 9 ∧ 0 ≤ F r 3 ∧ F r 3 + F r 0 ≤ B.2.1) ∧ 0 ≤ F r 3 ∧ F r 3 + F r 0 ≤ B.2.1 ∧ (0 : Int) ≤ 0 ∧ (0 : Int) ≤ B.2.2 ∧ ((-1 : Int) = -1 → (0 : Int) < B.2.2) ∧ (0 : Int) ≤ 0 ∧ ((-1 : Int) = -1 → (0 : Int) ≤ 3) ∧ ((-1 : Int) = -1 ↔ (-1 : Int) = -1) ∧ (-1 : Int) ≤ -1 ∧ (-1 : Int) ≤ 60 ∧ (-1 : Int) ≤ -1 ∧ (-1 : Int) ≤ 5
    omega
  · have hin : ∀ m, m ≤ n → aIn (aBeg n F) m = m := by
      intro m
      induction m with
      | zero => intro _; rfl
      | succ m ih =>
        intro hm
        unfold aIn
        rw [ih (by omega), e m 7 (by omega) (by decide)]
        show (m : Int) + (if (-1 : Int) = -1 then 1 else 0) = _
        rw [if_pos rfl]
        omega
    show 0 + aIn (aBeg n F) n = n
    rw [hin n (Nat.le_refl _)]
    omega
theorem aRace_ok {B : aBk} {W : aWx} {n : Nat} {F : aFn} {seed : Int64} (hB : aBok B) (hW : aWok W) (hn : n ≤ 6) (h : ∀ r, r < n → aFst B F r) : aDok B n (aRace B W n F seed).2 ∧ 0 ≤ (aRace B W n F seed).1 ∧ (aRace B W n F seed).1 ≤ 60 ∧ ∀ r w, r < n → w ≤ 3 → (aRace B W n F seed).2.1 r w = F r w := by
  have i := aRun_ok hB hW hn 60 (0, aBeg n F, 0, seed, False, fun _ => 0) (Int.le_refl _) (by show (0 : Int) ≤ 60; decide) (aBeg_ok hB h)
  refine ⟨i.1, i.2.1, i.2.2.1, fun r w hr hw => (i.2.2.2 r w hw).trans ?_⟩
  show aBeg n F r w = F r w
  unfold aBeg
  rw [if_pos ⟨hr, by omega⟩]
  exact aPut_f (Or.inl hw)
section MRACE
variable {d : Nat} {Q : Option Value → zS → Prop}
theorem m_place {σ : zS} {n r : Nat} {rec : Prop} {D : aD} (hl : zLay σ) (hn : n ≤ 6) (hD : mHas σ n rec D) (hr : r < n) (h : ∀ σ', mHas σ' n rec (fun r' w => if r' = r then aPut D.1 r w else D.1 r' w, D.2) → zFr (fun j c _ => j = 0 ∧ c = 139) σ σ' → Q none σ') : zCall (d + 1) kX12_place [.ref 131, .int (nI r)] σ Q := by
  have fw : ∀ (σ : zS) (w : Nat) (v : Int32), zFr (fun j c _ => j = 0 ∧ c = 139) σ (mS σ r w v) := fun σ w v => mS_fr (fun _ => ⟨rfl, rfl⟩)
  have lw : ∀ (σ : zS) (w : Nat) (v : Int32), zLay σ → zLay (mS σ r w v) := fun σ w v q => mS_lay q
  refine (bX12_place_0 hl).mpr (m_set hl 4 (by omega) (by omega) ⟨rfl, ?_⟩)
  have h1 := mS_has hD (w := 4) hr (by omega) k0
  have l1 := lw σ 4 0 hl
  have f1 := fw σ 4 0
  generalize mS σ r 4 0 = σ1 at h1 l1 f1 ⊢
  refine (bX12_place_7 l1).mpr (m_of l1 3 h1.1 hn hr (by omega) (fun v hv => ⟨rfl, (bX12_place_16 l1).mpr (m_set l1 5 (by omega) (by omega) ⟨rfl, ?_⟩)⟩))
  replace hv : v.toInt = D.1 r 3 := hv.trans (aU_w (by decide))
  have h2 := mS_has h1 (w := 5) hr (by omega) hv
  have l2 := lw σ1 5 v l1
  have f2 := f1.trans (fw σ1 5 v)
  generalize mS σ1 r 5 v = σ2 at h2 l2 f2 ⊢
  refine (bX12_place_19 l2).mpr (m_set l2 6 (by omega) (by omega) ⟨rfl, ?_⟩)
  have h3 := mS_has h2 (w := 6) hr (by omega) k0
  have l3 := lw σ2 6 0 l2
  have f3 := f2.trans (fw σ2 6 0)
  generalize mS σ2 r 6 0 = σ3 at h3 l3 f3 ⊢
  refine (bX12_place_27 l3).mpr (m_set l3 7 (by omega) (by omega) ⟨rfl, ?_⟩)
  have h4 := mS_has h3 (w := 7) hr (by omega) km1
  have l4 := lw σ3 7 (-1) l3
  have f4 := f3.trans (fw σ3 7 (-1))
  generalize mS σ3 r 7 (-1) = σ4 at h4 l4 f4 ⊢
  refine (bX12_place_35 l4).mpr (m_set l4 8 (by omega) (by omega) ⟨rfl, ?_⟩)
  have h5 := mS_has h4 (w := 8) hr (by omega) km1
  have l5 := lw σ4 8 (-1) l4
  have f5 := f4.trans (fw σ4 8 (-1))
  generalize mS σ4 r 8 (-1) = σ5 at h5 l5 f5 ⊢
  refine (bX12_place_43 l5).mpr (m_set l5 9 (by omega) (by omega) ⟨rfl, ?_⟩)
  have h6 := mS_has h5 (w := 9) hr (by omega) k0
  have l6 := lw σ5 9 0 l5
  have f6 := f5.trans (fw σ5 9 0)
  generalize mS σ5 r 9 0 = σ6 at h6 l6 f6 ⊢
  refine (bX12_place_51 l6).mpr (m_set l6 10 (by omega) (by omega) ⟨rfl, ?_⟩)
  have h7 := mS_has h6 (w := 10) hr (by omega) k0
  have l7 := lw σ6 10 0 l6
  have f7 := f6.trans (fw σ6 10 0)
  generalize mS σ6 r 10 0 = σ7 at h7 l7 f7 ⊢
  refine (bX12_place_59 l7).mpr (h σ7 ?_ f7)
  rw [← aPut_u]
  exact h7
theorem m_begin_l {n : Nat} {D : aD} {j1 : Int64} (hn : n ≤ 6) :
    ∀ (m i : Nat) (σ : zS), n - i = m → i ≤ n → zLay σ → zI σ 131 20 = nI n → mHas σ n False (fun r w => if r < i then aPut D.1 r w else D.1 r w, D.2) →
    (∀ σ', mHas σ' n False (fun r w => if r < n then aPut D.1 r w else D.1 r w, 0, j1, False, fun _ => 0) → (zI σ' 131 21).toInt = 0 → zFr (mWr False) σ σ' → Q none σ') → zW (d + 2) kX12_begin_ 2 [.ref 131, .long j1, .retAddr 1, .int (nI i)] [] σ Q := by
  intro m
  induction m with
  | zero =>
    intro i σ hm hi hl hmm hD h
    have e : i = n := by omega
    subst e
    obtain ⟨d1, d2, d3, d4, d5⟩ := hD
    refine (bX12_begin__2 hl).mpr (zti (fun e => h _ ⟨?_, ?_, ?_, ?_, fun q => absurd q id⟩ ?_ ((zFr_L (Or.inr ⟨rfl, rfl, rfl⟩)).trans (zFr_I (fun k => ?_)))) (fun e => ?_))
    · unfold mF; rw [zI_ne (by decide)]; exact d1
    · rw [zI_self, pk_us]; rfl
    · show zL (zsL σ 131 _) 131 31 = _
      rw [zL_self, pk_uLs]
    · rw [zI_self, pk_un (by decide), pk_un (by decide)]; exact d4
    · rw [zI_self, pk_un (by decide), pk_us]; rfl
    · by_cases e1 : k = 22
      · exact Or.inl (Or.inl ⟨rfl, Or.inr (Or.inr (Or.inr (Or.inr ⟨rfl, Or.inr e1⟩)))⟩)
      · by_cases e2 : k = 21
        · exact Or.inl (Or.inl ⟨rfl, Or.inr (Or.inr (Or.inr (Or.inr ⟨rfl, Or.inl e2⟩)))⟩)
        · rw [pk_un e1, pk_un e2]
          exact Or.inr rfl
    · rw [hmm] at e
      exact absurd (nI_le (Nat.le_refl _) (by omega)) e
  | succ m ih =>
    intro i σ hm hi hl hmm hD h
    refine (bX12_begin__2 hl).mpr (zti (fun e => ?_) (fun e => ?_))
    · rw [hmm] at e
      exact absurd e (nI_ge (by omega) (by omega))
    · refine m_place hl hn hD (show i < n by omega) (fun σ1 hD1 f1 => ⟨rfl, ?_⟩)
      have g1 : zFr (mWr False) σ σ1 := f1.mono (fun j c k q => Or.inl ⟨q.1, Or.inl q.2⟩)
      have l1 : zLay σ1 := g1.lay hl (fun _ _ _ _ => mWr_2)
      refine (bX12_begin__15 l1).mpr ?_
      rw [nI_1]
      refine ih (i + 1) σ1 (by omega) (by omega) l1 (by rw [g1.i (mWr_0 (by omega))]; exact hmm) ?_ (fun σ' q1 q2 q3 => h σ' q1 q2 (g1.trans q3))
      have e : (fun r' w => if r' = i then aPut (fun r w => if r < i then aPut D.1 r w else D.1 r w) i w else (if r' < i then aPut D.1 r' w else D.1 r' w)) = (fun r w => if r < i + 1 then aPut D.1 r w else D.1 r w) := by
        funext r w
        by_cases e1 : r = i
        · subst e1
          rw [if_pos rfl, if_pos (by omega)]
          unfold aPut
          simp only [Nat.lt_irrefl, if_false]
        · rw [if_neg e1]
          by_cases e2 : r < i
          · rw [if_pos e2, if_pos (by omega)]
          · rw [if_neg e2, if_neg (by omega)]
      rw [← e]
      exact hD1
theorem mF_0 {σ : zS} {n r w : Nat} (h : ¬ (r < n ∧ w < 11)) : mF σ n r w = 0 := if_neg h
theorem m_begin {σ : zS} {n : Nat} {F : aFn} {j1 : Int64} (hl : zLay σ) (hn : n ≤ 6) (hm : zI σ 131 20 = nI n) (hF : mF σ n = F) (h43 : zI σ 131 43 = 0)
    (h : ∀ σ', mHas σ' n False (aBeg n F, 0, j1, False, fun _ => 0) → (zI σ' 131 21).toInt = 0 → zFr (mWr False) σ σ' → Q none σ') : zCall (d + 2) kX12_begin_ [.ref 131, .long j1] σ Q := by
  refine (bX12_begin__0 hl).mpr (m_begin_l (D := (F, (zI σ 131 22).toInt, zL σ 131 31, False, fun _ => 0)) hn n 0 σ rfl (by omega) hl hm ⟨hF, rfl, rfl, by rw [h43, zb_f id], fun q => absurd q id⟩ (fun σ' q1 q2 q3 => h σ' ?_ q2 q3))
  have e : (fun r w => if r < n then aPut F r w else F r w) = aBeg n F := by
    funext r w
    unfold aBeg
    by_cases c : r < n
    · rw [if_pos c]
      by_cases c2 : w < 11
      · rw [if_pos ⟨c, c2⟩]
      · rw [if_neg (by omega)]
        rw [aPut_f (by omega), ← hF]
        exact mF_0 (by omega)
    · rw [if_neg c, if_neg (by omega), ← hF]
      exact mF_0 (by omega)
  rw [← e]
  exact q1
theorem m_goRace {σ : zS} {n bi : Nat} {B : aBk} {W : aWx} {F : aFn} {j1 : Int64} (C : mCx σ n bi B W) (hF : mF σ n = F) (h43 : zI σ 131 43 = 0) (hst : ∀ r, r < n → aFst B F r)
    (h : ∀ σ', mHas σ' n False (aRace B W n F j1).2 → (zI σ' 131 21).toInt = (aRace B W n F j1).1 → zFr (mWr False) σ σ' → Q none σ') : zCall (d + 8) kX12_goRace [.ref 131, .long j1] σ Q := by
  refine (bX12_goRace_0 C.1).mpr (m_begin (d := d + 5) C.1 C.2.1 C.2.2.1 hF h43 (fun σ1 hD1 ht1 f1 => ⟨rfl, ?_⟩))
  exact m_race_l 60 σ1 (0, aBeg n F, 0, j1, False, fun _ => 0) rfl (mCx_fr f1 C) hD1 (aBeg_ok C.2.2.2.2.2.2.2.1 hst) ht1 (Int.le_refl _) (by show (0 : Int) ≤ 60; decide) (fun σ' q1 q2 q3 => h σ' q1 q2 (f1.trans q3))
end MRACE
