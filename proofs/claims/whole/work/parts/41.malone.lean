/-! the model's race held and put back; a stick alone -/
/-- what a question to the model may leave changed -/
def mWq : Nat → Nat → Nat → Prop := fun j c k => (j = 0 ∧ ((c = 139 ∧ 66 ≤ k) ∨ c = 140 ∨ (150 ≤ c ∧ c ≤ 155) ∨ (159 ≤ c ∧ c ≤ 163) ∨ (c = 131 ∧ (k = 0 ∨ (23 ≤ k ∧ k ≤ 26) ∨ k = 50)))) ∨ (j = 1 ∧ c = 131 ∧ k = 32)
/-- and while it runs -/
def mWx : Nat → Nat → Nat → Prop := fun j c k => (j = 0 ∧ (c = 139 ∨ c = 140 ∨ (150 ≤ c ∧ c ≤ 155) ∨ (159 ≤ c ∧ c ≤ 163) ∨ (c = 131 ∧ (k = 0 ∨ (19 ≤ k ∧ k ≤ 26) ∨ k = 50)))) ∨ (j = 1 ∧ c = 131 ∧ (k = 31 ∨ k = 32))
theorem mWq_x {σ σ' : zS} (h : zFr mWq σ σ') : zFr mWx σ σ' := h.mono (fun j c k q => by
  unfold mWq at q
  unfold mWx
  omega)
/-- and while it runs with the race held -/
def mWy : Nat → Nat → Nat → Prop := fun j c k => (j = 0 ∧ (c = 139 ∨ (150 ≤ c ∧ c ≤ 155) ∨ (159 ≤ c ∧ c ≤ 163) ∨ (c = 131 ∧ (k = 0 ∨ (19 ≤ k ∧ k ≤ 22) ∨ k = 50)))) ∨ (j = 1 ∧ c = 131 ∧ k = 31)
theorem mWy_x {σ σ' : zS} (h : zFr mWy σ σ') : zFr mWx σ σ' := h.mono (fun j c k q => by
  unfold mWy at q
  unfold mWx
  omega)
theorem mWr_y {σ σ' : zS} (h : zFr (mWr False) σ σ') : zFr mWy σ σ' := h.mono (fun j c k q => by
  unfold mWr at q
  unfold mWy
  rcases q with ⟨q0, q | q | q | q | q⟩ | q
  · omega
  · omega
  · omega
  · exact absurd q.2 id
  · omega
  · omega)
theorem zI_L {σ : zS} {c : Nat} {f : Nat → Int64} : zI (zsL σ c f) = zI σ := rfl
theorem zL_I {σ : zS} {c : Nat} {f : Nat → Int32} : zL (zsI σ c f) = zL σ := rfl
theorem mWq_2 {c k : Nat} : ¬ mWq 2 c k := by unfold mWq; omega
theorem mWx_2 {c k : Nat} : ¬ mWx 2 c k := by unfold mWx; omega
theorem mWy_2 {c k : Nat} : ¬ mWy 2 c k := by unfold mWy; omega
/-- the race of σ0 is held in σ -/
def mKept (σ0 σ : zS) : Prop := (∀ k, k < 66 → zI σ 140 k = zI σ0 139 k) ∧ zI σ 131 23 = zI σ0 131 19 ∧ zI σ 131 24 = zI σ0 131 20 ∧ zI σ 131 25 = zI σ0 131 21 ∧ zI σ 131 26 = zI σ0 131 22 ∧ zL σ 131 32 = zL σ0 131 31
theorem mKept_y {σ0 σ σ' : zS} (h : mKept σ0 σ) (f : zFr mWy σ σ') : mKept σ0 σ' := by
  obtain ⟨h1, h2, h3, h4, h5, h6⟩ := h
  have g : ∀ k, zI σ' 140 k = zI σ 140 k := fun k => f.i (by unfold mWy; omega)
  refine ⟨fun k q => by rw [g]; exact h1 k q, ?_, ?_, ?_, ?_, ?_⟩
  · rw [f.i (by unfold mWy; omega)]; exact h2
  · rw [f.i (by unfold mWy; omega)]; exact h3
  · rw [f.i (by unfold mWy; omega)]; exact h4
  · rw [f.i (by unfold mWy; omega)]; exact h5
  · rw [f.l (by unfold mWy; omega)]; exact h6
/-- a stick (size, heavy, feather) from a lane, alone -/
noncomputable def aAl (B : aBk) (W : aWx) (G : Nat → Int) (seed : Int64) : Int := if (aRace B W 1 (fun _ => G) seed).2.1 0 7 = -1 then 99 else (aRace B W 1 (fun _ => G) seed).2.1 0 7
def aGst (B : aBk) (G : Nat → Int) : Prop := 1 ≤ G 0 ∧ G 0 ≤ 5 ∧ 0 ≤ G 1 ∧ G 1 ≤ 9 ∧ 0 ≤ G 2 ∧ G 2 ≤ 9 ∧ 0 ≤ G 3 ∧ G 3 + G 0 ≤ B.2.1
theorem aAl_b {B : aBk} {W : aWx} {G : Nat → Int} {seed : Int64} (hB : aBok B) (hW : aWok W) (hG : aGst B G) : 0 ≤ aAl B W G seed ∧ aAl B W G seed ≤ 99 := by
  have i := (aRace_ok (n := 1) (F := fun _ => G) (seed := seed) hB hW (by omega) (fun _ _ => hG)).1.1 0 (by omega)
  unfold aFok at i
  unfold aAl
  split <;> omega
section MALONE
variable {d : Nat} {Q : Option Value → zS → Prop}
theorem m_keep_l {σ0 : zS} :
    ∀ (m i : Nat) (σ : zS), 66 - i = m → i ≤ 66 → zLay σ → (∀ k, k < i → zI σ 140 k = zI σ0 139 k) → zFr (fun j c _ => j = 0 ∧ c = 140) σ0 σ →
    (∀ σ', mKept σ0 σ' → zFr mWq σ0 σ' → zI σ' 139 = zI σ0 139 → (∀ k, k < 23 → zI σ' 131 k = zI σ0 131 k) → zL σ' 131 31 = zL σ0 131 31 → Q none σ') → zW d kX12_keepRace 2 [.ref 131, .int (nI i)] [] σ Q := by
  intro m
  induction m with
  | zero =>
    intro i σ hm hi hl hk hf h
    have e : i = 66 := by omega
    subst e
    have g : zI σ 131 = zI σ0 131 := funext (fun k => hf.i (by omega))
    have gl : zL σ 131 = zL σ0 131 := funext (fun k => hf.l (by omega))
    have g9 : zI σ 139 = zI σ0 139 := funext (fun k => hf.i (by omega))
    refine (bX12_keepRace_2 hl).mpr (zle' k66 (ai_n (by omega)) (fun _ => h _ ⟨fun k q => ?_, ?_, ?_, ?_, ?_, ?_⟩ ?_ ?_ (fun k q => ?_) ?_) (fun q => by omega))
    · rw [zI_L, zI_ne (by decide)]; exact hk k q
    · rw [zI_L, zI_self, pk_un (by decide), pk_un (by decide), pk_un (by decide), pk_us, g]
    · rw [zI_L, zI_self, pk_un (by decide), pk_un (by decide), pk_us, g]
    · rw [zI_L, zI_self, pk_un (by decide), pk_us, g]
    · rw [zI_L, zI_self, pk_us, g]
    · rw [zL_self, pk_uLs, gl]
    · refine ((hf.mono (fun j c k q => ?_)).trans (zFr_I (fun k => ?_))).trans (zFr_L (Or.inr ⟨rfl, rfl, rfl⟩))
      · exact Or.inl ⟨q.1, Or.inr (Or.inl q.2)⟩
      · by_cases e : 23 ≤ k ∧ k ≤ 26
        · exact Or.inl (Or.inl ⟨rfl, by omega⟩)
        · right
          rw [pk_un (by omega), pk_un (by omega), pk_un (by omega), pk_un (by omega)]
    · rw [zI_L, zI_ne (by decide)]; exact g9
    · rw [zI_L, zI_self, pk_un (by omega), pk_un (by omega), pk_un (by omega), pk_un (by omega), g]
    · rw [zL_self, pk_uLn (by decide), gl]
  | succ m ih =>
    intro i σ hm hi hl hk hf h
    refine (bX12_keepRace_2 hl).mpr (zle' k66 (ai_n (by omega)) (fun q => by omega) (fun _ => ⟨vp_in_nI (by omega) (by decide), vp_in_nI (by omega) (by decide), ?_⟩))
    rw [nI_clamp (by omega), nI_1]
    refine ih (i + 1) _ (by omega) (by omega) hl.I (fun k q => ?_) (hf.trans (zFr_U ⟨rfl, rfl⟩)) h
    rw [zI_self]
    by_cases e : k = i
    · rw [e, pk_us, hf.i (by omega)]
    · rw [pk_un e]; exact hk k (by omega)
theorem m_keep {σ : zS} (hl : zLay σ) (h : ∀ σ', mKept σ σ' → zFr mWq σ σ' → zI σ' 139 = zI σ 139 → (∀ k, k < 23 → zI σ' 131 k = zI σ 131 k) → zL σ' 131 31 = zL σ 131 31 → Q none σ') : zCall d kX12_keepRace [.ref 131] σ Q :=
  (bX12_keepRace_0 hl).mpr (m_keep_l 66 0 σ rfl (by omega) hl (fun k q => absurd q (by omega)) (zFr.refl _ _) h)
theorem m_back_l {σ0 σ1 : zS} (hk : mKept σ0 σ1) (f0 : zFr mWx σ0 σ1) :
    ∀ (m i : Nat) (σ : zS), 66 - i = m → i ≤ 66 → zLay σ → (∀ k, k < i → zI σ 139 k = zI σ0 139 k) → zFr (fun j c _ => j = 0 ∧ c = 139) σ1 σ →
    (∀ σ', zFr mWq σ0 σ' → Q none σ') → zW d kX12_putBack 2 [.ref 131, .int (nI i)] [] σ Q := by
  obtain ⟨h1, h2, h3, h4, h5, h6⟩ := hk
  intro m
  induction m with
  | zero =>
    intro i σ hm hi hl hv hf h
    have e : i = 66 := by omega
    subst e
    have g : zI σ 131 = zI σ1 131 := funext (fun k => hf.i (by omega))
    have gl : zL σ 131 = zL σ1 131 := funext (fun k => hf.l (by omega))
    refine (bX12_putBack_2 hl).mpr (zle' k66 (ai_n (by omega)) (fun _ => h _ ?_) (fun q => by omega))
    refine ⟨by show σ.1 = _; rw [hf.1]; exact f0.1, by show σ.2.2 = _; rw [hf.2.1]; exact f0.2.1, fun c k w => ?_, fun c k w => ?_, fun c k w => ?_⟩
    · rw [zI_L]
      by_cases e : c = 131
      · subst e
        rw [zI_self]
        by_cases e22 : k = 22
        · subst e22; rw [pk_us, g]; exact h5
        · rw [pk_un e22]
          by_cases e21 : k = 21
          · subst e21; rw [pk_us, g]; exact h4
          · rw [pk_un e21]
            by_cases e20 : k = 20
            · subst e20; rw [pk_us, g]; exact h3
            · rw [pk_un e20]
              by_cases e19 : k = 19
              · subst e19; rw [pk_us, g]; exact h2
              · rw [pk_un e19, g]
                refine f0.i (fun q => w ?_)
                unfold mWx at q
                unfold mWq
                omega
      · rw [zI_ne e]
        by_cases e9 : c = 139
        · subst e9
          have hk66 : k < 66 := by
            refine Classical.not_not.mp (fun q => w ?_)
            unfold mWq
            omega
          exact hv k hk66
        · rw [hf.i (by omega)]
          refine f0.i (fun q => w ?_)
          unfold mWx at q
          unfold mWq
          omega
    · by_cases e : c = 131
      · subst e
        rw [zL_self]
        by_cases e31 : k = 31
        · subst e31
          rw [pk_uLs, gl]; exact h6
        · rw [pk_uLn e31, gl]
          refine f0.l (fun q => w ?_)
          unfold mWx at q
          unfold mWq
          omega
      · rw [zL_ne e, zL_I, hf.l (by omega)]
        refine f0.l (fun q => w ?_)
        unfold mWx at q
        unfold mWq
        omega
    · show zR σ c k = _
      rw [hf.r (by omega)]
      exact f0.r (fun q => w (by unfold mWx at q; omega))
  | succ m ih =>
    intro i σ hm hi hl hv hf h
    refine (bX12_putBack_2 hl).mpr (zle' k66 (ai_n (by omega)) (fun q => by omega) (fun _ => ⟨vp_in_nI (by omega) (by decide), vp_in_nI (by omega) (by decide), ?_⟩))
    rw [nI_clamp (by omega), nI_1]
    refine ih (i + 1) _ (by omega) (by omega) hl.I (fun k q => ?_) (hf.trans (zFr_U ⟨rfl, rfl⟩)) h
    rw [zI_self]
    by_cases e : k = i
    · rw [e, pk_us, hf.i (by omega)]; exact h1 i (by omega)
    · rw [pk_un e]; exact hv k (by omega)
theorem m_back {σ0 σ : zS} (hl : zLay σ) (hk : mKept σ0 σ) (f0 : zFr mWx σ0 σ) (h : ∀ σ', zFr mWq σ0 σ' → Q none σ') : zCall d kX12_putBack [.ref 131] σ Q :=
  (bX12_putBack_0 hl).mpr (m_back_l hk f0 66 0 σ rfl (by omega) hl (fun k q => absurd q (by omega)) (zFr.refl _ _) h)
def mWj : Nat → Nat → Nat → Prop := fun j c k => j = 0 ∧ (c = 139 ∨ (c = 131 ∧ k = 20))
theorem m_join {σ : zS} {n : Nat} {a0 a1 a2 y : Int32} {G : Nat → Int} (hl : zLay σ) (hn : n < 6) (hm : zI σ 131 20 = nI n) (h43 : zI σ 131 43 = 0) (g0 : a0.toInt = G 0) (g1 : a1.toInt = G 1) (g2 : a2.toInt = G 2) (g3 : y.toInt = G 3)
    (h : ∀ σ', zI σ' 131 20 = nI (n + 1) → (∀ w, w ≤ 3 → mF σ' (n + 1) n w = G w) → (∀ w, 4 ≤ w → w < 11 → mF σ' (n + 1) n w = aPut (fun _ => G) n w) → (∀ r w, r < n → mF σ' (n + 1) r w = mF σ n r w) → zFr mWj σ σ' → Q none σ') : zCall (d + 2) kX12_join [.ref 131, .int a0, .int a1, .int a2, .int y] σ Q := by
  have fw : ∀ (σ : zS) (w : Nat) (v : Int32), zFr mWj σ (mS σ n w v) := fun σ w v => mS_fr (fun _ => ⟨rfl, Or.inl rfl⟩)
  have km : ∀ (σ : zS) (w : Nat) (v : Int32), zI (mS σ n w v) 131 = zI σ 131 := fun σ w v => by unfold mS; exact zI_ne (by decide)
  have hD0 : mHas σ (n + 1) False (mF σ (n + 1), (zI σ 131 22).toInt, zL σ 131 31, False, fun _ => 0) := ⟨rfl, rfl, rfl, by rw [h43, zb_f id], fun q => absurd q id⟩
  refine (bX12_join_0 hl).mpr ?_
  rw [hm]
  refine m_set hl 0 hn (by omega) ⟨rfl, ?_⟩
  have d1 := mS_has hD0 (w := 0) (show n < n + 1 by omega) (by omega) g0
  have l1 := mS_lay (r := n) (w := 0) (v := a0) hl
  have f1 := fw σ 0 a0
  have m1 : zI (mS σ n 0 a0) 131 20 = nI n := by rw [km]; exact hm
  generalize mS σ n 0 a0 = σ1 at d1 l1 f1 m1 ⊢
  refine (bX12_join_10 l1).mpr ?_
  rw [m1]
  refine m_set l1 1 hn (by omega) ⟨rfl, ?_⟩
  have d2 := mS_has d1 (w := 1) (show n < n + 1 by omega) (by omega) g1
  have l2 := mS_lay (r := n) (w := 1) (v := a1) l1
  have f2 := f1.trans (fw σ1 1 a1)
  have m2 : zI (mS σ1 n 1 a1) 131 20 = nI n := by rw [km]; exact m1
  generalize mS σ1 n 1 a1 = σ2 at d2 l2 f2 m2 ⊢
  refine (bX12_join_20 l2).mpr ?_
  rw [m2]
  refine m_set l2 2 hn (by omega) ⟨rfl, ?_⟩
  have d3 := mS_has d2 (w := 2) (show n < n + 1 by omega) (by omega) g2
  have l3 := mS_lay (r := n) (w := 2) (v := a2) l2
  have f3 := f2.trans (fw σ2 2 a2)
  have m3 : zI (mS σ2 n 2 a2) 131 20 = nI n := by rw [km]; exact m2
  generalize mS σ2 n 2 a2 = σ3 at d3 l3 f3 m3 ⊢
  refine (bX12_join_30 l3).mpr ?_
  rw [m3]
  refine m_set l3 3 hn (by omega) ⟨rfl, ?_⟩
  have d4 := mS_has d3 (w := 3) (show n < n + 1 by omega) (by omega) g3
  have l4 := mS_lay (r := n) (w := 3) (v := y) l3
  have f4 := f3.trans (fw σ3 3 y)
  have m4 : zI (mS σ3 n 3 y) 131 20 = nI n := by rw [km]; exact m3
  generalize mS σ3 n 3 y = σ4 at d4 l4 f4 m4 ⊢
  refine (bX12_join_41 l4).mpr ?_
  rw [m4]
  refine m_place l4 (by omega) d4 (show n < n + 1 by omega) (fun σ5 d5 f5 => ⟨rfl, ?_⟩)
  have f5' : zFr mWj σ4 σ5 := f5.mono (fun j c k q => ⟨q.1, Or.inl q.2⟩)
  have l5 : zLay σ5 := f5.lay l4 (fun _ _ _ _ q => by omega)
  have m5 : zI σ5 131 20 = nI n := by rw [f5.i (by omega)]; exact m4
  refine (bX12_join_49 l5).mpr (h _ ?_ (fun w hw => ?_) (fun w h4 h11 => ?_) (fun r w hr => ?_) ((f4.trans f5').trans (zFr_U ⟨rfl, Or.inr ⟨rfl, rfl⟩⟩)))
  · rw [zI_self, pk_us, m5, nI_1]
  all_goals
    have e : ∀ f, mF (zsI σ5 131 f) (n + 1) = mF σ5 (n + 1) := fun f => by unfold mF; rw [zI_ne (by decide)]
    rw [e, d5.1]
  · show (if n = n then aPut _ n w else _) = _
    rw [if_pos rfl, aPut_f (Or.inl hw)]
    rcases (by omega : w = 0 ∨ w = 1 ∨ w = 2 ∨ w = 3) with e | e | e | e <;> subst e
    · show aU (aU (aU (aU _ n 0 (G 0)) n 1 (G 1)) n 2 (G 2)) n 3 (G 3) n 0 = _
      rw [aU_w (by decide), aU_w (by decide), aU_w (by decide), aU_s]
    · show aU (aU (aU (aU _ n 0 (G 0)) n 1 (G 1)) n 2 (G 2)) n 3 (G 3) n 1 = _
      rw [aU_w (by decide), aU_w (by decide), aU_s]
    · show aU (aU (aU (aU _ n 0 (G 0)) n 1 (G 1)) n 2 (G 2)) n 3 (G 3) n 2 = _
      rw [aU_w (by decide), aU_s]
    · show aU (aU (aU (aU _ n 0 (G 0)) n 1 (G 1)) n 2 (G 2)) n 3 (G 3) n 3 = _
      rw [aU_s]
  · show (if n = n then aPut _ n w else _) = _
    rw [if_pos rfl]
    rcases (by omega : w = 4 ∨ w = 5 ∨ w = 6 ∨ w = 7 ∨ w = 8 ∨ w = 9 ∨ w = 10) with e | e | e | e | e | e | e <;> subst e <;> first | rfl | skip
    show aU (aU (aU (aU _ n 0 (G 0)) n 1 (G 1)) n 2 (G 2)) n 3 (G 3) n 3 = _
    rw [aU_s]
    rfl
  · show (if r = n then _ else _) = _
    rw [if_neg (by omega)]
    show aU (aU (aU (aU _ n 0 (G 0)) n 1 (G 1)) n 2 (G 2)) n 3 (G 3) r w = _
    rw [aU_r (by omega), aU_r (by omega), aU_r (by omega), aU_r (by omega)]
    show mF σ (n + 1) r w = mF σ n r w
    unfold mF
    by_cases q : w < 11
    · rw [if_pos ⟨by omega, q⟩, if_pos ⟨hr, q⟩]
    · rw [if_neg (by omega), if_neg (by omega)]
theorem m_alone {σ : zS} {b : Nat} {B : aBk} {W : aWx} {a0 a1 a2 y : Int32} {G : Nat → Int} {seed : Int64} (hl : zLay σ) (hb : b < 7) (eB : mB σ b = B) (hB : aBok B) (eW : mW σ = W) (hW : aWok W) (h43 : zI σ 131 43 = 0) (g0 : a0.toInt = G 0) (g1 : a1.toInt = G 1) (g2 : a2.toInt = G 2) (g3 : y.toInt = G 3) (hG : aGst B G)
    (h : ∀ (v : Int32) (σ' : zS), v.toInt = aAl B W G seed → zFr mWq σ σ' → Q (some (.int v)) σ') : zCall (d + 9) kX12_aloneOf [.ref 131, .int (nI b), .int a0, .int a1, .int a2, .int y, .long seed] σ Q := by
  refine (bX12_aloneOf_0 hl).mpr (m_keep hl (fun σ1 k1 f1 e139 e131 e31 => ⟨rfl, ?_⟩))
  have l1 : zLay σ1 := f1.lay hl (fun _ _ _ _ => mWq_2)
  refine (bX12_aloneOf_4 l1).mpr ?_
  have f2 : zFr mWy σ1 (zsI σ1 131 (upd (upd (zI σ1 131) 19 (nI b)) 20 0)) := zFr_I (fun k => by
    by_cases e : k = 19 ∨ k = 20
    · exact Or.inl (Or.inl ⟨rfl, by omega⟩)
    · right; rw [pk_un (by omega), pk_un (by omega)])
  have m2 : zI (zsI σ1 131 (upd (upd (zI σ1 131) 19 (nI b)) 20 0)) 131 20 = nI 0 := by rw [zI_self, pk_us]; rfl
  have o2 : zI (zsI σ1 131 (upd (upd (zI σ1 131) 19 (nI b)) 20 0)) 131 19 = nI b := by rw [zI_self, pk_un (by decide), pk_us]
  generalize zsI σ1 131 (upd (upd (zI σ1 131) 19 (nI b)) 20 0) = σ2 at f2 m2 o2 ⊢
  have l2 : zLay σ2 := f2.lay l1 (fun _ _ _ _ => mWy_2)
  have z43 : ∀ σ', zFr mWx σ σ' → zI σ' 131 43 = 0 := fun σ' q => by rw [q.i (by unfold mWx; omega)]; exact h43
  have f02 := (mWq_x f1).trans (mWy_x f2)
  refine m_join (d := d + 6) l2 (by omega) m2 (z43 _ f02) g0 g1 g2 g3 (fun σ3 m3 q1 q2 q3 f3 => ⟨rfl, ?_⟩)
  have f3y : zFr mWy σ2 σ3 := f3.mono (fun j c k q => by unfold mWj at q; unfold mWy; omega)
  have l3 : zLay σ3 := f3y.lay l2 (fun _ _ _ _ => mWy_2)
  have f03 := f02.trans (mWy_x f3y)
  have eB3 : mB σ3 b = B := by rw [mB_fr f03 b ⟨fun k => by unfold mWx; omega, fun k => by unfold mWx; omega, fun k => by unfold mWx; omega⟩]; exact eB
  have eW3 : mW σ3 = W := by rw [mW_fr f03 ⟨by unfold mWx; omega, by unfold mWx; omega, by unfold mWx; omega⟩]; exact eW
  have o3 : zI σ3 131 19 = nI b := by rw [f3.i (by unfold mWj; omega)]; exact o2
  have C3 : mCx σ3 1 b B W := ⟨l3, by omega, m3, hb, o3, eB3, eW3, hB, hW⟩
  have eF : ∀ r w, r < 1 → w ≤ 3 → mF σ3 1 r w = (fun _ => G) r w := fun r w hr hw => by
    have : r = 0 := by omega
    subst this
    exact q1 w hw
  refine (bX12_aloneOf_24 l3).mpr (m_goRace C3 rfl (z43 _ f03) (fun r hr => ?_) (fun σ4 hD4 t4 f4 => ⟨rfl, ?_⟩))
  · unfold aFst
    rw [eF r 0 hr (by omega), eF r 1 hr (by omega), eF r 2 hr (by omega), eF r 3 hr (by omega)]
    exact hG
  · rw [aRace_c eF] at hD4
    have f4y := mWr_y f4
    have f04 := f03.trans (mWy_x f4y)
    have l4 : zLay σ4 := f4y.lay l3 (fun _ _ _ _ => mWy_2)
    have k4 : mKept σ σ4 := mKept_y (mKept_y (mKept_y k1 f2) f3y) f4y
    have fin : ∀ v : Int32, v.toInt = aAl B W G seed → zW (d + 9) kX12_aloneOf 50 [.ref 131, .int (nI b), .int a0, .int a1, .int a2, .int y, .long seed, .retAddr 1, .retAddr 0] [.int v] σ4 Q := fun v hv =>
      (bX12_aloneOf_50 l4).mpr (m_back l4 k4 f04 (fun σ5 f5 => ⟨rfl, (bX12_aloneOf_56 (f5.lay hl (fun _ _ _ _ => mWq_2))).mpr (h v σ5 hv f5)⟩))
    refine (bX12_aloneOf_30 l4).mpr (m_isOut (d := d + 7) (r := 0) l4 hD4.1 (by omega) (by omega) ⟨rfl, (bX12_aloneOf_35 l4).mpr (zt0 (fun c => ?_) (fun c => fin 99 ?_))⟩)
    · refine m_of (r := 0) l4 7 hD4.1 (by omega) (by omega) (by omega) (fun v hv => ⟨rfl, (bX12_aloneOf_45 l4).mpr (fin v ?_)⟩)
      unfold aAl
      rw [if_neg c]
      exact hv
    · unfold aAl
      rw [if_pos (Classical.not_not.mp c)]
      rfl
end MALONE
