/-! the stick alone, with the frame that leaves the tables alone -/
/-- what a question to the model may leave changed -/
def nWq : Nat → Nat → Nat → Prop := fun j c k => (j = 0 ∧ ((c = 139 ∧ 66 ≤ k) ∨ c = 140 ∨ c = 150 ∨ c = 151 ∨ (c = 131 ∧ 23 ≤ k ∧ k ≤ 26))) ∨ (j = 1 ∧ c = 131 ∧ k = 32)
/-- and while it runs -/
def nWx : Nat → Nat → Nat → Prop := fun j c k => (j = 0 ∧ (c = 139 ∨ c = 140 ∨ c = 150 ∨ c = 151 ∨ (c = 131 ∧ 19 ≤ k ∧ k ≤ 26))) ∨ (j = 1 ∧ c = 131 ∧ (k = 31 ∨ k = 32))
theorem nWq_x {σ σ' : zS} (h : zFr nWq σ σ') : zFr nWx σ σ' := h.mono (fun j c k q => by
  unfold nWq at q
  unfold nWx
  omega)
/-- and while it runs with the race held -/
def nWy : Nat → Nat → Nat → Prop := fun j c k => (j = 0 ∧ (c = 139 ∨ c = 150 ∨ c = 151 ∨ (c = 131 ∧ 19 ≤ k ∧ k ≤ 22))) ∨ (j = 1 ∧ c = 131 ∧ k = 31)
theorem nWy_x {σ σ' : zS} (h : zFr nWy σ σ') : zFr nWx σ σ' := h.mono (fun j c k q => by
  unfold nWy at q
  unfold nWx
  omega)
theorem nWr_y {σ σ' : zS} (h : zFr (mWr False) σ σ') : zFr nWy σ σ' := h.mono (fun j c k q => by
  unfold mWr at q
  unfold nWy
  rcases q with ⟨q0, q | q | q | q | q⟩ | q
  · omega
  · omega
  · omega
  · exact absurd q.2 id
  · omega
  · omega)
theorem nWq_2 {c k : Nat} : ¬ nWq 2 c k := by unfold nWq; omega
theorem nWx_2 {c k : Nat} : ¬ nWx 2 c k := by unfold nWx; omega
theorem nWy_2 {c k : Nat} : ¬ nWy 2 c k := by unfold nWy; omega
theorem nKept_y {σ0 σ σ' : zS} (h : mKept σ0 σ) (f : zFr nWy σ σ') : mKept σ0 σ' := by
  obtain ⟨h1, h2, h3, h4, h5, h6⟩ := h
  have g : ∀ k, zI σ' 140 k = zI σ 140 k := fun k => f.i (by unfold nWy; omega)
  refine ⟨fun k q => by rw [g]; exact h1 k q, ?_, ?_, ?_, ?_, ?_⟩
  · rw [f.i (by unfold nWy; omega)]; exact h2
  · rw [f.i (by unfold nWy; omega)]; exact h3
  · rw [f.i (by unfold nWy; omega)]; exact h4
  · rw [f.i (by unfold nWy; omega)]; exact h5
  · rw [f.l (by unfold nWy; omega)]; exact h6
section NALONE
variable {d : Nat} {Q : Option Value → zS → Prop}
theorem n_keep_l {σ0 : zS} :
    ∀ (m i : Nat) (σ : zS), 66 - i = m → i ≤ 66 → zLay σ → (∀ k, k < i → zI σ 140 k = zI σ0 139 k) → zFr (fun j c _ => j = 0 ∧ c = 140) σ0 σ →
    (∀ σ', mKept σ0 σ' → zFr nWq σ0 σ' → zI σ' 139 = zI σ0 139 → (∀ k, k < 23 → zI σ' 131 k = zI σ0 131 k) → zL σ' 131 31 = zL σ0 131 31 → Q none σ') → zW d kX12_keepRace 2 [.ref 131, .int (nI i)] [] σ Q := by
  intro m
  induction m with
  | zero =>
    intro i σ hm hi hl hk hf h
    have e : i = 66 := by omega
    subst e
    have g : zI σ 131 = zI σ0 131 := funext (fun k => hf.i (by omega))
    have gl : zL σ 131 = zL σ0 131 := funext (fun k => hf.l (by omega))
    have g9 : zI σ 139 = zI σ0 139 := funext (fun k => hf.i (by omega))
    refine (bX12_keepRace_2 hl).mpr (zle' k66 (ai_n (by omega)) (fun _ => h _ ⟨fun k q => ?_, ?_, ?_, ?_, ?_, ?_⟩ ?_ ?_ (fun k q => ?_) ?_) (fun q => by omega))
    · rw [zI_L, zI_ne (by decide)]; exact hk k q
    · rw [zI_L, zI_self, pk_un (by decide), pk_un (by decide), pk_un (by decide), pk_us, g]
    · rw [zI_L, zI_self, pk_un (by decide), pk_un (by decide), pk_us, g]
    · rw [zI_L, zI_self, pk_un (by decide), pk_us, g]
    · rw [zI_L, zI_self, pk_us, g]
    · rw [zL_self, pk_uLs, gl]
    · refine ((hf.mono (fun j c k q => ?_)).trans (zFr_I (fun k => ?_))).trans (zFr_L (Or.inr ⟨rfl, rfl, rfl⟩))
      · exact Or.inl ⟨q.1, Or.inr (Or.inl q.2)⟩
      · by_cases e : 23 ≤ k ∧ k ≤ 26
        · exact Or.inl (Or.inl ⟨rfl, by omega⟩)
        · right
          rw [pk_un (by omega), pk_un (by omega), pk_un (by omega), pk_un (by omega)]
    · rw [zI_L, zI_ne (by decide)]; exact g9
    · rw [zI_L, zI_self, pk_un (by omega), pk_un (by omega), pk_un (by omega), pk_un (by omega), g]
    · rw [zL_self, pk_uLn (by decide), gl]
  | succ m ih =>
    intro i σ hm hi hl hk hf h
    refine (bX12_keepRace_2 hl).mpr (zle' k66 (ai_n (by omega)) (fun q => by omega) (fun _ => ⟨vp_in_nI (by omega) (by decide), vp_in_nI (by omega) (by decide), ?_⟩))
    rw [nI_clamp (by omega), nI_1]
    refine ih (i + 1) _ (by omega) (by omega) hl.I (fun k q => ?_) (hf.trans (zFr_U ⟨rfl, rfl⟩)) h
    rw [zI_self]
    by_cases e : k = i
    · rw [e, pk_us, hf.i (by omega)]
    · rw [pk_un e]; exact hk k (by omega)
theorem n_keep {σ : zS} (hl : zLay σ) (h : ∀ σ', mKept σ σ' → zFr nWq σ σ' → zI σ' 139 = zI σ 139 → (∀ k, k < 23 → zI σ' 131 k = zI σ 131 k) → zL σ' 131 31 = zL σ 131 31 → Q none σ') : zCall d kX12_keepRace [.ref 131] σ Q :=
  (bX12_keepRace_0 hl).mpr (n_keep_l 66 0 σ rfl (by omega) hl (fun k q => absurd q (by omega)) (zFr.refl _ _) h)
theorem n_back_l {σ0 σ1 : zS} (hk : mKept σ0 σ1) (f0 : zFr nWx σ0 σ1) :
    ∀ (m i : Nat) (σ : zS), 66 - i = m → i ≤ 66 → zLay σ → (∀ k, k < i → zI σ 139 k = zI σ0 139 k) → zFr (fun j c _ => j = 0 ∧ c = 139) σ1 σ →
    (∀ σ', zFr nWq σ0 σ' → Q none σ') → zW d kX12_putBack 2 [.ref 131, .int (nI i)] [] σ Q := by
  obtain ⟨h1, h2, h3, h4, h5, h6⟩ := hk
  intro m
  induction m with
  | zero =>
    intro i σ hm hi hl hv hf h
    have e : i = 66 := by omega
    subst e
    have g : zI σ 131 = zI σ1 131 := funext (fun k => hf.i (by omega))
    have gl : zL σ 131 = zL σ1 131 := funext (fun k => hf.l (by omega))
    refine (bX12_putBack_2 hl).mpr (zle' k66 (ai_n (by omega)) (fun _ => h _ ?_) (fun q => by omega))
    refine ⟨by show σ.1 = _; rw [hf.1]; exact f0.1, by show σ.2.2 = _; rw [hf.2.1]; exact f0.2.1, fun c k w => ?_, fun c k w => ?_, fun c k w => ?_⟩
    · rw [zI_L]
      by_cases e : c = 131
      · subst e
        rw [zI_self]
        by_cases e22 : k = 22
        · subst e22; rw [pk_us, g]; exact h5
        · rw [pk_un e22]
          by_cases e21 : k = 21
          · subst e21; rw [pk_us, g]; exact h4
          · rw [pk_un e21]
            by_cases e20 : k = 20
            · subst e20; rw [pk_us, g]; exact h3
            · rw [pk_un e20]
              by_cases e19 : k = 19
              · subst e19; rw [pk_us, g]; exact h2
              · rw [pk_un e19, g]
                refine f0.i (fun q => w ?_)
                unfold nWx at q
                unfold nWq
                omega
      · rw [zI_ne e]
        by_cases e9 : c = 139
        · subst e9
          have hk66 : k < 66 := by
            refine Classical.not_not.mp (fun q => w ?_)
            unfold nWq
            omega
          exact hv k hk66
        · rw [hf.i (by omega)]
          refine f0.i (fun q => w ?_)
          unfold nWx at q
          unfold nWq
          omega
    · by_cases e : c = 131
      · subst e
        rw [zL_self]
        by_cases e31 : k = 31
        · subst e31
          rw [pk_uLs, gl]; exact h6
        · rw [pk_uLn e31, gl]
          refine f0.l (fun q => w ?_)
          unfold nWx at q
          unfold nWq
          omega
      · rw [zL_ne e, zL_I, hf.l (by omega)]
        refine f0.l (fun q => w ?_)
        unfold nWx at q
        unfold nWq
        omega
    · show zR σ c k = _
      rw [hf.r (by omega)]
      exact f0.r (fun q => w (by unfold nWx at q; omega))
  | succ m ih =>
    intro i σ hm hi hl hv hf h
    refine (bX12_putBack_2 hl).mpr (zle' k66 (ai_n (by omega)) (fun q => by omega) (fun _ => ⟨vp_in_nI (by omega) (by decide), vp_in_nI (by omega) (by decide), ?_⟩))
    rw [nI_clamp (by omega), nI_1]
    refine ih (i + 1) _ (by omega) (by omega) hl.I (fun k q => ?_) (hf.trans (zFr_U ⟨rfl, rfl⟩)) h
    rw [zI_self]
    by_cases e : k = i
    · rw [e, pk_us, hf.i (by omega)]; exact h1 i (by omega)
    · rw [pk_un e]; exact hv k (by omega)
theorem n_back {σ0 σ : zS} (hl : zLay σ) (hk : mKept σ0 σ) (f0 : zFr nWx σ0 σ) (h : ∀ σ', zFr nWq σ0 σ' → Q none σ') : zCall d kX12_putBack [.ref 131] σ Q :=
  (bX12_putBack_0 hl).mpr (n_back_l hk f0 66 0 σ rfl (by omega) hl (fun k q => absurd q (by omega)) (zFr.refl _ _) h)
theorem n_alone {σ : zS} {b : Nat} {B : aBk} {W : aWx} {a0 a1 a2 y : Int32} {G : Nat → Int} {seed : Int64} (hl : zLay σ) (hb : b < 7) (eB : mB σ b = B) (hB : aBok B) (eW : mW σ = W) (hW : aWok W) (h43 : zI σ 131 43 = 0) (g0 : a0.toInt = G 0) (g1 : a1.toInt = G 1) (g2 : a2.toInt = G 2) (g3 : y.toInt = G 3) (hG : aGst B G)
    (h : ∀ (v : Int32) (σ' : zS), v.toInt = aAl B W G seed → zFr nWq σ σ' → Q (some (.int v)) σ') : zCall (d + 9) kX12_aloneOf [.ref 131, .int (nI b), .int a0, .int a1, .int a2, .int y, .long seed] σ Q := by
  refine (bX12_aloneOf_0 hl).mpr (n_keep hl (fun σ1 k1 f1 e139 e131 e31 => ⟨rfl, ?_⟩))
  have l1 : zLay σ1 := f1.lay hl (fun _ _ _ _ => nWq_2)
  refine (bX12_aloneOf_4 l1).mpr ?_
  have f2 : zFr nWy σ1 (zsI σ1 131 (upd (upd (zI σ1 131) 19 (nI b)) 20 0)) := zFr_I (fun k => by
    by_cases e : k = 19 ∨ k = 20
    · exact Or.inl (Or.inl ⟨rfl, by omega⟩)
    · right; rw [pk_un (by omega), pk_un (by omega)])
  have m2 : zI (zsI σ1 131 (upd (upd (zI σ1 131) 19 (nI b)) 20 0)) 131 20 = nI 0 := by rw [zI_self, pk_us]; rfl
  have o2 : zI (zsI σ1 131 (upd (upd (zI σ1 131) 19 (nI b)) 20 0)) 131 19 = nI b := by rw [zI_self, pk_un (by decide), pk_us]
  generalize zsI σ1 131 (upd (upd (zI σ1 131) 19 (nI b)) 20 0) = σ2 at f2 m2 o2 ⊢
  have l2 : zLay σ2 := f2.lay l1 (fun _ _ _ _ => nWy_2)
  have z43 : ∀ σ', zFr nWx σ σ' → zI σ' 131 43 = 0 := fun σ' q => by rw [q.i (by unfold nWx; omega)]; exact h43
  have f02 := (nWq_x f1).trans (nWy_x f2)
  refine m_join (d := d + 6) l2 (by omega) m2 (z43 _ f02) g0 g1 g2 g3 (fun σ3 m3 q1 q2 q3 f3 => ⟨rfl, ?_⟩)
  have f3y : zFr nWy σ2 σ3 := f3.mono (fun j c k q => by unfold mWj at q; unfold nWy; omega)
  have l3 : zLay σ3 := f3y.lay l2 (fun _ _ _ _ => nWy_2)
  have f03 := f02.trans (nWy_x f3y)
  have eB3 : mB σ3 b = B := by rw [mB_fr f03 b ⟨fun k => by unfold nWx; omega, fun k => by unfold nWx; omega, fun k => by unfold nWx; omega⟩]; exact eB
  have eW3 : mW σ3 = W := by rw [mW_fr f03 ⟨by unfold nWx; omega, by unfold nWx; omega, by unfold nWx; omega⟩]; exact eW
  have o3 : zI σ3 131 19 = nI b := by rw [f3.i (by unfold mWj; omega)]; exact o2
  have C3 : mCx σ3 1 b B W := ⟨l3, by omega, m3, hb, o3, eB3, eW3, hB, hW⟩
  have eF : ∀ r w, r < 1 → w ≤ 3 → mF σ3 1 r w = (fun _ => G) r w := fun r w hr hw => by
    have : r = 0 := by omega
    subst this
    exact q1 w hw
  refine (bX12_aloneOf_24 l3).mpr (m_goRace C3 rfl (z43 _ f03) (fun r hr => ?_) (fun σ4 hD4 t4 f4 => ⟨rfl, ?_⟩))
  · unfold aFst
    rw [eF r 0 hr (by omega), eF r 1 hr (by omega), eF r 2 hr (by omega), eF r 3 hr (by omega)]
    exact hG
  · rw [aRace_c eF] at hD4
    have f4y := nWr_y f4
    have f04 := f03.trans (nWy_x f4y)
    have l4 : zLay σ4 := f4y.lay l3 (fun _ _ _ _ => nWy_2)
    have k4 : mKept σ σ4 := nKept_y (nKept_y (nKept_y k1 f2) f3y) f4y
    have fin : ∀ v : Int32, v.toInt = aAl B W G seed → zW (d + 9) kX12_aloneOf 50 [.ref 131, .int (nI b), .int a0, .int a1, .int a2, .int y, .long seed, .retAddr 1, .retAddr 0] [.int v] σ4 Q := fun v hv =>
      (bX12_aloneOf_50 l4).mpr (n_back l4 k4 f04 (fun σ5 f5 => ⟨rfl, (bX12_aloneOf_56 (f5.lay hl (fun _ _ _ _ => nWq_2))).mpr (h v σ5 hv f5)⟩))
    refine (bX12_aloneOf_30 l4).mpr (m_isOut (d := d + 7) (r := 0) l4 hD4.1 (by omega) (by omega) ⟨rfl, (bX12_aloneOf_35 l4).mpr (zt0 (fun c => ?_) (fun c => fin 99 ?_))⟩)
    · refine m_of (r := 0) l4 7 hD4.1 (by omega) (by omega) (by omega) (fun v hv => ⟨rfl, (bX12_aloneOf_45 l4).mpr (fin v ?_)⟩)
      unfold aAl
      rw [if_neg c]
      exact hv
    · unfold aAl
      rw [if_pos (Classical.not_not.mp c)]
      rfl
end NALONE

theorem nWq_q {σ σ' : zS} (h : zFr nWq σ σ') : zFr mWq σ σ' := h.mono (fun j c k q => by
  unfold nWq at q
  unfold mWq
  omega)
