/-! the model reads a brook -/
def rbq (t : Nat → Int) (len p lane x W : Nat) (C : Nat → Nat → Int) : Int × Nat × Nat × (Nat → Nat → Int) := rb t len (len - p) p lane x W C
section RBQ
variable {t : Nat → Int} {len p lane x W : Nat} {C : Nat → Nat → Int}
theorem rbq_end : rbq t len len lane x W C = (if lane + 1 < 2 ∨ x < W then (len : Int) else -1, lane + 1, W, C) := by
  unfold rbq
  rw [Nat.sub_self]
  rfl
theorem rbq_go (h : p < len) : rbq t len p lane x W C = if sgb (t p) ≠ -1 then (if (if lane = 0 then 16 else W) ≤ x then ((p : Int), lane + 1, W, C) else rbq t len (p + 1) lane (x + 1) W (rC C lane x (sgb (t p))))
    else if t p = 59 then (if 5 ≤ lane ∨ x < (if lane = 0 then 4 else W) then ((p : Int), lane + 1, W, C) else rbq t len (p + 1) (lane + 1) 0 x C)
    else if t p = 32 then rbq t len (p + 1) lane x W C else ((p : Int), lane + 1, W, C) := by
  unfold rbq
  rw [show len - p = (len - (p + 1)) + 1 by omega]
  rfl
theorem rbq_b (h : p < len) (e : t p = 32) : rbq t len p lane x W C = rbq t len (p + 1) lane x W C := by
  rw [rbq_go h, if_neg (by rw [e]; decide), if_neg (by omega), if_pos e]
theorem rbq_sk : ∀ (m p : Nat), len - p = m → rbq t len (skp t len p) lane x W C = rbq t len p lane x W C
  | 0, p, hm => by rw [skp_n (by omega)]
  | m + 1, p, hm => by
    by_cases q : p < len ∧ t p = 32
    · rw [skp_y q.1 q.2, rbq_sk m (p + 1) (by omega), rbq_b q.1 q.2]
    · rw [skp_n q]
end RBQ
def wRb (b : Nat) (j c k : Nat) : Prop := j = 0 ∧ ((c = 131 ∧ (k = 3 ∨ k = 4)) ∨ (c = 133 ∧ 96 * b ≤ k ∧ k < 96 * b + 96) ∨ ((c = 134 ∨ c = 135) ∧ k = b))
/-- the model's cells of the brook b read so far -/
def mRw (σ : zS) (b lane x W : Nat) (C : Nat → Nat → Int) : Prop := ∀ y x' : Nat, y < 6 → x' < 16 → rbD lane x W y x' → (zI σ 133 (16 * (6 * b + y) + x')).toInt = C y x'
theorem mRw_fr {F : Nat → Nat → Nat → Prop} {σ σ' : zS} {b lane x W : Nat} {C : Nat → Nat → Int} (h : zFr F σ σ') (w : ∀ k, ¬ F 0 133 k) (g : mRw σ b lane x W C) : mRw σ' b lane x W C := fun y x' a c d => by rw [h.i (w _)]; exact g y x' a c d
section MREADB
variable {d : Nat} {Q : Option Value → zS → Prop} {σ0 : zS}
theorem m_beginT {σ : zS} (hl : zLay σ) (h : Q none (zsI σ 131 (upd (upd (zI σ 131) 3 0) 4 (-1)))) : zCall d kX12_begin [.ref 131] σ Q := (bX12_begin_0 hl).mpr h
theorem m_signOf {σ : zS} {x : Int32} (hl : zLay σ) (h : ∀ v : Int32, v.toInt = sgb x.toInt → Q (some (.int v)) σ) : zCall d kX12_signOf [.int x] σ Q := by
  have k48 : (48 : Int32).toInt = 48 := rfl
  have k49 : (49 : Int32).toInt = 49 := rfl
  have k57 : (57 : Int32).toInt = 57 := rfl
  have k111 : (111 : Int32).toInt = 111 := rfl
  have k64 : (64 : Int32).toInt = 64 := rfl
  have p19 : ¬ (49 ≤ x.toInt ∧ x.toInt ≤ 57) → zW d kX12_signOf 19 [.int x] [] σ Q := fun q => by
    refine (bX12_signOf_19 hl).mpr (zeq' rfl k111 (fun q2 => h _ ?_) (fun q2 => zeq' rfl k64 (fun q3 => h _ ?_) (fun q3 => h _ ?_)))
    · unfold sgb; rw [if_neg q, if_pos q2]; rfl
    · unfold sgb; rw [if_neg q, if_neg q2, if_pos q3]; rfl
    · unfold sgb; rw [if_neg q, if_neg q2, if_neg q3]; rfl
  refine (bX12_signOf_0 hl).mpr (zlt' rfl k49 (fun q => p19 (by omega)) (fun q => zlt' k57 rfl (fun q2 => p19 (by omega)) (fun q2 => h _ ?_)))
  rw [zsub rfl k48 (by omega) (by omega)]
  unfold sgb
  rw [if_pos ⟨q, q2⟩]
theorem m_fails {σ : zS} {i : Nat} (hl : zLay σ) (e3 : zI σ 131 3 = nI i) (e4 : zI σ 131 4 = -1) (h : ∀ σ', zI σ' 131 4 = nI i → zFr (fun j c k => j = 0 ∧ c = 131 ∧ k = 4) σ σ' → Q none σ') : zCall d kX12_fails [.ref 131] σ Q := by
  refine (bX12_fails_0 hl).mpr ?_
  rw [e3]
  exact zy e4 (h _ (by rw [zI_self, pk_us]) (zFr_U ⟨rfl, rfl, rfl⟩))
theorem m_rb {len b : Nat} {t : Nat → Int} (l0 : zLay σ0) (hb : b < 7) (e2 : zI σ0 131 2 = nI len) (hn : len ≤ 160) (et : tM σ0 = t) (ht : ∀ i, i < len → 1 ≤ t i) :
    ∀ (m p lane x W : Nat) (C : Nat → Nat → Int) (σ : zS) (v3 : Int32), len - p ≤ m → p ≤ len → (p < len → t p ≠ 32) → v3.toInt = (if p < len then t p else -1) → lane ≤ 5 → (lane = 0 → W = 0 ∧ x ≤ 16) → (0 < lane → x ≤ W ∧ 4 ≤ W) → W ≤ 16 → zFr (wRb b) σ0 σ → mRw σ b lane x W C → zI σ 131 3 = nI p → zI σ 131 4 = -1 → zI σ 134 b = nI (lane + 1) → zI σ 135 b = nI W →
    (∀ (σ' : zS), (zI σ' 131 4).toInt = (rbq t len p lane x W C).1 → zFr (wRb b) σ0 σ' → ((rbq t len p lane x W C).1 = -1 → zI σ' 134 b = nI (rbq t len p lane x W C).2.1 ∧ zI σ' 135 b = nI (rbq t len p lane x W C).2.2.1 ∧ ∀ y x' : Nat, y < 6 → x' < 16 → y < (rbq t len p lane x W C).2.1 → x' < (rbq t len p lane x W C).2.2.1 → (zI σ' 133 (16 * (6 * b + y) + x')).toInt = (rbq t len p lane x W C).2.2.2 y x') → Q none σ') →
    zW (d + 2) kX12_readBrook 25 [.ref 131, .int (nI b), .int (nI x), .int v3] [] σ Q := by
  intro m
  induction m with
  | zero =>
    intro p lane x W C σ v3 hm hp _ hv hl h0 h1 hW f g e3 e4 eL eW h
    have e : p = len := by omega
    subst e
    have l := f.lay l0 (fun _ _ _ _ => by unfold wRb; omega)
    rw [if_neg (by omega)] at hv
    rw [rbq_end] at h
    refine (bX12_readBrook_25 l).mpr (zy (zint (hv.trans km1.symm)) ⟨vp_in_nI hb (by decide), ?_⟩)
    rw [nI_clamp (by omega), eL, eW]
    have no : ∀ σ', zI σ' 131 4 = nI p → zFr (fun j c k => j = 0 ∧ c = 131 ∧ k = 4) σ σ' → (lane + 1 < 2 ∨ x < W) → Q none σ' := fun σ' z4 f1 c => by
      refine h σ' ?_ (f.trans (f1.mono (fun j c k q => by unfold wRb; omega))) (fun z => ?_)
      · rw [z4, if_pos c]; exact ai_n (by omega)
      · rw [if_pos c] at z; omega
    refine zeq' (ai_n (by omega)) k1 (fun q => (bX12_readBrook_204 l).mpr (m_fails l e3 e4 (fun σ' z4 f1 => ⟨rfl, (bX12_readBrook_208 (f1.lay l (fun _ _ _ _ => by omega))).mpr (no σ' z4 f1 (Or.inl (by omega)))⟩))) (fun q => ⟨vp_in_nI hb (by decide), zle' (ai_n (by omega)) (ai_n (by omega)) (fun q2 => (bX12_readBrook_208 l).mpr (h σ ?_ f (fun _ => ⟨eL, eW, fun y x' a c d1 d2 => g y x' a c ?_⟩))) (fun q2 => (bX12_readBrook_204 l).mpr (m_fails l e3 e4 (fun σ' z4 f1 => ⟨rfl, (bX12_readBrook_208 (f1.lay l (fun _ _ _ _ => by omega))).mpr (no σ' z4 f1 (Or.inr (by omega)))⟩)))⟩)
    · rw [if_neg (by omega), e4]; exact km1
    · unfold rbD
      have : y < lane + 1 := d1
      have : x' < W := d2
      omega
  | succ m ih =>
    intro p lane x W C σ v3 hm hp hs hv hl h0 h1 hW f g e3 e4 eL eW h
    by_cases hq0 : len ≤ p
    · have e : len - p ≤ m := by omega
      exact ih p lane x W C σ v3 e hp hs hv hl h0 h1 hW f g e3 e4 eL eW h
    have hq : p < len := by omega
    have l := f.lay l0 (fun _ _ _ _ => by unfold wRb; omega)
    have k59 : (59 : Int32).toInt = 59 := rfl
    have k16 : (16 : Int32).toInt = 16 := rfl
    have k4 : (4 : Int32).toInt = 4 := rfl
    rw [if_pos hq] at hv
    have tp := ht p hq
    have t32 := hs hq
    have cb : (nI b).toNatClampNeg = b := nI_clamp (by omega)
    have vb : vp_in (nI b) 7 := vp_in_nI hb (by decide)
    -- a fault here
    have no : (rbq t len p lane x W C).1 = (p : Int) → ∀ σ', zI σ' 131 4 = nI p → zFr (fun j c k => j = 0 ∧ c = 131 ∧ k = 4) σ σ' → Q none σ' := fun er σ' z4 f1 => by
      refine h σ' ?_ (f.trans (f1.mono (fun j c k q => by unfold wRb; omega))) (fun z => ?_)
      · rw [z4, er]; exact ai_n (by omega)
      · rw [er] at z; omega
    have no71 : (rbq t len p lane x W C).1 = (p : Int) → zW (d + 2) kX12_readBrook 71 [.ref 131, .int (nI b), .int (nI x), .int v3] [] σ Q := fun er => (bX12_readBrook_71 l).mpr (m_fails l e3 e4 (fun σ' z4 f1 => ⟨rfl, (bX12_readBrook_75 (f1.lay l (fun _ _ _ _ => by omega))).mpr (no er σ' z4 f1)⟩))
    have no131 : (rbq t len p lane x W C).1 = (p : Int) → zW (d + 2) kX12_readBrook 131 [.ref 131, .int (nI b), .int (nI x), .int v3] [] σ Q := fun er => (bX12_readBrook_131 l).mpr (m_fails l e3 e4 (fun σ' z4 f1 => ⟨rfl, (bX12_readBrook_135 (f1.lay l (fun _ _ _ _ => by omega))).mpr (no er σ' z4 f1)⟩))
    -- one further
    have on : ∀ (lane' x' W' : Nat) (C' : Nat → Nat → Int) (σ1 : zS), rbq t len p lane x W C = rbq t len (p + 1) lane' x' W' C' → lane' ≤ 5 → (lane' = 0 → W' = 0 ∧ x' ≤ 16) → (0 < lane' → x' ≤ W' ∧ 4 ≤ W') → W' ≤ 16 → zFr (wRb b) σ0 σ1 → mRw σ1 b lane' x' W' C' → zI σ1 131 3 = nI p → zI σ1 131 4 = -1 → zI σ1 134 b = nI (lane' + 1) → zI σ1 135 b = nI W' → zW (d + 2) kX12_readBrook 166 [.ref 131, .int (nI b), .int (nI x'), .int v3] [] σ1 Q := by
      intro lane' x' W' C' σ1 er i1 i2 i3 i4 f1 g1 z3 z4 zL zW'
      have l1 := f1.lay l0 (fun _ _ _ _ => by unfold wRb; omega)
      refine (bX12_readBrook_166 l1).mpr ?_
      rw [z3, nI_1]
      have f2 : zFr (wRb b) σ1 (zsI σ1 131 (upd (zI σ1 131) 3 (nI (p + 1)))) := zFr_U (by unfold wRb; omega)
      have f02 := f1.trans f2
      have eT : tM (zsI σ1 131 (upd (zI σ1 131) 3 (nI (p + 1)))) = t := by
        rw [← et]
        exact funext (fun i => by unfold tM; rw [f02.i (by unfold wRb; omega)])
      have ez : zI (zsI σ1 131 (upd (zI σ1 131) 3 (nI (p + 1)))) 131 2 = nI len := by rw [f02.i (by unfold wRb; omega)]; exact e2
      have sb := skp_b (t := t) (len := len) _ (p + 1) rfl
      refine m_look (len - (p + 1)) (p + 1) _ rfl (by omega) l1.I ez (by rw [zI_self, pk_us]) hn (fun v σ2 hv2 l2 z32 f3 => ⟨rfl, (bX12_readBrook_180 l2).mpr ?_⟩)
      rw [eT] at hv2 z32
      refine ih (skp t len (p + 1)) lane' x' W' C' σ2 v (by omega) (sb.2.1 (by omega)) sb.2.2 hv2 i1 i2 i3 i4 (f02.trans (f3.mono (fun j c k q => by unfold wAt at q; unfold wRb; omega))) (mRw_fr f3 (fun k => by unfold wAt; omega) (mRw_fr (F := fun j c k => c = 131) (zFr_U rfl) (fun k => by omega) g1)) z32 ?_ ?_ ?_ ?_
      · rw [f3.i (by unfold wAt; omega), zI_self, pk_un (by decide)]; exact z4
      · rw [f3.i (by unfold wAt; omega), zI_ne (by decide)]; exact zL
      · rw [f3.i (by unfold wAt; omega), zI_ne (by decide)]; exact zW'
      · rw [rbq_sk _ _ rfl, ← er]; exact h
    refine (bX12_readBrook_25 l).mpr (zeq' hv km1 (fun q => by omega) (fun _ => zeq' hv k59 (fun q59 => ⟨vb, ?_⟩) (fun q59 => m_signOf l (fun s hs => ⟨rfl, (bX12_readBrook_102 l).mpr ?_⟩))))
    · have c2 : ¬ sgb (t p) ≠ -1 := by rw [q59]; decide
      rw [cb, eL, eW]
      have p68 : ∀ lim : Int32, lim.toInt = ((if lane = 0 then 4 else W : Nat) : Int) → lane < 5 → zW (d + 2) kX12_readBrook 68 [.ref 131, .int (nI b), .int (nI x), .int v3] [.int lim, .int (nI x)] σ Q := fun lim el h5 => by
        refine (bX12_readBrook_68 l).mpr (zle' el (ai_n (by omega)) (fun q => ⟨vb, vb, vb, ?_⟩) (fun q => no71 ?_))
        · rw [cb, eL, nI_1]
          have hx : 4 ≤ x ∧ x ≤ 16 ∧ (0 < lane → x = W) := by
            by_cases z : lane = 0
            · rw [if_pos z] at q; have := h0 z; omega
            · rw [if_neg z] at q; have := h1 (by omega); omega
          have f1 : zFr (wRb b) σ (zsI σ 135 (upd (zI σ 135) b (nI x))) := zFr_U (by unfold wRb; omega)
          have f2 : zFr (wRb b) (zsI σ 135 (upd (zI σ 135) b (nI x))) (zsI (zsI σ 135 (upd (zI σ 135) b (nI x))) 134 (upd (zI (zsI σ 135 (upd (zI σ 135) b (nI x))) 134) b (nI (lane + 1 + 1)))) := zFr_U (by unfold wRb; omega)
          refine on (lane + 1) 0 x C (zsI (zsI σ 135 (upd (zI σ 135) b (nI x))) 134 (upd (zI σ 134) b (nI (lane + 1 + 1)))) ?_ (by omega) (fun z => by omega) (fun _ => ⟨by omega, hx.1⟩) hx.2.1 ((f.trans f1).trans f2) (fun y x' a c q2 => ?_) ?_ ?_ ?_ ?_
          · rw [rbq_go hq, if_neg c2, if_pos q59, if_neg (by omega)]
          · rw [zI_ne (by decide), zI_ne (by decide)]
            refine g y x' a c ?_
            have := hx.2.2
            have := h0
            unfold rbD at q2 ⊢
            omega
          · rw [zI_ne (by decide), zI_ne (by decide)]; exact e3
          · rw [zI_ne (by decide), zI_ne (by decide)]; exact e4
          · rw [zI_self, pk_us]
          · rw [zI_ne (by decide), zI_self, pk_us]
        · rw [rbq_go hq, if_neg c2, if_pos q59, if_pos (Or.inr (by omega))]
      refine zeq' (ai_n (by omega)) k6 (fun q => no71 ?_) (fun q => ⟨vb, zeq' (ai_n (by omega)) k1 (fun q2 => p68 4 (by rw [if_pos (by omega)]; rfl) (by omega)) (fun q2 => ⟨vb, p68 _ (by rw [if_neg (by omega)]; exact ai_n (by omega)) (by omega)⟩)⟩)
      rw [rbq_go hq, if_neg c2, if_pos q59, if_pos (Or.inl (by omega))]
    · rw [hv] at hs
      refine zeq' hs km1 (fun q => no131 ?_) (fun q => ⟨vb, ?_⟩)
      · rw [rbq_go hq, if_neg (fun z => z q), if_neg q59, if_neg t32]
      · rw [cb, eL, eW]
        have p128 : ∀ lim : Int32, lim.toInt = ((if lane = 0 then 16 else W : Nat) : Int) → zW (d + 2) kX12_readBrook 128 [.ref 131, .int (nI b), .int (nI x), .int v3] [.int lim, .int (nI x)] σ Q := fun lim el => by
          refine (bX12_readBrook_128 l).mpr (zeq' (ai_n (by omega)) el (fun q2 => no131 ?_) (fun q2 => ⟨vb, m_signOf l (fun s2 hs2 => ⟨rfl, (bX12_readBrook_162 l).mpr ?_⟩)⟩))
          · rw [rbq_go hq, if_pos q, if_pos (by omega)]
          · have hx16 : x < 16 ∧ (0 < lane → x < W) := by
              by_cases z : lane = 0
              · rw [if_pos z] at q2; have := h0 z; omega
              · rw [if_neg z] at q2; have := h1 (by omega); omega
            rw [cb, eL, nI_1]
            have ei : (16 * (6 * nI b + nI (lane + 1) - 1) + nI x : Int32) = nI (16 * (6 * b + lane) + x) := zint (by
              have e1 : (6 * nI b + nI (lane + 1) - 1 : Int32).toInt = ((6 * b + lane : Nat) : Int) := by
                rw [zsub (zadd (zmul k6 (ai_n (show b < 2147483648 by omega)) (by omega) (by omega)) (ai_n (show lane + 1 < 2147483648 by omega)) (by omega) (by omega)) k1 (by omega) (by omega)]
                omega
              rw [zadd (zmul k16 e1 (by omega) (by omega)) (ai_n (by omega)) (by omega) (by omega), ai_n (by omega)]
              omega)
            rw [ei, nI_clamp (by omega)]
            refine ⟨vp_in_nI (by omega) (by decide), ?_⟩
            rw [hv] at hs2
            have f1 : zFr (wRb b) σ (zsI σ 133 (upd (zI σ 133) (16 * (6 * b + lane) + x) s2)) := zFr_U (by unfold wRb; omega)
            refine on lane (x + 1) W (rC C lane x (sgb (t p))) _ ?_ hl (fun z => ⟨(h0 z).1, by omega⟩) (fun z => ⟨by have := hx16.2 z; omega, (h1 z).2⟩) hW (f.trans f1) (fun y x' a c q3 => ?_) ?_ ?_ ?_ ?_
            · rw [rbq_go hq, if_pos q, if_neg ?_]
              by_cases z : lane = 0
              · rw [if_pos z]; omega
              · rw [if_neg z]; have := hx16.2 (by omega); omega
            · rw [zI_self]
              by_cases z : y = lane ∧ x' = x
              · obtain ⟨z1, z2⟩ := z
                subst z1; subst z2
                rw [pk_us, rC_s]; exact hs2
              · rw [pk_un (by omega), rC_n z]
                refine g y x' a c ?_
                unfold rbD at q3 ⊢
                omega
            · rw [zI_ne (by decide)]; exact e3
            · rw [zI_ne (by decide)]; exact e4
            · rw [zI_ne (by decide)]; exact eL
            · rw [zI_ne (by decide)]; exact eW
        exact zeq' (ai_n (by omega)) k1 (fun q2 => p128 16 (by rw [if_pos (by omega)]; rfl)) (fun q2 => ⟨vb, p128 _ (by rw [if_neg (by omega)]; exact ai_n (by omega))⟩)
end MREADB
