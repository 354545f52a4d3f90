/-! the class's races told, begun, fitted -/
/-- the race t has the brook b and n runners told as F r 0..3 -/
def pTd (σ : zS) (t n b : Nat) (F : aFn) : Prop := zLay σ ∧ zk t = 2 ∧ n ≤ 6 ∧ zI σ t 4 = nI n ∧ zR σ t 3 = some b ∧ zk b = 0 ∧ ∀ r, r < n → (∃ s, zR σ (t + 8 + 2 * r) 0 = some s ∧ zk s = 6 ∧ ∀ j, j < 3 → (zI σ s j).toInt = F r j) ∧ (zI σ (t + 8 + 2 * r) 1).toInt = F r 3
def pWq (t : Nat) : Nat → Nat → Nat → Prop := fun j c k => (j = 0 ∧ (c = t ∨ c = t + 2 ∨ c = t + 3 ∨ (zk c = 4 ∧ t + 8 ≤ c ∧ c ≤ t + 18))) ∨ (j = 1 ∧ c = t) ∨ (j = 2 ∧ ((c = t ∧ k = 3) ∨ (zk c = 4 ∧ t + 8 ≤ c ∧ c ≤ t + 18 ∧ k = 0)))
theorem pWr_q {t : Nat} {σ σ' : zS} (h : zFr (pWr t) σ σ') : zFr (pWq t) σ σ' := h.mono (fun j c k q => by
  unfold pWr at q
  unfold pWq
  rcases q with ⟨q0, q | q | q | q⟩ | q
  · exact Or.inl ⟨q0, Or.inl q.1⟩
  · exact Or.inl ⟨q0, Or.inr (Or.inl q)⟩
  · exact Or.inl ⟨q0, Or.inr (Or.inr (Or.inl q))⟩
  · exact Or.inl ⟨q0, Or.inr (Or.inr (Or.inr ⟨q.1, q.2.1, q.2.2.1⟩))⟩
  · exact Or.inr (Or.inl ⟨q.1, q.2.1⟩))
theorem zRT_2 {t : Nat} (ht : zk t = 2) : zRT t 3 = none := by
  unfold zRT
  rw [ht]
  rfl
theorem zRT_4 {c : Nat} (hc : zk c = 4) : zRT c 0 = none := by
  unfold zRT
  rw [hc]
  rfl
theorem pWq_lay {t : Nat} {σ σ' : zS} (ht : zk t = 2) (h : zFr (pWq t) σ σ') (hl : zLay σ) : zLay σ' := h.lay hl (fun c k v hv q => by
  unfold pWq at q
  rcases q with q | q | ⟨_, q | q⟩
  · omega
  · omega
  · rw [q.1, q.2, zRT_2 ht] at hv; cases hv
  · rw [q.2.2.2, zRT_4 q.1] at hv; cases hv)
theorem pWq_k {t c k : Nat} (ht : zk t = 2) (h2 : zk c ≠ 2) (h4 : zk c ≠ 4) (h : zk c ≠ 14) : ¬ pWq t 0 c k := by
  intro q
  have f := zf_race ht
  unfold pWq at q
  rcases q with ⟨_, q | q | q | q⟩ | q | q
  · exact h2 (by rw [q]; exact ht)
  · exact h (by rw [q]; exact f.2.1.1)
  · exact h (by rw [q]; exact f.2.2.1.1)
  · exact h4 q.1
  · omega
  · omega
theorem pWq_b {t b : Nat} (ht : zk t = 2) (hb : zk b = 0) : (∀ k, ¬ pWq t 0 b k) ∧ (∀ k, ¬ pWq t 0 (b + 1) k) ∧ (∀ k, ¬ pWq t 0 (b + 2) k) ∧ ∀ k, ¬ pWq t 0 (b + 3) k := by
  have f := zf_race ht
  have g := zf_brook hb
  have n0 : b ≠ t := fun e => by rw [e] at hb; omega
  have n1 : b ≠ t + 1 := fun e => by rw [e] at hb; omega
  have n2 : b ≠ t + 2 := fun e => by rw [e] at hb; omega
  have m1 : b + 1 ≠ t := fun e => by rw [e] at g; omega
  have m2 : b + 2 ≠ t := fun e => by rw [e] at g; omega
  have m3 : b + 3 ≠ t := fun e => by rw [e] at g; omega
  refine ⟨fun k => pWq_k ht (by omega) (by omega) (by omega), fun k q => ?_, fun k q => ?_, fun k q => ?_⟩
  all_goals
    unfold pWq at q
    rcases q with ⟨_, q | q | q | q⟩ | q | q <;> omega
section PTOLD
variable {d : Nat} {Q : Option Value → zS → Prop}
theorem p_fill {c : Nat} {v : Int32} (hk : zk c = 14) (hz : zl c < 1000) :
    ∀ (m i : Nat) (σ : zS), zl c - i = m → i ≤ zl c → zLay σ → (∀ k, k < i → zI σ c k = v) → (∀ σ', (∀ k, k < zl c → zI σ' c k = v) → zFr (fun j c' _ => j = 0 ∧ c' = c) σ σ' → Q none σ') → zW d kJ7_fill_53178 5 [.ref c, .int v, .int (nI i), .int (nI (zl c))] [] σ Q := by
  intro m
  induction m with
  | zero =>
    intro i σ hm hi hl hv h
    exact (bJ7_fill_53178_5 hl hk).mpr (zle' (ai_n (by omega)) (ai_n (by omega)) (fun _ => h σ (fun k q => hv k (by omega)) (zFr.refl _ _)) (fun q => by omega))
  | succ m ih =>
    intro i σ hm hi hl hv h
    refine (bJ7_fill_53178_5 hl hk).mpr (zle' (ai_n (by omega)) (ai_n (by omega)) (fun q => by omega) (fun _ => ⟨vp_in_nI (by omega) (by omega), ?_⟩))
    rw [nI_clamp (by omega), nI_1]
    have f1 : zFr (fun j c' _ => j = 0 ∧ c' = c) σ (zsI σ c (upd (zI σ c) i v)) := zFr_U ⟨rfl, rfl⟩
    refine ih (i + 1) _ (by omega) (by omega) hl.I (fun k q => ?_) (fun σ' q1 q2 => h σ' q1 (f1.trans q2))
    rw [zI_self]
    by_cases e : k = i
    · rw [e, pk_us]
    · rw [pk_un e]; exact hv k (by omega)
theorem p_fills {c : Nat} {v : Int32} {σ : zS} (hk : zk c = 14) (hz : zl c < 1000) (hl : zLay σ) (h : ∀ σ', (∀ k, k < zl c → zI σ' c k = v) → zFr (fun j c' _ => j = 0 ∧ c' = c) σ σ' → Q none σ') : zCall d kJ7_fill_53178 [.ref c, .int v] σ Q :=
  (bJ7_fill_53178_0 hl hk).mpr (p_fill hk hz (zl c) 0 σ rfl (by omega) hl (fun k q => absurd q (by omega)) h)
theorem p_rbegin {σ : zS} {c : Nat} (hl : zLay σ) (hk : zk c = 4) (h : ∀ σ', (zI σ' c 1 = zI σ c 1 ∧ zI σ' c 2 = 0 ∧ zI σ' c 3 = zI σ c 1 ∧ zI σ' c 4 = 0 ∧ zI σ' c 5 = -1 ∧ zI σ' c 6 = -1 ∧ zI σ' c 7 = 0 ∧ zI σ' c 8 = 0) → zFr (fun j c' k => j = 0 ∧ c' = c ∧ 2 ≤ k) σ σ' → Q none σ') : zCall d kX4_begin [.ref c] σ Q := by
  refine (bX4_begin_0 hl hk).mpr (h _ ?_ (zFr_I (fun k => ?_)))
  · rw [zI_self]
    simp only [pk_un (show (1 : Nat) ≠ 8 by decide), pk_un (show (1 : Nat) ≠ 7 by decide), pk_un (show (1 : Nat) ≠ 6 by decide), pk_un (show (1 : Nat) ≠ 5 by decide), pk_un (show (1 : Nat) ≠ 4 by decide), pk_un (show (1 : Nat) ≠ 3 by decide), pk_un (show (1 : Nat) ≠ 2 by decide), pk_un (show (2 : Nat) ≠ 8 by decide), pk_un (show (2 : Nat) ≠ 7 by decide), pk_un (show (2 : Nat) ≠ 6 by decide), pk_un (show (2 : Nat) ≠ 5 by decide), pk_un (show (2 : Nat) ≠ 4 by decide), pk_un (show (2 : Nat) ≠ 3 by decide), pk_un (show (3 : Nat) ≠ 8 by decide), pk_un (show (3 : Nat) ≠ 7 by decide), pk_un (show (3 : Nat) ≠ 6 by decide), pk_un (show (3 : Nat) ≠ 5 by decide), pk_un (show (3 : Nat) ≠ 4 by decide), pk_un (show (4 : Nat) ≠ 8 by decide), pk_un (show (4 : Nat) ≠ 7 by decide), pk_un (show (4 : Nat) ≠ 6 by decide), pk_un (show (4 : Nat) ≠ 5 by decide), pk_un (show (5 : Nat) ≠ 8 by decide), pk_un (show (5 : Nat) ≠ 7 by decide), pk_un (show (5 : Nat) ≠ 6 by decide), pk_un (show (6 : Nat) ≠ 8 by decide), pk_un (show (6 : Nat) ≠ 7 by decide), pk_un (show (7 : Nat) ≠ 8 by decide), pk_us]
    exact ⟨trivial, trivial, trivial, trivial, trivial, trivial, trivial, trivial⟩
  · by_cases e : 2 ≤ k
    · exact Or.inl ⟨rfl, rfl, e⟩
    · right
      rw [pk_un (by omega), pk_un (by omega), pk_un (by omega), pk_un (by omega), pk_un (by omega), pk_un (by omega), pk_un (by omega)]
theorem p_begin_l {t n b : Nat} {F : aFn} {j1 : Int64} :
    ∀ (m i : Nat) (σ : zS), n - i = m → i ≤ n → pTd σ t n b F → (∀ r w, r < i → 4 ≤ w → w < 11 → (zI σ (t + 8 + 2 * r) (w - 2)).toInt = aPut F r w) →
    (∀ σ', pTd σ' t n b F → (∀ r w, r < n → 4 ≤ w → w < 11 → (zI σ' (t + 8 + 2 * r) (w - 2)).toInt = aPut F r w) → zFr (fun j c k => j = 0 ∧ zk c = 4 ∧ t + 8 ≤ c ∧ c ≤ t + 18 ∧ 2 ≤ k) σ σ' → Q none σ') → zW (d + 1) kX2_begin 35 [.ref t, .long j1, .retAddr 1, .int (nI i)] [] σ Q := by
  intro m
  induction m with
  | zero =>
    intro i σ hm hi hT hp h
    have e : i = n := by omega
    subst e
    have hT' := hT
    obtain ⟨c1, c2, c3, c4, -⟩ := hT
    refine (bX2_begin_35 c1 c2).mpr (zti (fun _ => h σ hT' hp (zFr.refl _ _)) (fun q => ?_))
    rw [c4] at q
    exact absurd (nI_le (Nat.le_refl _) (by omega)) q
  | succ m ih =>
    intro i σ hm hi hT hp h
    have hT' := hT
    obtain ⟨c1, c2, c3, c4, c5, c6, c7⟩ := hT
    have hin : i < n := by omega
    have hk := zf_racer c2 (show i < 6 by omega)
    have ri : zR σ (t + 1) i = some (t + 8 + 2 * i) := by
      refine c1.r ?_
      unfold zRT
      rw [(zf_race c2).1.1]
      show (if i < 6 then some (t + 1 + 7 + 2 * i) else none) = _
      rw [if_pos (by omega)]
    refine (bX2_begin_35 c1 c2).mpr (zti (fun q => ?_) (fun _ => zle' k6 (ai_n (by omega)) (fun q => by omega) (fun _ => ⟨vp_in_nI (by omega) (by decide), ?_⟩)))
    · rw [c4] at q
      exact absurd q (nI_ge hin (by omega))
    rw [nI_clamp (by omega), ri]
    refine (bX2_begin_55 c1 c2 hk).mpr (p_rbegin c1 hk (fun σ1 g f1 => ⟨rfl, ?_⟩))
    have f2 : zFr (fun j c k => j = 0 ∧ zk c = 4 ∧ t + 8 ≤ c ∧ c ≤ t + 18 ∧ 2 ≤ k) σ σ1 := f1.mono (fun j c k q => ⟨q.1, by rw [q.2.1]; exact hk, by omega, by omega, q.2.2⟩)
    have l1 : zLay σ1 := f2.lay c1 (fun _ _ _ _ q => by omega)
    have T1 : pTd σ1 t n b F := by
      refine ⟨l1, c2, c3, by rw [f2.i (fun q => by omega)]; exact c4, by rw [f2.r (fun q => by omega)]; exact c5, c6, fun r hr => ?_⟩
      obtain ⟨⟨s, s1, s2, s3⟩, s4⟩ := c7 r hr
      refine ⟨⟨s, by rw [f2.r (fun q => by omega)]; exact s1, s2, fun j hj => by rw [f2.i (fun q => by omega)]; exact s3 j hj⟩, ?_⟩
      rw [f2.i (fun q => by omega)]; exact s4
    refine (bX2_begin_58 l1 c2).mpr ?_
    rw [nI_1]
    refine ih (i + 1) σ1 (by omega) (by omega) T1 (fun r w hr h4 h11 => ?_) (fun σ' q1 q2 q3 => h σ' q1 q2 (f2.trans q3))
    by_cases e : r = i
    · subst e
      have e3 := (c7 r hin).2
      obtain ⟨g1, g2, g3, g4, g5, g6, g7, g8⟩ := g
      rcases (by omega : w = 4 ∨ w = 5 ∨ w = 6 ∨ w = 7 ∨ w = 8 ∨ w = 9 ∨ w = 10) with e | e | e | e | e | e | e <;> subst e
      · show (zI σ1 _ 2).toInt = 0; rw [g2]; rfl
      · show (zI σ1 _ 3).toInt = F r 3; rw [g3]; exact e3
      · show (zI σ1 _ 4).toInt = 0; rw [g4]; rfl
      · show (zI σ1 _ 5).toInt = -1; rw [g5]; rfl
      · show (zI σ1 _ 6).toInt = -1; rw [g6]; rfl
      · show (zI σ1 _ 7).toInt = 0; rw [g7]; rfl
      · show (zI σ1 _ 8).toInt = 0; rw [g8]; rfl
    · rw [f1.i (fun q => by omega)]
      exact hp r w (by omega) h4 h11
theorem pF_beg {σ : zS} {t n b : Nat} {F : aFn} (hT : pTd σ t n b F) (h : ∀ r w, r < n → 4 ≤ w → w < 11 → (zI σ (t + 8 + 2 * r) (w - 2)).toInt = aPut F r w) : pF σ t n = aBeg n F := by
  obtain ⟨c1, c2, c3, c4, c5, c6, c7⟩ := hT
  funext r w
  unfold aBeg
  by_cases c : r < n ∧ w < 11
  · rw [if_pos c]
    obtain ⟨⟨s, s1, s2, s3⟩, s4⟩ := c7 r c.1
    by_cases w3 : w < 3
    · rw [pF_s c.1 w3 s1, aPut_f (by omega)]; exact s3 w w3
    · rw [pF_w c.1 (by omega) c.2]
      by_cases w4 : w = 3
      · subst w4; exact s4
      · exact h r w c.1 (by omega) c.2
  · rw [if_neg c]
    unfold pF
    rw [if_neg c]
theorem p_begin {σ : zS} {t n b : Nat} {F : aFn} {j1 : Int64} (hT : pTd σ t n b F)
    (h : ∀ σ', pTd σ' t n b F → pHas σ' t n (aBeg n F, 0, j1, False, fun _ => 0) → (zI σ' t 5).toInt = 0 → zI σ' t 9 = 1 → zFr (pWr t) σ σ' → Q none σ') : zCall (d + 1) kX2_begin [.ref t, .long j1] σ Q := by
  have hT' := hT
  obtain ⟨c1, c2, c3, c4, c5, c6, c7⟩ := hT
  have f := zf_race c2
  refine (bX2_begin_0 c1 c2).mpr ?_
  have e0 : zI (zsL (zsI σ t (upd (upd (zI σ t) 5 0) 6 0)) t (vp_updL (zL σ t) 7 j1)) = zI (zsI σ t (upd (upd (zI σ t) 5 0) 6 0)) := rfl
  have fa : zFr (pWr t) σ (zsI (zsL (zsI σ t (upd (upd (zI σ t) 5 0) 6 0)) t (vp_updL (zL σ t) 7 j1)) t (upd (upd (upd (upd (zI σ t) 5 0) 6 0) 8 0) 9 1)) := by
    refine ((zFr_I (fun k => ?_)).trans (zFr_L (σ := zsI σ t (upd (upd (zI σ t) 5 0) 6 0)) (Or.inr ⟨rfl, rfl, rfl⟩))).trans (zFr_I (fun k => ?_))
    · by_cases e : k = 6
      · exact Or.inl (Or.inl ⟨rfl, Or.inl ⟨rfl, by omega⟩⟩)
      · by_cases e2 : k = 5
        · exact Or.inl (Or.inl ⟨rfl, Or.inl ⟨rfl, by omega⟩⟩)
        · right; rw [pk_un e, pk_un e2]
    · by_cases e : k = 5 ∨ k = 6 ∨ k = 8 ∨ k = 9
      · exact Or.inl (Or.inl ⟨rfl, Or.inl ⟨rfl, e⟩⟩)
      · right
        rw [pk_un (by omega), pk_un (by omega), pk_un (by omega), pk_un (by omega)]
        show _ = zI (zsI σ t _) t k
        rw [zI_self, pk_un (by omega), pk_un (by omega)]
  have g : zI (zsI (zsL (zsI σ t (upd (upd (zI σ t) 5 0) 6 0)) t (vp_updL (zL σ t) 7 j1)) t (upd (upd (upd (upd (zI σ t) 5 0) 6 0) 8 0) 9 1)) t = upd (upd (upd (upd (zI σ t) 5 0) 6 0) 8 0) 9 1 := zI_self
  have gl : zL (zsI (zsL (zsI σ t (upd (upd (zI σ t) 5 0) 6 0)) t (vp_updL (zL σ t) 7 j1)) t (upd (upd (upd (upd (zI σ t) 5 0) 6 0) 8 0) 9 1)) t = vp_updL (zL σ t) 7 j1 := zL_self
  generalize zsI (zsL (zsI σ t (upd (upd (zI σ t) 5 0) 6 0)) t (vp_updL (zL σ t) 7 j1)) t (upd (upd (upd (upd (zI σ t) 5 0) 6 0) 8 0) 9 1) = σ1 at fa g gl ⊢
  have keep : ∀ σ', zFr (pWr t) σ σ' → pTd σ' t n b F := by
    intro σ' q
    refine ⟨q.lay c1 (fun _ _ _ _ => pWr_2), c2, c3, ?_, by rw [q.r pWr_2]; exact c5, c6, fun r hr => ?_⟩
    · rw [q.i (by unfold pWr; omega)]; exact c4
    · obtain ⟨⟨s, s1, s2, s3⟩, s4⟩ := c7 r hr
      have hkr := zf_racer c2 (show r < 6 by omega)
      refine ⟨⟨s, by rw [q.r pWr_2]; exact s1, s2, fun j hj => by rw [q.i (pWr_k c2 (by omega) (by omega) (by omega))]; exact s3 j hj⟩, ?_⟩
      rw [q.i (by unfold pWr; omega)]; exact s4
  have l1 := (keep _ fa).1
  refine p_fills f.2.2.1.1 (by rw [f.2.2.1.2]; decide) l1 (fun σ2 hz f2 => ⟨rfl, ?_⟩)
  have fb : zFr (pWr t) σ σ2 := fa.trans (f2.mono (fun j c k q => Or.inl ⟨q.1, Or.inr (Or.inr (Or.inl q.2))⟩))
  have T2 := keep _ fb
  refine (bX2_begin_33 T2.1 c2).mpr (p_begin_l n 0 σ2 rfl (by omega) T2 (fun r w hr => absurd hr (by omega)) (fun σ3 T3 hp f3 => ?_))
  have f3' : zFr (pWr t) σ2 σ3 := f3.mono (fun j c k q => Or.inl ⟨q.1, Or.inr (Or.inr (Or.inr q.2))⟩)
  have gt : ∀ k, zI σ3 t k = upd (upd (upd (upd (zI σ t) 5 0) 6 0) 8 0) 9 1 k := fun k => by rw [f3.i (fun q => by omega), f2.i (fun q => by omega), g]
  refine h σ3 T3 ⟨pF_beg T3 hp, ?_, ?_, ?_, fun x hx => ?_⟩ ?_ ?_ (fb.trans f3')
  · rw [gt, pk_un (by decide), pk_un (by decide), pk_us]; rfl
  · rw [f3.l (fun q => by omega), f2.l (fun q => by omega), gl, pk_uLs]
  · rw [gt, pk_un (by decide), pk_us]; exact (zb_f id).symm
  · rw [f3.i (fun q => by omega), hz x (by rw [f.2.2.1.2]; exact hx)]; rfl
  · rw [gt, pk_un (by decide), pk_un (by decide), pk_un (by decide), pk_us]; rfl
  · rw [gt, pk_us]
end PTOLD
