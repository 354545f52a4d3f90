/-! the tape read, both sides: a byte, the blanks -/
def sk (t : Nat → Int) (len : Nat) : Nat → Nat → Nat
  | 0, i => i
  | F + 1, i => if i < len ∧ t i = 32 then sk t len F (i + 1) else i
def skp (t : Nat → Int) (len i : Nat) : Nat := sk t len (len - i) i
theorem skp_y {t : Nat → Int} {len i : Nat} (h : i < len) (h2 : t i = 32) : skp t len i = skp t len (i + 1) := by
  unfold skp
  rw [show len - i = (len - (i + 1)) + 1 by omega]
  exact if_pos ⟨h, h2⟩
theorem skp_n {t : Nat → Int} {len i : Nat} (h : ¬ (i < len ∧ t i = 32)) : skp t len i = i := by
  unfold skp
  cases len - i with
  | zero => rfl
  | succ F => exact if_neg h
theorem skp_b {t : Nat → Int} {len : Nat} : ∀ (m i : Nat), len - i = m → i ≤ skp t len i ∧ (i ≤ len → skp t len i ≤ len) ∧ (skp t len i < len → t (skp t len i) ≠ 32)
  | 0, i, hm => by
    rw [skp_n (by omega)]
    exact ⟨Nat.le_refl _, fun h => h, fun h => by omega⟩
  | m + 1, i, hm => by
    by_cases q : i < len ∧ t i = 32
    · rw [skp_y q.1 q.2]
      have z := skp_b (t := t) (len := len) m (i + 1) (by omega)
      exact ⟨by omega, fun _ => z.2.1 (by omega), z.2.2⟩
    · rw [skp_n q]
      exact ⟨Nat.le_refl _, fun h => h, fun h z => q ⟨h, z⟩⟩
def tP (σ : zS) : Nat → Int := fun i => (zI σ 3 i).toInt
def tM (σ : zS) : Nat → Int := fun i => (zI σ 132 i &&& 255).toInt
section TAPE
variable {d : Nat} {Q : Option Value → zS → Prop}
theorem p_byteAt {σ : zS} {len i : Nat} (hl : zLay σ) (e : zI σ 2 1 = nI len) (hn : len ≤ 160) (hi : i < 1000000) (h : ∀ v : Int32, v.toInt = (if i < len then tP σ i else 0) → Q (some (.int v)) σ) : zCall d kX8_byteAt [.ref 2, .int (nI i)] σ Q := by
  refine (bX8_byteAt_0 hl zk_2).mpr (zlt' (ai_n (by omega)) k0 (fun q => by omega) (fun _ => ?_))
  rw [e]
  refine zle' (ai_n (by omega)) (ai_n (by omega)) (fun q => h _ ?_) (fun q => zlt' (ai_n (by omega)) (show (160 : Int32).toInt = 160 from rfl) (fun _ => ⟨vp_in_nI (by omega) (by decide), ?_⟩) (fun q2 => by omega))
  · rw [if_neg (by omega)]; rfl
  · rw [nI_clamp (by omega)]
    refine h _ ?_
    rw [if_pos (by omega)]
    rfl
theorem p_skip_l {σ : zS} {len : Nat} {x1 : Int32} (hl : zLay σ) (e : zI σ 2 1 = nI len) (hn : len ≤ 160) : ∀ (m i : Nat), len - i = m → i < 1000 → Q (some (.int (nI (skp (tP σ) len i)))) σ → zW (d + 1) kX8_skipBlanks 2 [.ref 2, .int x1, .int (nI i)] [] σ Q := by
  intro m
  induction m with
  | zero =>
    intro i hm hi h
    rw [skp_n (by omega)] at h
    exact (bX8_skipBlanks_2 hl zk_2).mpr (zle' (zto e (ai_n (by omega))) (ai_n (by omega)) (fun _ => h) (fun q => by omega))
  | succ m ih =>
    intro i hm hi h
    refine (bX8_skipBlanks_2 hl zk_2).mpr (zle' (zto e (ai_n (by omega))) (ai_n (by omega)) (fun q => by omega) (fun _ => p_byteAt hl e hn (by omega) (fun v hv => ⟨rfl, (bX8_skipBlanks_15 hl zk_2).mpr ?_⟩)))
    rw [if_pos (show i < len by omega)] at hv
    refine zeq' hv (show (32 : Int32).toInt = 32 from rfl) (fun q => ?_) (fun q => ?_)
    · rw [nI_1]
      exact ih (i + 1) (by omega) (by omega) (by rw [← skp_y (by omega) q]; exact h)
    · rw [skp_n (fun z => q z.2)] at h
      exact h
theorem p_skip {σ : zS} {len i : Nat} (hl : zLay σ) (e : zI σ 2 1 = nI len) (hn : len ≤ 160) (hi : i < 1000) (h : Q (some (.int (nI (skp (tP σ) len i)))) σ) : zCall (d + 1) kX8_skipBlanks [.ref 2, .int (nI i)] σ Q :=
  (bX8_skipBlanks_0 hl zk_2).mpr (p_skip_l hl e hn _ i rfl hi h)
theorem m_here {σ : zS} {len i : Nat} (hl : zLay σ) (e : zI σ 131 2 = nI len) (e3 : zI σ 131 3 = nI i) (hn : len ≤ 160) (hi : i < 1000) (h : ∀ v : Int32, v.toInt = (if i < len then tM σ i else -1) → Q (some (.int v)) σ) : zCall d kX12_here [.ref 131] σ Q := by
  refine (bX12_here_0 hl).mpr ?_
  rw [e, e3]
  refine zle' (ai_n (by omega)) (ai_n (by omega)) (fun q => h _ ?_) (fun q => ⟨vp_in_nI (by omega) (by decide), ?_⟩)
  · rw [if_neg (by omega)]; rfl
  · rw [nI_clamp (by omega)]
    refine h _ ?_
    rw [if_pos (by omega)]
    rfl
def wAt (j c k : Nat) : Prop := j = 0 ∧ c = 131 ∧ k = 3
theorem m_look {len : Nat} : ∀ (m i : Nat) (σ : zS), len - i = m → i < 1000 - m → zLay σ → zI σ 131 2 = nI len → zI σ 131 3 = nI i → len ≤ 160 →
    (∀ (v : Int32) (σ' : zS), v.toInt = (if skp (tM σ) len i < len then tM σ (skp (tM σ) len i) else -1) → zLay σ' → zI σ' 131 3 = nI (skp (tM σ) len i) → zFr wAt σ σ' → Q (some (.int v)) σ') → zCall (d + 1) kX12_look [.ref 131] σ Q := by
  intro m
  induction m with
  | zero =>
    intro i σ hm hi hl e e3 hn h
    rw [skp_n (by omega)] at h
    refine (bX12_look_0 hl).mpr (m_here hl e e3 hn (by omega) (fun v hv => ⟨rfl, (bX12_look_4 hl).mpr ?_⟩))
    rw [if_neg (by omega)] at hv
    refine zeq' hv (show (32 : Int32).toInt = 32 from rfl) (fun q => by omega) (fun _ => m_here hl e e3 hn (by omega) (fun v2 hv2 => ⟨rfl, (bX12_look_26 hl).mpr (h v2 σ hv2 hl e3 (zFr.refl _ _))⟩))
  | succ m ih =>
    intro i σ hm hi hl e e3 hn h
    refine (bX12_look_0 hl).mpr (m_here hl e e3 hn (by omega) (fun v hv => ⟨rfl, (bX12_look_4 hl).mpr ?_⟩))
    rw [if_pos (by omega)] at hv
    refine zeq' hv (show (32 : Int32).toInt = 32 from rfl) (fun q => ?_) (fun q => m_here hl e e3 hn (by omega) (fun v2 hv2 => ⟨rfl, (bX12_look_26 hl).mpr ?_⟩))
    · rw [e3, nI_1]
      have f1 : zFr wAt σ (zsI σ 131 (upd (zI σ 131) 3 (nI (i + 1)))) := zFr_U ⟨rfl, rfl, rfl⟩
      have eT : tM (zsI σ 131 (upd (zI σ 131) 3 (nI (i + 1)))) = tM σ := by
        unfold tM
        rw [zI_ne (by decide)]
      refine ih (i + 1) _ (by omega) (by omega) hl.I (by rw [zI_self, pk_un (by decide)]; exact e) (by rw [zI_self, pk_us]) hn (fun v2 σ' h1 h2 h3 h4 => h v2 σ' ?_ h2 ?_ (f1.trans h4))
      · rw [eT] at h1
        rw [skp_y (by omega) q]; exact h1
      · rw [eT] at h3
        rw [skp_y (by omega) q]; exact h3
    · have en : skp (tM σ) len i = i := skp_n (fun z => q z.2)
      rw [en] at h
      exact h v2 σ hv2 hl e3 (zFr.refl _ _)
end TAPE
