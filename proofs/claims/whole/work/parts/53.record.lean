/-! what is recorded of a race: the leader, the log; strikes are few -/
def aLd (F : aFn) : Nat → Nat → Nat → Nat
  | 0, _, b => b
  | m + 1, r, b => if F r 8 = 0 then r else aLd F m (r + 1) (if F b 4 < F r 4 then r else b)
theorem aLd_lt {F : aFn} {n : Nat} : ∀ (m r b : Nat), b < n → r + m ≤ n → aLd F m r b < n
  | 0, _, b, h, _ => h
  | m + 1, r, b, h, h2 => by
    unfold aLd
    by_cases q : F r 8 = 0
    · rw [if_pos q]; omega
    · rw [if_neg q]
      refine aLd_lt m (r + 1) _ ?_ (by omega)
      by_cases q2 : F b 4 < F r 4
      · rw [if_pos q2]; omega
      · rw [if_neg q2]; exact h
def aLog (σ : zS) (x y d n k : Nat) (F : aFn) : Prop := (∀ r, r < n → (zI σ x (6 * k + r)).toInt = F r 4 ∧ (zI σ y (6 * k + r)).toInt = F r 5) ∧ zI σ d k = nI (aLd F n 0 0)
def aSml (σ σ' : zS) (x y d n k : Nat) : Prop := (∀ r, r < n → zI σ' x (6 * k + r) = zI σ x (6 * k + r) ∧ zI σ' y (6 * k + r) = zI σ y (6 * k + r)) ∧ zI σ' d k = zI σ d k
theorem aSml.trans {σ σ1 σ2 : zS} {x y d n k : Nat} (h : aSml σ σ1 x y d n k) (g : aSml σ1 σ2 x y d n k) : aSml σ σ2 x y d n k := ⟨fun r hr => ⟨((g.1 r hr).1).trans (h.1 r hr).1, ((g.1 r hr).2).trans (h.1 r hr).2⟩, g.2.trans h.2⟩
theorem aSml.log {σ σ1 : zS} {x y d n k : Nat} {F : aFn} (h : aSml σ σ1 x y d n k) (g : aLog σ x y d n k F) : aLog σ1 x y d n k F := ⟨fun r hr => by rw [(h.1 r hr).1, (h.1 r hr).2]; exact g.1 r hr, h.2.trans g.2⟩
def wLg (x y d T n j c k : Nat) : Prop := j = 0 ∧ (((c = x ∨ c = y) ∧ 6 * T ≤ k ∧ k < 6 * T + n) ∨ (c = d ∧ k = T))
theorem aSml.fr {W : Nat → Nat → Nat → Prop} {σ σ1 : zS} {x y d n k : Nat} (f : zFr W σ σ1) (h1 : ∀ r, r < n → ¬ W 0 x (6 * k + r) ∧ ¬ W 0 y (6 * k + r)) (h2 : ¬ W 0 d k) : aSml σ σ1 x y d n k := ⟨fun r hr => ⟨f.i (h1 r hr).1, f.i (h1 r hr).2⟩, f.i h2⟩
def wXY (T n j c k : Nat) : Prop := j = 0 ∧ (c = 33 ∨ c = 34) ∧ 6 * T ≤ k ∧ k < 6 * T + n
section RECORD
variable {d : Nat} {Q : Option Value → zS → Prop}
theorem p_foremost_l {σ : zS} {n w : Nat} {F : aFn} {B : aBk} {W : aWx} (C : pCx σ 12 n B W w) (hF : pF σ 12 n = F) :
    ∀ (m i b : Nat), n - i = m → i ≤ n → b < n → Q (some (.int (nI (aLd F m i b)))) σ → zW (d + 1) kX2_foremost 4 [.ref 12, .int (nI b), .int (nI i)] [] σ Q := by
  have C' := C
  obtain ⟨c1, c2, c3, c4, c5, c6, c8, c9, c10, c11⟩ := C
  intro m
  induction m with
  | zero =>
    intro i b hm hi hb h
    exact (bX2_foremost_4 c1 zk_12).mpr (zle' (zto c5 (ai_n (by omega))) (ai_n (by omega)) (fun _ => h) (fun q => by omega))
  | succ m ih =>
    intro i b hm hi hb h
    have hin : i < n := by omega
    have e8 : (zI σ (20 + 2 * i) 6).toInt = F i 8 := by rw [← hF, pF_w hin (by omega) (by omega)]
    have e4 : (zI σ (20 + 2 * i) 2).toInt = F i 4 := pF_4 (t := 12) hF hin
    have eL : aLd F (m + 1) i b = if F i 8 = 0 then i else aLd F m (i + 1) (if F b 4 < F i 4 then i else b) := rfl
    rw [eL] at h
    refine (bX2_foremost_4 c1 zk_12).mpr (zle' (zto c5 (ai_n (by omega))) (ai_n (by omega)) (fun q => by omega) (fun _ => zle' k6 (ai_n (by omega)) (fun q => by omega) (fun _ => ⟨vp_in_nI (by omega) (by decide), ?_⟩)))
    rw [show (12 + 1 : Nat) = 13 from rfl, zR_rn c1 (by omega)]
    refine (bX2_foremost_24 c1 zk_12 (zk_rn (by omega))).mpr (zeq' e8 k0 (fun q => ?_) (fun q => ⟨vp_in_nI (by omega) (by decide), ?_⟩))
    · rw [if_pos q] at h; exact h
    · rw [if_neg q] at h
      rw [show (12 + 1 : Nat) = 13 from rfl, zR_rn c1 (by omega)]
      refine (bX2_foremost_38 c1 zk_12 (zk_rn (by omega))).mpr (p_xOf C' hF hb (fun v hv => ⟨rfl, (bX2_foremost_46 c1 zk_12).mpr (zle' e4 hv (fun q2 => ?_) (fun q2 => ?_))⟩))
      · rw [if_neg (by omega)] at h
        rw [nI_1]
        exact ih (i + 1) b (by omega) (by omega) hb h
      · rw [if_pos (by omega)] at h
        rw [nI_1]
        exact ih (i + 1) i (by omega) (by omega) hin h
theorem m_leader_l {σ : zS} {n : Nat} {F : aFn} (hl : zLay σ) (hF : mF σ n = F) (hn : n ≤ 6) (hm : zI σ 131 20 = nI n) (ho : ∀ r, r < n → (F r 7 = -1 ↔ F r 8 = -1)) :
    ∀ (m i b : Nat), n - i = m → i ≤ n → b < n → Q (some (.int (nI (aLd F m i b)))) σ → zW (d + 2) kX12_leaderNow 4 [.ref 131, .int (nI b), .int (nI i)] [] σ Q := by
  intro m
  induction m with
  | zero =>
    intro i b hm2 hi hb h
    exact (bX12_leaderNow_4 hl).mpr (zle' (zto hm (ai_n (by omega))) (ai_n (by omega)) (fun _ => h) (fun q => by omega))
  | succ m ih =>
    intro i b hm2 hi hb h
    have hin : i < n := by omega
    have eL : aLd F (m + 1) i b = if F i 8 = 0 then i else aLd F m (i + 1) (if F b 4 < F i 4 then i else b) := rfl
    rw [eL] at h
    have p32 : ¬ F i 8 = 0 → zW (d + 2) kX12_leaderNow 32 [.ref 131, .int (nI b), .int (nI i)] [] σ Q := by
      intro q
      rw [if_neg q] at h
      refine (bX12_leaderNow_32 hl).mpr (m_of hl 4 hF hn hin (by omega) (fun v hv => ⟨rfl, (bX12_leaderNow_38 hl).mpr (m_of hl 4 hF hn hb (by omega) (fun u hu => ⟨rfl, (bX12_leaderNow_44 hl).mpr (zle' hv hu (fun q2 => ?_) (fun q2 => ?_))⟩))⟩))
      · rw [if_neg (by omega)] at h
        rw [nI_1]
        exact ih (i + 1) b (by omega) (by omega) hb h
      · rw [if_pos (by omega)] at h
        rw [nI_1]
        exact ih (i + 1) i (by omega) (by omega) hin h
    refine (bX12_leaderNow_4 hl).mpr (zle' (zto hm (ai_n (by omega))) (ai_n (by omega)) (fun q => by omega) (fun _ => m_isOut hl hF hn hin ⟨rfl, (bX12_leaderNow_17 hl).mpr (zt0 (fun c => ?_) (fun c => p32 (fun q => by have := (ho i hin).mp (Classical.not_not.mp c); omega)))⟩))
    refine m_of hl 8 hF hn hin (by omega) (fun v hv => ⟨rfl, (bX12_leaderNow_27 hl).mpr (zeq' hv k0 (fun q => ?_) (fun q => p32 q))⟩)
    rw [if_pos q] at h
    exact h
theorem p_note_l {T n : Nat} {X Y : Nat → Int32} (hT : T ≤ 60) (hn : n ≤ 6) :
    ∀ (m i : Nat) (σ : zS), n - i = m → i ≤ n → zLay σ → zI σ 12 4 = nI n → (∀ r, r < n → zI σ (20 + 2 * r) 2 = X r ∧ zI σ (20 + 2 * r) 3 = Y r) → (∀ r, r < i → zI σ 33 (6 * T + r) = X r ∧ zI σ 34 (6 * T + r) = Y r) →
    (∀ σ', (∀ r, r < n → zI σ' 33 (6 * T + r) = X r ∧ zI σ' 34 (6 * T + r) = Y r) → zFr (wXY T n) σ σ' → Q none σ') → zW (d + 1) kX1_note 28 [.ref 32, .ref 12, .int (nI T), .int (nI i)] [] σ Q := by
  intro m
  induction m with
  | zero =>
    intro i σ hm hi hl h4 hX hW h
    have e : i = n := by omega
    subst e
    exact (bX1_note_28 hl zk_32 zk_12).mpr (zle' (zto h4 (ai_n (by omega))) (ai_n (by omega)) (fun _ => h σ hW (zFr.refl _ _)) (fun q => by omega))
  | succ m ih =>
    intro i σ hm hi hl h4 hX hW h
    have hin : i < n := by omega
    have ix := a_ix366 (t := T) (r := i) hT (by omega)
    refine (bX1_note_28 hl zk_32 zk_12).mpr (zle' (zto h4 (ai_n (by omega))) (ai_n (by omega)) (fun q => by omega) (fun _ => zle' k6 (ai_n (by omega)) (fun q => by omega) (fun _ => ⟨vp_in_nI (by omega) (by decide), ?_⟩)))
    rw [show (12 + 1 : Nat) = 13 from rfl, zR_rn hl (by omega)]
    refine (bX1_note_58 hl zk_32 zk_12 (zk_rn (by omega))).mpr ⟨ix.1, vp_in_nI (by omega) (by decide), ?_⟩
    rw [ix.2, show (12 + 1 : Nat) = 13 from rfl, show (32 + 1 : Nat) = 33 from rfl]
    have l1 : zLay (zsI σ 33 (upd (zI σ 33) (6 * T + i) (zI σ (20 + 2 * i) 2))) := hl.I
    have f1 : zFr (wXY T n) σ (zsI σ 33 (upd (zI σ 33) (6 * T + i) (zI σ (20 + 2 * i) 2))) := zFr_U (by unfold wXY; omega)
    have g1 : zI (zsI σ 33 (upd (zI σ 33) (6 * T + i) (zI σ (20 + 2 * i) 2))) 33 = upd (zI σ 33) (6 * T + i) (zI σ (20 + 2 * i) 2) := zI_self
    have g1' : zI (zsI σ 33 (upd (zI σ 33) (6 * T + i) (zI σ (20 + 2 * i) 2))) 34 = zI σ 34 := zI_ne (by decide)
    generalize zsI σ 33 (upd (zI σ 33) (6 * T + i) (zI σ (20 + 2 * i) 2)) = σ1 at l1 f1 g1 g1' ⊢
    rw [zR_rn l1 (by omega)]
    refine (bX1_note_78 l1 zk_32 zk_12 (zk_rn (by omega))).mpr ⟨ix.1, ?_⟩
    rw [ix.2, show (32 + 2 : Nat) = 34 from rfl, nI_1]
    have f2 : zFr (wXY T n) σ1 (zsI σ1 34 (upd (zI σ1 34) (6 * T + i) (zI σ1 (20 + 2 * i) 3))) := zFr_U (by unfold wXY; omega)
    have g2 : zI (zsI σ1 34 (upd (zI σ1 34) (6 * T + i) (zI σ1 (20 + 2 * i) 3))) 34 = upd (zI σ1 34) (6 * T + i) (zI σ1 (20 + 2 * i) 3) := zI_self
    have g3 : zI (zsI σ1 34 (upd (zI σ1 34) (6 * T + i) (zI σ1 (20 + 2 * i) 3))) 33 = zI σ1 33 := zI_ne (by decide)
    have f12 := f1.trans f2
    have hc : ∀ r, r < n → ∀ k, ¬ wXY T n 0 (20 + 2 * r) k := fun r hr k => by unfold wXY; omega
    refine ih (i + 1) _ (by omega) (by omega) l1.I (by rw [f12.i (by unfold wXY; omega)]; exact h4) (fun r hr => by rw [f12.i (hc r hr _), f12.i (hc r hr _)]; exact hX r hr) (fun r hr => ?_) (fun σ' q1 q2 => h σ' q1 (f12.trans q2))
    rw [g3, g2, g1, f1.i (hc i hin 3), (hX i hin).1, (hX i hin).2]
    rcases Nat.lt_or_ge r i with h1 | h1
    · rw [pk_un (by omega), pk_un (by omega), g1']
      exact hW r h1
    · obtain rfl : r = i := by omega
      rw [pk_us, pk_us]
      exact ⟨rfl, rfl⟩
theorem p_note {σ : zS} {n w T : Nat} {F : aFn} {B : aBk} {W : aWx} (C : pCx σ 12 n B W w) (hF : pF σ 12 n = F) (h0 : 0 < n) (e5 : zI σ 12 5 = nI T) (hT : T ≤ 60)
    (h : ∀ σ', aLog σ' 33 34 35 n T F → zFr (wLg 33 34 35 T n) σ σ' → Q none σ') : zCall (d + 2) kX1_note [.ref 32, .ref 12] σ Q := by
  have hn := C.2.2.2.1
  refine (bX1_note_0 C.1 zk_32 zk_12).mpr ?_
  rw [e5]
  refine zlt' (ai_n (by omega)) k0 (fun q => by omega) (fun _ => zle' (ai_n (by omega)) k60 (fun _ => ?_) (fun q => by omega))
  refine (bX2_foremost_0 C.1 zk_12).mpr (p_foremost_l C hF n 0 0 (by omega) (by omega) h0 ⟨rfl, (bX1_note_25 C.1 zk_32 zk_12).mpr ⟨vp_in_nI (by omega) (by decide), ?_⟩⟩)
  rw [nI_clamp (by omega), show (32 + 3 : Nat) = 35 from rfl]
  have f1 : zFr (wLg 33 34 35 T n) σ (zsI σ 35 (upd (zI σ 35) T (nI (aLd F n 0 0)))) := zFr_U (by unfold wLg; omega)
  have g1 : zI (zsI σ 35 (upd (zI σ 35) T (nI (aLd F n 0 0)))) 35 T = nI (aLd F n 0 0) := by rw [zI_self, pk_us]
  have l1 : zLay (zsI σ 35 (upd (zI σ 35) T (nI (aLd F n 0 0)))) := C.1.I
  generalize zsI σ 35 (upd (zI σ 35) T (nI (aLd F n 0 0))) = σ1 at f1 g1 l1 ⊢
  have hc : ∀ r, r < n → ∀ k, ¬ wLg 33 34 35 T n 0 (20 + 2 * r) k := fun r hr k => by unfold wLg; omega
  refine p_note_l (X := fun r => zI σ (20 + 2 * r) 2) (Y := fun r => zI σ (20 + 2 * r) 3) hT hn n 0 σ1 (by omega) (by omega) l1 (by rw [f1.i (by unfold wLg; omega)]; exact C.2.2.2.2.1) (fun r hr => ⟨f1.i (hc r hr _), f1.i (hc r hr _)⟩) (fun r hr => by omega) (fun σ' q1 q2 => h σ' ⟨fun r hr => ?_, ?_⟩ (f1.trans (q2.mono (fun j c k q => by unfold wXY at q; unfold wLg; omega))))
  · rw [(q1 r hr).1, (q1 r hr).2]
    exact ⟨pF_4 (t := 12) hF hr, pF_5 (t := 12) hF hr⟩
  · rw [q2.i (by unfold wXY; omega)]; exact g1
theorem m_record_l {T n : Nat} {F : aFn} (hT : T ≤ 60) (hn : n ≤ 6) (h0 : 0 < n) (ho : ∀ r, r < n → (F r 7 = -1 ↔ F r 8 = -1)) :
    ∀ (m i : Nat) (σ : zS), n - i = m → i ≤ n → zLay σ → zI σ 131 20 = nI n → zI σ 131 21 = nI T → mF σ n = F → (∀ r, r < i → (zI σ 142 (6 * T + r)).toInt = F r 4 ∧ (zI σ 143 (6 * T + r)).toInt = F r 5) →
    (∀ σ', aLog σ' 142 143 144 n T F → zFr (wLg 142 143 144 T n) σ σ' → Q none σ') → zW (d + 3) kX12_record 2 [.ref 131, .int (nI i)] [] σ Q := by
  intro m
  induction m with
  | zero =>
    intro i σ hm hi hl h20 h21 hF hW h
    have e : i = n := by omega
    subst e
    refine (bX12_record_2 hl).mpr (zle' (zto h20 (ai_n (by omega))) (ai_n (by omega)) (fun _ => ?_) (fun q => by omega))
    refine (bX12_leaderNow_0 hl).mpr (m_leader_l hl hF hn h20 ho i 0 0 (by omega) (by omega) h0 ⟨rfl, ?_⟩)
    rw [h21]
    refine (bX12_record_68 hl).mpr ⟨vp_in_nI (by omega) (by decide), ?_⟩
    rw [nI_clamp (by omega)]
    refine h _ ⟨fun r hr => ?_, ?_⟩ (zFr_U (by unfold wLg; omega))
    · rw [zI_ne (by decide), zI_ne (by decide)]; exact hW r hr
    · rw [zI_self, pk_us]
  | succ m ih =>
    intro i σ hm hi hl h20 h21 hF hW h
    have hin : i < n := by omega
    have ix := a_ix366 (t := T) (r := i) hT (by omega)
    refine (bX12_record_2 hl).mpr (zle' (zto h20 (ai_n (by omega))) (ai_n (by omega)) (fun q => by omega) (fun _ => m_of hl 4 hF hn hin (by omega) (fun v hv => ⟨rfl, ?_⟩)))
    rw [h21]
    refine (bX12_record_29 hl).mpr ⟨ix.1, ?_⟩
    rw [ix.2]
    have f1 : zFr (wLg 142 143 144 T n) σ (zsI σ 142 (upd (zI σ 142) (6 * T + i) v)) := zFr_U (by unfold wLg; omega)
    have g1 : zI (zsI σ 142 (upd (zI σ 142) (6 * T + i) v)) 142 = upd (zI σ 142) (6 * T + i) v := zI_self
    have g2 : ∀ c, c ≠ 142 → zI (zsI σ 142 (upd (zI σ 142) (6 * T + i) v)) c = zI σ c := fun c hc => zI_ne hc
    have l1 : zLay (zsI σ 142 (upd (zI σ 142) (6 * T + i) v)) := hl.I
    generalize zsI σ 142 (upd (zI σ 142) (6 * T + i) v) = σ1 at f1 g1 g2 l1 ⊢
    have hF1 : mF σ1 n = F := by rw [← hF]; unfold mF; rw [g2 139 (by decide)]
    refine m_of l1 5 hF1 hn hin (by omega) (fun u hu => ⟨rfl, ?_⟩)
    rw [h21]
    refine (bX12_record_49 l1).mpr ⟨ix.1, ?_⟩
    rw [ix.2, nI_1]
    have f2 : zFr (wLg 142 143 144 T n) σ1 (zsI σ1 143 (upd (zI σ1 143) (6 * T + i) u)) := zFr_U (by unfold wLg; omega)
    have k1' : zI (zsI σ1 143 (upd (zI σ1 143) (6 * T + i) u)) 143 = upd (zI σ1 143) (6 * T + i) u := zI_self
    have k2' : ∀ c, c ≠ 143 → zI (zsI σ1 143 (upd (zI σ1 143) (6 * T + i) u)) c = zI σ1 c := fun c hc => zI_ne hc
    have l2 : zLay (zsI σ1 143 (upd (zI σ1 143) (6 * T + i) u)) := l1.I
    generalize zsI σ1 143 (upd (zI σ1 143) (6 * T + i) u) = σ2 at f2 k1' k2' l2 ⊢
    refine ih (i + 1) σ2 (by omega) (by omega) l2 (by rw [k2' 131 (by decide), g2 131 (by decide)]; exact h20) (by rw [k2' 131 (by decide), g2 131 (by decide)]; exact h21) (by rw [← hF1]; unfold mF; rw [k2' 139 (by decide)]) (fun r hr => ?_) (fun σ' q1 q2 => h σ' q1 ((f1.trans f2).trans q2))
    rw [k1', k2' 142 (by decide), g1]
    rcases Nat.lt_or_ge r i with h1 | h1
    · rw [pk_un (by omega), pk_un (by omega), g2 143 (by decide)]
      exact hW r h1
    · obtain rfl : r = i := by omega
      rw [pk_us, pk_us]
      exact ⟨hv, hu⟩
theorem m_record {σ : zS} {T n : Nat} {F : aFn} (hl : zLay σ) (hT : T ≤ 60) (hn : n ≤ 6) (h0 : 0 < n) (ho : ∀ r, r < n → (F r 7 = -1 ↔ F r 8 = -1)) (h20 : zI σ 131 20 = nI n) (h21 : zI σ 131 21 = nI T) (hF : mF σ n = F)
    (h : ∀ σ', aLog σ' 142 143 144 n T F → zFr (wLg 142 143 144 T n) σ σ' → Q none σ') : zCall (d + 3) kX12_record [.ref 131] σ Q :=
  (bX12_record_0 hl).mpr (m_record_l hT hn h0 ho n 0 σ (by omega) (by omega) hl h20 h21 hF (fun r hr => by omega) h)
end RECORD
/-! strikes are few -/
def aStr (D : aD) : Nat → Int := D.2.2.2.2
def aOne (S S' : Nat → Int) : Prop := ∀ x, S' x = S x ∨ S' x = aInc (S x)
theorem aInc_b {v : Int} (h : 0 ≤ v) (h2 : v < 2147483647) : aInc v = v + 1 := by
  unfold aInc
  rw [zadd (ai_of (by omega) (by omega)) k1]
theorem aHit_one {S : Nat → Int} {x : Int} : aOne S (aHit S x) := fun i => by
  unfold aHit
  by_cases q : i = x.toNat
  · rw [if_pos q]; exact Or.inr rfl
  · rw [if_neg q]; exact Or.inl rfl
theorem aSteps_str {B : aBk} {W : aWx} {n : Nat} {T : Int} {r : Nat} : ∀ (f : Nat) (D : aD), aOne (aStr D) (aStr (aSteps B W n T r f D))
  | 0, D => fun x => Or.inl rfl
  | f + 1, D => by
    unfold aSteps
    by_cases q1 : D.1 r 6 < 4
    · rw [if_pos q1]
      by_cases q2 : 9 ≤ D.1 r 2 * max W.1 (-W.1)
      · rw [if_pos q2]; exact fun x => Or.inl rfl
      · rw [if_neg q2]; exact fun x => Or.inl rfl
    · rw [if_neg q1]
      by_cases q2 : D.1 r 4 + 1 = B.2.2
      · rw [if_pos q2]; exact fun x => Or.inl rfl
      · rw [if_neg q2]
        by_cases q3 : aStop B W n D.1 r (D.1 r 4 + 1)
        · rw [zif_t q3]; exact aHit_one
        · rw [zif_f q3]; exact aSteps_str f _
theorem aGo_str {B : aBk} {W : aWx} {n : Nat} {T : Int} {r : Nat} {D : aD} : aOne (aStr D) (aStr (aGo B W n T r D)) := by
  unfold aGo
  by_cases q1 : aEddy B D.1 r
  · rw [zif_t q1]
    by_cases q2 : (aDie (aNext D.2.2.1)).toInt < W.2.2
    · rw [if_pos q2]; exact fun x => Or.inl rfl
    · rw [if_neg q2]; exact aSteps_str 6 _
  · rw [zif_f q1]; exact aSteps_str 6 _
theorem aTurns_str {B : aBk} {W : aWx} {n : Nat} {T : Int} : ∀ (L : List Nat) (D : aD) (b : Int), b + L.length < 2147483647 → (∀ x, x < 16 → 0 ≤ aStr D x ∧ aStr D x ≤ b) → ∀ x, x < 16 → 0 ≤ aStr (aTurns B W n T L D) x ∧ aStr (aTurns B W n T L D) x ≤ b + L.length
  | [], D, b, hb, h => fun x hx => ⟨(h x hx).1, by have := (h x hx).2; show aStr D x ≤ b + (0 : Nat); omega⟩
  | r :: L, D, b, hb, h => by
    have hl : ((r :: L).length : Int) = L.length + 1 := by simp
    rw [hl] at hb ⊢
    have h1 : ∀ x, x < 16 → 0 ≤ aStr (if D.1 r 7 = -1 then aGo B W n T r D else D) x ∧ aStr (if D.1 r 7 = -1 then aGo B W n T r D else D) x ≤ b + 1 := fun x hx => by
      have hx0 := h x hx
      by_cases q : D.1 r 7 = -1
      · rw [if_pos q]
        rcases aGo_str (B := B) (W := W) (n := n) (T := T) (r := r) (D := D) x with e | e
        · rw [e]; omega
        · rw [e, aInc_b hx0.1 (by omega)]; omega
      · rw [if_neg q]; omega
    have z := aTurns_str (B := B) (W := W) (n := n) (T := T) L (if D.1 r 7 = -1 then aGo B W n T r D else D) (b + 1) (by omega) h1
    intro x hx
    have zx := z x hx
    show 0 ≤ aStr (aTurns B W n T L (if D.1 r 7 = -1 then aGo B W n T r D else D)) x ∧ aStr (aTurns B W n T L (if D.1 r 7 = -1 then aGo B W n T r D else D)) x ≤ _
    omega
theorem aTick_str {B : aBk} {W : aWx} {n : Nat} {T : Int} {D : aD} {b : Int} (hn : n ≤ 6) (hb : b < 100000) (h : ∀ x, x < 16 → 0 ≤ aStr D x ∧ aStr D x ≤ b) : ∀ x, x < 16 → 0 ≤ aStr (aTick B W n T D) x ∧ aStr (aTick B W n T D) x ≤ b + 6 := fun x hx => by
  have z := aTurns_str (B := B) (W := W) (n := n) (T := T) (aOrd (fun r => D.1 r 4) n) D b (by rw [aOrd_l]; omega) h x hx
  rw [aOrd_l] at z
  unfold aTick
  omega
theorem aRun_str {B : aBk} {W : aWx} {n : Nat} (hn : n ≤ 6) : ∀ (f : Nat) (t : Int) (D : aD), 0 ≤ t → t ≤ 60 → (∀ x, x < 16 → 0 ≤ aStr D x ∧ aStr D x ≤ 6 * t) → ∀ x, x < 16 → 0 ≤ aStr (aRun B W n f (t, D)).2 x ∧ aStr (aRun B W n f (t, D)).2 x ≤ 6 * (aRun B W n f (t, D)).1
  | 0, t, D, h1, h2, h => h
  | f + 1, t, D, h1, h2, h => by
    unfold aRun
    by_cases q : t < 60 ∧ D.2.1 < n
    · rw [if_pos q]
      exact aRun_str hn f (t + 1) (aTick B W n (t + 1) D) (by omega) (by omega) (fun x hx => by
        have z := aTick_str (B := B) (W := W) (T := t + 1) hn (by omega) h x hx
        omega)
    · rw [if_neg q]; exact h
