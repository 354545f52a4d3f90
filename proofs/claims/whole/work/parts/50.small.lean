/-! what changes little: end, weather, on, sight -/
theorem iA_but {W : Nat → Nat → Nat → Prop} {σ σ' : zS} {nb ns : Nat} (f : zFr W σ σ') (hl' : zLay σ') (g : iA σ nb ns) (h43 : ¬ W 0 131 43) (h1 : (∀ c k, jTape c k → ¬ W 0 c k) ∨ iTape σ') (h2 : (∀ c k, jWx c k → ¬ W 0 c k) ∨ iWx σ') (h3 : (∀ c k, jBr nb c k → ¬ W 0 c k) ∨ iBr σ' nb) (h4 : (∀ c k, jSt ns c k → ¬ W 0 c k) ∨ iSt σ' ns) (h5 : (∀ c k, jSg c k → ¬ W 0 c k) ∨ iSg σ' ns)
    (h6 : ((∀ c k, jRc nb ns c k → ¬ W 0 c k) ∧ (¬ W 1 131 31 ∧ ¬ W 1 12 7) ∧ ∀ c k, 12 ≤ c → c ≤ 31 → ¬ W 2 c k) ∨ iRc σ' nb ns) (h7 : ((∀ c k, jIm nb ns c k → ¬ W 0 c k) ∧ (¬ W 1 131 33 ∧ ¬ W 1 36 7) ∧ ∀ c k, 36 ≤ c → c ≤ 55 → ¬ W 2 c k) ∨ iIm σ' nb ns) (h8 : (∀ c, 20 ≤ c → c ≤ 54 → ¬ W 2 c 0) ∨ iSr σ') : iA σ' nb ns := by
  obtain ⟨g1, g2, g3, g4, g5, g6, g7, g8, g9, gS⟩ := g
  refine ⟨hl', h1.elim (fun h => iTape_fr f h g2) id, h2.elim (fun h => iWx_fr f h g3) id, by rw [f.i h43]; exact g4, h3.elim (fun h => iBr_fr f h g5) id, h4.elim (fun h => iSt_fr f h g6) id, h5.elim (fun h => iSg_fr f (Nat.le_refl _) h g7) id, h6.elim (fun h => iRc_fr f (Nat.le_refl _) (Nat.le_refl _) h.1 h.2.1 h.2.2 g8) id, h7.elim (fun h => iIm_fr f (Nat.le_refl _) (Nat.le_refl _) h.1 h.2.1 h.2.2 g9) id, h8.elim (fun h => iSr_fr f h gS) id⟩
theorem zFr_UU {W : Nat → Nat → Nat → Prop} {σ : zS} {c i j : Nat} {x y : Int32} (h1 : W 0 c i) (h2 : W 0 c j) : zFr W σ (zsI σ c (upd (upd (zI σ c) i x) j y)) := zFr_I (fun k => by
  by_cases e : k = j
  · subst e; exact Or.inl h2
  · rw [pk_un e]
    by_cases e2 : k = i
    · subst e2; exact Or.inl h1
    · exact Or.inr (pk_un e2))
theorem zFr_UUU {W : Nat → Nat → Nat → Prop} {σ : zS} {c i j l : Nat} {x y z : Int32} (h1 : W 0 c i) (h2 : W 0 c j) (h3 : W 0 c l) : zFr W σ (zsI σ c (upd (upd (upd (zI σ c) i x) j y) l z)) := zFr_I (fun k => by
  by_cases e : k = l
  · subst e; exact Or.inl h3
  · rw [pk_un e]
    by_cases e : k = j
    · subst e; exact Or.inl h2
    · rw [pk_un e]
      by_cases e2 : k = i
      · subst e2; exact Or.inl h1
      · exact Or.inr (pk_un e2))
def wEnd (j c k : Nat) : Prop := j = 0 ∧ ((c = 2 ∧ k = 1) ∨ (c = 131 ∧ (k = 0 ∨ k = 2)))
def wWea (j c k : Nat) : Prop := j = 0 ∧ ((c = 10 ∧ k < 3) ∨ (c = 131 ∧ (k = 0 ∨ (13 ≤ k ∧ k ≤ 15))))
def wOn (j c k : Nat) : Prop := (c = 12 ∧ (j = 0 ∨ (j = 2 ∧ k = 3))) ∨ (j = 0 ∧ c = 131 ∧ (k = 0 ∨ (19 ≤ k ∧ k ≤ 21)))
def wSig (j c k : Nat) : Prop := j = 0 ∧ ((6 ≤ c ∧ c ≤ 9) ∨ (c = 131 ∧ (k = 0 ∨ k = 54)) ∨ (156 ≤ c ∧ c ≤ 158))
section SMALL
variable {σ : zS} {nb ns : Nat} {Q : Option Value → zS → Prop}
theorem e_end (g : iA σ nb ns) (x : Int32) : eCall kX11_end kX12_end [.int x] [.int x] σ := by
  have h6 := g.nb6
  have h10 := g.ns10
  obtain ⟨len, t1, t2, t3, t4⟩ := g.2.1
  by_cases c : 0 ≤ x.toInt ∧ x.toInt ≤ len
  · obtain ⟨k, hk, rfl, ek⟩ := ai_nx c.1
    refine (bX11_end_0 g.1).mpr (zlt' (ai_n (by omega)) k0 (fun q => by omega) (fun _ => zle' (ai_n (by omega)) (zto t2 (ai_n (by omega))) (fun _ => ?_) (fun q => by omega)))
    have f1 : zFr wEnd σ (zsI σ 2 (upd (zI σ 2) 1 (nI k))) := zFr_U (by unfold wEnd; omega)
    refine ⟨1, rfl, g.1.I, zSam.fr f1 (fun k => by unfold wEnd; omega), (bX12_end_0 g.1.I).mpr (zlt' (ai_n (by omega)) k0 (fun q => by omega) (fun _ => zle' (ai_n (by omega)) (show (zI σ 131 2).toInt = len by rw [t3]; exact ai_n (by omega)) (fun _ => ⟨rfl, ?_, ?_⟩) (fun q => by omega)))⟩
    · have f2 : zFr wEnd (zsI σ 2 (upd (zI σ 2) 1 (nI k))) _ := zFr_UU (σ := zsI σ 2 (upd (zI σ 2) 1 (nI k))) (c := 131) (i := 0) (j := 2) (x := 0) (y := nI k) (by unfold wEnd; omega) (by unfold wEnd; omega)
      refine ⟨nb, ns, iA_but (f1.trans f2) g.1.I.I g (by unfold wEnd; omega) (Or.inr ⟨k, by omega, ?_, ?_, fun i hi => ?_⟩) (Or.inl fun c k q => by unfold jWx at q; unfold wEnd; omega) (Or.inl fun c k q => by unfold jBr jB at q; unfold wEnd; omega) (Or.inl fun c k q => by unfold jSt at q; unfold wEnd; omega) (Or.inl fun c k q => by unfold jSg at q; unfold wEnd; omega) (Or.inl ⟨fun c k q => by unfold jRc jB at q; unfold wEnd; omega, by unfold wEnd; omega, fun c k _ _ => by unfold wEnd; omega⟩) (Or.inl ⟨fun c k q => by unfold jIm jB at q; unfold wEnd; omega, by unfold wEnd; omega, fun c k _ _ => by unfold wEnd; omega⟩) (Or.inl fun c _ _ => by unfold wEnd; omega)⟩
      · rw [zI_ne (by decide), zI_self, pk_us]
      · rw [zI_self, pk_us]
      · rw [f2.i (show ¬ wEnd 0 3 i by unfold wEnd; omega), f1.i (show ¬ wEnd 0 3 i by unfold wEnd; omega), f2.i (show ¬ wEnd 0 132 i by unfold wEnd; omega), f1.i (show ¬ wEnd 0 132 i by unfold wEnd; omega)]
        exact t4 i (by omega)
    · exact zSam.fr (W := wEnd) (zFr_UU (by unfold wEnd; omega) (by unfold wEnd; omega)) (fun k => by unfold wEnd; omega)
  · refine e_q g 0 (fun Q h => ?_) (fun σ1 σ2 Q l1 e2 g2 f2 h => ?_)
    · exact (bX11_end_0 g.1).mpr (zlt' rfl k0 (fun _ => h _ σ rfl (zFr.refl _ _)) (fun q1 => zle' rfl (zto t2 (ai_n (by omega))) (fun q2 => absurd ⟨q1, q2⟩ c) (fun _ => h _ σ rfl (zFr.refl _ _))))
    · have e : zI σ1 131 2 = nI len := by
        rw [← t3, ← f2.i (show ¬ iSafe 0 131 2 by unfold iSafe; omega), ← e2, zI_self, pk_un (by decide)]
      refine (bX12_end_0 l1).mpr ?_
      rw [e2]
      exact zlt' rfl k0 (fun _ => h _ σ2 rfl (zFr.refl _ _)) (fun q1 => zle' rfl (zto e (ai_n (by omega))) (fun q2 => absurd ⟨q1, q2⟩ c) (fun _ => h _ σ2 rfl (zFr.refl _ _)))
/-- a weather that may be told -/
def aVw (x v : Int) (w : Nat) : Prop := x = w ∧ ((w = 0 ∧ -3 ≤ v ∧ v ≤ 3) ∨ (w = 1 ∧ 0 ≤ v ∧ v ≤ 3) ∨ (w = 2 ∧ 0 ≤ v ∧ v ≤ 10))
theorem km10 : (10 : Int32).toInt = 10 := rfl
theorem p_weather {d : Nat} {x v : Int32} (hl : zLay σ) (h0 : (∀ w, ¬ aVw x.toInt v.toInt w) → Q (some (.int 0)) σ) (h1 : ∀ w, aVw x.toInt v.toInt w → Q (some (.int 1)) (zsI σ 10 (upd (zI σ 10) w v))) : zCall d kX11_weather [.ref 1, .int x, .int v] σ Q := by
  have p49 : ¬ aVw x.toInt v.toInt 0 → ¬ aVw x.toInt v.toInt 1 → zW d kX11_weather 49 [.ref 1, .int x, .int v] [] σ Q := by
    intro n0 n1
    have no : ¬ aVw x.toInt v.toInt 2 → Q (some (.int 0)) σ := fun n2 => h0 (fun w q => by
      have := q.2
      rcases this with ⟨rfl, _⟩ | ⟨rfl, _⟩ | ⟨rfl, _⟩
      · exact n0 q
      · exact n1 q
      · exact n2 q)
    refine (bX11_weather_49 hl).mpr (zeq' rfl k2 (fun e => zlt' rfl k0 (fun q => no (fun z => by unfold aVw at z; omega)) (fun q => zlt' k10 rfl (fun q2 => no (fun z => by unfold aVw at z; omega)) (fun q2 => h1 2 (by unfold aVw; omega)))) (fun e => no (fun z => by unfold aVw at z; omega)))
  have p25 : ¬ aVw x.toInt v.toInt 0 → zW d kX11_weather 25 [.ref 1, .int x, .int v] [] σ Q := by
    intro n0
    refine (bX11_weather_25 hl).mpr (zeq' rfl k1 (fun e => zlt' rfl k0 (fun q => p49 n0 (fun z => by unfold aVw at z; omega)) (fun q => zlt' k3 rfl (fun q2 => p49 n0 (fun z => by unfold aVw at z; omega)) (fun q2 => h1 1 (by unfold aVw; omega)))) (fun e => p49 n0 (fun z => by unfold aVw at z; omega)))
  refine (bX11_weather_0 hl).mpr (zeq' rfl k0 (fun e => zlt' rfl km3 (fun q => p25 (fun z => by unfold aVw at z; omega)) (fun q => zlt' k3 rfl (fun q2 => p25 (fun z => by unfold aVw at z; omega)) (fun q2 => h1 0 (by unfold aVw; omega)))) (fun e => p25 (fun z => by unfold aVw at z; omega)))
theorem m_weather {d : Nat} {x v : Int32} (hl : zLay σ) (h0 : (∀ w, ¬ aVw x.toInt v.toInt w) → Q (some (.int 0)) σ) (h1 : ∀ w, aVw x.toInt v.toInt w → Q (some (.int 1)) (zsI σ 131 (upd (zI σ 131) (13 + w) v))) : zCall d kX12_isIn [.int x, .int 0, .int 2] σ (fun r σ' => zisN r = true ∧ zW (d + 1) kX12_weather 11 [.ref 131, .int x, .int v] (zRstk r ++ []) σ' Q) := by
  refine m_isIn hl ⟨rfl, (bX12_weather_11 hl).mpr (zt0 (fun c => ?_) (fun c => h0 (fun w q => c (by
    unfold aVw at q
    rw [k0, k2]
    omega))))⟩
  rw [k0, k2] at c
  refine zeq' rfl k0 (fun e => (bX12_weather_25 hl).mpr (zle' k2 rfl (fun q => by omega) (fun _ => (bX12_weather_36 hl).mpr (m_isIn hl ⟨rfl, (bX12_weather_39 hl).mpr (zt0 (fun q => ?_) (fun q => h0 (fun w z => q (by unfold aVw at z; rw [km3, k3]; omega))))⟩)))) (fun e => (bX12_weather_25 hl).mpr (zle' k2 rfl (fun e2 => ?_) (fun e2 => ?_)))
  · rw [km3, k3] at q
    refine zeq' rfl k0 (fun _ => (bX12_weather_53 hl.I).mpr (zeq' rfl k1 (fun q2 => by omega) (fun _ => (bX12_weather_63 hl.I).mpr (zeq' rfl k2 (fun q2 => by omega) (fun _ => h1 0 (by unfold aVw; omega)))))) (fun q2 => absurd e q2)
  · refine (bX12_weather_36 hl).mpr (m_isIn hl ⟨rfl, (bX12_weather_39 hl).mpr (zt0 (fun q => ?_) (fun q => h0 (fun w z => q (by unfold aVw at z; rw [k0, k10]; omega))))⟩)
    rw [k0, k10] at q
    exact zeq' rfl k0 (fun q2 => absurd q2 e) (fun _ => (bX12_weather_53 hl).mpr (zeq' rfl k1 (fun q2 => by omega) (fun _ => (bX12_weather_63 hl).mpr (zeq' rfl k2 (fun _ => h1 2 (by unfold aVw; omega)) (fun q2 => by omega)))))
  · refine (bX12_weather_36 hl).mpr (m_isIn hl ⟨rfl, (bX12_weather_39 hl).mpr (zt0 (fun q => ?_) (fun q => h0 (fun w z => q (by unfold aVw at z; rw [k0, k3]; omega))))⟩)
    rw [k0, k3] at q
    exact zeq' rfl k0 (fun q2 => absurd q2 e) (fun _ => (bX12_weather_53 hl).mpr (zeq' rfl k1 (fun _ => (bX12_weather_63 hl.I).mpr (zeq' rfl k2 (fun q2 => by omega) (fun _ => h1 1 (by unfold aVw; omega)))) (fun q2 => by omega)))
theorem e_weather (g : iA σ nb ns) (x v : Int32) : eCall kX11_weather kX12_weather [.int x, .int v] [.int x, .int v] σ := by
  have h6 := g.nb6
  have h10 := g.ns10
  by_cases c : ∃ w, aVw x.toInt v.toInt w
  · obtain ⟨w, hw⟩ := c
    have hw3 : w < 3 := by unfold aVw at hw; omega
    refine p_weather g.1 (fun q => absurd hw (q w)) (fun w' hw' => ?_)
    obtain rfl : w' = w := by unfold aVw at hw hw'; omega
    have f1 : zFr wWea σ (zsI σ 10 (upd (zI σ 10) w' v)) := zFr_U (by unfold wWea; omega)
    refine ⟨1, rfl, g.1.I, zSam.fr f1 (fun k => by unfold wWea; omega), (bX12_weather_0 g.1.I).mpr (m_weather g.1.I.I (fun q => absurd hw (q w')) (fun w hw2 => ⟨rfl, ?_, ?_⟩))⟩
    · obtain rfl : w' = w := by unfold aVw at hw hw2; omega
      generalize e1 : zsI σ 10 (upd (zI σ 10) w' v) = σ1 at f1 ⊢
      have f2 : zFr wWea σ1 (zsI σ1 131 (upd (zI σ1 131) 0 0)) := zFr_U (by unfold wWea; omega)
      generalize e2 : zsI σ1 131 (upd (zI σ1 131) 0 0) = σ2 at f2 ⊢
      have f3 : zFr wWea σ2 (zsI σ2 131 (upd (zI σ2 131) (13 + w') v)) := zFr_U (by unfold wWea; omega)
      have l3 : zLay (zsI σ2 131 (upd (zI σ2 131) (13 + w') v)) := by
        subst e2 e1
        exact g.1.I.I.I
      have p10 : ∀ k, zI (zsI σ2 131 (upd (zI σ2 131) (13 + w') v)) 10 k = if k = w' then v else zI σ 10 k := fun k => by
        subst e2 e1
        rfl
      have p131 : ∀ k, k < 3 → zI (zsI σ2 131 (upd (zI σ2 131) (13 + w') v)) 131 (13 + k) = if k = w' then v else zI σ 131 (13 + k) := fun k hk => by
        subst e2 e1
        rw [zI_self]
        by_cases q : k = w'
        · rw [if_pos q, q, pk_us]
        · rw [if_neg q, pk_un (by omega), zI_self, pk_un (by omega)]
          rfl
      refine ⟨nb, ns, iA_but ((f1.trans f2).trans f3) l3 g (by unfold wWea; omega) (Or.inl fun c k q => by unfold jTape at q; unfold wWea; omega) (Or.inr ?_) (Or.inl fun c k q => by unfold jBr jB at q; unfold wWea; omega) (Or.inl fun c k q => by unfold jSt at q; unfold wWea; omega) (Or.inl fun c k q => by unfold jSg at q; unfold wWea; omega) (Or.inl ⟨fun c k q => by unfold jRc jB at q; unfold wWea; omega, by unfold wWea; omega, fun c k _ _ => by unfold wWea; omega⟩) (Or.inl ⟨fun c k q => by unfold jIm jB at q; unfold wWea; omega, by unfold wWea; omega, fun c k _ _ => by unfold wWea; omega⟩) (Or.inl fun c _ _ => by unfold wWea; omega)⟩
      obtain ⟨w1, w2, w3, w4⟩ := g.2.2.1
      have a0 := p131 0 (by omega)
      have a1 := p131 1 (by omega)
      have a2 := p131 2 (by omega)
      refine ⟨?_, ?_, ?_, ?_⟩
      · unfold mW at w1 ⊢
        rw [show (13 : Nat) = 13 + 0 from rfl, show (14 : Nat) = 13 + 1 from rfl, show (15 : Nat) = 13 + 2 from rfl, a0, a1, a2, show zI σ 131 (13 + 1) = zI σ 131 14 from rfl, show zI σ 131 (13 + 2) = zI σ 131 15 from rfl]
        unfold aWok at w1 ⊢
        simp only [Nat.add_zero] at w1 ⊢
        unfold aVw at hw
        rcases (by omega : w' = 0 ∨ w' = 1 ∨ w' = 2) with rfl | rfl | rfl
        · rw [if_pos rfl, if_neg (by decide), if_neg (by decide)]
          omega
        · rw [if_neg (by decide), if_pos rfl, if_neg (by decide)]
          omega
        · rw [if_neg (by decide), if_neg (by decide), if_pos rfl]
          omega
      · rw [p10, show (13 : Nat) = 13 + 0 from rfl, a0, w2]
      · rw [p10, show (14 : Nat) = 13 + 1 from rfl, a1, w3]
      · rw [p10, show (15 : Nat) = 13 + 2 from rfl, a2, w4]
    · exact (zSam.fr (W := wWea) (zFr_U (by unfold wWea; omega)) (fun k => by unfold wWea; omega)).trans (zSam.fr (W := wWea) (zFr_U (by unfold aVw at hw2; unfold wWea; omega)) (fun k => by unfold wWea; omega))
  · have c' : ∀ w, ¬ aVw x.toInt v.toInt w := fun w q => c ⟨w, q⟩
    refine e_q g 0 (fun Q h => p_weather g.1 (fun _ => h _ σ rfl (zFr.refl _ _)) (fun w q => absurd q (c' w))) (fun σ1 σ2 Q l1 e2 g2 f2 h => ?_)
    refine (bX12_weather_0 l1).mpr ?_
    rw [e2]
    exact m_weather g2.1 (fun _ => h _ σ2 rfl (zFr.refl _ _)) (fun w q => absurd q (c' w))
theorem p_clear2 {d t b : Nat} {F : aFn} (hl : zLay σ) (ht : zk t = 2) (hb : zk b = 0) (h : ∀ σ', pTd σ' t 0 b F → zI σ' t 9 = 0 → zFr (fun j c k => c = t ∧ (j = 0 ∨ (j = 2 ∧ k = 3))) σ σ' → Q none σ') : zCall d kX2_clear [.ref t, .ref b] σ Q := by
  refine (bX2_clear_0 hl ht hb).mpr ?_
  have f1 : zFr (fun j c k => c = t ∧ (j = 0 ∨ (j = 2 ∧ k = 3))) σ (zsR σ t (va_up (zR σ t) 3 (some b))) := zFr_R ⟨rfl, Or.inr ⟨rfl, rfl⟩⟩
  have f2 : zFr (fun j c k => c = t ∧ (j = 0 ∨ (j = 2 ∧ k = 3))) σ (zsI (zsR σ t (va_up (zR σ t) 3 (some b))) t (upd (upd (upd (upd (zI σ t) 4 0) 5 0) 6 0) 9 0)) := f1.trans (zFr_I (fun k => Or.inl ⟨rfl, Or.inl rfl⟩))
  have l2 : zLay (zsI (zsR σ t (va_up (zR σ t) 3 (some b))) t (upd (upd (upd (upd (zI σ t) 4 0) 5 0) 6 0) 9 0)) := f2.lay hl (fun c k v hv q => by
    have := zRT_2 ht
    rcases q with ⟨rfl, q | ⟨_, rfl⟩⟩
    · omega
    · rw [this] at hv; cases hv)
  refine h _ ⟨l2, ht, by omega, ?_, ?_, hb, fun r hr => absurd hr (by omega)⟩ ?_ f2
  · rw [zI_self, pk_un (by decide), pk_un (by decide), pk_un (by decide), pk_us]; rfl
  · show zR (zsR σ t _) t 3 = _
    rw [zR_self]
    exact if_pos rfl
  · rw [zI_self, pk_us]
theorem e_on (g : iA σ nb ns) (b : Int32) : eCall kX11_on kX12_on [.int b] [.int b] σ := by
  have h6 := g.nb6
  have h10 := g.ns10
  rcases a_cs b nb with ⟨b, hb, rfl, -⟩ | hx
  · refine (bX11_on_0 g.1).mpr (p_nb0 g.1 g.e2 h6 hb ⟨rfl, (bX11_on_5 g.1).mpr (zy rfl ⟨vp_in_nI (by omega) (by decide), ?_⟩)⟩)
    rw [zR_bk g.1 (by omega)]
    refine (bX11_on_20 g.1 (zk_bk (by omega))).mpr (p_clear2 (F := fun _ _ => 0) g.1 zk_12 (zk_bk (by omega)) (fun σ1 T1 e9 f1 => ⟨rfl, (bX11_on_23 T1.1).mpr ?_⟩))
    have f1o : zFr wOn σ σ1 := f1.mono (fun j c k q => Or.inl q)
    have f2 : zFr wOn σ1 (zsI σ1 131 (upd (zI σ1 131) 0 0)) := zFr_U (by unfold wOn; omega)
    refine ⟨1, rfl, T1.1, zSam.fr f1o (fun k => by unfold wOn; omega), (bX12_on_0 T1.1).mpr ?_⟩
    generalize e2 : zsI σ1 131 (upd (zI σ1 131) 0 0) = σ2 at f2 ⊢
    have l2 : zLay σ2 := by subst e2; exact T1.1.I
    have f3 : zFr wOn σ2 (zsI σ2 131 (upd (upd (upd (zI σ2 131) 19 (nI b)) 20 0) 21 (-1))) := zFr_UUU (by unfold wOn; omega) (by unfold wOn; omega) (by unfold wOn; omega)
    have e11 : zI σ2 131 11 = nI nb := by rw [f2.i (by unfold wOn; omega), f1o.i (by unfold wOn; omega)]; exact g.e11
    refine m_ib1 l2 e11 h6 hb ⟨rfl, (bX12_on_10 l2).mpr (zn (by decide) ⟨rfl, ?_, (zSam.fr f2 (fun k => by unfold wOn; omega)).trans (zSam.fr f3 (fun k => by unfold wOn; omega))⟩)⟩
    obtain ⟨-, -, -, t4, t5, -, -⟩ := T1
    have z12 : ∀ k, zI (zsI σ2 131 (upd (upd (upd (zI σ2 131) 19 (nI b)) 20 0) 21 (-1))) 12 k = zI σ1 12 k := fun k => by subst e2; rfl
    refine ⟨nb, ns, iA_but ((f1o.trans f2).trans f3) l2.I g (by unfold wOn; omega) (Or.inl fun c k q => by unfold jTape at q; unfold wOn; omega) (Or.inl fun c k q => by unfold jWx at q; unfold wOn; omega) (Or.inl fun c k q => by unfold jBr jB at q; unfold wOn; omega) (Or.inl fun c k q => by unfold jSt at q; unfold wOn; omega) (Or.inl fun c k q => by unfold jSg at q; unfold wOn; omega) (Or.inr ⟨0, by omega, ?_, ?_, Or.inr ⟨b, ?_, ⟨hb, ?_, fun r hr => by omega, ?_, fun r hr => by omega, fun r hr => by omega⟩, Or.inl ⟨?_, ?_, fun r hr => by omega⟩⟩⟩) (Or.inl ⟨fun c k q => by unfold jIm jB at q; unfold wOn; omega, by unfold wOn; omega, fun c k _ _ => by unfold wOn; omega⟩) (Or.inl fun c _ _ => by unfold wOn; omega)⟩
    · rw [zI_self, pk_un (by decide), pk_us]; rfl
    · rw [z12]; exact t4
    · rw [zI_self, pk_un (by decide), pk_un (by decide), pk_us]
    · subst e2; exact t5
    · funext r w
      unfold pF mFR
      rw [if_neg (by omega), if_neg (by omega)]
    · rw [zI_self, pk_us]
    · rw [z12]; exact e9
  · refine e_q g 0 (fun Q h => (bX11_on_0 g.1).mpr (p_nb1 g.1 g.e2 h6 hx ⟨rfl, (bX11_on_5 g.1).mpr (zn (by decide) (h _ σ rfl (zFr.refl _ _)))⟩)) (fun σ1 σ2 Q l1 e2 g2 f2 h => ?_)
    refine (bX12_on_0 l1).mpr ?_
    rw [e2]
    exact m_ib0 g2.1 g2.e11 h6 hx ⟨rfl, (bX12_on_10 g2.1).mpr (zy rfl (h _ σ2 rfl (zFr.refl _ _)))⟩
theorem e_sight (g : iA σ nb ns) (s y t : Int32) : eCall kX11_sight kX12_sight [.int s, .int y, .int t] [.int s, .int y, .int t] σ := by
  have h10 := g.ns10
  have h6 := g.nb6
  obtain ⟨n, q1, q2, q3, q4⟩ := g.sg
  have i05 : (5 : Int32).toInt = 5 := rfl
  rcases a_cs s ns with ⟨s, hs, rfl, -⟩ | hx
  · by_cases c : (0 ≤ y.toInt ∧ y.toInt ≤ 5 ∧ 1 ≤ t.toInt ∧ t.toInt ≤ 99) ∧ n < 10
    · obtain ⟨⟨y0, y5, t1, t99⟩, hn⟩ := c
      refine (bX11_sight_0 g.1).mpr (p_ns0 g.1 g.e4 h10 hs ⟨rfl, (bX11_sight_5 g.1).mpr (zy rfl (zlt' rfl k0 (fun q => by omega) (fun _ => zle' k6 rfl (fun q => by omega) (fun _ => zlt' rfl k1 (fun q => by omega) (fun _ => zle' rfl k99 (fun _ => ?_) (fun q => by omega))))))⟩)
      refine (bX5_add_0 g.1 zk_6).mpr ?_
      rw [q2]
      refine zlt' (ai_n (by omega)) k0 (fun q => by omega) (fun _ => zlt' (ai_n (by omega)) k10 (fun _ => ⟨vp_in_nI (by omega) (by decide), vp_in_nI (by omega) (by decide), vp_in_nI (by omega) (by decide), rfl, (bX11_sight_41 g.1.I.I.I.I).mpr ?_⟩) (fun q => by omega))
      rw [nI_clamp (by omega), nI_1]
      have f1 : zFr wSig σ (zsI (zsI (zsI (zsI σ (6 + 1) (upd (zI σ (6 + 1)) n (nI s))) (6 + 2) (upd (zI σ (6 + 2)) n y)) (6 + 3) (upd (zI σ (6 + 3)) n t)) 6 (upd (zI σ 6) 3 (nI (n + 1)))) :=
        ((zFr_U (W := wSig) (by unfold wSig; omega)).trans ((zFr_U (W := wSig) (σ := zsI σ 7 _) (by unfold wSig; omega)).trans ((zFr_U (W := wSig) (σ := zsI (zsI σ 7 _) 8 _) (by unfold wSig; omega)).trans (zFr_U (W := wSig) (σ := zsI (zsI (zsI σ 7 _) 8 _) 9 _) (by unfold wSig; omega)))))
      refine ⟨nI (n + 1), rfl, g.1.I.I.I.I, zSam.fr f1 (fun k => by unfold wSig; omega), (bX12_sight_0 g.1.I.I.I.I).mpr ?_⟩
      have v6 : ∀ k, zI (zsI (zsI (zsI (zsI σ (6 + 1) (upd (zI σ (6 + 1)) n (nI s))) (6 + 2) (upd (zI σ (6 + 2)) n y)) (6 + 3) (upd (zI σ (6 + 3)) n t)) 6 (upd (zI σ 6) 3 (nI (n + 1)))) 6 k = upd (zI σ 6) 3 (nI (n + 1)) k := fun k => rfl
      have v7 : ∀ k, zI (zsI (zsI (zsI (zsI σ (6 + 1) (upd (zI σ (6 + 1)) n (nI s))) (6 + 2) (upd (zI σ (6 + 2)) n y)) (6 + 3) (upd (zI σ (6 + 3)) n t)) 6 (upd (zI σ 6) 3 (nI (n + 1)))) 7 k = upd (zI σ 7) n (nI s) k := fun k => rfl
      have v8 : ∀ k, zI (zsI (zsI (zsI (zsI σ (6 + 1) (upd (zI σ (6 + 1)) n (nI s))) (6 + 2) (upd (zI σ (6 + 2)) n y)) (6 + 3) (upd (zI σ (6 + 3)) n t)) 6 (upd (zI σ 6) 3 (nI (n + 1)))) 8 k = upd (zI σ 8) n y k := fun k => rfl
      have v9 : ∀ k, zI (zsI (zsI (zsI (zsI σ (6 + 1) (upd (zI σ (6 + 1)) n (nI s))) (6 + 2) (upd (zI σ (6 + 2)) n y)) (6 + 3) (upd (zI σ (6 + 3)) n t)) 6 (upd (zI σ 6) 3 (nI (n + 1)))) 9 k = upd (zI σ 9) n t k := fun k => rfl
      have v131 : ∀ k, zI (zsI (zsI (zsI (zsI σ (6 + 1) (upd (zI σ (6 + 1)) n (nI s))) (6 + 2) (upd (zI σ (6 + 2)) n y)) (6 + 3) (upd (zI σ (6 + 3)) n t)) 6 (upd (zI σ 6) 3 (nI (n + 1)))) 131 k = zI σ 131 k := fun k => rfl
      have v156 : ∀ k, zI (zsI (zsI (zsI (zsI σ (6 + 1) (upd (zI σ (6 + 1)) n (nI s))) (6 + 2) (upd (zI σ (6 + 2)) n y)) (6 + 3) (upd (zI σ (6 + 3)) n t)) 6 (upd (zI σ 6) 3 (nI (n + 1)))) 156 k = zI σ 156 k := fun k => rfl
      have v157 : ∀ k, zI (zsI (zsI (zsI (zsI σ (6 + 1) (upd (zI σ (6 + 1)) n (nI s))) (6 + 2) (upd (zI σ (6 + 2)) n y)) (6 + 3) (upd (zI σ (6 + 3)) n t)) 6 (upd (zI σ 6) 3 (nI (n + 1)))) 157 k = zI σ 157 k := fun k => rfl
      have v158 : ∀ k, zI (zsI (zsI (zsI (zsI σ (6 + 1) (upd (zI σ (6 + 1)) n (nI s))) (6 + 2) (upd (zI σ (6 + 2)) n y)) (6 + 3) (upd (zI σ (6 + 3)) n t)) 6 (upd (zI σ 6) 3 (nI (n + 1)))) 158 k = zI σ 158 k := fun k => rfl
      have l1 : zLay (zsI (zsI (zsI (zsI σ (6 + 1) (upd (zI σ (6 + 1)) n (nI s))) (6 + 2) (upd (zI σ (6 + 2)) n y)) (6 + 3) (upd (zI σ (6 + 3)) n t)) 6 (upd (zI σ 6) 3 (nI (n + 1)))) := g.1.I.I.I.I
      generalize zsI (zsI (zsI (zsI σ (6 + 1) (upd (zI σ (6 + 1)) n (nI s))) (6 + 2) (upd (zI σ (6 + 2)) n y)) (6 + 3) (upd (zI σ (6 + 3)) n t)) 6 (upd (zI σ 6) 3 (nI (n + 1))) = σ1 at f1 v6 v7 v8 v9 v131 v156 v157 v158 l1 ⊢
      have ne10 : ¬ nI n = 10 := fun q => by
        have := congrArg Int32.toInt q
        rw [ai_n (by omega), k10] at this
        omega
      have e54 : zI σ1 131 54 = nI n := by rw [v131]; exact q3
      rw [e54]
      have f2 : zFr wSig σ1 (zsI σ1 131 (upd (zI σ1 131) 0 0)) := zFr_U (by unfold wSig; omega)
      refine zn ne10 ?_
      have z : ∀ c, c ≠ 131 → zI (zsI σ1 131 (upd (zI σ1 131) 0 0)) c = zI σ1 c := fun c hc => zI_ne hc
      have e54' : zI (zsI σ1 131 (upd (zI σ1 131) 0 0)) 131 54 = nI n := by rw [zI_self, pk_un (by decide)]; exact e54
      have l2 : zLay (zsI σ1 131 (upd (zI σ1 131) 0 0)) := l1.I
      generalize zsI σ1 131 (upd (zI σ1 131) 0 0) = σ2 at f2 z e54' l2 ⊢
      have e12 : zI σ2 131 12 = nI ns := by rw [f2.i (by unfold wSig; omega), f1.i (by unfold wSig; omega)]; exact g.e12
      refine m_is1 l2 e12 h10 hs ⟨rfl, (bX12_sight_19 l2).mpr (zn (by decide) (m_isIn l2 ⟨rfl, (bX12_sight_28 l2).mpr (zt0 (fun _ => m_isIn l2 ⟨rfl, (bX12_sight_38 l2).mpr (zt0 (fun _ => ?_) (fun q => absurd (by rw [k1, k99]; omega) q))⟩) (fun q => absurd (by rw [k0, i05]; omega) q))⟩))⟩
      rw [e54', nI_clamp (by omega), nI_1]
      have f3 : zFr wSig σ2 (zsI (zsI (zsI (zsI σ2 156 (upd (zI σ2 156) n (nI s))) 157 (upd (zI σ2 157) n y)) 158 (upd (zI σ2 158) n t)) 131 (upd (zI σ2 131) 54 (nI (n + 1)))) :=
        ((zFr_U (W := wSig) (by unfold wSig; omega)).trans ((zFr_U (W := wSig) (σ := zsI σ2 156 _) (by unfold wSig; omega)).trans ((zFr_U (W := wSig) (σ := zsI (zsI σ2 156 _) 157 _) (by unfold wSig; omega)).trans (zFr_U (W := wSig) (σ := zsI (zsI (zsI σ2 156 _) 157 _) 158 _) (by unfold wSig; omega)))))
      refine ⟨vp_in_nI (by omega) (by decide), vp_in_nI (by omega) (by decide), vp_in_nI (by omega) (by decide), rfl, ⟨nb, ns, iA_but ((f1.trans f2).trans f3) l2.I.I.I.I g (by unfold wSig; omega) (Or.inl fun c k q => by unfold jTape at q; unfold wSig; omega) (Or.inl fun c k q => by unfold jWx at q; unfold wSig; omega) (Or.inl fun c k q => by unfold jBr jB at q; unfold wSig; omega) (Or.inl fun c k q => by unfold jSt at q; unfold wSig; omega) (Or.inr ⟨n + 1, by omega, ?_, ?_, fun i hi => ?_⟩) (Or.inl ⟨fun c k q => by unfold jRc jB at q; unfold wSig; omega, by unfold wSig; omega, fun c k _ _ => by unfold wSig; omega⟩) (Or.inl ⟨fun c k q => by unfold jIm jB at q; unfold wSig; omega, by unfold wSig; omega, fun c k _ _ => by unfold wSig; omega⟩) (Or.inl fun c _ _ => by unfold wSig; omega)⟩, (zSam.fr f2 (fun k => by unfold wSig; omega)).trans (zSam.fr f3 (fun k => by unfold wSig; omega))⟩
      · show zI σ2 6 3 = nI (n + 1)
        rw [z 6 (by decide), v6, pk_us]
      · rw [zI_self, pk_us]
      · show ∃ s', s' < ns ∧ zI σ2 7 i = nI s' ∧ upd (zI σ2 156) n (nI s) i = nI s' ∧ zI σ2 8 i = upd (zI σ2 157) n y i ∧ zI σ2 9 i = upd (zI σ2 158) n t i ∧ 0 ≤ (upd (zI σ2 157) n y i).toInt ∧ (upd (zI σ2 157) n y i).toInt ≤ 5 ∧ 1 ≤ (upd (zI σ2 158) n t i).toInt ∧ (upd (zI σ2 158) n t i).toInt ≤ 99
        rw [z 7 (by decide), z 8 (by decide), z 9 (by decide), v7, v8, v9]
        rcases Nat.lt_or_ge i n with hi2 | hi2
        · rw [pk_un (by omega), pk_un (by omega), pk_un (by omega), pk_un (by omega), pk_un (by omega), pk_un (by omega), z 156 (by decide), z 157 (by decide), z 158 (by decide), v156, v157, v158]
          exact q4 i hi2
        · obtain rfl : i = n := by omega
          rw [pk_us, pk_us, pk_us, pk_us, pk_us, pk_us]
          exact ⟨s, hs, rfl, rfl, rfl, rfl, y0, y5, t1, t99⟩
    · refine e_q g (-1) (fun Q h => ?_) (fun σ1 σ2 Q l1 e2 g2 f2 h => ?_)
      · refine (bX11_sight_0 g.1).mpr (p_ns0 g.1 g.e4 h10 hs ⟨rfl, (bX11_sight_5 g.1).mpr (zy rfl (zlt' rfl k0 (fun q => h _ σ km1 (zFr.refl _ _)) (fun y0 => zle' k6 rfl (fun q => h _ σ km1 (zFr.refl _ _)) (fun y5 => zlt' rfl k1 (fun q => h _ σ km1 (zFr.refl _ _)) (fun t1 => zle' rfl k99 (fun t99 => ?_) (fun q => h _ σ km1 (zFr.refl _ _)))))))⟩)
        refine (bX5_add_0 g.1 zk_6).mpr ?_
        rw [q2]
        exact zlt' (ai_n (by omega)) k0 (fun q => ⟨rfl, (bX11_sight_41 g.1).mpr (h _ σ km1 (zFr.refl _ _))⟩) (fun _ => zlt' (ai_n (by omega)) k10 (fun q => absurd ⟨⟨y0, by omega, t1, t99⟩, by omega⟩ c) (fun _ => ⟨rfl, (bX11_sight_41 g.1).mpr (h _ σ km1 (zFr.refl _ _))⟩))
      · have e54 : zI σ1 131 54 = nI n := by
          rw [← q3, ← f2.i (show ¬ iSafe 0 131 54 by unfold iSafe; omega), ← e2, zI_self, pk_un (by decide)]
        refine (bX12_sight_0 l1).mpr ?_
        rw [e54, e2]
        refine zeq' (ai_n (by omega)) k10 (fun _ => h _ σ2 km1 (zFr.refl _ _)) (fun q1 => m_is1 g2.1 g2.e12 h10 hs ⟨rfl, (bX12_sight_19 g2.1).mpr (zn (by decide) (m_isIn g2.1 ⟨rfl, (bX12_sight_28 g2.1).mpr (zt0 (fun q2 => m_isIn g2.1 ⟨rfl, (bX12_sight_38 g2.1).mpr (zt0 (fun q3 => ?_) (fun q => h _ σ2 km1 (zFr.refl _ _)))⟩) (fun q => h _ σ2 km1 (zFr.refl _ _)))⟩))⟩)
        rw [k0, i05] at q2
        rw [k1, k99] at q3
        exact absurd ⟨⟨q2.1, q2.2, q3.1, q3.2⟩, by omega⟩ c
  · refine e_q g (-1) (fun Q h => (bX11_sight_0 g.1).mpr (p_ns1 g.1 g.e4 h10 hx ⟨rfl, (bX11_sight_5 g.1).mpr (zn (by decide) (h _ σ km1 (zFr.refl _ _)))⟩)) (fun σ1 σ2 Q l1 e2 g2 f2 h => ?_)
    refine (bX12_sight_0 l1).mpr ?_
    rw [e2]
    exact zti (fun _ => h _ σ2 km1 (zFr.refl _ _)) (fun _ => m_is0 g2.1 g2.e12 h10 hx ⟨rfl, (bX12_sight_19 g2.1).mpr (zy rfl (h _ σ2 km1 (zFr.refl _ _)))⟩)
end SMALL
