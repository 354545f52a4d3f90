/-! the verb stoned -/
def sGd (σ : zS) (B : aBk) (n y x : Nat) : Prop := B.1 y x ≠ 0 ∧ agr σ (bPut B y x 0) n
/-- found from (y, x) on -/
noncomputable def sAn (g : Nat → Nat → Prop) (L W : Nat) (i : Int) : Nat → Nat → Nat → Int → Int
  | 0, _, _, _ => 0
  | F + 1, y, x, f => if L ≤ y then (if i = -1 then f else -1) else if W ≤ x then sAn g L W i F (y + 1) 0 f else @ite _ (g y x) (Classical.propDecidable _) (if f = i then 16 * (y : Int) + x else sAn g L W i F y (x + 1) (f + 1)) (sAn g L W i F y (x + 1) f)
section SAN
variable {g : Nat → Nat → Prop} {L W F y x : Nat} {i f : Int}
theorem sAn_e (h : L ≤ y) : sAn g L W i (F + 1) y x f = if i = -1 then f else -1 := if_pos h
theorem sAn_y (h : ¬ L ≤ y) (h2 : W ≤ x) : sAn g L W i (F + 1) y x f = sAn g L W i F (y + 1) 0 f := by
  show (if L ≤ y then _ else _) = _
  rw [if_neg h, if_pos h2]
theorem sAn_t (h : ¬ L ≤ y) (h2 : ¬ W ≤ x) (h3 : g y x) : sAn g L W i (F + 1) y x f = if f = i then 16 * (y : Int) + x else sAn g L W i F y (x + 1) (f + 1) := by
  show (if L ≤ y then _ else _) = _
  rw [if_neg h, if_neg h2, if_pos h3]
theorem sAn_f (h : ¬ L ≤ y) (h2 : ¬ W ≤ x) (h3 : ¬ g y x) : sAn g L W i (F + 1) y x f = sAn g L W i F y (x + 1) f := by
  show (if L ≤ y then _ else _) = _
  rw [if_neg h, if_neg h2, if_neg h3]
end SAN
theorem bPut_b {B : aBk} {y x : Nat} {v : Int} : ∀ y' x', (bPut (bPut B y x v) y x (B.1 y x)).1 y' x' = B.1 y' x' := fun y' x' => by
  by_cases c : y' = y ∧ x' = x
  · obtain ⟨e1, e2⟩ := c
    subst e1; subst e2
    exact bPut_s
  · rw [bPut_n c, bPut_n c]
theorem mB_put {σ : zS} {b y x : Nat} {v : Int32} (hy : y < 6) (hx : x < 16) : mB (zsI σ 133 (upd (zI σ 133) (16 * (6 * b + y) + x) v)) b = bPut (mB σ b) y x v.toInt := by
  unfold mB bPut
  rw [zI_self, zI_ne (by decide), zI_ne (by decide)]
  refine congrArg (fun z => (z, _)) ?_
  funext y' x'
  by_cases c : y' = y ∧ x' = x
  · obtain ⟨e1, e2⟩ := c
    subst e1; subst e2
    rw [if_pos ⟨hy, hx⟩, if_pos ⟨rfl, rfl⟩, pk_us]
  · rw [if_neg c]
    show _ = (if y' < 6 ∧ x' < 16 then (zI σ 133 (16 * (6 * b + y') + x')).toInt else 0)
    by_cases c2 : y' < 6 ∧ x' < 16
    · rw [if_pos c2, if_pos c2, pk_un (by omega)]
    · rw [if_neg c2, if_neg c2]
theorem zFr_back {W : Nat → Nat → Nat → Prop} {σ σ' : zS} {i : Nat} {v : Int32} (h : zFr W (zsI σ 133 (upd (zI σ 133) i v)) σ') (w : ∀ k, ¬ W 0 133 k) : zFr W σ (zsI σ' 133 (upd (zI σ' 133) i (zI σ 133 i))) := by
  refine ⟨h.1, h.2.1, fun c k q => ?_, fun c k q => ?_, fun c k q => ?_⟩
  · by_cases e : c = 133
    · subst e
      rw [zI_self]
      by_cases e2 : k = i
      · subst e2; rw [pk_us]
      · rw [pk_un e2, h.i (w k), zI_self, pk_un e2]
    · rw [zI_ne e, h.i q, zI_ne e]
  · exact h.l q
  · exact h.r q
section STONED
variable {d : Nat} {Q : Option Value → zS → Prop} {σ0 : zS} {nb ns n : Nat}
theorem s_mul {L y W : Nat} (h : y < L) : (L - y) * (W + 1) = (L - (y + 1)) * (W + 1) + (W + 1) := by
  conv => lhs; rw [show L - y = (L - (y + 1)) + 1 by omega]
  rw [Nat.succ_mul]
theorem p_stoned_l {b L W : Nat} {x1 i : Int32} {V : Int} (g0 : iA σ0 nb ns) (s0 : sgt σ0 ns n) (hb : b < nb) (hL : (mB σ0 b).2.1 = (L : Int)) (hW : (mB σ0 b).2.2 = (W : Int)) (hc : ∀ (v : Int32) (σ' : zS), v.toInt = V → zFr pWz σ0 σ' → Q (some (.int v)) σ') :
    ∀ (F y x : Nat) (σ : zS) (v5 v6 v7 : Value) (f : Nat), V = sAn (sGd σ0 (mB σ0 b) n) L W i.toInt F y x f → (L - y) * (W + 1) + 1 ≤ F + x → x ≤ W → y ≤ L → (y = L → x = 0) → f ≤ 16 * y + x → zFr pWz σ0 σ → pBk σ 91 (mB σ0 b) → v5.category = 1 → v6.category = 1 → v7.category = 1 →
      (x = 0 → zW (d + 7) kX11_stoned 33 [.ref 1, .int x1, .int i, .int (nI f), .int (nI y), v5, v6, v7] [] σ Q) ∧ (y < L → zW (d + 7) kX11_stoned 48 [.ref 1, .int x1, .int i, .int (nI f), .int (nI y), .int (nI x), v6, v7] [] σ Q) := by
  have h6 := g0.nb6
  have hB := g0.bok hb
  have hL6 : L ≤ 6 := by have := hB.2.1; omega
  have hW16 : W ≤ 16 := by have := hB.2.2.2.1; omega
  intro F
  induction F with
  | zero =>
    intro y x σ v5 v6 v7 f eV hF hx hy hyx hf fr gp c5 c6 c7
    exfalso
    by_cases q : y < L
    · rw [s_mul q] at hF
      omega
    · have := hyx (by omega)
      omega
  | succ F ih =>
    intro y x σ v5 v6 v7 f eV hF hx hy hyx hf fr gp c5 c6 c7
    have l := (pZ g0 fr).1.1
    have eL : (zI σ 91 3).toInt = (L : Int) := by rw [gp.2.1, hL]
    have eW : (zI σ 91 4).toInt = (W : Int) := by rw [gp.2.2.1, hW]
    have hin : y < L → zW (d + 7) kX11_stoned 48 [.ref 1, .int x1, .int i, .int (nI f), .int (nI y), .int (nI x), v6, v7] [] σ Q := fun hyL => by
      refine (bX11_stoned_48 l c6 c7).mpr (zle' eW (ai_n (by omega)) (fun q => ?_) (fun q => ?_))
      · rw [sAn_y (by omega) (by omega)] at eV
        rw [nI_1]
        rw [s_mul hyL] at hF
        exact (ih (y + 1) 0 σ _ v6 v7 f eV (by omega) (by omega) (by omega) (fun _ => rfl) (by omega) fr gp (zcat_i _) c6 c7).1 rfl
      · have hxW : x < W := by omega
        have hy6 : y < 6 := by omega
        have hx16 : x < 16 := by omega
        have hyB : (y : Int) < (mB σ0 b).2.1 := by omega
        have hxB : (x : Int) < (mB σ0 b).2.2 := by omega
        have vb := hB.2.2.2.2 y x hyB hxB
        have nx : ∀ (σ1 : zS) (w6 w7 : Value) (f' : Nat), w6.category = 1 → w7.category = 1 → zFr pWz σ0 σ1 → pBk σ1 91 (mB σ0 b) → V = sAn (sGd σ0 (mB σ0 b) n) L W i.toInt F y (x + 1) f' → f' ≤ 16 * y + (x + 1) → zW (d + 7) kX11_stoned 48 [.ref 1, .int x1, .int i, .int (nI f'), .int (nI y), .int (nI x + 1), w6, w7] [] σ1 Q := fun σ1 w6 w7 f' a6 a7 f1 gp1 e1 e2 => by
          rw [nI_1]
          exact (ih y (x + 1) σ1 (.int 0) w6 w7 f' e1 (by omega) (by omega) (by omega) (fun z => by omega) e2 f1 gp1 (zcat_i _) a6 a7).2 hyL
        refine p_signAt l gp hy6 hx16 hyB hxB (fun c hc1 => ⟨rfl, (bX11_stoned_71 l c6 c7).mpr (p_put l gp hy6 hx16 hyB hxB (v := 0) (by omega) rfl (fun σ1 gp1 f1 => ⟨rfl, ?_⟩))⟩)
        have f1z : zFr pWz σ σ1 := f1.mono (fun j c k q => by unfold pWz; omega)
        have fr1 := fr.trans f1z
        have l1 := (pZ g0 fr1).1.1
        -- back to the cell's own sign
        have fin : ∀ (σ2 : zS) (a : Prop), zFr pWz σ0 σ2 → pBk σ2 91 (bPut (mB σ0 b) y x 0) → (a ↔ sGd σ0 (mB σ0 b) n y x) → zW (d + 7) kX11_stoned 109 [.ref 1, .int x1, .int i, .int (nI f), .int (nI y), .int (nI x), .int c, v7] [.int (zb a)] σ2 Q := fun σ2 a fr2 gp2 ha => by
          have l2 := (pZ g0 fr2).1.1
          refine (bX11_stoned_109 l2 c7).mpr (p_put l2 gp2 hy6 hx16 hyB hxB (v := (mB σ0 b).1 y x) vb hc1 (fun σ3 gp3 f3 => ⟨rfl, ?_⟩))
          have gp3' : pBk σ3 91 (mB σ0 b) := pBk_c gp3 rfl rfl bPut_b
          have fr3 : zFr pWz σ0 σ3 := fr2.trans (f3.mono (fun j c k q => by unfold pWz; omega))
          have l3 := (pZ g0 fr3).1.1
          refine (bX11_stoned_124 l3).mpr (zt0 (fun q1 => ?_) (fun q1 => (bX11_stoned_143 l3).mpr (zt0 (fun z => absurd z q1) (fun _ => ?_))))
          · rw [sAn_t (by omega) (by omega) (ha.mp q1)] at eV
            refine zeq' (ai_n (by omega)) rfl (fun q2 => hc _ σ3 ?_ fr3) (fun q2 => (bX11_stoned_143 l3).mpr (zt0 (fun _ => ?_) (fun z => absurd q1 z)))
            · rw [eV, if_pos q2, zadd (zmul (show (16 : Int32).toInt = 16 from rfl) (ai_n (show y < 2147483648 by omega)) (by omega) (by omega)) (ai_n (by omega)) (by omega) (by omega)]
            · rw [if_neg q2] at eV
              rw [nI_1]
              exact nx σ3 _ _ (f + 1) (zcat_i _) (zcat_i _) fr3 gp3' eV (by omega)
          · rw [sAn_f (by omega) (by omega) (fun z => q1 (ha.mpr z))] at eV
            rw [Int32.add_zero]
            exact nx σ3 _ _ f (zcat_i _) (zcat_i _) fr3 gp3' eV (by omega)
        have k111 : (111 : Int32).toInt = 111 := rfl
        have cz : c.toInt = 111 ↔ (mB σ0 b).1 y x = 0 := by
          rw [hc1]
          unfold pCode
          by_cases q0 : (mB σ0 b).1 y x = 0
          · rw [if_pos q0]; exact ⟨fun _ => q0, fun _ => rfl⟩
          · rw [if_neg q0]
            by_cases q1 : (mB σ0 b).1 y x = 10
            · rw [if_pos q1]; omega
            · rw [if_neg q1]; omega
        refine (bX11_stoned_86 l1 c7).mpr (zeq' rfl k111 (fun q1 => (bX11_stoned_108 l1 c7).mpr ?_) (fun q1 => ?_))
        · have z := fin σ1 False fr1 gp1 ⟨fun z => absurd z id, fun z => z.1 (cz.mp q1)⟩
          rwa [zb_f id] at z
        · refine p_agrees (d := d) g0 s0 zk_91 (bPut_ok hB (by omega)) fr1 gp1 (fun σ2 fr2 fn => ⟨rfl, (bX11_stoned_101 (pZ g0 fr2).1.1 c7).mpr (zt0 (fun q2 => ?_) (fun q2 => (bX11_stoned_108 (pZ g0 fr2).1.1 c7).mpr ?_))⟩)
          · have gp2 := pBk_fr fn (pWq_b zk_60 zk_91) gp1
            have z := fin σ2 True fr2 gp2 ⟨fun _ => ⟨fun w => q1 (cz.mpr w), q2⟩, fun _ => trivial⟩
            rwa [zb_t trivial] at z
          · have gp2 := pBk_fr fn (pWq_b zk_60 zk_91) gp1
            have z := fin σ2 False fr2 gp2 ⟨fun z => absurd z id, fun z => q2 z.2⟩
            rwa [zb_f id] at z
    refine ⟨fun ex => ?_, hin⟩
    subst ex
    refine (bX11_stoned_33 l c5 c6 c7).mpr (zle' eL (ai_n (by omega)) (fun q => ?_) (fun q => hin (by omega)))
    rw [sAn_e (by omega)] at eV
    refine zeq' rfl km1 (fun q2 => hc _ σ ?_ fr) (fun q2 => hc _ σ ?_ fr)
    · rw [eV, if_pos q2]; exact ai_n (by omega)
    · rw [eV, if_neg q2]; exact km1
theorem m_stoned_l {b L W : Nat} {i : Int32} {V : Int} (g0 : iA σ0 nb ns) (s0 : sgt σ0 ns n) (hb : b < nb) (hL : (mB σ0 b).2.1 = (L : Int)) (hW : (mB σ0 b).2.2 = (W : Int)) (hc : ∀ (v : Int32) (σ' : zS), v.toInt = V → zFr mWq σ0 σ' → Q (some (.int v)) σ') :
    ∀ (F y x : Nat) (σ : zS) (v5 v6 v7 v8 : Value) (f : Nat), V = sAn (sGd σ0 (mB σ0 b) n) L W i.toInt F y x f → (L - y) * (W + 1) + 1 ≤ F + x → x ≤ W → y ≤ L → (y = L → x = 0) → f ≤ 16 * y + x → zFr mWq σ0 σ → v5.category = 1 → v6.category = 1 → v7.category = 1 → v8.category = 1 →
      (x = 0 → zW (d + 12) kX12_stoned 25 [.ref 131, .int (nI b), .int i, .int (nI f), .int (nI y), v5, v6, v7, v8] [] σ Q) ∧ (y < L → zW (d + 12) kX12_stoned 39 [.ref 131, .int (nI b), .int i, .int (nI f), .int (nI y), .int (nI x), v6, v7, v8] [] σ Q) := by
  have h6 := g0.nb6
  have hB := g0.bok hb
  have hL6 : L ≤ 6 := by have := hB.2.1; omega
  have hW16 : W ≤ 16 := by have := hB.2.2.2.1; omega
  have cl : (nI b).toNatClampNeg = b := nI_clamp (by omega)
  intro F
  induction F with
  | zero =>
    intro y x σ v5 v6 v7 v8 f eV hF hx hy hyx hf fr c5 c6 c7 c8
    exfalso
    by_cases q : y < L
    · rw [s_mul q] at hF
      omega
    · have := hyx (by omega)
      omega
  | succ F ih =>
    intro y x σ v5 v6 v7 v8 f eV hF hx hy hyx hf fr c5 c6 c7 c8
    obtain ⟨g, fs⟩ := mZ g0 fr
    have eB : mB σ b = mB σ0 b := iS_mB fs (by omega)
    have eL : (zI σ 134 b).toInt = (L : Int) := by rw [← hL, ← eB]; rfl
    have eW : (zI σ 135 b).toInt = (W : Int) := by rw [← hW, ← eB]; rfl
    have hin : y < L → zW (d + 12) kX12_stoned 39 [.ref 131, .int (nI b), .int i, .int (nI f), .int (nI y), .int (nI x), v6, v7, v8] [] σ Q := fun hyL => by
      refine (bX12_stoned_39 g.1 c6 c7 c8).mpr ⟨vp_in_nI (by omega) (by decide), ?_⟩
      rw [cl]
      refine zle' eW (ai_n (by omega)) (fun q => ?_) (fun q => ?_)
      · rw [sAn_y (by omega) (by omega)] at eV
        rw [nI_1]
        rw [s_mul hyL] at hF
        exact (ih (y + 1) 0 σ _ v6 v7 v8 f eV (by omega) (by omega) (by omega) (fun _ => rfl) (by omega) fr (zcat_i _) c6 c7 c8).1 rfl
      · have hxW : x < W := by omega
        have hy6 : y < 6 := by omega
        have hx16 : x < 16 := by omega
        have ei : (16 * (6 * nI b + nI y) + nI x : Int32) = nI (16 * (6 * b + y) + x) := zint (by
          rw [zadd (zmul (show (16 : Int32).toInt = 16 from rfl) (zadd (zmul k6 (ai_n (show b < 2147483648 by omega)) (by omega) (by omega)) (ai_n (show y < 2147483648 by omega)) (by omega) (by omega)) (by omega) (by omega)) (ai_n (by omega)) (by omega) (by omega), ai_n (by omega)]
          omega)
        have ec : (zI σ 133 (16 * (6 * b + y) + x)).toInt = (mB σ0 b).1 y x := by rw [← eB, mB_at hy6 hx16]
        have nx : ∀ (σ1 : zS) (w6 w7 w8 : Value) (f' : Nat), w6.category = 1 → w7.category = 1 → w8.category = 1 → zFr mWq σ0 σ1 → V = sAn (sGd σ0 (mB σ0 b) n) L W i.toInt F y (x + 1) f' → f' ≤ 16 * y + (x + 1) → zW (d + 12) kX12_stoned 39 [.ref 131, .int (nI b), .int i, .int (nI f'), .int (nI y), .int (nI x + 1), w6, w7, w8] [] σ1 Q := fun σ1 w6 w7 w8 f' a6 a7 a8 f1 e1 e2 => by
          rw [nI_1]
          exact (ih y (x + 1) σ1 (.int 0) w6 w7 w8 f' e1 (by omega) (by omega) (by omega) (fun z => by omega) e2 f1 (zcat_i _) a6 a7 a8).2 hyL
        rw [ei]
        refine ⟨vp_in_nI (by omega) (by decide), ?_⟩
        rw [nI_clamp (show 16 * (6 * b + y) + x < 2 ^ 31 by omega)]
        refine zeq' ec k0 (fun q1 => ?_) (fun q1 => ⟨vp_in_nI (by omega) (by decide), ?_⟩)
        · rw [sAn_f (by omega) (by omega) (fun z => z.1 q1)] at eV
          exact nx σ _ _ v8 f (zcat_i _) (zcat_i _) c8 fr eV (by omega)
        · have e1 : mB (zsI σ 133 (upd (zI σ 133) (16 * (6 * b + y) + x) 0)) b = bPut (mB σ0 b) y x 0 := by
            rw [mB_put hy6 hx16, eB]; rfl
          have f1 : zFr mWs σ0 (zsI σ 133 (upd (zI σ 133) (16 * (6 * b + y) + x) 0)) := (fr.mono (fun j c k q => (Or.inl q : mWs j c k))).trans (zFr_U (Or.inr ⟨rfl, rfl⟩))
          refine m_agrees (d := d) g0 s0 (by omega) (bPut_ok hB (by omega)) f1 e1 (fun σ2 _ fn => ⟨rfl, ?_⟩)
          have fb := zFr_back fn (fun k => by unfold nWq; omega)
          have fr3 := fr.trans (nWq_q fb)
          have l2 : zLay σ2 := fn.lay g.1.I (fun _ _ _ _ => nWq_2)
          have l3 := (mZ g0 fr3).1.1
          refine (bX12_stoned_95 l2 c8).mpr ⟨vp_in_nI (by omega) (by decide), ?_⟩
          rw [nI_clamp (show 16 * (6 * b + y) + x < 2 ^ 31 by omega)]
          refine zt0 (fun q2 => ?_) (fun q2 => ?_)
          · rw [sAn_t (by omega) (by omega) ⟨q1, q2⟩] at eV
            refine zeq' (ai_n (by omega)) rfl (fun q3 => hc _ _ ?_ fr3) (fun q3 => ?_)
            · rw [eV, if_pos q3, zadd (zmul (show (16 : Int32).toInt = 16 from rfl) (ai_n (show y < 2147483648 by omega)) (by omega) (by omega)) (ai_n (by omega)) (by omega) (by omega)]
            · rw [if_neg q3] at eV
              rw [nI_1]
              exact nx _ _ _ _ (f + 1) (zcat_i _) (zcat_i _) (zcat_i _) fr3 eV (by omega)
          · rw [sAn_f (by omega) (by omega) (fun z => q2 z.2)] at eV
            exact nx _ _ _ _ f (zcat_i _) (zcat_i _) (zcat_i _) fr3 eV (by omega)
    refine ⟨fun ex => ?_, hin⟩
    subst ex
    refine (bX12_stoned_25 g.1 c5 c6 c7 c8).mpr ⟨vp_in_nI (by omega) (by decide), ?_⟩
    rw [cl]
    refine zle' eL (ai_n (by omega)) (fun q => ?_) (fun q => hin (by omega))
    rw [sAn_e (by omega)] at eV
    refine zeq' rfl km1 (fun q2 => hc _ σ ?_ fr) (fun q2 => hc _ σ ?_ fr)
    · rw [eV, if_pos q2]; exact ai_n (by omega)
    · rw [eV, if_neg q2]; exact km1
end STONED
