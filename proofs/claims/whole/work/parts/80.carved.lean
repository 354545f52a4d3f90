/-! the verb carved -/
noncomputable def eSt (t : Int × Int × Int × Int) (ok : Prop) (l h f v : Int) : Int × Int × Int × Int := @ite _ (ok ∧ (t.2.2.2 = -1 ∨ v < t.2.2.2)) (Classical.propDecidable _) (l, h, f, v) t
theorem eSt_y {t : Int × Int × Int × Int} {ok : Prop} {l h f v : Int} (q : ok) (q2 : t.2.2.2 = -1 ∨ v < t.2.2.2) : eSt t ok l h f v = (l, h, f, v) := if_pos ⟨q, q2⟩
theorem eSt_n {t : Int × Int × Int × Int} {ok : Prop} {l h f v : Int} (q : ok → ¬ (t.2.2.2 = -1 ∨ v < t.2.2.2)) : eSt t ok l h f v = t := if_neg (fun z => q z.1 z.2)
def eG (l h f : Nat) (y : Int) : Nat → Int := fun j => if j = 0 then l else if j = 1 then h else if j = 2 then f else y
def eOk (σ : zS) (b : Nat) (y rule : Int) (l h f : Nat) : Prop := 2 * (l : Int) + h + f ≤ rule ∧ aCan (mB σ b) (mW σ) l 0 y
noncomputable def eV (σ : zS) (b : Nat) (y : Int) (l h f : Nat) : Int := aAl (mB σ b) (mW σ) (eG l h f y) 0
noncomputable def eFe (σ : zS) (b : Nat) (y rule : Int) (l h : Nat) (t : Int × Int × Int × Int) : Nat → Int × Int × Int × Int
  | 0 => t
  | f + 1 => eSt (eFe σ b y rule l h t f) (eOk σ b y rule l h f) l h f (eV σ b y l h f)
noncomputable def eHe (σ : zS) (b : Nat) (y rule : Int) (l : Nat) (t : Int × Int × Int × Int) : Nat → Int × Int × Int × Int
  | 0 => t
  | h + 1 => eFe σ b y rule l h (eHe σ b y rule l t h) 10
noncomputable def eLe (σ : zS) (b : Nat) (y rule : Int) : Nat → Int × Int × Int × Int
  | 0 => (-1, -1, -1, -1)
  | l + 1 => eHe σ b y rule (l + 1) (eLe σ b y rule l) 10
theorem eFe_stop {σ : zS} {b : Nat} {y rule : Int} {l h f : Nat} {t : Int × Int × Int × Int} (q : rule < 2 * (l : Int) + h + f) : ∀ n, eFe σ b y rule l h t (f + n) = eFe σ b y rule l h t f
  | 0 => rfl
  | n + 1 => by
    show eSt (eFe σ b y rule l h t (f + n)) (eOk σ b y rule l h (f + n)) l h ((f + n : Nat) : Int) (eV σ b y l h (f + n)) = _
    rw [eSt_n (fun z => by have := z.1; omega), eFe_stop q n]
theorem eFe_c {σ0 σ : zS} (fs : zFr iSafe σ0 σ) {b : Nat} (hb : b < 6) {y rule : Int} {l h : Nat} {t : Int × Int × Int × Int} : ∀ n, eFe σ b y rule l h t n = eFe σ0 b y rule l h t n
  | 0 => rfl
  | n + 1 => by
    show eSt (eFe σ b y rule l h t n) (eOk σ b y rule l h n) l h n (eV σ b y l h n) = eSt (eFe σ0 b y rule l h t n) (eOk σ0 b y rule l h n) l h n (eV σ0 b y l h n)
    have e1 : eOk σ b y rule l h n = eOk σ0 b y rule l h n := by unfold eOk; rw [iS_mB fs hb, iS_mW fs]
    have e2 : eV σ b y l h n = eV σ0 b y l h n := by unfold eV; rw [iS_mB fs hb, iS_mW fs]
    rw [eFe_c fs hb n, e1, e2]
theorem eHe_c {σ0 σ : zS} (fs : zFr iSafe σ0 σ) {b : Nat} (hb : b < 6) {y rule : Int} {l : Nat} {t : Int × Int × Int × Int} : ∀ n, eHe σ b y rule l t n = eHe σ0 b y rule l t n
  | 0 => rfl
  | n + 1 => by
    show eFe σ b y rule l n (eHe σ b y rule l t n) 10 = eFe σ0 b y rule l n (eHe σ0 b y rule l t n) 10
    rw [eHe_c fs hb n, eFe_c fs hb]
theorem eLe_c {σ0 σ : zS} (fs : zFr iSafe σ0 σ) {b : Nat} (hb : b < 6) {y rule : Int} : ∀ n, eLe σ b y rule n = eLe σ0 b y rule n
  | 0 => rfl
  | n + 1 => by
    show eHe σ b y rule (n + 1) (eLe σ b y rule n) 10 = eHe σ0 b y rule (n + 1) (eLe σ0 b y rule n) 10
    rw [eLe_c fs hb n, eHe_c fs hb]
def b4 (x y z w : Int32) (t : Int × Int × Int × Int) : Prop := x.toInt = t.1 ∧ y.toInt = t.2.1 ∧ z.toInt = t.2.2.1 ∧ w.toInt = t.2.2.2
def b4v (z : Int) (t : Int × Int × Int × Int) : Int := if z = 0 then t.1 else if z = 1 then t.2.1 else if z = 2 then t.2.2.1 else t.2.2.2
theorem b4_o {Q : Option Value → zS → Prop} {z x y w u : Int32} {t : Int × Int × Int × Int} {σ' : zS} (h3 : b4 x y w u t) (h : ∀ v : Int32, v.toInt = b4v z.toInt t → Q (some (.int v)) σ') : if z = (0 : Int32) then Q (some (.int x)) σ' else (if z = 1 then Q (some (.int y)) σ' else (if z = 2 then Q (some (.int w)) σ' else Q (some (.int u)) σ')) := by
  refine zeq' rfl k0 (fun q => h _ ?_) (fun q => zeq' rfl k1 (fun q2 => h _ ?_) (fun q2 => zeq' rfl k2 (fun q3 => h _ ?_) (fun q3 => h _ ?_)))
  · unfold b4v; rw [if_pos q]; exact h3.1
  · unfold b4v; rw [if_neg q, if_pos q2]; exact h3.2.1
  · unfold b4v; rw [if_neg q, if_neg q2, if_pos q3]; exact h3.2.2.1
  · unfold b4v; rw [if_neg q, if_neg q2, if_neg q3]; exact h3.2.2.2
section CARVED
variable {d : Nat} {Q : Option Value → zS → Prop} {σ0 : zS} {nb ns : Nat}
theorem p_sumC {l h f : Nat} (hl : l ≤ 5) (hh : h ≤ 9) (hf : f ≤ 9) : ((2 * nI l + nI h) + nI f : Int32).toInt = 2 * (l : Int) + h + f :=
  zadd (zadd (zmul k2 (ai_n (by omega)) (by omega) (by omega)) (ai_n (by omega)) (by omega) (by omega)) (ai_n (by omega)) (by omega) (by omega)
theorem p_carved_f {b l h : Nat} {y rule z : Int32} {t : Int × Int × Int × Int} (g0 : iA σ0 nb ns) (hb : b < nb) (hl1 : 1 ≤ l ∧ l ≤ 5) (hh : h ≤ 9) :
    ∀ (mm f : Nat) (σ : zS) (x6 x7 x8 x9 : Int32) (w : Value), 10 - f = mm → f ≤ 10 → w.category = 1 → zFr pWz σ0 σ → b4 x6 x7 x8 x9 (eFe σ0 b y.toInt rule.toInt l h t f) →
    (∀ (σ' : zS) (y6 y7 y8 y9 : Int32) (v12 v13 : Value), v12.category = 1 → v13.category = 1 → zFr pWz σ0 σ' → b4 y6 y7 y8 y9 (eFe σ0 b y.toInt rule.toInt l h t 10) → zW (d + 6) kX11_carved 77 [.ref 1, .int (nI b), .int y, .int rule, .int z, .ref (97 + 4 * b), .int y6, .int y7, .int y8, .int y9, .int (nI l), .int (nI (h + 1)), v12, v13] [] σ' Q) →
    zW (d + 6) kX11_carved 87 [.ref 1, .int (nI b), .int y, .int rule, .int z, .ref (97 + 4 * b), .int x6, .int x7, .int x8, .int x9, .int (nI l), .int (nI h), .int (nI f), w] [] σ Q := by
  have h6 := g0.nb6
  have zb0 := zk_bk (show b < 6 by omega)
  intro mm
  induction mm with
  | zero =>
    intro f σ x6 x7 x8 x9 w hm hk cw fr e4 hc
    have e : f = 10 := by omega
    subst e
    obtain ⟨g, fs⟩ := pZ g0 fr
    refine (bX11_carved_87 g.1 zb0 cw).mpr (zlt' k9 (ai_n (by omega)) (fun _ => ?_) (fun q => by omega))
    rw [nI_1]
    exact hc σ _ _ _ _ _ _ (zcat_i _) cw fr e4
  | succ mm ih =>
    intro f σ x6 x7 x8 x9 w hm hk cw fr e4 hc
    obtain ⟨g, fs⟩ := pZ g0 fr
    have eS : eFe σ0 b y.toInt rule.toInt l h t (f + 1) = eSt (eFe σ0 b y.toInt rule.toInt l h t f) (eOk σ0 b y.toInt rule.toInt l h f) l h f (eV σ0 b y.toInt l h f) := rfl
    have es := p_sumC (l := l) (h := h) (f := f) hl1.2 hh (by omega)
    refine (bX11_carved_87 g.1 zb0 cw).mpr (zlt' k9 (ai_n (by omega)) (fun q => by omega) (fun _ => zlt' rfl es (fun q => ?_) (fun q => ?_)))
    · rw [nI_1]
      refine hc σ _ _ _ _ _ _ (zcat_i _) cw fr ?_
      have z := eFe_stop (σ := σ0) (b := b) (y := y.toInt) (t := t) q (10 - f)
      rw [show f + (10 - f) = 10 by omega] at z
      rw [z]
      exact e4
    · refine (bX6_shape_0 g.1 zk_95).mpr ⟨rfl, ?_⟩
      have f1 : zFr pWz σ (zsI σ 95 (upd (upd (upd (zI σ 95) 0 (nI l)) 1 (nI h)) 2 (nI f))) := zFr_I (fun k => Or.inl (by unfold pWz; omega))
      have s0 : ∀ j, j < 3 → (zI (zsI σ 95 (upd (upd (upd (zI σ 95) 0 (nI l)) 1 (nI h)) 2 (nI f))) 95 j).toInt = eG l h f y.toInt j := fun j hj => by
        rw [zI_self]
        rcases (by omega : j = 0 ∨ j = 1 ∨ j = 2) with e | e | e <;> subst e
        · rw [pk_un (by decide), pk_un (by decide), pk_us, ai_n (by omega)]; rfl
        · rw [pk_un (by decide), pk_us, ai_n (by omega)]; rfl
        · rw [pk_us, ai_n (by omega)]; rfl
      generalize zsI σ 95 (upd (upd (upd (zI σ 95) 0 (nI l)) 1 (nI h)) 2 (nI f)) = σ1 at f1 s0 ⊢
      have fr1 := fr.trans f1
      obtain ⟨g1, fs1⟩ := pZ g0 fr1
      have eB : mB σ1 b = mB σ0 b := iS_mB fs1 (by omega)
      have eW : mW σ1 = mW σ0 := iS_mW fs1
      have gp1 := g1.bp hb
      rw [eB] at gp1
      have gw1 := g1.wp
      rw [eW] at gw1
      have G0 : eG l h f y.toInt 0 = (l : Int) := rfl
      have G1 : eG l h f y.toInt 1 = (h : Int) := rfl
      have G2 : eG l h f y.toInt 2 = (f : Int) := rfl
      have G3 : eG l h f y.toInt 3 = y.toInt := rfl
      refine (bX11_carved_121 g1.1 zb0 cw).mpr (p_tAl (d := d) (G := eG l h f y.toInt) g1.1 gp1 (g0.bok hb) zk_95 s0 rfl (by rw [G0, G1, G2]; omega) gw1 g0.wok (fun v σ2 hv f2 => ⟨rfl, ?_⟩))
      have fr2 := fr1.trans (pWq_z f2)
      obtain ⟨g2, fs2⟩ := pZ g0 fr2
      have nx : ∀ (y6 y7 y8 y9 : Int32) (w' : Value), w'.category = 1 → b4 y6 y7 y8 y9 (eFe σ0 b y.toInt rule.toInt l h t (f + 1)) → zW (d + 6) kX11_carved 87 [.ref 1, .int (nI b), .int y, .int rule, .int z, .ref (97 + 4 * b), .int y6, .int y7, .int y8, .int y9, .int (nI l), .int (nI h), .int (nI f + 1), w'] [] σ2 Q := fun y6 y7 y8 y9 w' cw' q => by
        rw [nI_1]
        exact ih (f + 1) σ2 y6 y7 y8 y9 w' (by omega) (by omega) cw' fr2 q hc
      rw [G0, G3] at hv
      have take : aCan (mB σ0 b) (mW σ0) l 0 y.toInt → ((eFe σ0 b y.toInt rule.toInt l h t f).2.2.2 = -1 ∨ eV σ0 b y.toInt l h f < (eFe σ0 b y.toInt rule.toInt l h t f).2.2.2) → v.toInt = eV σ0 b y.toInt l h f → zW (d + 6) kX11_carved 154 [.ref 1, .int (nI b), .int y, .int rule, .int z, .ref (97 + 4 * b), .int x6, .int x7, .int x8, .int x9, .int (nI l), .int (nI h), .int (nI f), .int v] [] σ2 Q := fun c q2 q3 => by
        refine (bX11_carved_154 g2.1 zb0).mpr (nx _ _ _ _ _ (zcat_i _) ?_)
        rw [eS, eSt_y ⟨q, c⟩ q2]
        exact ⟨ai_n (by omega), ai_n (by omega), ai_n (by omega), q3⟩
      refine (bX11_carved_133 g2.1 zb0 cw).mpr ?_
      by_cases c : aCan (mB σ0 b) (mW σ0) l 0 y.toInt
      · rw [zif_t c] at hv
        have gs : aGst (mB σ0 b) (eG l h f y.toInt) := by
          unfold aGst
          rw [G0, G1, G2, G3]
          have c1 := c.1
          have c2 := c.2.1
          omega
        have bd := aAl_b (seed := 0) (g0.bok hb) g0.wok gs
        have hv2 : v.toInt = eV σ0 b y.toInt l h f := hv
        refine zn (i_ne hv (by omega)) (zeq' e4.2.2.2 km1 (fun q2 => take c (Or.inl q2) hv2) (fun q2 => zle' e4.2.2.2 hv2 (fun q3 => nx _ _ _ _ _ (zcat_i _) ?_) (fun q3 => take c (Or.inr q3) hv2)))
        rw [eS, eSt_n (fun _ => by omega)]; exact e4
      · rw [zif_f c] at hv
        refine zy (zint (by rw [hv, km1])) (nx _ _ _ _ _ (zcat_i _) ?_)
        rw [eS, eSt_n (fun z => absurd z.2 c)]; exact e4
theorem p_carved_h {b l : Nat} {y rule z : Int32} {t : Int × Int × Int × Int} (g0 : iA σ0 nb ns) (hb : b < nb) (hl1 : 1 ≤ l ∧ l ≤ 5) :
    ∀ (mm h : Nat) (σ : zS) (x6 x7 x8 x9 : Int32) (v12 v13 : Value), 10 - h = mm → h ≤ 10 → v12.category = 1 → v13.category = 1 → zFr pWz σ0 σ → b4 x6 x7 x8 x9 (eHe σ0 b y.toInt rule.toInt l t h) →
    (∀ (σ' : zS) (y6 y7 y8 y9 : Int32) (v11 v12 v13 : Value), v11.category = 1 → v12.category = 1 → v13.category = 1 → zFr pWz σ0 σ' → b4 y6 y7 y8 y9 (eHe σ0 b y.toInt rule.toInt l t 10) → zW (d + 6) kX11_carved 68 [.ref 1, .int (nI b), .int y, .int rule, .int z, .ref (97 + 4 * b), .int y6, .int y7, .int y8, .int y9, .int (nI (l + 1)), v11, v12, v13] [] σ' Q) →
    zW (d + 6) kX11_carved 77 [.ref 1, .int (nI b), .int y, .int rule, .int z, .ref (97 + 4 * b), .int x6, .int x7, .int x8, .int x9, .int (nI l), .int (nI h), v12, v13] [] σ Q := by
  have h6 := g0.nb6
  have zb0 := zk_bk (show b < 6 by omega)
  intro mm
  induction mm with
  | zero =>
    intro h σ x6 x7 x8 x9 v12 v13 hm hk c12 c13 fr e4 hc
    have e : h = 10 := by omega
    subst e
    refine (bX11_carved_77 (pZ g0 fr).1.1 zb0 c12 c13).mpr (zlt' k9 (ai_n (by omega)) (fun _ => ?_) (fun q => by omega))
    rw [nI_1]
    exact hc σ _ _ _ _ _ _ _ (zcat_i _) c12 c13 fr e4
  | succ mm ih =>
    intro h σ x6 x7 x8 x9 v12 v13 hm hk c12 c13 fr e4 hc
    refine (bX11_carved_77 (pZ g0 fr).1.1 zb0 c12 c13).mpr (zlt' k9 (ai_n (by omega)) (fun q => by omega) (fun _ => ?_))
    exact p_carved_f g0 hb hl1 (show h ≤ 9 by omega) 10 0 σ x6 x7 x8 x9 v13 (by omega) (by omega) c13 fr e4 (fun σ' y6 y7 y8 y9 w12 w13 a12 a13 fr' q => ih (h + 1) σ' y6 y7 y8 y9 w12 w13 (by omega) (by omega) a12 a13 fr' q hc)
theorem p_carved_l {b : Nat} {y rule z : Int32} (g0 : iA σ0 nb ns) (hb : b < nb) (hc : ∀ (v : Int32) (σ' : zS), v.toInt = b4v z.toInt (eLe σ0 b y.toInt rule.toInt 5) → zFr pWz σ0 σ' → Q (some (.int v)) σ') :
    ∀ (mm l : Nat) (σ : zS) (x6 x7 x8 x9 : Int32) (v11 v12 v13 : Value), 5 - l = mm → l ≤ 5 → v11.category = 1 → v12.category = 1 → v13.category = 1 → zFr pWz σ0 σ → b4 x6 x7 x8 x9 (eLe σ0 b y.toInt rule.toInt l) →
    zW (d + 6) kX11_carved 68 [.ref 1, .int (nI b), .int y, .int rule, .int z, .ref (97 + 4 * b), .int x6, .int x7, .int x8, .int x9, .int (nI (l + 1)), v11, v12, v13] [] σ Q := by
  have h6 := g0.nb6
  have zb0 := zk_bk (show b < 6 by omega)
  intro mm
  induction mm with
  | zero =>
    intro l σ x6 x7 x8 x9 v11 v12 v13 hm hk c11 c12 c13 fr e4
    have e : l = 5 := by omega
    subst e
    exact (bX11_carved_68 (pZ g0 fr).1.1 zb0 c11 c12 c13).mpr (zlt' k5 (ai_n (by omega)) (fun _ => b4_o e4 (fun v hv => hc v σ hv fr)) (fun q => by omega))
  | succ mm ih =>
    intro l σ x6 x7 x8 x9 v11 v12 v13 hm hk c11 c12 c13 fr e4
    refine (bX11_carved_68 (pZ g0 fr).1.1 zb0 c11 c12 c13).mpr (zlt' k5 (ai_n (by omega)) (fun q => by omega) (fun _ => ?_))
    exact p_carved_h g0 hb (show 1 ≤ l + 1 ∧ l + 1 ≤ 5 by omega) 10 0 σ x6 x7 x8 x9 v12 v13 (by omega) (by omega) c12 c13 fr e4 (fun σ' y6 y7 y8 y9 w11 w12 w13 a11 a12 a13 fr' q => ih (l + 1) σ' y6 y7 y8 y9 w11 w12 w13 (by omega) (by omega) a11 a12 a13 fr' q)
theorem m_carved_f {b l h : Nat} {y rule z : Int32} {t : Int × Int × Int × Int} (g0 : iA σ0 nb ns) (hb : b < nb) (hl1 : 1 ≤ l ∧ l ≤ 5) (hh : h ≤ 9) :
    ∀ (mm f : Nat) (σ : zS) (x6 x7 x8 x9 : Int32) (w : Value), 10 - f = mm → f ≤ 10 → w.category = 1 → zFr mWq σ0 σ → b4 x6 x7 x8 x9 (eFe σ0 b y.toInt rule.toInt l h t f) →
    (∀ (σ' : zS) (y6 y7 y8 y9 : Int32) (v12 v13 : Value), v12.category = 1 → v13.category = 1 → zFr mWq σ0 σ' → b4 y6 y7 y8 y9 (eFe σ0 b y.toInt rule.toInt l h t 10) → zW (d + 10) kX12_carved 76 [.ref 131, .int (nI b), .int y, .int rule, .int z, .int y6, .int y7, .int y8, .int y9, .int (nI l), .int (nI (h + 1)), v12, v13] [] σ' Q) →
    zW (d + 10) kX12_carved 86 [.ref 131, .int (nI b), .int y, .int rule, .int z, .int x6, .int x7, .int x8, .int x9, .int (nI l), .int (nI h), .int (nI f), w] [] σ Q := by
  have h6 := g0.nb6
  intro mm
  induction mm with
  | zero =>
    intro f σ x6 x7 x8 x9 w hm hk cw fr e4 hc
    have e : f = 10 := by omega
    subst e
    obtain ⟨g, fs⟩ := mZ g0 fr
    refine (bX12_carved_86 g.1 cw).mpr (zle' km10 (ai_n (by omega)) (fun _ => ?_) (fun q => by omega))
    rw [nI_1]
    exact hc σ _ _ _ _ _ _ (zcat_i _) cw fr e4
  | succ mm ih =>
    intro f σ x6 x7 x8 x9 w hm hk cw fr e4 hc
    obtain ⟨g, fs⟩ := mZ g0 fr
    have eS : eFe σ0 b y.toInt rule.toInt l h t (f + 1) = eSt (eFe σ0 b y.toInt rule.toInt l h t f) (eOk σ0 b y.toInt rule.toInt l h f) l h f (eV σ0 b y.toInt l h f) := rfl
    have es := p_sumC (l := l) (h := h) (f := f) hl1.2 hh (by omega)
    have G0 : eG l h f y.toInt 0 = (l : Int) := rfl
    have G1 : eG l h f y.toInt 1 = (h : Int) := rfl
    have G2 : eG l h f y.toInt 2 = (f : Int) := rfl
    have G3 : eG l h f y.toInt 3 = y.toInt := rfl
    have nx : ∀ (σ2 : zS) (y6 y7 y8 y9 : Int32) (w' : Value), w'.category = 1 → zFr mWq σ0 σ2 → b4 y6 y7 y8 y9 (eFe σ0 b y.toInt rule.toInt l h t (f + 1)) → zW (d + 10) kX12_carved 86 [.ref 131, .int (nI b), .int y, .int rule, .int z, .int y6, .int y7, .int y8, .int y9, .int (nI l), .int (nI h), .int (nI f + 1), w'] [] σ2 Q := fun σ2 y6 y7 y8 y9 w' cw' f2 q => by
      rw [nI_1]
      exact ih (f + 1) σ2 y6 y7 y8 y9 w' (by omega) (by omega) cw' f2 q hc
    refine (bX12_carved_86 g.1 cw).mpr (zle' km10 (ai_n (by omega)) (fun q => by omega) (fun _ => zlt' rfl es (fun q => nx σ _ _ _ _ _ cw fr ?_) (fun q => ?_)))
    · rw [eS, eSt_n (fun z => by have := z.1; omega)]; exact e4
    · refine m_canLie g.1 (iS_mB fs (by omega)) (iS_mW fs) (g0.bok hb) (by omega) (by decide) (by rw [ai_n (by omega)]; omega) ⟨rfl, (bX12_carved_116 g.1 cw).mpr (zt0 (fun c => ?_) (fun c => nx σ _ _ _ _ _ cw fr ?_))⟩
      · rw [ai_n (by omega), k0] at c
        have gs : aGst (mB σ0 b) (eG l h f y.toInt) := by
          unfold aGst
          rw [G0, G1, G2, G3]
          have c1 := c.1
          have c2 := c.2.1
          omega
        refine n_alone (d := d) g.1 (by omega) (iS_mB fs (by omega)) (g0.bok hb) (iS_mW fs) g0.wok g.r43 (by rw [G0]; exact ai_n (by omega)) (by rw [G1]; exact ai_n (by omega)) (by rw [G2]; exact ai_n (by omega)) (by rw [G3]) gs (fun v σ2 hv f2 => ⟨rfl, ?_⟩)
        have fr2 := fr.trans (nWq_q f2)
        obtain ⟨g2, fs2⟩ := mZ g0 fr2
        have hv2 : v.toInt = eV σ0 b y.toInt l h f := hv
        have take : ((eFe σ0 b y.toInt rule.toInt l h t f).2.2.2 = -1 ∨ eV σ0 b y.toInt l h f < (eFe σ0 b y.toInt rule.toInt l h t f).2.2.2) → zW (d + 10) kX12_carved 153 [.ref 131, .int (nI b), .int y, .int rule, .int z, .int x6, .int x7, .int x8, .int x9, .int (nI l), .int (nI h), .int (nI f), .int v] [] σ2 Q := fun q2 => by
          refine (bX12_carved_153 g2.1).mpr (nx σ2 _ _ _ _ _ (zcat_i _) fr2 ?_)
          rw [eS, eSt_y ⟨q, c⟩ q2]
          exact ⟨ai_n (by omega), ai_n (by omega), ai_n (by omega), hv2⟩
        refine (bX12_carved_135 g2.1 cw).mpr (zeq' e4.2.2.2 km1 (fun q2 => take (Or.inl q2)) (fun q2 => zlt' hv2 e4.2.2.2 (fun q3 => take (Or.inr q3)) (fun q3 => nx σ2 _ _ _ _ _ (zcat_i _) fr2 ?_)))
        rw [eS, eSt_n (fun _ => by omega)]; exact e4
      · rw [ai_n (by omega), k0] at c
        rw [eS, eSt_n (fun z => absurd z.2 c)]; exact e4
theorem m_carved_h {b l : Nat} {y rule z : Int32} {t : Int × Int × Int × Int} (g0 : iA σ0 nb ns) (hb : b < nb) (hl1 : 1 ≤ l ∧ l ≤ 5) :
    ∀ (mm h : Nat) (σ : zS) (x6 x7 x8 x9 : Int32) (v12 v13 : Value), 10 - h = mm → h ≤ 10 → v12.category = 1 → v13.category = 1 → zFr mWq σ0 σ → b4 x6 x7 x8 x9 (eHe σ0 b y.toInt rule.toInt l t h) →
    (∀ (σ' : zS) (y6 y7 y8 y9 : Int32) (v11 v12 v13 : Value), v11.category = 1 → v12.category = 1 → v13.category = 1 → zFr mWq σ0 σ' → b4 y6 y7 y8 y9 (eHe σ0 b y.toInt rule.toInt l t 10) → zW (d + 10) kX12_carved 66 [.ref 131, .int (nI b), .int y, .int rule, .int z, .int y6, .int y7, .int y8, .int y9, .int (nI (l + 1)), v11, v12, v13] [] σ' Q) →
    zW (d + 10) kX12_carved 76 [.ref 131, .int (nI b), .int y, .int rule, .int z, .int x6, .int x7, .int x8, .int x9, .int (nI l), .int (nI h), v12, v13] [] σ Q := by
  intro mm
  induction mm with
  | zero =>
    intro h σ x6 x7 x8 x9 v12 v13 hm hk c12 c13 fr e4 hc
    have e : h = 10 := by omega
    subst e
    refine (bX12_carved_76 (mZ g0 fr).1.1 c12 c13).mpr (zle' km10 (ai_n (by omega)) (fun _ => ?_) (fun q => by omega))
    rw [nI_1]
    exact hc σ _ _ _ _ _ _ _ (zcat_i _) c12 c13 fr e4
  | succ mm ih =>
    intro h σ x6 x7 x8 x9 v12 v13 hm hk c12 c13 fr e4 hc
    refine (bX12_carved_76 (mZ g0 fr).1.1 c12 c13).mpr (zle' km10 (ai_n (by omega)) (fun q => by omega) (fun _ => ?_))
    exact m_carved_f g0 hb hl1 (show h ≤ 9 by omega) 10 0 σ x6 x7 x8 x9 v13 (by omega) (by omega) c13 fr e4 (fun σ' y6 y7 y8 y9 w12 w13 a12 a13 fr' q => ih (h + 1) σ' y6 y7 y8 y9 w12 w13 (by omega) (by omega) a12 a13 fr' q hc)
theorem m_carved_l {b : Nat} {y rule z : Int32} (g0 : iA σ0 nb ns) (hb : b < nb) (hc : ∀ (v : Int32) (σ' : zS), v.toInt = b4v z.toInt (eLe σ0 b y.toInt rule.toInt 5) → zFr mWq σ0 σ' → Q (some (.int v)) σ') :
    ∀ (mm l : Nat) (σ : zS) (x6 x7 x8 x9 : Int32) (v11 v12 v13 : Value), 5 - l = mm → l ≤ 5 → v11.category = 1 → v12.category = 1 → v13.category = 1 → zFr mWq σ0 σ → b4 x6 x7 x8 x9 (eLe σ0 b y.toInt rule.toInt l) →
    zW (d + 10) kX12_carved 66 [.ref 131, .int (nI b), .int y, .int rule, .int z, .int x6, .int x7, .int x8, .int x9, .int (nI (l + 1)), v11, v12, v13] [] σ Q := by
  intro mm
  induction mm with
  | zero =>
    intro l σ x6 x7 x8 x9 v11 v12 v13 hm hk c11 c12 c13 fr e4
    have e : l = 5 := by omega
    subst e
    exact (bX12_carved_66 (mZ g0 fr).1.1 c11 c12 c13).mpr (zle' k6 (ai_n (by omega)) (fun _ => b4_o e4 (fun v hv => hc v σ hv fr)) (fun q => by omega))
  | succ mm ih =>
    intro l σ x6 x7 x8 x9 v11 v12 v13 hm hk c11 c12 c13 fr e4
    refine (bX12_carved_66 (mZ g0 fr).1.1 c11 c12 c13).mpr (zle' k6 (ai_n (by omega)) (fun q => by omega) (fun _ => ?_))
    exact m_carved_h g0 hb (show 1 ≤ l + 1 ∧ l + 1 ≤ 5 by omega) 10 0 σ x6 x7 x8 x9 v12 v13 (by omega) (by omega) c12 c13 fr e4 (fun σ' y6 y7 y8 y9 w11 w12 w13 a11 a12 a13 fr' q => ih (l + 1) σ' y6 y7 y8 y9 w11 w12 w13 (by omega) (by omega) a11 a12 a13 fr' q)
theorem e_carved {σ : zS} (g : iA σ nb ns) (b y r z : Int32) : eCall kX11_carved kX12_carved [.int b, .int y, .int r, .int z] [.int b, .int y, .int r, .int z] σ := by
  have h6 := g.nb6
  have k30 : (30 : Int32).toInt = 30 := rfl
  have k3 : (3 : Int32).toInt = 3 := rfl
  rcases a_cs b nb with ⟨b, hb, rfl, -⟩ | hx
  · have hB := g.bok hb
    have cl : (nI b).toNatClampNeg = b := nI_clamp (by omega)
    by_cases c : (0 ≤ y.toInt ∧ y.toInt < (mB σ b).2.1) ∧ (0 ≤ r.toInt ∧ r.toInt ≤ 30) ∧ (0 ≤ z.toInt ∧ z.toInt ≤ 3)
    · refine e_q g (b4v z.toInt (eLe σ b y.toInt r.toInt 5)) (fun Q h => (bX11_carved_0 g.1).mpr (p_nb0 g.1 g.e2 h6 hb ⟨rfl, (bX11_carved_5 g.1).mpr (zy rfl ⟨vp_in_nI (by omega) (by decide), ?_⟩)⟩)) (fun σ1 σ2 Q l1 e2 g2 f2 h => ?_)
      · rw [zR_bk g.1 (by omega)]
        refine (bX11_carved_14 g.1 (zk_bk (by omega))).mpr (p_has g.1 (g.bp hb) ⟨rfl, (bX11_carved_19 g.1).mpr (zt0 (fun _ => zlt' rfl k0 (fun q => absurd q (by omega)) (fun _ => zlt' k30 rfl (fun q => absurd q (by omega)) (fun _ => zlt' rfl k0 (fun q => absurd q (by omega)) (fun _ => zle' rfl k3 (fun _ => ⟨vp_in_nI (by omega) (by decide), ?_⟩) (fun q => absurd q (by omega)))))) (fun q => absurd ⟨by rw [k0]; omega, by rw [k0]; have := hB.2.2.1; omega, c.1⟩ q))⟩)
        rw [zR_bk g.1 (by omega)]
        exact (bX11_carved_51 g.1 (zk_bk (by omega))).mpr (p_carved_l (d := 7) g hb h 5 0 σ _ _ _ _ _ _ _ (by omega) (by omega) (zcat_r _) (zcat_r _) (zcat_r _) (zFr.refl _ _) ⟨km1, km1, km1, km1⟩)
      · have eB := iS_mB f2 (b := b) (by omega)
        have eL : (zI σ2 134 b).toInt = (mB σ b).2.1 := by rw [← eB]; rfl
        refine (bX12_carved_0 l1).mpr ?_
        rw [e2]
        refine m_ib1 g2.1 g2.e11 h6 hb ⟨rfl, (bX12_carved_10 g2.1).mpr (zn (by decide) ⟨vp_in_nI (by omega) (by decide), ?_⟩)⟩
        rw [cl]
        have eL1 : (zI σ2 134 b - 1 : Int32).toInt = (mB σ b).2.1 - 1 := zsub eL k1 (by have := hB.1; omega) (by have := hB.2.1; omega)
        refine m_isIn g2.1 ⟨rfl, (bX12_carved_26 g2.1).mpr (zt0 (fun _ => m_isIn g2.1 ⟨rfl, (bX12_carved_36 g2.1).mpr (zt0 (fun _ => m_isIn g2.1 ⟨rfl, (bX12_carved_46 g2.1).mpr (zt0 (fun _ => ?_) (fun q => absurd (by rw [k0, k3]; exact c.2.2) q))⟩) (fun q => absurd (by rw [k0, k30]; exact c.2.1) q))⟩) (fun q => absurd (by rw [k0, eL1]; omega) q))⟩
        exact m_carved_l (d := 3) g2 hb (fun v σ' hv f => h v σ' (by rw [eLe_c f2 (by omega)] at hv; exact hv) f) 5 0 σ2 _ _ _ _ _ _ _ (by omega) (by omega) (zcat_r _) (zcat_r _) (zcat_r _) (zFr.refl _ _) ⟨km1, km1, km1, km1⟩
    · refine e_q g (-1) (fun Q h => (bX11_carved_0 g.1).mpr (p_nb0 g.1 g.e2 h6 hb ⟨rfl, (bX11_carved_5 g.1).mpr (zy rfl ⟨vp_in_nI (by omega) (by decide), ?_⟩)⟩)) (fun σ1 σ2 Q l1 e2 g2 f2 h => ?_)
      · rw [zR_bk g.1 (by omega)]
        exact (bX11_carved_14 g.1 (zk_bk (by omega))).mpr (p_has g.1 (g.bp hb) ⟨rfl, (bX11_carved_19 g.1).mpr (zt0 (fun c0 => zlt' rfl k0 (fun q => h _ σ km1 (zFr.refl _ _)) (fun a1 => zlt' k30 rfl (fun q => h _ σ km1 (zFr.refl _ _)) (fun a2 => zlt' rfl k0 (fun q => h _ σ km1 (zFr.refl _ _)) (fun a3 => zle' rfl k3 (fun a4 => absurd ⟨c0.2.2, ⟨a1, a2⟩, a3, a4⟩ c) (fun q => h _ σ km1 (zFr.refl _ _)))))) (fun q => h _ σ km1 (zFr.refl _ _)))⟩)
      · have eB := iS_mB f2 (b := b) (by omega)
        have eL : (zI σ2 134 b).toInt = (mB σ b).2.1 := by rw [← eB]; rfl
        refine (bX12_carved_0 l1).mpr ?_
        rw [e2]
        refine m_ib1 g2.1 g2.e11 h6 hb ⟨rfl, (bX12_carved_10 g2.1).mpr (zn (by decide) ⟨vp_in_nI (by omega) (by decide), ?_⟩)⟩
        rw [cl]
        have eL1 : (zI σ2 134 b - 1 : Int32).toInt = (mB σ b).2.1 - 1 := zsub eL k1 (by have := hB.1; omega) (by have := hB.2.1; omega)
        refine m_isIn g2.1 ⟨rfl, (bX12_carved_26 g2.1).mpr (zt0 (fun a1 => m_isIn g2.1 ⟨rfl, (bX12_carved_36 g2.1).mpr (zt0 (fun a2 => m_isIn g2.1 ⟨rfl, (bX12_carved_46 g2.1).mpr (zt0 (fun a3 => absurd ⟨by rw [k0, eL1] at a1; omega, by rw [k0, k30] at a2; exact a2, by rw [k0, k3] at a3; exact a3⟩ c) (fun _ => h _ σ2 km1 (zFr.refl _ _)))⟩) (fun _ => h _ σ2 km1 (zFr.refl _ _)))⟩) (fun _ => h _ σ2 km1 (zFr.refl _ _)))⟩
  · refine e_q g (-1) (fun Q h => (bX11_carved_0 g.1).mpr (p_nb1 g.1 g.e2 h6 hx ⟨rfl, (bX11_carved_5 g.1).mpr (zn (by decide) (h _ σ km1 (zFr.refl _ _)))⟩)) (fun σ1 σ2 Q l1 e2 g2 f2 h => ?_)
    refine (bX12_carved_0 l1).mpr ?_
    rw [e2]
    exact m_ib0 g2.1 g2.e11 h6 hx ⟨rfl, (bX12_carved_10 g2.1).mpr (zy rfl (h _ σ2 km1 (zFr.refl _ _)))⟩
end CARVED
