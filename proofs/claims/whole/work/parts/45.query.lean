/-! a call on both sides -/
def zSam (σ σ' : zS) : Prop := σ'.1 = σ.1 ∧ σ'.2.2 = σ.2.2 ∧ ∀ k, zI σ' 0 k = zI σ 0 k
theorem zSam.refl (σ : zS) : zSam σ σ := ⟨rfl, rfl, fun _ => rfl⟩
theorem zSam.trans {σ σ1 σ2 : zS} (h : zSam σ σ1) (g : zSam σ1 σ2) : zSam σ σ2 := ⟨g.1.trans h.1, g.2.1.trans h.2.1, fun k => (g.2.2 k).trans (h.2.2 k)⟩
theorem zSam.fr {W : Nat → Nat → Nat → Prop} {σ σ' : zS} (h : zFr W σ σ') (w : ∀ k, ¬ W 0 0 k) : zSam σ σ' := ⟨h.1, h.2.1, fun k => h.i (w k)⟩
def eCall (K1 K2 : zK) (a1 a2 : List Value) (σ : zS) : Prop :=
  zCall 13 K1 (.ref 1 :: a1) σ (fun r1 σ1 => ∃ v : Int32, r1 = some (.int v) ∧ zLay σ1 ∧ zSam σ σ1 ∧ zCall 13 K2 (.ref 131 :: a2) σ1 (fun r2 σ2 => r2 = some (.int v) ∧ Inv σ2 ∧ zSam σ1 σ2))
theorem e_q {nb ns : Nat} {K1 K2 : zK} {a1 a2 : List Value} {σ : zS} (g : iA σ nb ns) (v : Int)
    (hp : ∀ Q : Option Value → zS → Prop, (∀ (x : Int32) (σ' : zS), x.toInt = v → zFr pWz σ σ' → Q (some (.int x)) σ') → zCall 13 K1 (.ref 1 :: a1) σ Q)
    (hm : ∀ (σ1 σ2 : zS) (Q : Option Value → zS → Prop), zLay σ1 → zsI σ1 131 (upd (zI σ1 131) 0 0) = σ2 → iA σ2 nb ns → zFr iSafe σ σ2 → (∀ (x : Int32) (σ' : zS), x.toInt = v → zFr mWq σ2 σ' → Q (some (.int x)) σ') → zCall 13 K2 (.ref 131 :: a2) σ1 Q) : eCall K1 K2 a1 a2 σ := by
  refine hp _ (fun x σ1 hx f1 => ⟨x, rfl, pWz_lay f1 g.1, zSam.fr f1 (fun k => by unfold pWz; omega), ?_⟩)
  have l1 := pWz_lay f1 g.1
  have f2 : zFr mWq σ1 (zsI σ1 131 (upd (zI σ1 131) 0 0)) := zFr_U (by unfold mWq; omega)
  have f12 := (pWz_s f1).trans (mWq_s f2)
  refine hm σ1 _ _ l1 rfl (iA_fr f12 l1.I g) f12 (fun y σ' hy f3 => ⟨?_, ?_, ?_⟩)
  · rw [show y = x from zint (hy.trans hx.symm)]
  · exact ⟨nb, ns, iA_fr (f12.trans (mWq_s f3)) (f3.lay l1.I (fun _ _ _ _ => mWq_2)) g⟩
  · exact zSam.fr (f2.trans f3) (fun k => by unfold mWq; omega)
/-! what is read off -/
section IA
variable {σ : zS} {nb ns : Nat}
theorem iA.nb6 (g : iA σ nb ns) : nb ≤ 6 := g.2.2.2.2.1.1
theorem iA.e2 (g : iA σ nb ns) : zI σ 1 2 = nI nb := g.2.2.2.2.1.2.1
theorem iA.e11 (g : iA σ nb ns) : zI σ 131 11 = nI nb := g.2.2.2.2.1.2.2.1
theorem iA.bok (g : iA σ nb ns) {b : Nat} (hb : b < nb) : aBok (mB σ b) := (g.2.2.2.2.1.2.2.2 b hb).1
theorem iA.bp (g : iA σ nb ns) {b : Nat} (hb : b < nb) : pBk σ (97 + 4 * b) (mB σ b) := (g.2.2.2.2.1.2.2.2 b hb).2
theorem iA.ns10 (g : iA σ nb ns) : ns ≤ 10 := g.2.2.2.2.2.1.1
theorem iA.e4 (g : iA σ nb ns) : zI σ 1 4 = nI ns := g.2.2.2.2.2.1.2.1
theorem iA.e12 (g : iA σ nb ns) : zI σ 131 12 = nI ns := g.2.2.2.2.2.1.2.2.1
theorem iA.stk (g : iA σ nb ns) {s : Nat} (hs : s < ns) : iStk σ s := g.2.2.2.2.2.1.2.2.2 s hs
theorem iA.wok (g : iA σ nb ns) : aWok (mW σ) := g.2.2.1.1
theorem iA.wp (g : iA σ nb ns) : (zI σ 10 0).toInt = (mW σ).1 ∧ (zI σ 10 1).toInt = (mW σ).2.1 ∧ (zI σ 10 2).toInt = (mW σ).2.2 := by
  obtain ⟨-, h1, h2, h3⟩ := g.2.2.1
  rw [h1, h2, h3]
  exact ⟨rfl, rfl, rfl⟩
theorem iA.r43 (g : iA σ nb ns) : zI σ 131 43 = 0 := g.2.2.2.1
theorem iA.sg (g : iA σ nb ns) : iSg σ ns := g.2.2.2.2.2.2.1
theorem iA.rc (g : iA σ nb ns) : iRc σ nb ns := g.2.2.2.2.2.2.2.1
theorem iA.im (g : iA σ nb ns) : iIm σ nb ns := g.2.2.2.2.2.2.2.2.1
theorem iA.sr (g : iA σ nb ns) : iSr σ := g.2.2.2.2.2.2.2.2.2
end IA
theorem zy {c : Prop} [Decidable c] {A B : Prop} (h : c) (a : A) : if c then A else B := by rw [if_pos h]; exact a
theorem zn {c : Prop} [Decidable c] {A B : Prop} (h : ¬ c) (b : B) : if c then A else B := by rw [if_neg h]; exact b
theorem a_cs (x : Int32) (n : Nat) : (∃ b : Nat, b < n ∧ x = nI b ∧ b < 2147483648) ∨ ¬ (0 ≤ x.toInt ∧ x.toInt < n) := by
  by_cases h : 0 ≤ x.toInt ∧ x.toInt < n
  · obtain ⟨b, hb, rfl, e⟩ := ai_nx h.1
    exact Or.inl ⟨b, by omega, rfl, hb⟩
  · exact Or.inr h
theorem zk_bk0 : ∀ b, b < 6 → zk (97 + 4 * b) = 0 := by decide +kernel
theorem zk_bk {b : Nat} (h : b < 6) : zk (97 + 4 * b) = 0 := zk_bk0 b h
theorem zk_sk0 : ∀ s, s < 10 → zk (121 + s) = 6 := by decide +kernel
theorem zk_sk {s : Nat} (h : s < 10) : zk (121 + s) = 6 := zk_sk0 s h
theorem zR_bk {σ : zS} (hl : zLay σ) {b : Nat} (h : b < 6) : zR σ 4 (nI b).toNatClampNeg = some (97 + 4 * b) := by
  rw [nI_clamp (by omega)]
  exact hl.r (show zRT 4 b = _ by unfold zRT; rw [zk_4]; exact if_pos h)
theorem zR_sk {σ : zS} (hl : zLay σ) {s : Nat} (h : s < 10) : zR σ 5 (nI s).toNatClampNeg = some (121 + s) := by
  rw [nI_clamp (by omega)]
  exact hl.r (show zRT 5 s = _ by unfold zRT; rw [zk_5]; exact if_pos h)
theorem zR_rn {σ : zS} (hl : zLay σ) {r : Nat} (h : r < 6) : zR σ 13 (nI r).toNatClampNeg = some (20 + 2 * r) := by
  rw [nI_clamp (by omega)]
  exact hl.r (show zRT 13 r = _ by unfold zRT; rw [zk_13]; exact if_pos h)
theorem zk_rn {r : Nat} (h : r < 6) : zk (20 + 2 * r) = 4 := zf_racer (t := 12) zk_12 h
/-- a stick of the model's, from y -/
def mG (σ : zS) (s : Nat) (y : Int) : Nat → Int := fun j => if j = 0 then (zI σ 136 s).toInt else if j = 1 then (zI σ 137 s).toInt else if j = 2 then (zI σ 138 s).toInt else y
theorem mG_ok {σ : zS} {s : Nat} {y : Int} (h : iStk σ s) : 1 ≤ mG σ s y 0 ∧ mG σ s y 0 ≤ 5 ∧ 0 ≤ mG σ s y 1 ∧ mG σ s y 1 ≤ 9 ∧ 0 ≤ mG σ s y 2 ∧ mG σ s y 2 ≤ 9 := ⟨h.1.1, h.1.2, h.2.1.1, h.2.1.2, h.2.2.1.1, h.2.2.1.2⟩
theorem mG_p {σ : zS} {s : Nat} {y : Int} (h : iStk σ s) : ∀ j, j < 3 → (zI σ (121 + s) j).toInt = mG σ s y j := fun j hj => by
  obtain ⟨-, -, -, h0, h1, h2⟩ := h
  rcases (by omega : j = 0 ∨ j = 1 ∨ j = 2) with rfl | rfl | rfl
  · rw [h0]; rfl
  · rw [h1]; rfl
  · rw [h2]; rfl
theorem iS_mG {σ σ' : zS} (h : zFr iSafe σ σ') {s : Nat} (hs : s < 10) (y : Int) : mG σ' s y = mG σ s y := by
  unfold mG
  rw [h.i (show ¬ iSafe 0 136 s by unfold iSafe; omega), h.i (show ¬ iSafe 0 137 s by unfold iSafe; omega), h.i (show ¬ iSafe 0 138 s by unfold iSafe; omega)]
section LEAFS
variable {d : Nat} {σ : zS} {Q : Option Value → zS → Prop}
theorem p_nb0 (hl : zLay σ) {nb b : Nat} (e : zI σ 1 2 = nI nb) (h6 : nb ≤ 6) (hb : b < nb) (h : Q (some (.int 0)) σ) : zCall d kX11_noBrook [.ref 1, .int (nI b)] σ Q :=
  (bX11_noBrook_0 hl).mpr (zlt' (ai_n (by omega)) k0 (fun q => by omega) (fun _ => by
    rw [e]
    exact zle' (ai_n (by omega)) (ai_n (by omega)) (fun q => by omega) (fun _ => zlt' (ai_n (by omega)) k6 (fun _ => h) (fun q => by omega))))
theorem p_nb1 (hl : zLay σ) {nb : Nat} {x : Int32} (e : zI σ 1 2 = nI nb) (h6 : nb ≤ 6) (hx : ¬ (0 ≤ x.toInt ∧ x.toInt < nb)) (h : Q (some (.int 1)) σ) : zCall d kX11_noBrook [.ref 1, .int x] σ Q :=
  (bX11_noBrook_0 hl).mpr (zlt' rfl k0 (fun _ => h) (fun q1 => by
    rw [e]
    exact zle' (ai_n (by omega)) rfl (fun _ => h) (fun q2 => absurd ⟨q1, q2⟩ hx)))
theorem p_ns0 (hl : zLay σ) {nb b : Nat} (e : zI σ 1 4 = nI nb) (h6 : nb ≤ 10) (hb : b < nb) (h : Q (some (.int 0)) σ) : zCall d kX11_noStick [.ref 1, .int (nI b)] σ Q :=
  (bX11_noStick_0 hl).mpr (zlt' (ai_n (by omega)) k0 (fun q => by omega) (fun _ => by
    rw [e]
    exact zle' (ai_n (by omega)) (ai_n (by omega)) (fun q => by omega) (fun _ => zlt' (ai_n (by omega)) k10 (fun _ => h) (fun q => by omega))))
theorem p_ns1 (hl : zLay σ) {nb : Nat} {x : Int32} (e : zI σ 1 4 = nI nb) (h6 : nb ≤ 10) (hx : ¬ (0 ≤ x.toInt ∧ x.toInt < nb)) (h : Q (some (.int 1)) σ) : zCall d kX11_noStick [.ref 1, .int x] σ Q :=
  (bX11_noStick_0 hl).mpr (zlt' rfl k0 (fun _ => h) (fun q1 => by
    rw [e]
    exact zle' (ai_n (by omega)) rfl (fun _ => h) (fun q2 => absurd ⟨q1, q2⟩ hx)))
theorem p_nr0 (hl : zLay σ) {nb b : Nat} (e : zI σ 12 4 = nI nb) (h6 : nb ≤ 6) (hb : b < nb) (h : Q (some (.int 0)) σ) : zCall d kX11_noRunner [.ref 1, .int (nI b)] σ Q :=
  (bX11_noRunner_0 hl).mpr (zlt' (ai_n (by omega)) k0 (fun q => by omega) (fun _ => by
    rw [e]
    exact zle' (ai_n (by omega)) (ai_n (by omega)) (fun q => by omega) (fun _ => zlt' (ai_n (by omega)) k6 (fun _ => h) (fun q => by omega))))
theorem p_nr1 (hl : zLay σ) {nb : Nat} {x : Int32} (e : zI σ 12 4 = nI nb) (h6 : nb ≤ 6) (hx : ¬ (0 ≤ x.toInt ∧ x.toInt < nb)) (h : Q (some (.int 1)) σ) : zCall d kX11_noRunner [.ref 1, .int x] σ Q :=
  (bX11_noRunner_0 hl).mpr (zlt' rfl k0 (fun _ => h) (fun q1 => by
    rw [e]
    exact zle' (ai_n (by omega)) rfl (fun _ => h) (fun q2 => absurd ⟨q1, q2⟩ hx)))
theorem p_sd (hl : zLay σ) {x : Int32} (h0 : 1 ≤ x.toInt → x.toInt ≤ 40 → Q (some (.int 0)) σ) (h1 : ¬ (1 ≤ x.toInt ∧ x.toInt ≤ 40) → Q (some (.int 1)) σ) : zCall d kX11_noSeeds [.int x] σ Q :=
  (bX11_noSeeds_0 hl).mpr (zlt' rfl k1 (fun q => h1 (by omega)) (fun q => zle' rfl k40 (fun q2 => h0 q q2) (fun q2 => h1 (by omega))))
theorem m_ib1 (hl : zLay σ) {nb b : Nat} (e : zI σ 131 11 = nI nb) (h6 : nb ≤ 6) (hb : b < nb) (h : Q (some (.int 1)) σ) : zCall d kX12_isBrook [.ref 131, .int (nI b)] σ Q :=
  (bX12_isBrook_0 hl).mpr (zlt' (ai_n (by omega)) k0 (fun q => by omega) (fun _ => by
    rw [e]
    exact zle' (ai_n (by omega)) (ai_n (by omega)) (fun q => by omega) (fun _ => h)))
theorem m_ib0 (hl : zLay σ) {nb : Nat} {x : Int32} (e : zI σ 131 11 = nI nb) (h6 : nb ≤ 6) (hx : ¬ (0 ≤ x.toInt ∧ x.toInt < nb)) (h : Q (some (.int 0)) σ) : zCall d kX12_isBrook [.ref 131, .int x] σ Q :=
  (bX12_isBrook_0 hl).mpr (zlt' rfl k0 (fun _ => h) (fun q1 => by
    rw [e]
    exact zle' (ai_n (by omega)) rfl (fun _ => h) (fun q2 => absurd ⟨q1, q2⟩ hx)))
theorem m_is1 (hl : zLay σ) {nb b : Nat} (e : zI σ 131 12 = nI nb) (h6 : nb ≤ 10) (hb : b < nb) (h : Q (some (.int 1)) σ) : zCall d kX12_isStick [.ref 131, .int (nI b)] σ Q :=
  (bX12_isStick_0 hl).mpr (zlt' (ai_n (by omega)) k0 (fun q => by omega) (fun _ => by
    rw [e]
    exact zle' (ai_n (by omega)) (ai_n (by omega)) (fun q => by omega) (fun _ => h)))
theorem m_is0 (hl : zLay σ) {nb : Nat} {x : Int32} (e : zI σ 131 12 = nI nb) (h6 : nb ≤ 10) (hx : ¬ (0 ≤ x.toInt ∧ x.toInt < nb)) (h : Q (some (.int 0)) σ) : zCall d kX12_isStick [.ref 131, .int x] σ Q :=
  (bX12_isStick_0 hl).mpr (zlt' rfl k0 (fun _ => h) (fun q1 => by
    rw [e]
    exact zle' (ai_n (by omega)) rfl (fun _ => h) (fun q2 => absurd ⟨q1, q2⟩ hx)))
theorem m_ir1 (hl : zLay σ) {nb b : Nat} (e : zI σ 131 20 = nI nb) (h6 : nb ≤ 6) (hb : b < nb) (h : Q (some (.int 1)) σ) : zCall d kX12_isRunner [.ref 131, .int (nI b)] σ Q :=
  (bX12_isRunner_0 hl).mpr (zlt' (ai_n (by omega)) k0 (fun q => by omega) (fun _ => by
    rw [e]
    exact zle' (ai_n (by omega)) (ai_n (by omega)) (fun q => by omega) (fun _ => h)))
theorem m_ir0 (hl : zLay σ) {nb : Nat} {x : Int32} (e : zI σ 131 20 = nI nb) (h6 : nb ≤ 6) (hx : ¬ (0 ≤ x.toInt ∧ x.toInt < nb)) (h : Q (some (.int 0)) σ) : zCall d kX12_isRunner [.ref 131, .int x] σ Q :=
  (bX12_isRunner_0 hl).mpr (zlt' rfl k0 (fun _ => h) (fun q1 => by
    rw [e]
    exact zle' (ai_n (by omega)) rfl (fun _ => h) (fun q2 => absurd ⟨q1, q2⟩ hx)))
theorem p_has {b : Nat} {B : aBk} {x y : Int32} (hl : zLay σ) (g : pBk σ b B) (h : Q (some (.int (zb (0 ≤ x.toInt ∧ x.toInt < B.2.2 ∧ 0 ≤ y.toInt ∧ y.toInt < B.2.1)))) σ) : zCall d kX0_has [.ref b, .int x, .int y] σ Q := by
  obtain ⟨g0, g1, g2, -⟩ := g
  refine (bX0_has_0 hl g0).mpr (zlt' rfl k0 (fun q => ?_) (fun q1 => zle' g2 rfl (fun q => ?_) (fun q2 => zlt' rfl k0 (fun q => ?_) (fun q3 => zle' g1 rfl (fun q => ?_) (fun q4 => ?_)))))
  · rwa [zb_f (by omega)] at h
  · rwa [zb_f (by omega)] at h
  · rwa [zb_f (by omega)] at h
  · rwa [zb_f (by omega)] at h
  · rwa [zb_t ⟨q1, q2, q3, q4⟩] at h
theorem m_isCell {b : Nat} {B : aBk} {x y : Int32} (hl : zLay σ) (hb : b < 7) (eB : mB σ b = B) (hB : aBok B) (h : Q (some (.int (zb (0 ≤ x.toInt ∧ x.toInt < B.2.2 ∧ 0 ≤ y.toInt ∧ y.toInt < B.2.1)))) σ) : zCall (d + 1) kX12_isCell [.ref 131, .int (nI b), .int x, .int y] σ Q := by
  have e5 : (zI σ 135 b).toInt = B.2.2 := by rw [← eB]; rfl
  have e4 : (zI σ 134 b).toInt = B.2.1 := by rw [← eB]; rfl
  obtain ⟨hB1, hB2, hB3, hB4, -⟩ := hB
  refine (bX12_isCell_0 hl).mpr ⟨vp_in_nI hb (by decide), ?_⟩
  rw [nI_clamp (by omega)]
  refine m_isIn hl ⟨rfl, (bX12_isCell_13 hl).mpr ?_⟩
  have s5 : (zI σ 135 b - 1).toInt = B.2.2 - 1 := zsub e5 k1
  have s4 : (zI σ 134 b - 1).toInt = B.2.1 - 1 := zsub e4 k1
  rw [s5, k0]
  refine zt0 (fun c => ⟨vp_in_nI hb (by decide), ?_⟩) (fun c => ?_)
  · rw [nI_clamp (by omega)]
    refine m_isIn hl ⟨rfl, (bX12_isCell_29 hl).mpr ?_⟩
    rw [s4, k0]
    refine zt0 (fun c2 => ?_) (fun c2 => ?_)
    · rwa [zb_t (by omega)] at h
    · rwa [zb_f (by omega)] at h
  · rwa [zb_f (by omega)] at h
end LEAFS
