/-! two sticks on one brook -/
def F2 (σ : zS) (s1 y s2 z : Nat) : aFn := aAdd (fun _ => mG σ s1 y) 1 (mG σ s2 z)
def tFit (σ : zS) (b s1 s2 y z : Nat) : Prop := aFit (mB σ b) (mW σ) 2 (F2 σ s1 y s2 z)
noncomputable def gm (σ : zS) (b s1 s2 N y z : Nat) : Int := aSum (fun j => aWin 2 (aR (mB σ b) (mW σ) 2 (F2 σ s1 y s2 z) j) 0) N - aSum (fun j => aWin 2 (aR (mB σ b) (mW σ) 2 (F2 σ s1 y s2 z) j) 1) N
theorem F2_c {σ0 σ : zS} (f : zFr iSafe σ0 σ) {s1 y s2 z : Nat} (h1 : s1 < 10) (h2 : s2 < 10) : F2 σ s1 y s2 z = F2 σ0 s1 y s2 z := by
  unfold F2
  rw [iS_mG f h1, iS_mG f h2]
theorem tFit_c {σ0 σ : zS} (f : zFr iSafe σ0 σ) {b s1 y s2 z : Nat} (hb : b < 6) (h1 : s1 < 10) (h2 : s2 < 10) : tFit σ b s1 s2 y z = tFit σ0 b s1 s2 y z := by
  unfold tFit
  rw [F2_c f h1 h2, iS_mB f hb, iS_mW f]
theorem gm_c {σ0 σ : zS} (f : zFr iSafe σ0 σ) {b s1 N y s2 z : Nat} (hb : b < 6) (h1 : s1 < 10) (h2 : s2 < 10) : gm σ b s1 s2 N y z = gm σ0 b s1 s2 N y z := by
  unfold gm
  rw [F2_c f h1 h2, iS_mB f hb, iS_mW f]
theorem gm_b {σ : zS} {b s1 s2 N y z : Nat} (hN : N ≤ 40) : -40 ≤ gm σ b s1 s2 N y z ∧ gm σ b s1 s2 N y z ≤ 40 := by
  have a := aSum_b2 (f := fun j => aWin 2 (aR (mB σ b) (mW σ) 2 (F2 σ s1 y s2 z) j) 0) (m := 1) (by omega) (fun _ => aWin_b) hN
  have c := aSum_b2 (f := fun j => aWin 2 (aR (mB σ b) (mW σ) 2 (F2 σ s1 y s2 z) j) 1) (m := 1) (by omega) (fun _ => aWin_b) hN
  unfold gm
  omega
theorem aSum_pm {f : Nat → Int} {m : Int} (h : ∀ k, -m ≤ f k ∧ f k ≤ m) (hm : 0 ≤ m) : ∀ n : Nat, -(m * n) ≤ aSum f n ∧ aSum f n ≤ m * n
  | 0 => by show -(m * ((0 : Nat) : Int)) ≤ 0 ∧ (0 : Int) ≤ _; simp
  | n + 1 => by
    have i := aSum_pm h hm n
    have hn := h n
    have e : aSum f (n + 1) = aSum f n + f n := rfl
    have e2 : m * ((n + 1 : Nat) : Int) = m * n + m := by rw [show ((n + 1 : Nat) : Int) = (n : Int) + 1 by omega, Int.mul_add, Int.mul_one]
    rw [e, e2]
    omega
theorem tFit_i {σ : zS} {b s1 s2 y z : Nat} : tFit σ b s1 s2 y z ↔ tOk σ b s1 y ∧ tOk σ b s2 z ∧ ((y : Int) + (zI σ 136 s1).toInt ≤ z ∨ (z : Int) + (zI σ 136 s2).toInt ≤ y) := by
  have e00 : F2 σ s1 y s2 z 0 0 = (zI σ 136 s1).toInt := rfl
  have e03 : F2 σ s1 y s2 z 0 3 = (y : Int) := rfl
  have e10 : F2 σ s1 y s2 z 1 0 = (zI σ 136 s2).toInt := rfl
  have e13 : F2 σ s1 y s2 z 1 3 = (z : Int) := rfl
  unfold tFit aFit tOk
  constructor
  · rintro ⟨h1, h2⟩
    have a := h1 0 (by omega)
    have c := h1 1 (by omega)
    have p := h2 1 (by omega) 0 (by omega)
    rw [e00, e03] at a
    rw [e10, e13] at c
    unfold aApart at p
    rw [e00, e03, e10, e13] at p
    exact ⟨a, c, p.symm⟩
  · rintro ⟨a, c, p⟩
    refine ⟨fun r hr => ?_, fun r hr o ho => ?_⟩
    · rcases (by omega : r = 0 ∨ r = 1) with e | e <;> subst e
      · rw [e00, e03]; exact a
      · rw [e10, e13]; exact c
    · obtain rfl : r = 1 := by omega
      obtain rfl : o = 0 := by omega
      unfold aApart
      rw [e00, e03, e10, e13]
      exact p.symm
theorem aAdd_0 {G G' : Nat → Int} {w : Nat} : aAdd (fun _ => G) 1 G' 0 w = G w := if_neg (by decide)
theorem aAdd_1 {G G' : Nat → Int} {w : Nat} : aAdd (fun _ => G) 1 G' 1 w = G' w := if_pos rfl
theorem aFst_0 {B : aBk} {G G' : Nat → Int} (h : aGst B G) : aFst B (aAdd (fun _ => G) 1 G') 0 := by
  unfold aFst
  rw [aAdd_0, aAdd_0, aAdd_0, aAdd_0]
  exact h
theorem aFst_1 {B : aBk} {G G' : Nat → Int} (h : aGst B G') : aFst B (aAdd (fun _ => G) 1 G') 1 := by
  unfold aFst
  rw [aAdd_1, aAdd_1, aAdd_1, aAdd_1]
  exact h
section TWO
variable {d : Nat} {Q : Option Value → zS → Prop} {σ0 : zS} {nb ns : Nat}
theorem F2_st (g0 : iA σ0 nb ns) {b s1 s2 y z : Nat} (h1 : s1 < ns) (h2 : s2 < ns) (c : tFit σ0 b s1 s2 y z) : ∀ r, r < 2 → aFst (mB σ0 b) (F2 σ0 s1 y s2 z) r := fun r hr => by
  obtain ⟨a1, a2, -⟩ := tFit_i.mp c
  rcases (by omega : r = 0 ∨ r = 1) with e | e <;> subst e
  · unfold F2; exact aFst_0 (tGst g0 h1 a1)
  · unfold F2; exact aFst_1 (tGst g0 h2 a2)
theorem p_two {σ : zS} {b s1 s2 y z : Nat} (g0 : iA σ0 nb ns) (f : zFr pWz σ0 σ) (hb : b < nb) (h1 : s1 < ns) (h2 : s2 < ns) (hy : y < 1000) (hz : z < 1000)
    (h : ∀ σ', pTd σ' 60 2 (97 + 4 * b) (F2 σ0 s1 y s2 z) → zFr pWz σ0 σ' → Q (some (.int (zb (tFit σ0 b s1 s2 y z)))) σ') : zCall (d + 3) kX11_placeTwo [.ref 1, .ref (97 + 4 * b), .ref (121 + s1), .int (nI y), .ref (121 + s2), .int (nI z)] σ Q := by
  obtain ⟨g, fs⟩ := pZ g0 f
  have h6 := g.nb6
  have h10 := g.ns10
  have zb0 := zk_bk (show b < 6 by omega)
  have z1 := zk_sk (show s1 < 10 by omega)
  have z2 := zk_sk (show s2 < 10 by omega)
  have eB : mB σ b = mB σ0 b := iS_mB fs (by omega)
  have eW : mW σ = mW σ0 := iS_mW fs
  have m1 : ∀ j, j < 3 → (zI σ (121 + s1) j).toInt = mG σ0 s1 y j := fun j hj => by
    rw [mG_p (y := (y : Int)) (g.stk h1) j hj, iS_mG fs (by omega)]
  have m2 : ∀ j, j < 3 → (zI σ (121 + s2) j).toInt = mG σ0 s2 z j := fun j hj => by
    rw [mG_p (y := (z : Int)) (g.stk h2) j hj, iS_mG fs (by omega)]
  have nk : ∀ s, s < 10 → ∀ k, ¬ pWq 60 0 (121 + s) k := fun s hs k => pWq_k zk_60 (by rw [zk_sk hs]; decide) (by rw [zk_sk hs]; decide) (by rw [zk_sk hs]; decide)
  refine (bX11_placeTwo_0 g.1 zb0 z1 z2).mpr (p_clear (F := fun _ => mG σ0 s1 y) g.1 zk_60 zb0 (fun σ1 T1 _ f1 => ⟨rfl, ?_⟩))
  refine (bX11_placeTwo_8 T1.1 zb0 z1 z2).mpr (p_add (G := mG σ0 s1 y) T1 (by omega) z1 (fun j hj => by rw [f1.i (nk _ (by omega) _)]; exact m1 j hj) (ai_n (by omega)) (fun σ2 T2 _ f2 => ⟨rfl, ?_⟩))
  rw [aAdd_G] at T2
  have f02 := f1.trans (pWa_q zk_60 (by omega) f2)
  refine (bX11_placeTwo_17 T2.1 zb0 z1 z2).mpr (p_add (G := mG σ0 s2 z) T2 (by omega) z2 (fun j hj => by rw [f02.i (nk _ (by omega) _)]; exact m2 j hj) (ai_n (by omega)) (fun σ3 T3 _ f3 => ⟨rfl, ?_⟩))
  have f03 := f02.trans (pWa_q zk_60 (by omega) f3)
  have g3 := pBk_fr f03 (pWq_b zk_60 zb0) (g.bp hb)
  rw [eB] at g3
  have eW3 := pWx_q zk_60 zk_10 f03 g.wp
  rw [eW] at eW3
  refine (bX11_placeTwo_28 T3.1 zb0 z1 z2).mpr (p_fits T3 g3 (g0.bok hb) (fun r hr => ?_) eW3.2.1 ⟨rfl, (bX11_placeTwo_42 T3.1 zb0 z1 z2).mpr ⟨zb_01 _, h σ3 T3 (f.trans (pWq_z f03))⟩⟩)
  rcases (by omega : r = 0 ∨ r = 1) with e | e <;> subst e
  · have := (g0.stk h1).1; exact this
  · have := (g0.stk h2).1; exact this
theorem p_lead {σ : zS} {b s1 s2 y z N : Nat} (g0 : iA σ0 nb ns) (f : zFr pWz σ0 σ) (hb : b < nb) (h1 : s1 < ns) (h2 : s2 < ns) (hN : N ≤ 40) (T : pTd σ 60 2 (97 + 4 * b) (F2 σ0 s1 y s2 z)) (c : tFit σ0 b s1 s2 y z)
    (h : ∀ (v : Int32) (σ' : zS), v.toInt = gm σ0 b s1 s2 N y z → zFr pWz σ0 σ' → Q (some (.int v)) σ') : zCall (d + 6) kX11_leadOfFirst [.ref 1, .int (nI N)] σ Q := by
  obtain ⟨g, fs⟩ := pZ g0 f
  have h6 := g.nb6
  have eB : mB σ b = mB σ0 b := iS_mB fs (by omega)
  have eW : mW σ = mW σ0 := iS_mW fs
  have gp0 := g.bp hb
  rw [eB] at gp0
  have eWp := g.wp
  rw [eW] at eWp
  refine (bX11_leadOfFirst_0 g.1).mpr (p_tclear (d := d + 4) g.1 (fun σ1 l1 z1 z80 f1 => ⟨rfl, ?_⟩))
  have T1 := pTd_tl f1 T
  refine (bX11_leadOfFirst_7 l1).mpr ((bX11_tallySeeds_0 l1).mpr (p_seeds_l (d := d) (w0 := fun _ => 0) (s0 := fun _ => 0) (t0 := 0) (g0.bok hb) g0.wok (zk_bk (by omega)) (by omega) (F2_st g0 h1 h2 c) hN (fun r hr => by omega) (by omega) N 0 σ1 (by omega) (by omega) T1 (pBk_fr f1 (wTl_b (zk_bk (by omega))) gp0) (by rw [f1.i (by unfold wTl; omega), f1.i (by unfold wTl; omega), f1.i (by unfold wTl; omega)]; exact eWp) ⟨fun r hr => ?_, ?_⟩ (Or.inl rfl) (fun σ3 l3 t3 f3 => ⟨rfl, (bX11_leadOfFirst_12 l3).mpr ?_⟩)))
  · rw [(z1 r (by omega)).1, (z1 r (by omega)).2]; exact ⟨rfl, rfl⟩
  · rw [z80]; rfl
  · have a := (t3.1 0 (by omega)).1
    have c2 := (t3.1 1 (by omega)).1
    rw [Int.zero_add] at a c2
    have b1 := aSum_b2 (f := fun j => aWin 2 (aR (mB σ0 b) (mW σ0) 2 (F2 σ0 s1 y s2 z) j) 0) (m := 1) (by omega) (fun _ => aWin_b) hN
    have b2 := aSum_b2 (f := fun j => aWin 2 (aR (mB σ0 b) (mW σ0) 2 (F2 σ0 s1 y s2 z) j) 1) (m := 1) (by omega) (fun _ => aWin_b) hN
    refine ⟨(vp_in_nI (by omega) (by decide) : vp_in (nI 0) 6), (vp_in_nI (by omega) (by decide) : vp_in (nI 1) 6), h _ σ3 ?_ (f.trans ((wTl_z f1).trans f3))⟩
    exact zsub a c2 (by omega) (by omega)
/-- what the model's brooks and sticks are while it runs with the race held -/
theorem mX (g0 : iA σ0 nb ns) {σ : zS} (f : zFr mWx σ0 σ) : zLay σ ∧ (∀ b, mB σ b = mB σ0 b) ∧ mW σ = mW σ0 ∧ zI σ 131 43 = 0 ∧ (∀ s, zI σ 136 s = zI σ0 136 s ∧ zI σ 137 s = zI σ0 137 s ∧ zI σ 138 s = zI σ0 138 s) := by
  refine ⟨f.lay g0.1 (fun _ _ _ _ => mWx_2), fun b => mB_fr f b ⟨fun k => by unfold mWx; omega, fun k => by unfold mWx; omega, fun k => by unfold mWx; omega⟩, mW_fr f ⟨by unfold mWx; omega, by unfold mWx; omega, by unfold mWx; omega⟩, ?_, fun s => ⟨f.i (by unfold mWx; omega), f.i (by unfold mWx; omega), f.i (by unfold mWx; omega)⟩⟩
  rw [f.i (by unfold mWx; omega)]
  exact g0.r43
theorem m_cbX {σ : zS} {b s y : Nat} (g0 : iA σ0 nb ns) (f : zFr mWx σ0 σ) (hb : b < nb) (hs : s < ns) (hy : y < 1000) (h : Q (some (.int (zb (tOk σ0 b s y)))) σ) : zCall (d + 3) kX12_canBegin [.ref 131, .int (nI b), .int (nI s), .int (nI y)] σ Q := by
  obtain ⟨l, e1, e2, e3, e4⟩ := mX g0 f
  have h6 := g0.nb6
  have h10 := g0.ns10
  have ey : (nI y).toInt = (y : Int) := ai_n (by omega)
  refine m_cb l (by omega) (e1 b) (g0.bok hb) e2 (by omega) (by rw [(e4 s).1]; exact (g0.stk hs).1) ?_
  rw [ey, (e4 s).1]
  exact h
theorem m_game {σ : zS} {b s1 s2 y z N : Nat} (g0 : iA σ0 nb ns) (f : zFr mWx σ0 σ) (hb : b < nb) (h1 : s1 < ns) (h2 : s2 < ns) (hy : y < 1000) (hz : z < 1000) (hN : N ≤ 40) (c : tFit σ0 b s1 s2 y z)
    (h : ∀ (v : Int32) (σ' : zS), v.toInt = gm σ0 b s1 s2 N y z → zFr mWy σ σ' → Q (some (.int v)) σ') : zCall (d + 10) kX12_gameOf [.ref 131, .int (nI b), .int (nI s1), .int (nI s2), .int (nI y), .int (nI z), .int (nI N)] σ Q := by
  obtain ⟨l, e1, e2, e3, e4⟩ := mX g0 f
  have h6 := g0.nb6
  have h10 := g0.ns10
  have hB := g0.bok hb
  have ey : (nI y).toInt = (y : Int) := ai_n (by omega)
  have ez : (nI z).toInt = (z : Int) := ai_n (by omega)
  have cl1 : (nI s1).toNatClampNeg = s1 := nI_clamp (by omega)
  have cl2 : (nI s2).toNatClampNeg = s2 := nI_clamp (by omega)
  refine (bX12_gameOf_0 l).mpr ⟨vp_in_nI (by omega) (by decide), vp_in_nI (by omega) (by decide), vp_in_nI (by omega) (by decide), ?_⟩
  rw [cl1, (e4 s1).1, (e4 s1).2.1, (e4 s1).2.2]
  have f1 : zFr mWy σ (zsI σ 131 (upd (upd (zI σ 131) 19 (nI b)) 20 0)) := zFr_I (fun k => by
    by_cases e : k = 19 ∨ k = 20
    · exact Or.inl (Or.inl ⟨rfl, by omega⟩)
    · right; rw [pk_un (by omega), pk_un (by omega)])
  have n1 : zI (zsI σ 131 (upd (upd (zI σ 131) 19 (nI b)) 20 0)) 131 20 = nI 0 := by rw [zI_self, pk_us]; rfl
  have o1 : zI (zsI σ 131 (upd (upd (zI σ 131) 19 (nI b)) 20 0)) 131 19 = nI b := by rw [zI_self, pk_un (by decide), pk_us]
  generalize zsI σ 131 (upd (upd (zI σ 131) 19 (nI b)) 20 0) = σ1 at f1 n1 o1 ⊢
  obtain ⟨l1, a1, a2, a3, a4⟩ := mX g0 (f.trans (mWy_x f1))
  refine m_join (d := d + 7) (G := mG σ0 s1 y) l1 (by omega) n1 a3 rfl rfl rfl ey (fun σ2 m2 q1 q2 q3 f2 => ⟨rfl, ?_⟩)
  have f2y : zFr mWy σ1 σ2 := f2.mono (fun j c k q => by unfold mWj at q; unfold mWy; omega)
  obtain ⟨l2, c1, c2, c3, c4⟩ := mX g0 (f.trans (mWy_x (f1.trans f2y)))
  refine (bX12_gameOf_34 l2).mpr ⟨vp_in_nI (by omega) (by decide), vp_in_nI (by omega) (by decide), vp_in_nI (by omega) (by decide), ?_⟩
  rw [cl2, (c4 s2).1, (c4 s2).2.1, (c4 s2).2.2]
  refine m_join (d := d + 7) (G := mG σ0 s2 z) l2 (by omega) m2 c3 rfl rfl rfl ez (fun σ3 m3 r1 r2 r3 f3 => ⟨rfl, ?_⟩)
  have f3y : zFr mWy σ2 σ3 := f3.mono (fun j c k q => by unfold mWj at q; unfold mWy; omega)
  have f03 := (f1.trans f2y).trans f3y
  obtain ⟨l3, d1, d2, d3, d4⟩ := mX g0 (f.trans (mWy_x f03))
  have o3 : zI σ3 131 19 = nI b := by rw [f3.i (by unfold mWj; omega), f2.i (by unfold mWj; omega)]; exact o1
  have C3 : mCx σ3 2 b (mB σ0 b) (mW σ0) := ⟨l3, by omega, m3, by omega, o3, d1 b, d2, hB, g0.wok⟩
  have hF : ∀ r w, r < 2 → w ≤ 3 → mF σ3 2 r w = F2 σ0 s1 y s2 z r w := fun r w hr hw => by
    rcases (by omega : r = 0 ∨ r = 1) with e | e <;> subst e
    · rw [r3 0 w (by omega), q1 w hw]; rfl
    · rw [r1 w hw]; rfl
  have st := F2_st g0 h1 h2 c
  refine (bX12_gameOf_58 l3).mpr (m_sumOf (d := d) (r := 0) C3 hF d3 (by omega) st hN (Or.inr ⟨by decide, rfl⟩) (fun v4 σ4 hv4 C4 hF4 h43 f4 => ⟨rfl, (bX12_gameOf_66 C4.1).mpr (m_sumOf (d := d) (r := 1) C4 hF4 h43 (by omega) st hN (Or.inr ⟨by decide, rfl⟩) (fun v5 σ5 hv5 C5 _ _ f5 => ⟨rfl, (bX12_gameOf_74 C5.1).mpr (h _ σ5 ?_ (f03.trans (mWr_y (f4.trans f5))))⟩))⟩))
  have b1 := aSum_b2 (f := fun j => aWin 2 (aR (mB σ0 b) (mW σ0) 2 (F2 σ0 s1 y s2 z) j) 0) (m := 1) (by omega) (fun _ => aWin_b) hN
  have b2 := aSum_b2 (f := fun j => aWin 2 (aR (mB σ0 b) (mW σ0) 2 (F2 σ0 s1 y s2 z) j) 1) (m := 1) (by omega) (fun _ => aWin_b) hN
  exact zsub hv4 hv5 (by omega) (by omega)
end TWO
