/-! the verb brook, both sides (the class's may throw) -/
noncomputable def brV (B : aBk) (w : Int) : Int := if w = 0 then B.2.1 else if w = 1 then B.2.2 else if w = 2 then sgn B 0 else sgn B 10
theorem sgn_b {B : aBk} {v : Int} : sgn B v ≤ 96 := by
  have z := nsum_b (f := fun x => nsum (fun y => cc B v y x) 6) (M := 6) (fun x => by
    have := nsum_b (f := fun y => cc B v y x) (M := 1) (fun _ => cc_b) 6
    omega) 16
  unfold sgn
  omega
section BROOK
variable {d : Nat} {Q : Option Value → zS → Prop} {σ : zS} {nb ns : Nat}
theorem p_brook {b : Nat} {w : Int32} (g : iA σ nb ns) (hb : b < nb) (hw : 0 ≤ w.toInt ∧ w.toInt ≤ 3) (h : ∀ v : Int32, v.toInt = brV (mB σ b) w.toInt → Q (some (.int v)) σ) : zCall (d + 2) kX11_brook [.ref 1, .int (nI b), .int w] σ Q := by
  have h6 := g.nb6
  have hB := g.bok hb
  have gp := g.bp hb
  have zb0 := zk_bk (show b < 6 by omega)
  have s0 := sgn_b (B := mB σ b) (v := 0)
  have s10 := sgn_b (B := mB σ b) (v := 10)
  refine (bX11_brook_0 g.1).mpr (p_nb0 g.1 g.e2 h6 hb ⟨rfl, (bX11_brook_5 g.1).mpr (zy rfl (zlt' rfl k0 (fun q => by omega) (fun _ => zle' rfl k3 (fun _ => ⟨vp_in_nI (by omega) (by decide), ?_⟩) (fun q => by omega))))⟩)
  rw [zR_bk g.1 (by omega)]
  refine (bX11_brook_31 g.1 zb0).mpr (zeq' rfl k0 (fun q => h _ ?_) (fun q => zeq' rfl k1 (fun q2 => h _ ?_) (fun q2 => zeq' rfl k2 (fun q3 => ?_) (fun q3 => ?_))))
  · unfold brV; rw [if_pos q]; exact gp.2.1
  · unfold brV; rw [if_neg q, if_pos q2]; exact gp.2.2.1
  · refine (bX0_stonesInAll_0 g.1 zb0).mpr (p_stones_l g.1 gp hB ⟨rfl, (bX11_brook_60 g.1 zb0).mpr ((bX11_brook_67 g.1 zb0).mpr (h _ ?_))⟩ 16 0 (by omega) (by omega))
    unfold brV; rw [if_neg q, if_neg q2, if_pos q3]; exact ai_n (by omega)
  · refine (bX0_eddiesInAll_0 g.1 zb0).mpr (p_eddies_l g.1 gp hB ⟨rfl, (bX11_brook_67 g.1 zb0).mpr (h _ ?_)⟩ 16 0 (by omega) (by omega))
    unfold brV; rw [if_neg q, if_neg q2, if_neg q3]; exact ai_n (by omega)
theorem p_brook0 {x w : Int32} (g : iA σ nb ns) (hn : ¬ ((0 ≤ x.toInt ∧ x.toInt < nb) ∧ (0 ≤ w.toInt ∧ w.toInt ≤ 3))) (h : Q (some zThr) σ) : zCall (d + 2) kX11_brook [.ref 1, .int x, .int w] σ Q := by
  have h6 := g.nb6
  rcases a_cs x nb with ⟨b, hb, rfl, -⟩ | hx
  · exact (bX11_brook_0 g.1).mpr (p_nb0 g.1 g.e2 h6 hb ⟨rfl, (bX11_brook_5 g.1).mpr (zy rfl (zlt' rfl k0 (fun _ => h) (fun q1 => zle' rfl k3 (fun q2 => absurd ⟨by rw [ai_n (by omega)]; omega, q1, q2⟩ hn) (fun _ => h))))⟩)
  · exact (bX11_brook_0 g.1).mpr (p_nb1 g.1 g.e2 h6 hx ⟨rfl, (bX11_brook_5 g.1).mpr (zn (by decide) h)⟩)
theorem m_brook {b : Nat} {w : Int32} (g : iA σ nb ns) (hb : b < nb) (hw : 0 ≤ w.toInt ∧ w.toInt ≤ 3) (h : ∀ v : Int32, v.toInt = brV (mB σ b) w.toInt → Q (some (.int v)) (zsI σ 131 (upd (zI σ 131) 0 0))) : zCall (d + 2) kX12_brook [.ref 131, .int (nI b), .int w] σ Q := by
  have h6 := g.nb6
  have hB := g.bok hb
  have cl : (nI b).toNatClampNeg = b := nI_clamp (by omega)
  have s0 := sgn_b (B := mB σ b) (v := 0)
  have s10 := sgn_b (B := mB σ b) (v := 10)
  obtain ⟨L, hL⟩ : ∃ L : Nat, (mB σ b).2.1 = (L : Int) := ⟨(mB σ b).2.1.toNat, by have := hB.1; omega⟩
  obtain ⟨W, hW⟩ : ∃ W : Nat, (mB σ b).2.2 = (W : Int) := ⟨(mB σ b).2.2.toNat, by have := hB.2.2.1; omega⟩
  refine (bX12_brook_0 g.1).mpr (m_ib1 g.1 g.e11 h6 hb ⟨rfl, (bX12_brook_6 g.1).mpr (zn (by decide) (m_isIn g.1 ⟨rfl, (bX12_brook_15 g.1).mpr (zt0 (fun _ => ?_) (fun q => absurd (by rw [k0, k3]; exact hw) q))⟩))⟩)
  have l1 : zLay (zsI σ 131 (upd (zI σ 131) 0 0)) := g.1.I
  have eB1 : mB (zsI σ 131 (upd (zI σ 131) 0 0)) b = mB σ b := by
    unfold mB
    rw [zI_ne (by decide), zI_ne (by decide), zI_ne (by decide)]
  refine (bX12_brook_23 g.1).mpr (zy (by decide) (zeq' rfl k0 (fun q => ⟨vp_in_nI (by omega) (by decide), (bX12_brook_78 l1).mpr (h _ ?_)⟩) (fun q => zeq' rfl k1 (fun q2 => ⟨vp_in_nI (by omega) (by decide), (bX12_brook_78 l1).mpr (h _ ?_)⟩) (fun q2 => zeq' rfl k2 (fun q3 => (bX12_brook_75 l1).mpr (m_signs l1 (by omega) eB1 hB hL hW ⟨rfl, (bX12_brook_78 l1).mpr (h _ ?_)⟩)) (fun q3 => (bX12_brook_75 l1).mpr (m_signs l1 (by omega) eB1 hB hL hW ⟨rfl, (bX12_brook_78 l1).mpr (h _ ?_)⟩))))))
  · rw [cl]; unfold brV; rw [if_pos q]; rfl
  · rw [cl]; unfold brV; rw [if_neg q, if_pos q2]; rfl
  · unfold brV; rw [if_neg q, if_neg q2, if_pos q3, k0]; exact ai_n (by omega)
  · unfold brV; rw [if_neg q, if_neg q2, if_neg q3, km10]; exact ai_n (by omega)
theorem m_brook0 {x w : Int32} (g : iA σ nb ns) (hn : ¬ ((0 ≤ x.toInt ∧ x.toInt < nb) ∧ (0 ≤ w.toInt ∧ w.toInt ≤ 3))) (h : Q (some (.int 0)) (zsI σ 131 (upd (zI σ 131) 0 1))) : zCall (d + 2) kX12_brook [.ref 131, .int x, .int w] σ Q := by
  have h6 := g.nb6
  have e22 : zW (d + 2) kX12_brook 22 [.ref 131, .int x, .int w] [.ref 131] σ Q := (bX12_brook_22 g.1).mpr ((bX12_brook_23 g.1).mpr (zn (by decide) h))
  rcases a_cs x nb with ⟨b, hb, rfl, -⟩ | hx
  · exact (bX12_brook_0 g.1).mpr (m_ib1 g.1 g.e11 h6 hb ⟨rfl, (bX12_brook_6 g.1).mpr (zn (by decide) (m_isIn g.1 ⟨rfl, (bX12_brook_15 g.1).mpr (zt0 (fun q => absurd ⟨by rw [ai_n (by omega)]; omega, by rw [k0, k3] at q; exact q⟩ hn) (fun _ => e22))⟩))⟩)
  · exact (bX12_brook_0 g.1).mpr (m_ib0 g.1 g.e11 h6 hx ⟨rfl, (bX12_brook_6 g.1).mpr (zy rfl e22)⟩)
end BROOK
