/-! fault -/
noncomputable def fz (x : Int) (t : Nat → Int) (len : Nat) : Int := if x = 0 then (rbk t len).1 else if x = 1 then (rsk t len).1 else -2
theorem fz_0 {t : Nat → Int} {len : Nat} : fz 0 t len = (rbk t len).1 := if_pos rfl
theorem fz_1 {t : Nat → Int} {len : Nat} : fz 1 t len = (rsk t len).1 := by unfold fz; rw [if_neg (by decide), if_pos rfl]
theorem fz_2 {t : Nat → Int} {len : Nat} {x : Int} (h0 : x ≠ 0) (h1 : x ≠ 1) : fz x t len = -2 := by unfold fz; rw [if_neg h0, if_neg h1]
theorem fz_c {t t' : Nat → Int} {len : Nat} (x : Int) (h : ∀ i, i < len → t i = t' i) : fz x t len = fz x t' len := by unfold fz; rw [rbk_c h, rsk_c h]
def wFa (j c k : Nat) : Prop := j = 0 ∧ ((c = 131 ∧ (k = 0 ∨ k = 3 ∨ k = 4)) ∨ (c = 133 ∧ 576 ≤ k) ∨ ((c = 134 ∨ c = 135) ∧ k = 6) ∨ (136 ≤ c ∧ c ≤ 138 ∧ k = 10))
theorem wFa_s {σ σ' : zS} (f : zFr wFa σ σ') : zFr iSafe σ σ' := f.mono (fun j c k q => by unfold wFa at q; unfold iSafe; omega)
theorem wFa_lay {σ σ' : zS} (f : zFr wFa σ σ') (hl : zLay σ) : zLay σ' := f.lay hl (fun _ _ _ _ => by unfold wFa; omega)
section FAULT
variable {d : Nat} {Q : Option Value → zS → Prop} {σ : zS}
theorem p_fault {len : Nat} {x : Int32} (hl : zLay σ) (e2 : zI σ 2 1 = nI len) (hn : len ≤ 160)
    (h : ∀ (v : Int32) (σ' : zS), v.toInt = fz x.toInt (tP σ) len → zFr pWz σ σ' → (x.toInt = 0 → (rbk (tP σ) len).1 = -1 → pBk σ' 91 ((rbk (tP σ) len).2.2.2, ((rbk (tP σ) len).2.1 : Int), ((rbk (tP σ) len).2.2.1 : Int))) → (x.toInt = 1 → (rsk (tP σ) len).1 = -1 → pDr σ' (rsk (tP σ) len).2) → Q (some (.int v)) σ') : zCall (d + 3) kX11_fault [.ref 1, .int x] σ Q := by
  refine (bX11_fault_0 hl).mpr (zeq' rfl k0 (fun z => p_readBrook hl e2 hn (fun v σ1 hv f1 g1 => ⟨rfl, (bX11_fault_15 (pWz_lay f1 hl)).mpr (h v σ1 ?_ f1 (fun _ q => g1 q) (fun z2 => ?_))⟩)) (fun z => zeq' rfl k1 (fun z2 => p_readStick hl e2 hn (fun v σ1 hv f1 g1 => ⟨rfl, (bX11_fault_32 (pWz_lay f1 hl)).mpr (h v σ1 ?_ f1 (fun z3 => ?_) (fun _ q => g1 q))⟩)) (fun z2 => h _ σ ?_ (zFr.refl _ _) (fun z3 => absurd z3 z) (fun z3 => absurd z3 z2))))
  · rw [z, fz_0]; exact hv
  · omega
  · rw [z2, fz_1]; exact hv
  · omega
  · rw [fz_2 z z2]; rfl
theorem m_fault {len : Nat} {x : Int32} {t : Nat → Int} (hl : zLay σ) (e2 : zI σ 131 2 = nI len) (hn : len ≤ 160) (et : tM σ = t) (ht : ∀ i, i < len → 1 ≤ t i)
    (h : ∀ (v : Int32) (σ' : zS), v.toInt = fz x.toInt t len → zFr wFa σ σ' → Q (some (.int v)) σ') : zCall (d + 4) kX12_fault [.ref 131, .int x] σ Q := by
  refine (bX12_fault_0 hl).mpr ?_
  have f1 : zFr wFa σ (zsI σ 131 (upd (zI σ 131) 0 0)) := zFr_U (by unfold wFa; omega)
  have l1 : zLay (zsI σ 131 (upd (zI σ 131) 0 0)) := hl.I
  generalize zsI σ 131 (upd (zI σ 131) 0 0) = σ1 at f1 l1 ⊢
  have e21 : zI σ1 131 2 = nI len := by rw [f1.i (by unfold wFa; omega)]; exact e2
  have et1 : tM σ1 = t := (tM_fr f1 (fun k => by unfold wFa; omega)).trans et
  refine m_isIn l1 ⟨rfl, (bX12_fault_11 l1).mpr ?_⟩
  rw [k0, k1]
  refine zt0 (fun c => zeq' rfl k0 (fun z => ?_) (fun z => ?_)) (fun c => h _ σ1 ?_ f1)
  · refine m_readBrook (d := d + 1) (b := 6) l1 (by omega) e21 hn et1 ht (fun σ2 hv f2 g2 => ⟨rfl, ?_⟩)
    have f2' : zFr wFa σ1 σ2 := f2.mono (fun j c k q => by unfold wRb at q; unfold wFa; omega)
    have l2 := wFa_lay f2' l1
    refine (bX12_fault_27 l2).mpr ((bX12_fault_36 l2).mpr (h _ σ2 ?_ (f1.trans f2')))
    rw [z, fz_0]; exact hv
  · refine m_readStick (d := d) (s := 10) l1 (by omega) e21 hn et1 ht (fun σ2 hv f2 g2 => ⟨rfl, ?_⟩)
    have f2' : zFr wFa σ1 σ2 := f2.mono (fun j c k q => by unfold wRs at q; unfold wFa; omega)
    have l2 := wFa_lay f2' l1
    refine (bX12_fault_36 l2).mpr (h _ σ2 ?_ (f1.trans f2'))
    rw [show x.toInt = 1 by omega, fz_1]; exact hv
  · rw [fz_2 (by omega) (by omega)]; rfl
theorem e_fault {nb ns : Nat} (g : iA σ nb ns) (x : Int32) : eCall kX11_fault kX12_fault [.int x] [.int x] σ := by
  obtain ⟨len, t1, t2, t3, t4⟩ := g.2.1
  have eq : ∀ i, i < len → tP σ i = tM σ i := fun i hi => congrArg Int32.toInt (t4 i hi).1
  refine p_fault (d := 10) g.1 t2 t1 (fun v σ1 hv f1 _ _ => ⟨v, rfl, pWz_lay f1 g.1, zSam.fr f1 (fun k => by unfold pWz; omega), ?_⟩)
  have l1 := pWz_lay f1 g.1
  refine m_fault (d := 9) (t := tM σ) l1 (by rw [f1.i (by unfold pWz; omega)]; exact t3) t1 (tM_fr f1 (fun k => by unfold pWz; omega)) (fun i hi => by rw [← eq i hi]; exact (t4 i hi).2.1) (fun v2 σ2 hv2 f2 => ⟨?_, ⟨nb, ns, iA_fr ((pWz_s f1).trans (wFa_s f2)) (wFa_lay f2 l1) g⟩, zSam.fr f2 (fun k => by unfold wFa; omega)⟩)
  rw [show v2 = v from zint (by rw [hv2, hv, fz_c _ eq])]
end FAULT
