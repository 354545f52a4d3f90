/-! the class reads a brook from the start -/
section PCB
variable {d : Nat} {Q : Option Value → zS → Prop}
theorem p_clearB {σ : zS} (hl : zLay σ) (h : ∀ σ', pRw σ' 91 (rbD 0 0 0) (fun _ _ => 0) → zI σ' 91 4 = nI 0 → zFr pWz σ σ' → Q none σ') : zCall (d + 1) kX0_clear [.ref 91] σ Q := by
  have f1 : zFr pWz σ (zsI σ 91 (upd (upd (zI σ 91) 3 0) 4 0)) := zFr_I (fun k => Or.inl (by unfold pWz; omega))
  have e1 : zI (zsI σ 91 (upd (upd (zI σ 91) 3 0) 4 0)) 91 4 = nI 0 := by rw [zI_self, pk_us]; rfl
  have l1 : zLay (zsI σ 91 (upd (upd (zI σ 91) 3 0) 4 0)) := hl.I
  refine (bX0_clear_0 hl zk_91).mpr ?_
  generalize zsI σ 91 (upd (upd (zI σ 91) 3 0) 4 0) = σ1 at f1 e1 l1 ⊢
  refine p_fills (c := 92) zk_92 (by decide +kernel) l1 (fun σ2 z2 f2 => ⟨rfl, ?_⟩)
  have f2z : zFr pWz σ1 σ2 := f2.mono (fun j c k q => by unfold pWz; omega)
  have l2 := pWz_lay f2z l1
  refine (bX0_clear_18 l2 zk_91).mpr (p_fills (c := 93) zk_93 (by decide +kernel) l2 (fun σ3 z3 f3 => ⟨rfl, ?_⟩))
  have f3z : zFr pWz σ2 σ3 := f3.mono (fun j c k q => by unfold pWz; omega)
  have l3 := pWz_lay f3z l2
  refine (bX0_clear_26 l3 zk_91).mpr (p_fills (c := 94) zk_94 (by decide +kernel) l3 (fun σ4 z4 f4 => ⟨rfl, ?_⟩))
  have f4z : zFr pWz σ3 σ4 := f4.mono (fun j c k q => by unfold pWz; omega)
  have l4 := pWz_lay f4z l3
  have n93 : 16 ≤ zl 93 := by decide +kernel
  have n94 : 16 ≤ zl 94 := by decide +kernel
  refine (bX0_clear_34 l4 zk_91).mpr (h σ4 ⟨zk_91, fun y x _ _ q => ?_, fun x k hx _ => ?_, fun x k hx _ => ?_⟩ ?_ (((f1.trans f2z).trans f3z).trans f4z))
  · unfold rbD at q; omega
  · have e : zI σ4 93 x = 0 := by rw [f4.i (by omega)]; exact z3 x (by omega)
    show (bt (zI σ4 93 x) k = true ↔ _)
    rw [e, b_0]
    exact ⟨fun q => absurd q (by decide), fun q => by have := q.1; unfold rbD at this; omega⟩
  · have e : zI σ4 94 x = 0 := z4 x (by omega)
    show (bt (zI σ4 94 x) k = true ↔ _)
    rw [e, b_0]
    exact ⟨fun q => absurd q (by decide), fun q => by have := q.1; unfold rbD at this; omega⟩
  · rw [f4.i (by omega), f3.i (by omega), f2.i (by omega)]; exact e1
end PCB
