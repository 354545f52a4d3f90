/-! the class reads a brook, in all -/
noncomputable def rbk (t : Nat → Int) (len : Nat) : Int × Nat × Nat × (Nat → Nat → Int) := rb t len len 0 0 0 0 (fun _ _ => 0)
section PREADB
variable {d : Nat} {Q : Option Value → zS → Prop} {σ0 : zS}
theorem p_readBrook {len : Nat} (l0 : zLay σ0) (e2 : zI σ0 2 1 = nI len) (hn : len ≤ 160)
    (h : ∀ (v : Int32) (σ' : zS), v.toInt = (rbk (tP σ0) len).1 → zFr pWz σ0 σ' → ((rbk (tP σ0) len).1 = -1 → pBk σ' 91 ((rbk (tP σ0) len).2.2.2, ((rbk (tP σ0) len).2.1 : Int), ((rbk (tP σ0) len).2.2.1 : Int))) → Q (some (.int v)) σ') : zCall (d + 2) kX8_readBrook [.ref 2, .ref 91] σ0 Q := by
  refine (bX8_readBrook_0 l0 zk_2 zk_91).mpr (p_clearB (d := d) l0 (fun σ1 g1 e1 f1 => ⟨rfl, ?_⟩))
  have l1 := pWz_lay f1 l0
  refine (bX8_readBrook_4 l1 zk_2 zk_91).mpr ?_
  exact p_rb (d := d + 1) (Q := Q) l0 e2 hn len 0 0 0 0 (fun _ _ => 0) σ1 _ (by omega) (by omega) (by omega) (fun _ => ⟨rfl, by omega⟩) (fun z => by omega) (by omega) (zcat_r _) f1 g1 e1 h
end PREADB
