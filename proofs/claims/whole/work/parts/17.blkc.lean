theorem bX11_tallyTold_0 {d : Nat} {σ : zS} {Q : Option Value → zS → Prop} (hl : zLay σ) {x1 : Int32} : zCall (d + 1) kX11_tallyTold [.ref 1, .int x1] σ Q ↔ zCall d kX11_turnRunners [.ref 1, .int 0] σ (fun r σ' => zisN r = true ∧ zW (d + 1) kX11_tallyTold 5 [.ref 1, .int x1] (zRstk r ++ []) σ' Q) := by
  show zW (d + 1) kX11_tallyTold 0 [.ref 1, .int x1] [] σ Q ↔ _
  refine Iff.trans (zw_aload_n (show decode cX11_tallyTold 0 = .ok (.aload_n 0, 1) by decide +kernel) rfl) ?_
  refine Iff.trans (zw_iconst (x := 0) (show decode cX11_tallyTold 1 = .ok (.iconst 0, 1) by decide +kernel) (by decide)) ?_
  refine Iff.trans (zw_invV (K' := kX11_turnRunners) (as' := [.int 0]) (rest := []) (show decode cX11_tallyTold 2 = .ok (.invokevirtual 325, 3) by decide +kernel) (by rfl) rfl rfl rfl (hl.k2 zk_1) (by decide) (hl.n2 zk_1) ⟨Nat.le_of_ble_eq_true rfl, Nat.le_of_ble_eq_true rfl, Nat.le_of_ble_eq_true rfl⟩) ?_
  exact Iff.rfl

theorem bX11_tallyTold_5 {d : Nat} {σ : zS} {Q : Option Value → zS → Prop} (hl : zLay σ) {x1 : Int32} : zW (d + 1) kX11_tallyTold 5 [.ref 1, .int x1] [] σ Q ↔ zCall d kX2_fits [.ref 60, .int (zI σ 10 1)] σ (fun r σ' => zisN r = true ∧ zW (d + 1) kX11_tallyTold 19 [.ref 1, .int x1] (zRstk r ++ []) σ' Q) := by
  refine Iff.trans (zw_aload_n (show decode cX11_tallyTold 5 = .ok (.aload_n 0, 1) by decide +kernel) rfl) ?_
  refine Iff.trans (zw_get (show decode cX11_tallyTold 6 = .ok (.getfield 65, 3) by decide +kernel) (by decide +kernel : zfld 11 65 = some (11, 12)) (hl.k2 zk_1) (hl.n2 zk_1) (zgetR (v := 60) (hl.r zrt_1_12) rfl)) ?_
  refine Iff.trans (zw_aload_n (show decode cX11_tallyTold 9 = .ok (.aload_n 0, 1) by decide +kernel) rfl) ?_
  refine Iff.trans (zw_get (show decode cX11_tallyTold 10 = .ok (.getfield 38, 3) by decide +kernel) (by decide +kernel : zfld 11 38 = some (11, 6)) (hl.k2 zk_1) (hl.n2 zk_1) (zgetR (v := 10) (hl.r zrt_1_6) rfl)) ?_
  refine Iff.trans (zw_getI (show decode cX11_tallyTold 13 = .ok (.getfield 180, 3) by decide +kernel) (by decide +kernel : zfld 11 180 = some (10, 1)) (hl.k2 zk_10) (hl.n2 zk_10) (Or.inl rfl) (w := zI σ 10 1) rfl) ?_
  refine Iff.trans (zw_invV (K' := kX2_fits) (as' := [.int (zI σ 10 1)]) (rest := []) (show decode cX11_tallyTold 16 = .ok (.invokevirtual 224, 3) by decide +kernel) (by rfl) rfl rfl rfl (hl.k2 zk_60) (by decide) (hl.n2 zk_60) ⟨Nat.le_of_ble_eq_true rfl, Nat.le_of_ble_eq_true rfl, Nat.le_of_ble_eq_true rfl⟩) ?_
  exact Iff.rfl

theorem bX11_tallyTold_19 {d : Nat} {σ : zS} {Q : Option Value → zS → Prop} (hl : zLay σ) {x1 y0 : Int32} : zW (d + 1) kX11_tallyTold 19 [.ref 1, .int x1] [.int y0] σ Q ↔ (if y0 = (0 : Int32) then Q (some (.int 0)) σ else zCall d kX7_clear [.ref 80] σ (fun r σ' => zisN r = true ∧ zW (d + 1) kX11_tallyTold 31 [.ref 1, .int x1] (zRstk r ++ []) σ' Q)) := by
  refine Iff.trans (zw_if_ne (t := 24) (show decode cX11_tallyTold 19 = .ok (.ifCond .ne 5, 3) by decide +kernel) (by decide)) ?_
  refine zw_ite ?_ ?_
  · refine Iff.trans (zw_iconst (x := 0) (show decode cX11_tallyTold 22 = .ok (.iconst 0, 1) by decide +kernel) (by decide)) ?_
    exact zw_iret2c (show decode cX11_tallyTold 23 = .ok (.ireturn, 1) by decide +kernel) rfl (Or.inl rfl)
  · refine Iff.trans (zw_aload_n (show decode cX11_tallyTold 24 = .ok (.aload_n 0, 1) by decide +kernel) rfl) ?_
    refine Iff.trans (zw_get (show decode cX11_tallyTold 25 = .ok (.getfield 71, 3) by decide +kernel) (by decide +kernel : zfld 11 71 = some (11, 13)) (hl.k2 zk_1) (hl.n2 zk_1) (zgetR (v := 80) (hl.r zrt_1_13) rfl)) ?_
    refine Iff.trans (zw_invV (K' := kX7_clear) (as' := []) (rest := []) (show decode cX11_tallyTold 28 = .ok (.invokevirtual 338, 3) by decide +kernel) (by rfl) rfl rfl rfl (hl.k2 zk_80) (by decide) (hl.n2 zk_80) ⟨Nat.le_of_ble_eq_true rfl, Nat.le_of_ble_eq_true rfl, Nat.le_of_ble_eq_true rfl⟩) ?_
    exact Iff.rfl

theorem bX11_tallyTold_31 {d : Nat} {σ : zS} {Q : Option Value → zS → Prop} (hl : zLay σ) {x1 : Int32} : zW (d + 1) kX11_tallyTold 31 [.ref 1, .int x1] [] σ Q ↔ zCall d kX11_tallySeeds [.ref 1, .int x1] σ (fun r σ' => zisN r = true ∧ zW (d + 1) kX11_tallyTold 36 [.ref 1, .int x1] (zRstk r ++ []) σ' Q) := by
  refine Iff.trans (zw_aload_n (show decode cX11_tallyTold 31 = .ok (.aload_n 0, 1) by decide +kernel) rfl) ?_
  refine Iff.trans (zw_iload_n (show decode cX11_tallyTold 32 = .ok (.iload_n 1, 1) by decide +kernel) rfl) ?_
  refine Iff.trans (zw_invV (K' := kX11_tallySeeds) (as' := [.int x1]) (rest := []) (show decode cX11_tallyTold 33 = .ok (.invokevirtual 340, 3) by decide +kernel) (by rfl) rfl rfl rfl (hl.k2 zk_1) (by decide) (hl.n2 zk_1) ⟨Nat.le_of_ble_eq_true rfl, Nat.le_of_ble_eq_true rfl, Nat.le_of_ble_eq_true rfl⟩) ?_
  exact Iff.rfl

theorem bX11_tallyTold_36 {d : Nat} {σ : zS} {Q : Option Value → zS → Prop} (hl : zLay σ) {x1 : Int32} : zW (d + 1) kX11_tallyTold 36 [.ref 1, .int x1] [] σ Q ↔ Q (some (.int 1)) σ := by
  refine Iff.trans (zw_iconst (x := 1) (show decode cX11_tallyTold 36 = .ok (.iconst 1, 1) by decide +kernel) (by decide)) ?_
  exact zw_iret2c (show decode cX11_tallyTold 37 = .ok (.ireturn, 1) by decide +kernel) rfl (Or.inr rfl)

theorem bX11_tallySeeds_0 {d : Nat} {σ : zS} {Q : Option Value → zS → Prop} (hl : zLay σ) {x1 : Int32} : zCall (d + 1) kX11_tallySeeds [.ref 1, .int x1] σ Q ↔ zW (d + 1) kX11_tallySeeds 2 [.ref 1, .int x1, .int 0] [] σ Q := by
  show zW (d + 1) kX11_tallySeeds 0 [.ref 1, .int x1, .retAddr 0] [] σ Q ↔ _
  refine Iff.trans (zw_iconst (x := 0) (show decode cX11_tallySeeds 0 = .ok (.iconst 0, 1) by decide +kernel) (by decide)) ?_
  refine Iff.trans (zw_istore_n (ls' := [.ref 1, .int x1, .int 0]) (show decode cX11_tallySeeds 1 = .ok (.istore_n 2, 1) by decide +kernel) (zset_s (Nat.le_of_ble_eq_true rfl) rfl)) ?_
  exact Iff.rfl

theorem bX11_tallySeeds_2 {d : Nat} {σ : zS} {Q : Option Value → zS → Prop} (hl : zLay σ) {x1 x2 : Int32} : zW (d + 1) kX11_tallySeeds 2 [.ref 1, .int x1, .int x2] [] σ Q ↔ (if x1 ≤ x2 then Q none σ else (if x2 = (0 : Int32) then zW (d + 1) kX11_tallySeeds 21 [.ref 1, .int x1, .int x2] [] σ Q else (if (zI σ 60 8) = (0 : Int32) then zW (d + 1) kX11_tallySeeds 43 [.ref 1, .int x1, .int x2] [] σ Q else zW (d + 1) kX11_tallySeeds 21 [.ref 1, .int x1, .int x2] [] σ Q))) := by
  refine Iff.trans (zw_iload_n (show decode cX11_tallySeeds 2 = .ok (.iload_n 2, 1) by decide +kernel) rfl) ?_
  refine Iff.trans (zw_iload_n (show decode cX11_tallySeeds 3 = .ok (.iload_n 1, 1) by decide +kernel) rfl) ?_
  refine Iff.trans (zw_icmp_ge (t := 60) (show decode cX11_tallySeeds 4 = .ok (.if_icmp .ge 56, 3) by decide +kernel) (by decide)) ?_
  refine zw_ite ?_ ?_
  · exact zw_ret (show decode cX11_tallySeeds 60 = .ok (.return_, 1) by decide +kernel) rfl
  · refine Iff.trans (zw_iload_n (show decode cX11_tallySeeds 7 = .ok (.iload_n 2, 1) by decide +kernel) rfl) ?_
    refine Iff.trans (zw_if_eq (t := 21) (show decode cX11_tallySeeds 8 = .ok (.ifCond .eq 13, 3) by decide +kernel) (by decide)) ?_
    refine zw_ite ?_ ?_
    · exact Iff.rfl
    · refine Iff.trans (zw_aload_n (show decode cX11_tallySeeds 11 = .ok (.aload_n 0, 1) by decide +kernel) rfl) ?_
      refine Iff.trans (zw_get (show decode cX11_tallySeeds 12 = .ok (.getfield 65, 3) by decide +kernel) (by decide +kernel : zfld 11 65 = some (11, 12)) (hl.k2 zk_1) (hl.n2 zk_1) (zgetR (v := 60) (hl.r zrt_1_12) rfl)) ?_
      refine Iff.trans (zw_getI (show decode cX11_tallySeeds 15 = .ok (.getfield 343, 3) by decide +kernel) (by decide +kernel : zfld 11 343 = some (2, 8)) (hl.k2 zk_60) (hl.n2 zk_60) (Or.inr rfl) (w := zI σ 60 8) rfl) ?_
      refine Iff.trans (zw_if_eq (t := 43) (show decode cX11_tallySeeds 18 = .ok (.ifCond .eq 25, 3) by decide +kernel) (by decide)) ?_
      refine zw_ite ?_ ?_
      · exact Iff.rfl
      · exact Iff.rfl

theorem bX11_tallySeeds_21 {d : Nat} {σ : zS} {Q : Option Value → zS → Prop} (hl : zLay σ) {x1 x2 : Int32} : zW (d + 1) kX11_tallySeeds 21 [.ref 1, .int x1, .int x2] [] σ Q ↔ zCall d kX2_begin [.ref 60, .long ((x2 : Int32).toInt64)] σ (fun r σ' => zisN r = true ∧ zW (d + 1) kX11_tallySeeds 30 [.ref 1, .int x1, .int x2] (zRstk r ++ []) σ' Q) := by
  refine Iff.trans (zw_aload_n (show decode cX11_tallySeeds 21 = .ok (.aload_n 0, 1) by decide +kernel) rfl) ?_
  refine Iff.trans (zw_get (show decode cX11_tallySeeds 22 = .ok (.getfield 65, 3) by decide +kernel) (by decide +kernel : zfld 11 65 = some (11, 12)) (hl.k2 zk_1) (hl.n2 zk_1) (zgetR (v := 60) (hl.r zrt_1_12) rfl)) ?_
  refine Iff.trans (zw_iload_n (show decode cX11_tallySeeds 25 = .ok (.iload_n 2, 1) by decide +kernel) rfl) ?_
  refine Iff.trans (zw_i2l (show decode cX11_tallySeeds 26 = .ok (.i2l, 1) by decide +kernel)) ?_
  refine Iff.trans (zw_invV (K' := kX2_begin) (as' := [.long ((x2 : Int32).toInt64)]) (rest := []) (show decode cX11_tallySeeds 27 = .ok (.invokevirtual 227, 3) by decide +kernel) (by rfl) rfl rfl rfl (hl.k2 zk_60) (by decide) (hl.n2 zk_60) ⟨Nat.le_of_ble_eq_true rfl, Nat.le_of_ble_eq_true rfl, Nat.le_of_ble_eq_true rfl⟩) ?_
  exact Iff.rfl

theorem bX11_tallySeeds_30 {d : Nat} {σ : zS} {Q : Option Value → zS → Prop} (hl : zLay σ) {x1 x2 : Int32} : zW (d + 1) kX11_tallySeeds 30 [.ref 1, .int x1, .int x2] [] σ Q ↔ zCall d kX2_run [.ref 60, .int 60, .ref 10] σ (fun r σ' => zisN r = true ∧ zW (d + 1) kX11_tallySeeds 43 [.ref 1, .int x1, .int x2] (zRstk r ++ []) σ' Q) := by
  refine Iff.trans (zw_aload_n (show decode cX11_tallySeeds 30 = .ok (.aload_n 0, 1) by decide +kernel) rfl) ?_
  refine Iff.trans (zw_get (show decode cX11_tallySeeds 31 = .ok (.getfield 65, 3) by decide +kernel) (by decide +kernel : zfld 11 65 = some (11, 12)) (hl.k2 zk_1) (hl.n2 zk_1) (zgetR (v := 60) (hl.r zrt_1_12) rfl)) ?_
  refine Iff.trans (zw_bipush (x := 60) (show decode cX11_tallySeeds 34 = .ok (.bipush 60, 2) by decide +kernel) (by decide)) ?_
  refine Iff.trans (zw_aload_n (show decode cX11_tallySeeds 36 = .ok (.aload_n 0, 1) by decide +kernel) rfl) ?_
  refine Iff.trans (zw_get (show decode cX11_tallySeeds 37 = .ok (.getfield 38, 3) by decide +kernel) (by decide +kernel : zfld 11 38 = some (11, 6)) (hl.k2 zk_1) (hl.n2 zk_1) (zgetR (v := 10) (hl.r zrt_1_6) rfl)) ?_
  refine Iff.trans (zw_invV (K' := kX2_run) (as' := [.int 60, .ref 10]) (rest := []) (show decode cX11_tallySeeds 40 = .ok (.invokevirtual 239, 3) by decide +kernel) (by rfl) rfl rfl rfl (hl.k2 zk_60) (by decide) (hl.n2 zk_60) ⟨Nat.le_of_ble_eq_true rfl, Nat.le_of_ble_eq_true rfl, Nat.le_of_ble_eq_true rfl⟩) ?_
  exact Iff.rfl

theorem bX11_tallySeeds_43 {d : Nat} {σ : zS} {Q : Option Value → zS → Prop} (hl : zLay σ) {x1 x2 : Int32} : zW (d + 1) kX11_tallySeeds 43 [.ref 1, .int x1, .int x2] [] σ Q ↔ zCall d kX7_add [.ref 80, .ref 60] σ (fun r σ' => zisN r = true ∧ zW (d + 1) kX11_tallySeeds 54 [.ref 1, .int x1, .int x2] (zRstk r ++ []) σ' Q) := by
  refine Iff.trans (zw_aload_n (show decode cX11_tallySeeds 43 = .ok (.aload_n 0, 1) by decide +kernel) rfl) ?_
  refine Iff.trans (zw_get (show decode cX11_tallySeeds 44 = .ok (.getfield 71, 3) by decide +kernel) (by decide +kernel : zfld 11 71 = some (11, 13)) (hl.k2 zk_1) (hl.n2 zk_1) (zgetR (v := 80) (hl.r zrt_1_13) rfl)) ?_
  refine Iff.trans (zw_aload_n (show decode cX11_tallySeeds 47 = .ok (.aload_n 0, 1) by decide +kernel) rfl) ?_
  refine Iff.trans (zw_get (show decode cX11_tallySeeds 48 = .ok (.getfield 65, 3) by decide +kernel) (by decide +kernel : zfld 11 65 = some (11, 12)) (hl.k2 zk_1) (hl.n2 zk_1) (zgetR (v := 60) (hl.r zrt_1_12) rfl)) ?_
  refine Iff.trans (zw_invV (K' := kX7_add) (as' := [.ref 60]) (rest := []) (show decode cX11_tallySeeds 51 = .ok (.invokevirtual 346, 3) by decide +kernel) (by rfl) rfl rfl rfl (hl.k2 zk_80) (by decide) (hl.n2 zk_80) ⟨Nat.le_of_ble_eq_true rfl, Nat.le_of_ble_eq_true rfl, Nat.le_of_ble_eq_true rfl⟩) ?_
  exact Iff.rfl

theorem bX11_tallySeeds_54 {d : Nat} {σ : zS} {Q : Option Value → zS → Prop} (hl : zLay σ) {x1 x2 : Int32} : zW (d + 1) kX11_tallySeeds 54 [.ref 1, .int x1, .int x2] [] σ Q ↔ zW (d + 1) kX11_tallySeeds 2 [.ref 1, .int x1, .int (x2 + 1)] [] σ Q := by
  refine Iff.trans (zw_iinc (w := 1) (ls' := [.ref 1, .int x1, .int (x2 + 1)]) (show decode cX11_tallySeeds 54 = .ok (.iinc 2 1, 3) by decide +kernel) rfl (by decide) (zset_s (Nat.le_of_ble_eq_true rfl) rfl)) ?_
  refine Iff.trans (zw_goto (t := 2) (show decode cX11_tallySeeds 57 = .ok (.goto (-55), 3) by decide +kernel) (by decide)) ?_
  exact Iff.rfl

theorem bX11_placeTwo_0 {d : Nat} {σ : zS} {Q : Option Value → zS → Prop} (hl : zLay σ) {a1 a2 a4 : Nat} {x3 x5 : Int32} (ha1 : zk a1 = 0) (ha2 : zk a2 = 6) (ha4 : zk a4 = 6) : zCall (d + 1) kX11_placeTwo [.ref 1, .ref a1, .ref a2, .int x3, .ref a4, .int x5] σ Q ↔ zCall d kX2_clear [.ref 60, .ref a1] σ (fun r σ' => zisN r = true ∧ zW (d + 1) kX11_placeTwo 8 [.ref 1, .ref a1, .ref a2, .int x3, .ref a4, .int x5] (zRstk r ++ []) σ' Q) := by
  show zW (d + 1) kX11_placeTwo 0 [.ref 1, .ref a1, .ref a2, .int x3, .ref a4, .int x5] [] σ Q ↔ _
  refine Iff.trans (zw_aload_n (show decode cX11_placeTwo 0 = .ok (.aload_n 0, 1) by decide +kernel) rfl) ?_
  refine Iff.trans (zw_get (show decode cX11_placeTwo 1 = .ok (.getfield 65, 3) by decide +kernel) (by decide +kernel : zfld 11 65 = some (11, 12)) (hl.k2 zk_1) (hl.n2 zk_1) (zgetR (v := 60) (hl.r zrt_1_12) rfl)) ?_
  refine Iff.trans (zw_aload_n (show decode cX11_placeTwo 4 = .ok (.aload_n 1, 1) by decide +kernel) rfl) ?_
  refine Iff.trans (zw_invV (K' := kX2_clear) (as' := [.ref a1]) (rest := []) (show decode cX11_placeTwo 5 = .ok (.invokevirtual 203, 3) by decide +kernel) (by rfl) rfl rfl rfl (hl.k2 zk_60) (by decide) (hl.n2 zk_60) ⟨Nat.le_of_ble_eq_true rfl, Nat.le_of_ble_eq_true rfl, Nat.le_of_ble_eq_true rfl⟩) ?_
  exact Iff.rfl

theorem bX11_placeTwo_8 {d : Nat} {σ : zS} {Q : Option Value → zS → Prop} (hl : zLay σ) {a1 a2 a4 : Nat} {x3 x5 : Int32} (ha1 : zk a1 = 0) (ha2 : zk a2 = 6) (ha4 : zk a4 = 6) : zW (d + 1) kX11_placeTwo 8 [.ref 1, .ref a1, .ref a2, .int x3, .ref a4, .int x5] [] σ Q ↔ zCall d kX2_add [.ref 60, .ref a2, .int x3] σ (fun r σ' => zisN r = true ∧ zW (d + 1) kX11_placeTwo 17 [.ref 1, .ref a1, .ref a2, .int x3, .ref a4, .int x5] (zRstk r ++ []) σ' Q) := by
  refine Iff.trans (zw_aload_n (show decode cX11_placeTwo 8 = .ok (.aload_n 0, 1) by decide +kernel) rfl) ?_
  refine Iff.trans (zw_get (show decode cX11_placeTwo 9 = .ok (.getfield 65, 3) by decide +kernel) (by decide +kernel : zfld 11 65 = some (11, 12)) (hl.k2 zk_1) (hl.n2 zk_1) (zgetR (v := 60) (hl.r zrt_1_12) rfl)) ?_
  refine Iff.trans (zw_aload_n (show decode cX11_placeTwo 12 = .ok (.aload_n 2, 1) by decide +kernel) rfl) ?_
  refine Iff.trans (zw_iload_n (show decode cX11_placeTwo 13 = .ok (.iload_n 3, 1) by decide +kernel) rfl) ?_
  refine Iff.trans (zw_invV (K' := kX2_add) (as' := [.ref a2, .int x3]) (rest := []) (show decode cX11_placeTwo 14 = .ok (.invokevirtual 220, 3) by decide +kernel) (by rfl) rfl rfl rfl (hl.k2 zk_60) (by decide) (hl.n2 zk_60) ⟨Nat.le_of_ble_eq_true rfl, Nat.le_of_ble_eq_true rfl, Nat.le_of_ble_eq_true rfl⟩) ?_
  exact Iff.rfl

theorem bX11_placeTwo_17 {d : Nat} {σ : zS} {Q : Option Value → zS → Prop} (hl : zLay σ) {a1 a2 a4 : Nat} {x3 x5 : Int32} (ha1 : zk a1 = 0) (ha2 : zk a2 = 6) (ha4 : zk a4 = 6) : zW (d + 1) kX11_placeTwo 17 [.ref 1, .ref a1, .ref a2, .int x3, .ref a4, .int x5] [] σ Q ↔ zCall d kX2_add [.ref 60, .ref a4, .int x5] σ (fun r σ' => zisN r = true ∧ zW (d + 1) kX11_placeTwo 28 [.ref 1, .ref a1, .ref a2, .int x3, .ref a4, .int x5] (zRstk r ++ []) σ' Q) := by
  refine Iff.trans (zw_aload_n (show decode cX11_placeTwo 17 = .ok (.aload_n 0, 1) by decide +kernel) rfl) ?_
  refine Iff.trans (zw_get (show decode cX11_placeTwo 18 = .ok (.getfield 65, 3) by decide +kernel) (by decide +kernel : zfld 11 65 = some (11, 12)) (hl.k2 zk_1) (hl.n2 zk_1) (zgetR (v := 60) (hl.r zrt_1_12) rfl)) ?_
  refine Iff.trans (zw_aload (show decode cX11_placeTwo 21 = .ok (.aload 4, 2) by decide +kernel) rfl) ?_
  refine Iff.trans (zw_iload (show decode cX11_placeTwo 23 = .ok (.iload 5, 2) by decide +kernel) rfl) ?_
  refine Iff.trans (zw_invV (K' := kX2_add) (as' := [.ref a4, .int x5]) (rest := []) (show decode cX11_placeTwo 25 = .ok (.invokevirtual 220, 3) by decide +kernel) (by rfl) rfl rfl rfl (hl.k2 zk_60) (by decide) (hl.n2 zk_60) ⟨Nat.le_of_ble_eq_true rfl, Nat.le_of_ble_eq_true rfl, Nat.le_of_ble_eq_true rfl⟩) ?_
  exact Iff.rfl

theorem bX11_placeTwo_28 {d : Nat} {σ : zS} {Q : Option Value → zS → Prop} (hl : zLay σ) {a1 a2 a4 : Nat} {x3 x5 : Int32} (ha1 : zk a1 = 0) (ha2 : zk a2 = 6) (ha4 : zk a4 = 6) : zW (d + 1) kX11_placeTwo 28 [.ref 1, .ref a1, .ref a2, .int x3, .ref a4, .int x5] [] σ Q ↔ zCall d kX2_fits [.ref 60, .int (zI σ 10 1)] σ (fun r σ' => zisN r = true ∧ zW (d + 1) kX11_placeTwo 42 [.ref 1, .ref a1, .ref a2, .int x3, .ref a4, .int x5] (zRstk r ++ []) σ' Q) := by
  refine Iff.trans (zw_aload_n (show decode cX11_placeTwo 28 = .ok (.aload_n 0, 1) by decide +kernel) rfl) ?_
  refine Iff.trans (zw_get (show decode cX11_placeTwo 29 = .ok (.getfield 65, 3) by decide +kernel) (by decide +kernel : zfld 11 65 = some (11, 12)) (hl.k2 zk_1) (hl.n2 zk_1) (zgetR (v := 60) (hl.r zrt_1_12) rfl)) ?_
  refine Iff.trans (zw_aload_n (show decode cX11_placeTwo 32 = .ok (.aload_n 0, 1) by decide +kernel) rfl) ?_
  refine Iff.trans (zw_get (show decode cX11_placeTwo 33 = .ok (.getfield 38, 3) by decide +kernel) (by decide +kernel : zfld 11 38 = some (11, 6)) (hl.k2 zk_1) (hl.n2 zk_1) (zgetR (v := 10) (hl.r zrt_1_6) rfl)) ?_
  refine Iff.trans (zw_getI (show decode cX11_placeTwo 36 = .ok (.getfield 180, 3) by decide +kernel) (by decide +kernel : zfld 11 180 = some (10, 1)) (hl.k2 zk_10) (hl.n2 zk_10) (Or.inl rfl) (w := zI σ 10 1) rfl) ?_
  refine Iff.trans (zw_invV (K' := kX2_fits) (as' := [.int (zI σ 10 1)]) (rest := []) (show decode cX11_placeTwo 39 = .ok (.invokevirtual 224, 3) by decide +kernel) (by rfl) rfl rfl rfl (hl.k2 zk_60) (by decide) (hl.n2 zk_60) ⟨Nat.le_of_ble_eq_true rfl, Nat.le_of_ble_eq_true rfl, Nat.le_of_ble_eq_true rfl⟩) ?_
  exact Iff.rfl

theorem bX11_placeTwo_42 {d : Nat} {σ : zS} {Q : Option Value → zS → Prop} (hl : zLay σ) {a1 a2 a4 : Nat} {x3 x5 y0 : Int32} (ha1 : zk a1 = 0) (ha2 : zk a2 = 6) (ha4 : zk a4 = 6) : zW (d + 1) kX11_placeTwo 42 [.ref 1, .ref a1, .ref a2, .int x3, .ref a4, .int x5] [.int y0] σ Q ↔ ((y0 = (0 : Int32) ∨ y0 = 1) ∧ Q (some (.int y0)) σ) := by
  exact zw_iret2 (show decode cX11_placeTwo 42 = .ok (.ireturn, 1) by decide +kernel) rfl

theorem bX11_leadOfFirst_0 {d : Nat} {σ : zS} {Q : Option Value → zS → Prop} (hl : zLay σ) {x1 : Int32} : zCall (d + 1) kX11_leadOfFirst [.ref 1, .int x1] σ Q ↔ zCall d kX7_clear [.ref 80] σ (fun r σ' => zisN r = true ∧ zW (d + 1) kX11_leadOfFirst 7 [.ref 1, .int x1] (zRstk r ++ []) σ' Q) := by
  show zW (d + 1) kX11_leadOfFirst 0 [.ref 1, .int x1] [] σ Q ↔ _
  refine Iff.trans (zw_aload_n (show decode cX11_leadOfFirst 0 = .ok (.aload_n 0, 1) by decide +kernel) rfl) ?_
  refine Iff.trans (zw_get (show decode cX11_leadOfFirst 1 = .ok (.getfield 71, 3) by decide +kernel) (by decide +kernel : zfld 11 71 = some (11, 13)) (hl.k2 zk_1) (hl.n2 zk_1) (zgetR (v := 80) (hl.r zrt_1_13) rfl)) ?_
  refine Iff.trans (zw_invV (K' := kX7_clear) (as' := []) (rest := []) (show decode cX11_leadOfFirst 4 = .ok (.invokevirtual 338, 3) by decide +kernel) (by rfl) rfl rfl rfl (hl.k2 zk_80) (by decide) (hl.n2 zk_80) ⟨Nat.le_of_ble_eq_true rfl, Nat.le_of_ble_eq_true rfl, Nat.le_of_ble_eq_true rfl⟩) ?_
  exact Iff.rfl

theorem bX11_leadOfFirst_7 {d : Nat} {σ : zS} {Q : Option Value → zS → Prop} (hl : zLay σ) {x1 : Int32} : zW (d + 1) kX11_leadOfFirst 7 [.ref 1, .int x1] [] σ Q ↔ zCall d kX11_tallySeeds [.ref 1, .int x1] σ (fun r σ' => zisN r = true ∧ zW (d + 1) kX11_leadOfFirst 12 [.ref 1, .int x1] (zRstk r ++ []) σ' Q) := by
  refine Iff.trans (zw_aload_n (show decode cX11_leadOfFirst 7 = .ok (.aload_n 0, 1) by decide +kernel) rfl) ?_
  refine Iff.trans (zw_iload_n (show decode cX11_leadOfFirst 8 = .ok (.iload_n 1, 1) by decide +kernel) rfl) ?_
  refine Iff.trans (zw_invV (K' := kX11_tallySeeds) (as' := [.int x1]) (rest := []) (show decode cX11_leadOfFirst 9 = .ok (.invokevirtual 340, 3) by decide +kernel) (by rfl) rfl rfl rfl (hl.k2 zk_1) (by decide) (hl.n2 zk_1) ⟨Nat.le_of_ble_eq_true rfl, Nat.le_of_ble_eq_true rfl, Nat.le_of_ble_eq_true rfl⟩) ?_
  exact Iff.rfl

theorem bX11_leadOfFirst_12 {d : Nat} {σ : zS} {Q : Option Value → zS → Prop} (hl : zLay σ) {x1 : Int32} : zW (d + 1) kX11_leadOfFirst 12 [.ref 1, .int x1] [] σ Q ↔ (vp_in 0 6 ∧ (vp_in 1 6 ∧ Q (some (.int ((zI σ 81 (0 : Int32).toNatClampNeg) - (zI σ 81 (1 : Int32).toNatClampNeg)))) σ)) := by
  refine Iff.trans (zw_aload_n (show decode cX11_leadOfFirst 12 = .ok (.aload_n 0, 1) by decide +kernel) rfl) ?_
  refine Iff.trans (zw_get (show decode cX11_leadOfFirst 13 = .ok (.getfield 71, 3) by decide +kernel) (by decide +kernel : zfld 11 71 = some (11, 13)) (hl.k2 zk_1) (hl.n2 zk_1) (zgetR (v := 80) (hl.r zrt_1_13) rfl)) ?_
  refine Iff.trans (zw_get (show decode cX11_leadOfFirst 16 = .ok (.getfield 291, 3) by decide +kernel) (by decide +kernel : zfld 11 291 = some (7, 0)) (hl.k2 zk_80) (hl.n2 zk_80) (zgetR (v := 81) (hl.r zrt_80_0) rfl)) ?_
  refine Iff.trans (zw_iconst (x := 0) (show decode cX11_leadOfFirst 19 = .ok (.iconst 0, 1) by decide +kernel) (by decide)) ?_
  refine Iff.trans (zw_iald2 (show decode cX11_leadOfFirst 20 = .ok (.iaload, 1) by decide +kernel) (hl.k2 zk_81) (hl.n2 zk_81) (hl.l2 zk_81 zl_81) (w := zI σ 81 (0 : Int32).toNatClampNeg) rfl) ?_
  refine zw_and ?_
  refine Iff.trans (zw_aload_n (show decode cX11_leadOfFirst 21 = .ok (.aload_n 0, 1) by decide +kernel) rfl) ?_
  refine Iff.trans (zw_get (show decode cX11_leadOfFirst 22 = .ok (.getfield 71, 3) by decide +kernel) (by decide +kernel : zfld 11 71 = some (11, 13)) (hl.k2 zk_1) (hl.n2 zk_1) (zgetR (v := 80) (hl.r zrt_1_13) rfl)) ?_
  refine Iff.trans (zw_get (show decode cX11_leadOfFirst 25 = .ok (.getfield 291, 3) by decide +kernel) (by decide +kernel : zfld 11 291 = some (7, 0)) (hl.k2 zk_80) (hl.n2 zk_80) (zgetR (v := 81) (hl.r zrt_80_0) rfl)) ?_
  refine Iff.trans (zw_iconst (x := 1) (show decode cX11_leadOfFirst 28 = .ok (.iconst 1, 1) by decide +kernel) (by decide)) ?_
  refine Iff.trans (zw_iald2 (show decode cX11_leadOfFirst 29 = .ok (.iaload, 1) by decide +kernel) (hl.k2 zk_81) (hl.n2 zk_81) (hl.l2 zk_81 zl_81) (w := zI σ 81 (1 : Int32).toNatClampNeg) rfl) ?_
  refine zw_and ?_
  refine Iff.trans (zw_isub (show decode cX11_leadOfFirst 30 = .ok (.isub, 1) by decide +kernel)) ?_
  exact zw_iret1 (show decode cX11_leadOfFirst 31 = .ok (.ireturn, 1) by decide +kernel) rfl

theorem bX11_placeOne_0 {d : Nat} {σ : zS} {Q : Option Value → zS → Prop} (hl : zLay σ) {a1 a2 : Nat} {x3 : Int32} (ha1 : zk a1 = 0) (ha2 : zk a2 = 6) : zCall (d + 1) kX11_placeOne [.ref 1, .ref a1, .ref a2, .int x3] σ Q ↔ zCall d kX2_clear [.ref 60, .ref a1] σ (fun r σ' => zisN r = true ∧ zW (d + 1) kX11_placeOne 8 [.ref 1, .ref a1, .ref a2, .int x3] (zRstk r ++ []) σ' Q) := by
  show zW (d + 1) kX11_placeOne 0 [.ref 1, .ref a1, .ref a2, .int x3] [] σ Q ↔ _
  refine Iff.trans (zw_aload_n (show decode cX11_placeOne 0 = .ok (.aload_n 0, 1) by decide +kernel) rfl) ?_
  refine Iff.trans (zw_get (show decode cX11_placeOne 1 = .ok (.getfield 65, 3) by decide +kernel) (by decide +kernel : zfld 11 65 = some (11, 12)) (hl.k2 zk_1) (hl.n2 zk_1) (zgetR (v := 60) (hl.r zrt_1_12) rfl)) ?_
  refine Iff.trans (zw_aload_n (show decode cX11_placeOne 4 = .ok (.aload_n 1, 1) by decide +kernel) rfl) ?_
  refine Iff.trans (zw_invV (K' := kX2_clear) (as' := [.ref a1]) (rest := []) (show decode cX11_placeOne 5 = .ok (.invokevirtual 203, 3) by decide +kernel) (by rfl) rfl rfl rfl (hl.k2 zk_60) (by decide) (hl.n2 zk_60) ⟨Nat.le_of_ble_eq_true rfl, Nat.le_of_ble_eq_true rfl, Nat.le_of_ble_eq_true rfl⟩) ?_
  exact Iff.rfl

theorem bX11_placeOne_8 {d : Nat} {σ : zS} {Q : Option Value → zS → Prop} (hl : zLay σ) {a1 a2 : Nat} {x3 : Int32} (ha1 : zk a1 = 0) (ha2 : zk a2 = 6) : zW (d + 1) kX11_placeOne 8 [.ref 1, .ref a1, .ref a2, .int x3] [] σ Q ↔ zCall d kX2_add [.ref 60, .ref a2, .int x3] σ (fun r σ' => zisN r = true ∧ zW (d + 1) kX11_placeOne 17 [.ref 1, .ref a1, .ref a2, .int x3] (zRstk r ++ []) σ' Q) := by
  refine Iff.trans (zw_aload_n (show decode cX11_placeOne 8 = .ok (.aload_n 0, 1) by decide +kernel) rfl) ?_
  refine Iff.trans (zw_get (show decode cX11_placeOne 9 = .ok (.getfield 65, 3) by decide +kernel) (by decide +kernel : zfld 11 65 = some (11, 12)) (hl.k2 zk_1) (hl.n2 zk_1) (zgetR (v := 60) (hl.r zrt_1_12) rfl)) ?_
  refine Iff.trans (zw_aload_n (show decode cX11_placeOne 12 = .ok (.aload_n 2, 1) by decide +kernel) rfl) ?_
  refine Iff.trans (zw_iload_n (show decode cX11_placeOne 13 = .ok (.iload_n 3, 1) by decide +kernel) rfl) ?_
  refine Iff.trans (zw_invV (K' := kX2_add) (as' := [.ref a2, .int x3]) (rest := []) (show decode cX11_placeOne 14 = .ok (.invokevirtual 220, 3) by decide +kernel) (by rfl) rfl rfl rfl (hl.k2 zk_60) (by decide) (hl.n2 zk_60) ⟨Nat.le_of_ble_eq_true rfl, Nat.le_of_ble_eq_true rfl, Nat.le_of_ble_eq_true rfl⟩) ?_
  exact Iff.rfl

theorem bX11_placeOne_17 {d : Nat} {σ : zS} {Q : Option Value → zS → Prop} (hl : zLay σ) {a1 a2 : Nat} {x3 : Int32} (ha1 : zk a1 = 0) (ha2 : zk a2 = 6) : zW (d + 1) kX11_placeOne 17 [.ref 1, .ref a1, .ref a2, .int x3] [] σ Q ↔ zCall d kX2_fits [.ref 60, .int (zI σ 10 1)] σ (fun r σ' => zisN r = true ∧ zW (d + 1) kX11_placeOne 31 [.ref 1, .ref a1, .ref a2, .int x3] (zRstk r ++ []) σ' Q) := by
  refine Iff.trans (zw_aload_n (show decode cX11_placeOne 17 = .ok (.aload_n 0, 1) by decide +kernel) rfl) ?_
  refine Iff.trans (zw_get (show decode cX11_placeOne 18 = .ok (.getfield 65, 3) by decide +kernel) (by decide +kernel : zfld 11 65 = some (11, 12)) (hl.k2 zk_1) (hl.n2 zk_1) (zgetR (v := 60) (hl.r zrt_1_12) rfl)) ?_
  refine Iff.trans (zw_aload_n (show decode cX11_placeOne 21 = .ok (.aload_n 0, 1) by decide +kernel) rfl) ?_
  refine Iff.trans (zw_get (show decode cX11_placeOne 22 = .ok (.getfield 38, 3) by decide +kernel) (by decide +kernel : zfld 11 38 = some (11, 6)) (hl.k2 zk_1) (hl.n2 zk_1) (zgetR (v := 10) (hl.r zrt_1_6) rfl)) ?_
  refine Iff.trans (zw_getI (show decode cX11_placeOne 25 = .ok (.getfield 180, 3) by decide +kernel) (by decide +kernel : zfld 11 180 = some (10, 1)) (hl.k2 zk_10) (hl.n2 zk_10) (Or.inl rfl) (w := zI σ 10 1) rfl) ?_
  refine Iff.trans (zw_invV (K' := kX2_fits) (as' := [.int (zI σ 10 1)]) (rest := []) (show decode cX11_placeOne 28 = .ok (.invokevirtual 224, 3) by decide +kernel) (by rfl) rfl rfl rfl (hl.k2 zk_60) (by decide) (hl.n2 zk_60) ⟨Nat.le_of_ble_eq_true rfl, Nat.le_of_ble_eq_true rfl, Nat.le_of_ble_eq_true rfl⟩) ?_
  exact Iff.rfl

theorem bX11_placeOne_31 {d : Nat} {σ : zS} {Q : Option Value → zS → Prop} (hl : zLay σ) {a1 a2 : Nat} {x3 y0 : Int32} (ha1 : zk a1 = 0) (ha2 : zk a2 = 6) : zW (d + 1) kX11_placeOne 31 [.ref 1, .ref a1, .ref a2, .int x3] [.int y0] σ Q ↔ ((y0 = (0 : Int32) ∨ y0 = 1) ∧ Q (some (.int y0)) σ) := by
  exact zw_iret2 (show decode cX11_placeOne 31 = .ok (.ireturn, 1) by decide +kernel) rfl

theorem bX11_ticksAlone_0 {d : Nat} {σ : zS} {Q : Option Value → zS → Prop} (hl : zLay σ) {a1 a2 : Nat} {x3 : Int32} {j4 : Int64} (ha1 : zk a1 = 0) (ha2 : zk a2 = 6) : zCall (d + 1) kX11_ticksAlone [.ref 1, .ref a1, .ref a2, .int x3, .long j4] σ Q ↔ zCall d kX11_placeOne [.ref 1, .ref a1, .ref a2, .int x3] σ (fun r σ' => zisN r = true ∧ zW (d + 1) kX11_ticksAlone 7 [.ref 1, .ref a1, .ref a2, .int x3, .long j4, .retAddr 1] (zRstk r ++ []) σ' Q) := by
  show zW (d + 1) kX11_ticksAlone 0 [.ref 1, .ref a1, .ref a2, .int x3, .long j4, .retAddr 1] [] σ Q ↔ _
  refine Iff.trans (zw_aload_n (show decode cX11_ticksAlone 0 = .ok (.aload_n 0, 1) by decide +kernel) rfl) ?_
  refine Iff.trans (zw_aload_n (show decode cX11_ticksAlone 1 = .ok (.aload_n 1, 1) by decide +kernel) rfl) ?_
  refine Iff.trans (zw_aload_n (show decode cX11_ticksAlone 2 = .ok (.aload_n 2, 1) by decide +kernel) rfl) ?_
  refine Iff.trans (zw_iload_n (show decode cX11_ticksAlone 3 = .ok (.iload_n 3, 1) by decide +kernel) rfl) ?_
  refine Iff.trans (zw_invV (K' := kX11_placeOne) (as' := [.ref a1, .ref a2, .int x3]) (rest := []) (show decode cX11_ticksAlone 4 = .ok (.invokevirtual 348, 3) by decide +kernel) (by rfl) rfl rfl rfl (hl.k2 zk_1) (by decide) (hl.n2 zk_1) ⟨Nat.le_of_ble_eq_true rfl, Nat.le_of_ble_eq_true rfl, Nat.le_of_ble_eq_true rfl⟩) ?_
  exact Iff.rfl

theorem bX11_ticksAlone_7 {d : Nat} {σ : zS} {Q : Option Value → zS → Prop} (hl : zLay σ) {a1 a2 : Nat} {x3 y0 : Int32} {j4 : Int64} (ha1 : zk a1 = 0) (ha2 : zk a2 = 6) : zW (d + 1) kX11_ticksAlone 7 [.ref 1, .ref a1, .ref a2, .int x3, .long j4, .retAddr 1] [.int y0] σ Q ↔ (if y0 = (0 : Int32) then Q (some (.int (-1))) σ else zCall d kX2_begin [.ref 60, .long j4] σ (fun r σ' => zisN r = true ∧ zW (d + 1) kX11_ticksAlone 21 [.ref 1, .ref a1, .ref a2, .int x3, .long j4, .retAddr 1] (zRstk r ++ []) σ' Q)) := by
  refine Iff.trans (zw_if_ne (t := 12) (show decode cX11_ticksAlone 7 = .ok (.ifCond .ne 5, 3) by decide +kernel) (by decide)) ?_
  refine zw_ite ?_ ?_
  · refine Iff.trans (zw_iconst (x := (-1)) (show decode cX11_ticksAlone 10 = .ok (.iconst (-1), 1) by decide +kernel) (by decide)) ?_
    exact zw_iret1 (show decode cX11_ticksAlone 11 = .ok (.ireturn, 1) by decide +kernel) rfl
  · refine Iff.trans (zw_aload_n (show decode cX11_ticksAlone 12 = .ok (.aload_n 0, 1) by decide +kernel) rfl) ?_
    refine Iff.trans (zw_get (show decode cX11_ticksAlone 13 = .ok (.getfield 65, 3) by decide +kernel) (by decide +kernel : zfld 11 65 = some (11, 12)) (hl.k2 zk_1) (hl.n2 zk_1) (zgetR (v := 60) (hl.r zrt_1_12) rfl)) ?_
    refine Iff.trans (zw_lload (show decode cX11_ticksAlone 16 = .ok (.lload 4, 2) by decide +kernel) rfl) ?_
    refine Iff.trans (zw_invV (K' := kX2_begin) (as' := [.long j4]) (rest := []) (show decode cX11_ticksAlone 18 = .ok (.invokevirtual 227, 3) by decide +kernel) (by rfl) rfl rfl rfl (hl.k2 zk_60) (by decide) (hl.n2 zk_60) ⟨Nat.le_of_ble_eq_true rfl, Nat.le_of_ble_eq_true rfl, Nat.le_of_ble_eq_true rfl⟩) ?_
    exact Iff.rfl

theorem bX11_ticksAlone_21 {d : Nat} {σ : zS} {Q : Option Value → zS → Prop} (hl : zLay σ) {a1 a2 : Nat} {x3 : Int32} {j4 : Int64} (ha1 : zk a1 = 0) (ha2 : zk a2 = 6) : zW (d + 1) kX11_ticksAlone 21 [.ref 1, .ref a1, .ref a2, .int x3, .long j4, .retAddr 1] [] σ Q ↔ zCall d kX2_run [.ref 60, .int 60, .ref 10] σ (fun r σ' => zisN r = true ∧ zW (d + 1) kX11_ticksAlone 34 [.ref 1, .ref a1, .ref a2, .int x3, .long j4, .retAddr 1] (zRstk r ++ []) σ' Q) := by
  refine Iff.trans (zw_aload_n (show decode cX11_ticksAlone 21 = .ok (.aload_n 0, 1) by decide +kernel) rfl) ?_
  refine Iff.trans (zw_get (show decode cX11_ticksAlone 22 = .ok (.getfield 65, 3) by decide +kernel) (by decide +kernel : zfld 11 65 = some (11, 12)) (hl.k2 zk_1) (hl.n2 zk_1) (zgetR (v := 60) (hl.r zrt_1_12) rfl)) ?_
  refine Iff.trans (zw_bipush (x := 60) (show decode cX11_ticksAlone 25 = .ok (.bipush 60, 2) by decide +kernel) (by decide)) ?_
  refine Iff.trans (zw_aload_n (show decode cX11_ticksAlone 27 = .ok (.aload_n 0, 1) by decide +kernel) rfl) ?_
  refine Iff.trans (zw_get (show decode cX11_ticksAlone 28 = .ok (.getfield 38, 3) by decide +kernel) (by decide +kernel : zfld 11 38 = some (11, 6)) (hl.k2 zk_1) (hl.n2 zk_1) (zgetR (v := 10) (hl.r zrt_1_6) rfl)) ?_
  refine Iff.trans (zw_invV (K' := kX2_run) (as' := [.int 60, .ref 10]) (rest := []) (show decode cX11_ticksAlone 31 = .ok (.invokevirtual 239, 3) by decide +kernel) (by rfl) rfl rfl rfl (hl.k2 zk_60) (by decide) (hl.n2 zk_60) ⟨Nat.le_of_ble_eq_true rfl, Nat.le_of_ble_eq_true rfl, Nat.le_of_ble_eq_true rfl⟩) ?_
  exact Iff.rfl

theorem bX11_ticksAlone_34 {d : Nat} {σ : zS} {Q : Option Value → zS → Prop} (hl : zLay σ) {a1 a2 : Nat} {x3 : Int32} {j4 : Int64} (ha1 : zk a1 = 0) (ha2 : zk a2 = 6) : zW (d + 1) kX11_ticksAlone 34 [.ref 1, .ref a1, .ref a2, .int x3, .long j4, .retAddr 1] [] σ Q ↔ zCall d kX2_ticksOfFirst [.ref 60] σ (fun r σ' => zisN r = true ∧ zW (d + 1) kX11_ticksAlone 41 [.ref 1, .ref a1, .ref a2, .int x3, .long j4, .retAddr 1] (zRstk r ++ []) σ' Q) := by
  refine Iff.trans (zw_aload_n (show decode cX11_ticksAlone 34 = .ok (.aload_n 0, 1) by decide +kernel) rfl) ?_
  refine Iff.trans (zw_get (show decode cX11_ticksAlone 35 = .ok (.getfield 65, 3) by decide +kernel) (by decide +kernel : zfld 11 65 = some (11, 12)) (hl.k2 zk_1) (hl.n2 zk_1) (zgetR (v := 60) (hl.r zrt_1_12) rfl)) ?_
  refine Iff.trans (zw_invV (K' := kX2_ticksOfFirst) (as' := []) (rest := []) (show decode cX11_ticksAlone 38 = .ok (.invokevirtual 352, 3) by decide +kernel) (by rfl) rfl rfl rfl (hl.k2 zk_60) (by decide) (hl.n2 zk_60) ⟨Nat.le_of_ble_eq_true rfl, Nat.le_of_ble_eq_true rfl, Nat.le_of_ble_eq_true rfl⟩) ?_
  exact Iff.rfl

theorem bX11_ticksAlone_41 {d : Nat} {σ : zS} {Q : Option Value → zS → Prop} (hl : zLay σ) {a1 a2 : Nat} {x3 y0 : Int32} {j4 : Int64} (ha1 : zk a1 = 0) (ha2 : zk a2 = 6) : zW (d + 1) kX11_ticksAlone 41 [.ref 1, .ref a1, .ref a2, .int x3, .long j4, .retAddr 1] [.int y0] σ Q ↔ Q (some (.int y0)) σ := by
  exact zw_iret1 (show decode cX11_ticksAlone 41 = .ok (.ireturn, 1) by decide +kernel) rfl

theorem bX11_timeAlone_0 {d : Nat} {σ : zS} {Q : Option Value → zS → Prop} (hl : zLay σ) {a1 a2 : Nat} {x3 x4 : Int32} (ha1 : zk a1 = 0) (ha2 : zk a2 = 6) : zCall (d + 1) kX11_timeAlone [.ref 1, .ref a1, .ref a2, .int x3, .int x4] σ Q ↔ zCall d kX3_clear [.ref 83] σ (fun r σ' => zisN r = true ∧ zW (d + 1) kX11_timeAlone 7 [.ref 1, .ref a1, .ref a2, .int x3, .int x4, .retAddr 0] (zRstk r ++ []) σ' Q) := by
  show zW (d + 1) kX11_timeAlone 0 [.ref 1, .ref a1, .ref a2, .int x3, .int x4, .retAddr 0] [] σ Q ↔ _
  refine Iff.trans (zw_aload_n (show decode cX11_timeAlone 0 = .ok (.aload_n 0, 1) by decide +kernel) rfl) ?_
  refine Iff.trans (zw_get (show decode cX11_timeAlone 1 = .ok (.getfield 78, 3) by decide +kernel) (by decide +kernel : zfld 11 78 = some (11, 14)) (hl.k2 zk_1) (hl.n2 zk_1) (zgetR (v := 83) (hl.r zrt_1_14) rfl)) ?_
  refine Iff.trans (zw_invV (K' := kX3_clear) (as' := []) (rest := []) (show decode cX11_timeAlone 4 = .ok (.invokevirtual 355, 3) by decide +kernel) (by rfl) rfl rfl rfl (hl.k2 zk_83) (by decide) (hl.n2 zk_83) ⟨Nat.le_of_ble_eq_true rfl, Nat.le_of_ble_eq_true rfl, Nat.le_of_ble_eq_true rfl⟩) ?_
  exact Iff.rfl

theorem bX11_timeAlone_7 {d : Nat} {σ : zS} {Q : Option Value → zS → Prop} (hl : zLay σ) {a1 a2 : Nat} {x3 x4 : Int32} (ha1 : zk a1 = 0) (ha2 : zk a2 = 6) : zW (d + 1) kX11_timeAlone 7 [.ref 1, .ref a1, .ref a2, .int x3, .int x4, .retAddr 0] [] σ Q ↔ zCall d kX11_placeOne [.ref 1, .ref a1, .ref a2, .int x3] σ (fun r σ' => zisN r = true ∧ zW (d + 1) kX11_timeAlone 14 [.ref 1, .ref a1, .ref a2, .int x3, .int x4, .retAddr 0] (zRstk r ++ []) σ' Q) := by
  refine Iff.trans (zw_aload_n (show decode cX11_timeAlone 7 = .ok (.aload_n 0, 1) by decide +kernel) rfl) ?_
  refine Iff.trans (zw_aload_n (show decode cX11_timeAlone 8 = .ok (.aload_n 1, 1) by decide +kernel) rfl) ?_
  refine Iff.trans (zw_aload_n (show decode cX11_timeAlone 9 = .ok (.aload_n 2, 1) by decide +kernel) rfl) ?_
  refine Iff.trans (zw_iload_n (show decode cX11_timeAlone 10 = .ok (.iload_n 3, 1) by decide +kernel) rfl) ?_
  refine Iff.trans (zw_invV (K' := kX11_placeOne) (as' := [.ref a1, .ref a2, .int x3]) (rest := []) (show decode cX11_timeAlone 11 = .ok (.invokevirtual 348, 3) by decide +kernel) (by rfl) rfl rfl rfl (hl.k2 zk_1) (by decide) (hl.n2 zk_1) ⟨Nat.le_of_ble_eq_true rfl, Nat.le_of_ble_eq_true rfl, Nat.le_of_ble_eq_true rfl⟩) ?_
  exact Iff.rfl

theorem bX11_timeAlone_14 {d : Nat} {σ : zS} {Q : Option Value → zS → Prop} (hl : zLay σ) {a1 a2 : Nat} {x3 x4 y0 : Int32} (ha1 : zk a1 = 0) (ha2 : zk a2 = 6) : zW (d + 1) kX11_timeAlone 14 [.ref 1, .ref a1, .ref a2, .int x3, .int x4, .retAddr 0] [.int y0] σ Q ↔ (if y0 = (0 : Int32) then Q (some (.int (-1))) σ else zW (d + 1) kX11_timeAlone 22 [.ref 1, .ref a1, .ref a2, .int x3, .int x4, .int 0] [] σ Q) := by
  refine Iff.trans (zw_if_ne (t := 19) (show decode cX11_timeAlone 14 = .ok (.ifCond .ne 5, 3) by decide +kernel) (by decide)) ?_
  refine zw_ite ?_ ?_
  · refine Iff.trans (zw_iconst (x := (-1)) (show decode cX11_timeAlone 17 = .ok (.iconst (-1), 1) by decide +kernel) (by decide)) ?_
    exact zw_iret1 (show decode cX11_timeAlone 18 = .ok (.ireturn, 1) by decide +kernel) rfl
  · refine Iff.trans (zw_iconst (x := 0) (show decode cX11_timeAlone 19 = .ok (.iconst 0, 1) by decide +kernel) (by decide)) ?_
    refine Iff.trans (zw_istore (ls' := [.ref 1, .ref a1, .ref a2, .int x3, .int x4, .int 0]) (show decode cX11_timeAlone 20 = .ok (.istore 5, 2) by decide +kernel) (zset_s (Nat.le_of_ble_eq_true rfl) rfl)) ?_
    exact Iff.rfl

theorem bX11_timeAlone_22 {d : Nat} {σ : zS} {Q : Option Value → zS → Prop} (hl : zLay σ) {a1 a2 : Nat} {x3 x4 x5 : Int32} (ha1 : zk a1 = 0) (ha2 : zk a2 = 6) : zW (d + 1) kX11_timeAlone 22 [.ref 1, .ref a1, .ref a2, .int x3, .int x4, .int x5] [] σ Q ↔ (if x4 ≤ x5 then Q (some (.int (zI σ 83 2))) σ else (if x5 = (0 : Int32) then zW (d + 1) kX11_timeAlone 44 [.ref 1, .ref a1, .ref a2, .int x3, .int x4, .int x5] [] σ Q else (if (zI σ 60 8) = (0 : Int32) then zW (d + 1) kX11_timeAlone 67 [.ref 1, .ref a1, .ref a2, .int x3, .int x4, .int x5] [] σ Q else zW (d + 1) kX11_timeAlone 44 [.ref 1, .ref a1, .ref a2, .int x3, .int x4, .int x5] [] σ Q))) := by
  refine Iff.trans (zw_iload (show decode cX11_timeAlone 22 = .ok (.iload 5, 2) by decide +kernel) rfl) ?_
  refine Iff.trans (zw_iload (show decode cX11_timeAlone 24 = .ok (.iload 4, 2) by decide +kernel) rfl) ?_
  refine Iff.trans (zw_icmp_ge (t := 87) (show decode cX11_timeAlone 26 = .ok (.if_icmp .ge 61, 3) by decide +kernel) (by decide)) ?_
  refine zw_ite ?_ ?_
  · refine Iff.trans (zw_aload_n (show decode cX11_timeAlone 87 = .ok (.aload_n 0, 1) by decide +kernel) rfl) ?_
    refine Iff.trans (zw_get (show decode cX11_timeAlone 88 = .ok (.getfield 78, 3) by decide +kernel) (by decide +kernel : zfld 11 78 = some (11, 14)) (hl.k2 zk_1) (hl.n2 zk_1) (zgetR (v := 83) (hl.r zrt_1_14) rfl)) ?_
    refine Iff.trans (zw_getI (show decode cX11_timeAlone 91 = .ok (.getfield 358, 3) by decide +kernel) (by decide +kernel : zfld 11 358 = some (3, 2)) (hl.k2 zk_83) (hl.n2 zk_83) (Or.inl rfl) (w := zI σ 83 2) rfl) ?_
    exact zw_iret1 (show decode cX11_timeAlone 94 = .ok (.ireturn, 1) by decide +kernel) rfl
  · refine Iff.trans (zw_iload (show decode cX11_timeAlone 29 = .ok (.iload 5, 2) by decide +kernel) rfl) ?_
    refine Iff.trans (zw_if_eq (t := 44) (show decode cX11_timeAlone 31 = .ok (.ifCond .eq 13, 3) by decide +kernel) (by decide)) ?_
    refine zw_ite ?_ ?_
    · exact Iff.rfl
    · refine Iff.trans (zw_aload_n (show decode cX11_timeAlone 34 = .ok (.aload_n 0, 1) by decide +kernel) rfl) ?_
      refine Iff.trans (zw_get (show decode cX11_timeAlone 35 = .ok (.getfield 65, 3) by decide +kernel) (by decide +kernel : zfld 11 65 = some (11, 12)) (hl.k2 zk_1) (hl.n2 zk_1) (zgetR (v := 60) (hl.r zrt_1_12) rfl)) ?_
      refine Iff.trans (zw_getI (show decode cX11_timeAlone 38 = .ok (.getfield 343, 3) by decide +kernel) (by decide +kernel : zfld 11 343 = some (2, 8)) (hl.k2 zk_60) (hl.n2 zk_60) (Or.inr rfl) (w := zI σ 60 8) rfl) ?_
      refine Iff.trans (zw_if_eq (t := 67) (show decode cX11_timeAlone 41 = .ok (.ifCond .eq 26, 3) by decide +kernel) (by decide)) ?_
      refine zw_ite ?_ ?_
      · exact Iff.rfl
      · exact Iff.rfl

theorem bX11_timeAlone_44 {d : Nat} {σ : zS} {Q : Option Value → zS → Prop} (hl : zLay σ) {a1 a2 : Nat} {x3 x4 x5 : Int32} (ha1 : zk a1 = 0) (ha2 : zk a2 = 6) : zW (d + 1) kX11_timeAlone 44 [.ref 1, .ref a1, .ref a2, .int x3, .int x4, .int x5] [] σ Q ↔ zCall d kX2_begin [.ref 60, .long ((x5 : Int32).toInt64)] σ (fun r σ' => zisN r = true ∧ zW (d + 1) kX11_timeAlone 54 [.ref 1, .ref a1, .ref a2, .int x3, .int x4, .int x5] (zRstk r ++ []) σ' Q) := by
  refine Iff.trans (zw_aload_n (show decode cX11_timeAlone 44 = .ok (.aload_n 0, 1) by decide +kernel) rfl) ?_
  refine Iff.trans (zw_get (show decode cX11_timeAlone 45 = .ok (.getfield 65, 3) by decide +kernel) (by decide +kernel : zfld 11 65 = some (11, 12)) (hl.k2 zk_1) (hl.n2 zk_1) (zgetR (v := 60) (hl.r zrt_1_12) rfl)) ?_
  refine Iff.trans (zw_iload (show decode cX11_timeAlone 48 = .ok (.iload 5, 2) by decide +kernel) rfl) ?_
  refine Iff.trans (zw_i2l (show decode cX11_timeAlone 50 = .ok (.i2l, 1) by decide +kernel)) ?_
  refine Iff.trans (zw_invV (K' := kX2_begin) (as' := [.long ((x5 : Int32).toInt64)]) (rest := []) (show decode cX11_timeAlone 51 = .ok (.invokevirtual 227, 3) by decide +kernel) (by rfl) rfl rfl rfl (hl.k2 zk_60) (by decide) (hl.n2 zk_60) ⟨Nat.le_of_ble_eq_true rfl, Nat.le_of_ble_eq_true rfl, Nat.le_of_ble_eq_true rfl⟩) ?_
  exact Iff.rfl

theorem bX11_timeAlone_54 {d : Nat} {σ : zS} {Q : Option Value → zS → Prop} (hl : zLay σ) {a1 a2 : Nat} {x3 x4 x5 : Int32} (ha1 : zk a1 = 0) (ha2 : zk a2 = 6) : zW (d + 1) kX11_timeAlone 54 [.ref 1, .ref a1, .ref a2, .int x3, .int x4, .int x5] [] σ Q ↔ zCall d kX2_run [.ref 60, .int 60, .ref 10] σ (fun r σ' => zisN r = true ∧ zW (d + 1) kX11_timeAlone 67 [.ref 1, .ref a1, .ref a2, .int x3, .int x4, .int x5] (zRstk r ++ []) σ' Q) := by
  refine Iff.trans (zw_aload_n (show decode cX11_timeAlone 54 = .ok (.aload_n 0, 1) by decide +kernel) rfl) ?_
  refine Iff.trans (zw_get (show decode cX11_timeAlone 55 = .ok (.getfield 65, 3) by decide +kernel) (by decide +kernel : zfld 11 65 = some (11, 12)) (hl.k2 zk_1) (hl.n2 zk_1) (zgetR (v := 60) (hl.r zrt_1_12) rfl)) ?_
  refine Iff.trans (zw_bipush (x := 60) (show decode cX11_timeAlone 58 = .ok (.bipush 60, 2) by decide +kernel) (by decide)) ?_
  refine Iff.trans (zw_aload_n (show decode cX11_timeAlone 60 = .ok (.aload_n 0, 1) by decide +kernel) rfl) ?_
  refine Iff.trans (zw_get (show decode cX11_timeAlone 61 = .ok (.getfield 38, 3) by decide +kernel) (by decide +kernel : zfld 11 38 = some (11, 6)) (hl.k2 zk_1) (hl.n2 zk_1) (zgetR (v := 10) (hl.r zrt_1_6) rfl)) ?_
  refine Iff.trans (zw_invV (K' := kX2_run) (as' := [.int 60, .ref 10]) (rest := []) (show decode cX11_timeAlone 64 = .ok (.invokevirtual 239, 3) by decide +kernel) (by rfl) rfl rfl rfl (hl.k2 zk_60) (by decide) (hl.n2 zk_60) ⟨Nat.le_of_ble_eq_true rfl, Nat.le_of_ble_eq_true rfl, Nat.le_of_ble_eq_true rfl⟩) ?_
  exact Iff.rfl

theorem bX11_timeAlone_67 {d : Nat} {σ : zS} {Q : Option Value → zS → Prop} (hl : zLay σ) {a1 a2 : Nat} {x3 x4 x5 : Int32} (ha1 : zk a1 = 0) (ha2 : zk a2 = 6) : zW (d + 1) kX11_timeAlone 67 [.ref 1, .ref a1, .ref a2, .int x3, .int x4, .int x5] [] σ Q ↔ zCall d kX2_ticksOfFirst [.ref 60] σ (fun r σ' => zisN r = true ∧ zW (d + 1) kX11_timeAlone 78 [.ref 1, .ref a1, .ref a2, .int x3, .int x4, .int x5] (zRstk r ++ [.ref 83]) σ' Q) := by
  refine Iff.trans (zw_aload_n (show decode cX11_timeAlone 67 = .ok (.aload_n 0, 1) by decide +kernel) rfl) ?_
  refine Iff.trans (zw_get (show decode cX11_timeAlone 68 = .ok (.getfield 78, 3) by decide +kernel) (by decide +kernel : zfld 11 78 = some (11, 14)) (hl.k2 zk_1) (hl.n2 zk_1) (zgetR (v := 83) (hl.r zrt_1_14) rfl)) ?_
  refine Iff.trans (zw_aload_n (show decode cX11_timeAlone 71 = .ok (.aload_n 0, 1) by decide +kernel) rfl) ?_
  refine Iff.trans (zw_get (show decode cX11_timeAlone 72 = .ok (.getfield 65, 3) by decide +kernel) (by decide +kernel : zfld 11 65 = some (11, 12)) (hl.k2 zk_1) (hl.n2 zk_1) (zgetR (v := 60) (hl.r zrt_1_12) rfl)) ?_
  refine Iff.trans (zw_invV (K' := kX2_ticksOfFirst) (as' := []) (rest := [.ref 83]) (show decode cX11_timeAlone 75 = .ok (.invokevirtual 352, 3) by decide +kernel) (by rfl) rfl rfl rfl (hl.k2 zk_60) (by decide) (hl.n2 zk_60) ⟨Nat.le_of_ble_eq_true rfl, Nat.le_of_ble_eq_true rfl, Nat.le_of_ble_eq_true rfl⟩) ?_
  exact Iff.rfl

theorem bX11_timeAlone_78 {d : Nat} {σ : zS} {Q : Option Value → zS → Prop} (hl : zLay σ) {a1 a2 : Nat} {x3 x4 x5 y0 : Int32} (ha1 : zk a1 = 0) (ha2 : zk a2 = 6) : zW (d + 1) kX11_timeAlone 78 [.ref 1, .ref a1, .ref a2, .int x3, .int x4, .int x5] [.int y0, .ref 83] σ Q ↔ zCall d kX3_add [.ref 83, .int y0] σ (fun r σ' => zisN r = true ∧ zW (d + 1) kX11_timeAlone 81 [.ref 1, .ref a1, .ref a2, .int x3, .int x4, .int x5] (zRstk r ++ []) σ' Q) := by
  refine Iff.trans (zw_invV (K' := kX3_add) (as' := [.int y0]) (rest := []) (show decode cX11_timeAlone 78 = .ok (.invokevirtual 356, 3) by decide +kernel) (by rfl) rfl rfl rfl (hl.k2 zk_83) (by decide) (hl.n2 zk_83) ⟨Nat.le_of_ble_eq_true rfl, Nat.le_of_ble_eq_true rfl, Nat.le_of_ble_eq_true rfl⟩) ?_
  exact Iff.rfl

theorem bX11_timeAlone_81 {d : Nat} {σ : zS} {Q : Option Value → zS → Prop} (hl : zLay σ) {a1 a2 : Nat} {x3 x4 x5 : Int32} (ha1 : zk a1 = 0) (ha2 : zk a2 = 6) : zW (d + 1) kX11_timeAlone 81 [.ref 1, .ref a1, .ref a2, .int x3, .int x4, .int x5] [] σ Q ↔ zW (d + 1) kX11_timeAlone 22 [.ref 1, .ref a1, .ref a2, .int x3, .int x4, .int (x5 + 1)] [] σ Q := by
  refine Iff.trans (zw_iinc (w := 1) (ls' := [.ref 1, .ref a1, .ref a2, .int x3, .int x4, .int (x5 + 1)]) (show decode cX11_timeAlone 81 = .ok (.iinc 5 1, 3) by decide +kernel) rfl (by decide) (zset_s (Nat.le_of_ble_eq_true rfl) rfl)) ?_
  refine Iff.trans (zw_goto (t := 22) (show decode cX11_timeAlone 84 = .ok (.goto (-62), 3) by decide +kernel) (by decide)) ?_
  exact Iff.rfl

theorem bX11_trials_0 {d : Nat} {σ : zS} {Q : Option Value → zS → Prop} (hl : zLay σ) {x1 x2 x3 : Int32} : zCall (d + 1) kX11_trials [.ref 1, .int x1, .int x2, .int x3] σ Q ↔ zCall d kX11_findTrials [.ref 1, .int x1, .int x2] σ (fun r σ' => zisN r = true ∧ zW (d + 1) kX11_trials 6 [.ref 1, .int x1, .int x2, .int x3] (zRstk r ++ []) σ' Q) := by
  show zW (d + 1) kX11_trials 0 [.ref 1, .int x1, .int x2, .int x3] [] σ Q ↔ _
  refine Iff.trans (zw_aload_n (show decode cX11_trials 0 = .ok (.aload_n 0, 1) by decide +kernel) rfl) ?_
  refine Iff.trans (zw_iload_n (show decode cX11_trials 1 = .ok (.iload_n 1, 1) by decide +kernel) rfl) ?_
  refine Iff.trans (zw_iload_n (show decode cX11_trials 2 = .ok (.iload_n 2, 1) by decide +kernel) rfl) ?_
  refine Iff.trans (zw_invV (K' := kX11_findTrials) (as' := [.int x1, .int x2]) (rest := []) (show decode cX11_trials 3 = .ok (.invokevirtual 361, 3) by decide +kernel) (by rfl) rfl rfl rfl (hl.k2 zk_1) (by decide) (hl.n2 zk_1) ⟨Nat.le_of_ble_eq_true rfl, Nat.le_of_ble_eq_true rfl, Nat.le_of_ble_eq_true rfl⟩) ?_
  exact Iff.rfl

theorem bX11_trials_6 {d : Nat} {σ : zS} {Q : Option Value → zS → Prop} (hl : zLay σ) {x1 x2 x3 y0 : Int32} : zW (d + 1) kX11_trials 6 [.ref 1, .int x1, .int x2, .int x3] [.int y0] σ Q ↔ (if y0 = (0 : Int32) then Q (some (.int (-1))) σ else (if x3 = (-1) then Q (some (.int (zI σ 87 3))) σ else (if x3 < (0 : Int32) then Q (some (.int (-1))) σ else (if (zI σ 87 3) ≤ x3 then Q (some (.int (-1))) σ else (if x3 < 12 then (vp_in x3 12 ∧ Q (some (.int (zI σ 88 (x3 : Int32).toNatClampNeg))) σ) else Q (some (.int (-1))) σ))))) := by
  refine Iff.trans (zw_if_ne (t := 11) (show decode cX11_trials 6 = .ok (.ifCond .ne 5, 3) by decide +kernel) (by decide)) ?_
  refine zw_ite ?_ ?_
  · refine Iff.trans (zw_iconst (x := (-1)) (show decode cX11_trials 9 = .ok (.iconst (-1), 1) by decide +kernel) (by decide)) ?_
    exact zw_iret1 (show decode cX11_trials 10 = .ok (.ireturn, 1) by decide +kernel) rfl
  · refine Iff.trans (zw_iload_n (show decode cX11_trials 11 = .ok (.iload_n 3, 1) by decide +kernel) rfl) ?_
    refine Iff.trans (zw_iconst (x := (-1)) (show decode cX11_trials 12 = .ok (.iconst (-1), 1) by decide +kernel) (by decide)) ?_
    refine Iff.trans (zw_icmp_ne (t := 24) (show decode cX11_trials 13 = .ok (.if_icmp .ne 11, 3) by decide +kernel) (by decide)) ?_
    refine zw_ite ?_ ?_
    · refine Iff.trans (zw_aload_n (show decode cX11_trials 16 = .ok (.aload_n 0, 1) by decide +kernel) rfl) ?_
      refine Iff.trans (zw_get (show decode cX11_trials 17 = .ok (.getfield 88, 3) by decide +kernel) (by decide +kernel : zfld 11 88 = some (11, 16)) (hl.k2 zk_1) (hl.n2 zk_1) (zgetR (v := 87) (hl.r zrt_1_16) rfl)) ?_
      refine Iff.trans (zw_getI (show decode cX11_trials 20 = .ok (.getfield 364, 3) by decide +kernel) (by decide +kernel : zfld 11 364 = some (9, 3)) (hl.k2 zk_87) (hl.n2 zk_87) (Or.inl rfl) (w := zI σ 87 3) rfl) ?_
      exact zw_iret1 (show decode cX11_trials 23 = .ok (.ireturn, 1) by decide +kernel) rfl
    · refine Iff.trans (zw_iload_n (show decode cX11_trials 24 = .ok (.iload_n 3, 1) by decide +kernel) rfl) ?_
      refine Iff.trans (zw_if_lt (t := 45) (show decode cX11_trials 25 = .ok (.ifCond .lt 20, 3) by decide +kernel) (by decide)) ?_
      refine zw_ite ?_ ?_
      · refine Iff.trans (zw_iconst (x := (-1)) (show decode cX11_trials 45 = .ok (.iconst (-1), 1) by decide +kernel) (by decide)) ?_
        refine Iff.trans (zw_goto (t := 58) (show decode cX11_trials 46 = .ok (.goto 12, 3) by decide +kernel) (by decide)) ?_
        exact zw_iret1 (show decode cX11_trials 58 = .ok (.ireturn, 1) by decide +kernel) rfl
      · refine Iff.trans (zw_iload_n (show decode cX11_trials 28 = .ok (.iload_n 3, 1) by decide +kernel) rfl) ?_
        refine Iff.trans (zw_aload_n (show decode cX11_trials 29 = .ok (.aload_n 0, 1) by decide +kernel) rfl) ?_
        refine Iff.trans (zw_get (show decode cX11_trials 30 = .ok (.getfield 88, 3) by decide +kernel) (by decide +kernel : zfld 11 88 = some (11, 16)) (hl.k2 zk_1) (hl.n2 zk_1) (zgetR (v := 87) (hl.r zrt_1_16) rfl)) ?_
        refine Iff.trans (zw_getI (show decode cX11_trials 33 = .ok (.getfield 364, 3) by decide +kernel) (by decide +kernel : zfld 11 364 = some (9, 3)) (hl.k2 zk_87) (hl.n2 zk_87) (Or.inl rfl) (w := zI σ 87 3) rfl) ?_
        refine Iff.trans (zw_icmp_ge (t := 45) (show decode cX11_trials 36 = .ok (.if_icmp .ge 9, 3) by decide +kernel) (by decide)) ?_
        refine zw_ite ?_ ?_
        · refine Iff.trans (zw_iconst (x := (-1)) (show decode cX11_trials 45 = .ok (.iconst (-1), 1) by decide +kernel) (by decide)) ?_
          refine Iff.trans (zw_goto (t := 58) (show decode cX11_trials 46 = .ok (.goto 12, 3) by decide +kernel) (by decide)) ?_
          exact zw_iret1 (show decode cX11_trials 58 = .ok (.ireturn, 1) by decide +kernel) rfl
        · refine Iff.trans (zw_iload_n (show decode cX11_trials 39 = .ok (.iload_n 3, 1) by decide +kernel) rfl) ?_
          refine Iff.trans (zw_bipush (x := 12) (show decode cX11_trials 40 = .ok (.bipush 12, 2) by decide +kernel) (by decide)) ?_
          refine Iff.trans (zw_icmp_lt (t := 49) (show decode cX11_trials 42 = .ok (.if_icmp .lt 7, 3) by decide +kernel) (by decide)) ?_
          refine zw_ite ?_ ?_
          · refine Iff.trans (zw_aload_n (show decode cX11_trials 49 = .ok (.aload_n 0, 1) by decide +kernel) rfl) ?_
            refine Iff.trans (zw_get (show decode cX11_trials 50 = .ok (.getfield 88, 3) by decide +kernel) (by decide +kernel : zfld 11 88 = some (11, 16)) (hl.k2 zk_1) (hl.n2 zk_1) (zgetR (v := 87) (hl.r zrt_1_16) rfl)) ?_
            refine Iff.trans (zw_get (show decode cX11_trials 53 = .ok (.getfield 365, 3) by decide +kernel) (by decide +kernel : zfld 11 365 = some (9, 0)) (hl.k2 zk_87) (hl.n2 zk_87) (zgetR (v := 88) (hl.r zrt_87_0) rfl)) ?_
            refine Iff.trans (zw_iload_n (show decode cX11_trials 56 = .ok (.iload_n 3, 1) by decide +kernel) rfl) ?_
            refine Iff.trans (zw_iald2 (show decode cX11_trials 57 = .ok (.iaload, 1) by decide +kernel) (hl.k2 zk_88) (hl.n2 zk_88) (hl.l2 zk_88 zl_88) (w := zI σ 88 (x3 : Int32).toNatClampNeg) rfl) ?_
            refine zw_and ?_
            exact zw_iret1 (show decode cX11_trials 58 = .ok (.ireturn, 1) by decide +kernel) rfl
          · refine Iff.trans (zw_iconst (x := (-1)) (show decode cX11_trials 45 = .ok (.iconst (-1), 1) by decide +kernel) (by decide)) ?_
            refine Iff.trans (zw_goto (t := 58) (show decode cX11_trials 46 = .ok (.goto 12, 3) by decide +kernel) (by decide)) ?_
            exact zw_iret1 (show decode cX11_trials 58 = .ok (.ireturn, 1) by decide +kernel) rfl

theorem bX11_plan_0 {d : Nat} {σ : zS} {Q : Option Value → zS → Prop} (hl : zLay σ) {x1 x2 x3 : Int32} : zCall (d + 1) kX11_plan [.ref 1, .int x1, .int x2, .int x3] σ Q ↔ (if x3 < (0 : Int32) then Q (some (.int (-1))) σ else (if 1 < x3 then Q (some (.int (-1))) σ else zCall d kX11_findTrials [.ref 1, .int x1, .int x2] σ (fun r σ' => zisN r = true ∧ zW (d + 1) kX11_plan 15 [.ref 1, .int x1, .int x2, .int x3, .retAddr 0, .retAddr 0, .retAddr 0, .retAddr 0] (zRstk r ++ []) σ' Q))) := by
  show zW (d + 1) kX11_plan 0 [.ref 1, .int x1, .int x2, .int x3, .retAddr 0, .retAddr 0, .retAddr 0, .retAddr 0] [] σ Q ↔ _
  refine Iff.trans (zw_iload_n (show decode cX11_plan 0 = .ok (.iload_n 3, 1) by decide +kernel) rfl) ?_
  refine Iff.trans (zw_if_lt (t := 28) (show decode cX11_plan 1 = .ok (.ifCond .lt 27, 3) by decide +kernel) (by decide)) ?_
  refine zw_ite ?_ ?_
  · refine Iff.trans (zw_iconst (x := (-1)) (show decode cX11_plan 28 = .ok (.iconst (-1), 1) by decide +kernel) (by decide)) ?_
    exact zw_iret1 (show decode cX11_plan 29 = .ok (.ireturn, 1) by decide +kernel) rfl
  · refine Iff.trans (zw_iload_n (show decode cX11_plan 4 = .ok (.iload_n 3, 1) by decide +kernel) rfl) ?_
    refine Iff.trans (zw_iconst (x := 1) (show decode cX11_plan 5 = .ok (.iconst 1, 1) by decide +kernel) (by decide)) ?_
    refine Iff.trans (zw_icmp_gt (t := 28) (show decode cX11_plan 6 = .ok (.if_icmp .gt 22, 3) by decide +kernel) (by decide)) ?_
    refine zw_ite ?_ ?_
    · refine Iff.trans (zw_iconst (x := (-1)) (show decode cX11_plan 28 = .ok (.iconst (-1), 1) by decide +kernel) (by decide)) ?_
      exact zw_iret1 (show decode cX11_plan 29 = .ok (.ireturn, 1) by decide +kernel) rfl
    · refine Iff.trans (zw_aload_n (show decode cX11_plan 9 = .ok (.aload_n 0, 1) by decide +kernel) rfl) ?_
      refine Iff.trans (zw_iload_n (show decode cX11_plan 10 = .ok (.iload_n 1, 1) by decide +kernel) rfl) ?_
      refine Iff.trans (zw_iload_n (show decode cX11_plan 11 = .ok (.iload_n 2, 1) by decide +kernel) rfl) ?_
      refine Iff.trans (zw_invV (K' := kX11_findTrials) (as' := [.int x1, .int x2]) (rest := []) (show decode cX11_plan 12 = .ok (.invokevirtual 361, 3) by decide +kernel) (by rfl) rfl rfl rfl (hl.k2 zk_1) (by decide) (hl.n2 zk_1) ⟨Nat.le_of_ble_eq_true rfl, Nat.le_of_ble_eq_true rfl, Nat.le_of_ble_eq_true rfl⟩) ?_
      exact Iff.rfl

theorem bX11_plan_15 {d : Nat} {σ : zS} {Q : Option Value → zS → Prop} (hl : zLay σ) {x1 x2 x3 y0 : Int32} : zW (d + 1) kX11_plan 15 [.ref 1, .int x1, .int x2, .int x3, .retAddr 0, .retAddr 0, .retAddr 0, .retAddr 0] [.int y0] σ Q ↔ (if y0 = (0 : Int32) then Q (some (.int (-1))) σ else (if (zI σ 87 3) = (0 : Int32) then Q (some (.int (-1))) σ else zCall d kX11_partPairs [.ref 1, .int x1] σ (fun r σ' => zisN r = true ∧ zW (d + 1) kX11_plan 35 [.ref 1, .int x1, .int x2, .int x3, .retAddr 0, .retAddr 0, .retAddr 0, .retAddr 0] (zRstk r ++ []) σ' Q))) := by
  refine Iff.trans (zw_if_eq (t := 28) (show decode cX11_plan 15 = .ok (.ifCond .eq 13, 3) by decide +kernel) (by decide)) ?_
  refine zw_ite ?_ ?_
  · refine Iff.trans (zw_iconst (x := (-1)) (show decode cX11_plan 28 = .ok (.iconst (-1), 1) by decide +kernel) (by decide)) ?_
    exact zw_iret1 (show decode cX11_plan 29 = .ok (.ireturn, 1) by decide +kernel) rfl
  · refine Iff.trans (zw_aload_n (show decode cX11_plan 18 = .ok (.aload_n 0, 1) by decide +kernel) rfl) ?_
    refine Iff.trans (zw_get (show decode cX11_plan 19 = .ok (.getfield 88, 3) by decide +kernel) (by decide +kernel : zfld 11 88 = some (11, 16)) (hl.k2 zk_1) (hl.n2 zk_1) (zgetR (v := 87) (hl.r zrt_1_16) rfl)) ?_
    refine Iff.trans (zw_getI (show decode cX11_plan 22 = .ok (.getfield 364, 3) by decide +kernel) (by decide +kernel : zfld 11 364 = some (9, 3)) (hl.k2 zk_87) (hl.n2 zk_87) (Or.inl rfl) (w := zI σ 87 3) rfl) ?_
    refine Iff.trans (zw_if_ne (t := 30) (show decode cX11_plan 25 = .ok (.ifCond .ne 5, 3) by decide +kernel) (by decide)) ?_
    refine zw_ite ?_ ?_
    · refine Iff.trans (zw_iconst (x := (-1)) (show decode cX11_plan 28 = .ok (.iconst (-1), 1) by decide +kernel) (by decide)) ?_
      exact zw_iret1 (show decode cX11_plan 29 = .ok (.ireturn, 1) by decide +kernel) rfl
    · refine Iff.trans (zw_aload_n (show decode cX11_plan 30 = .ok (.aload_n 0, 1) by decide +kernel) rfl) ?_
      refine Iff.trans (zw_iload_n (show decode cX11_plan 31 = .ok (.iload_n 1, 1) by decide +kernel) rfl) ?_
      refine Iff.trans (zw_invV (K' := kX11_partPairs) (as' := [.int x1]) (rest := []) (show decode cX11_plan 32 = .ok (.invokevirtual 368, 3) by decide +kernel) (by rfl) rfl rfl rfl (hl.k2 zk_1) (by decide) (hl.n2 zk_1) ⟨Nat.le_of_ble_eq_true rfl, Nat.le_of_ble_eq_true rfl, Nat.le_of_ble_eq_true rfl⟩) ?_
      exact Iff.rfl

theorem bX11_plan_35 {d : Nat} {σ : zS} {Q : Option Value → zS → Prop} (hl : zLay σ) {x1 x2 x3 : Int32} : zW (d + 1) kX11_plan 35 [.ref 1, .int x1, .int x2, .int x3, .retAddr 0, .retAddr 0, .retAddr 0, .retAddr 0] [] σ Q ↔ zW (d + 1) kX11_plan 44 [.ref 1, .int x1, .int x2, .int x3, .int 0, .int (-1), .int 0, .retAddr 0] [] σ Q := by
  refine Iff.trans (zw_iconst (x := 0) (show decode cX11_plan 35 = .ok (.iconst 0, 1) by decide +kernel) (by decide)) ?_
  refine Iff.trans (zw_istore (ls' := [.ref 1, .int x1, .int x2, .int x3, .int 0, .retAddr 0, .retAddr 0, .retAddr 0]) (show decode cX11_plan 36 = .ok (.istore 4, 2) by decide +kernel) (zset_s (Nat.le_of_ble_eq_true rfl) rfl)) ?_
  refine Iff.trans (zw_iconst (x := (-1)) (show decode cX11_plan 38 = .ok (.iconst (-1), 1) by decide +kernel) (by decide)) ?_
  refine Iff.trans (zw_istore (ls' := [.ref 1, .int x1, .int x2, .int x3, .int 0, .int (-1), .retAddr 0, .retAddr 0]) (show decode cX11_plan 39 = .ok (.istore 5, 2) by decide +kernel) (zset_s (Nat.le_of_ble_eq_true rfl) rfl)) ?_
  refine Iff.trans (zw_iconst (x := 0) (show decode cX11_plan 41 = .ok (.iconst 0, 1) by decide +kernel) (by decide)) ?_
  refine Iff.trans (zw_istore (ls' := [.ref 1, .int x1, .int x2, .int x3, .int 0, .int (-1), .int 0, .retAddr 0]) (show decode cX11_plan 42 = .ok (.istore 6, 2) by decide +kernel) (zset_s (Nat.le_of_ble_eq_true rfl) rfl)) ?_
  exact Iff.rfl

theorem bX11_plan_44 {d : Nat} {σ : zS} {Q : Option Value → zS → Prop} (hl : zLay σ) {x1 x2 x3 x4 x5 x6 : Int32} {v7 : Value} (hv7 : v7.category = 1) : zW (d + 1) kX11_plan 44 [.ref 1, .int x1, .int x2, .int x3, .int x4, .int x5, .int x6, v7] [] σ Q ↔ (if (zI σ 87 3) ≤ x6 then zW (d + 1) kX11_plan 99 [.ref 1, .int x1, .int x2, .int x3, .int x4, .int x5, .int x6, v7] [] σ Q else (if 12 ≤ x6 then zW (d + 1) kX11_plan 99 [.ref 1, .int x1, .int x2, .int x3, .int x4, .int x5, .int x6, v7] [] σ Q else (vp_in x6 12 ∧ zCall d kJ6_bitCount_0f7a4 [.int (zI σ 89 (x6 : Int32).toNatClampNeg)] σ (fun r σ' => zisN r = true ∧ zW (d + 1) kX11_plan 76 [.ref 1, .int x1, .int x2, .int x3, .int x4, .int x5, .int x6, v7] (zRstk r ++ []) σ' Q)))) := by
  refine Iff.trans (zw_iload (show decode cX11_plan 44 = .ok (.iload 6, 2) by decide +kernel) rfl) ?_
  refine Iff.trans (zw_aload_n (show decode cX11_plan 46 = .ok (.aload_n 0, 1) by decide +kernel) rfl) ?_
  refine Iff.trans (zw_get (show decode cX11_plan 47 = .ok (.getfield 88, 3) by decide +kernel) (by decide +kernel : zfld 11 88 = some (11, 16)) (hl.k2 zk_1) (hl.n2 zk_1) (zgetR (v := 87) (hl.r zrt_1_16) rfl)) ?_
  refine Iff.trans (zw_getI (show decode cX11_plan 50 = .ok (.getfield 364, 3) by decide +kernel) (by decide +kernel : zfld 11 364 = some (9, 3)) (hl.k2 zk_87) (hl.n2 zk_87) (Or.inl rfl) (w := zI σ 87 3) rfl) ?_
  refine Iff.trans (zw_icmp_ge (t := 99) (show decode cX11_plan 53 = .ok (.if_icmp .ge 46, 3) by decide +kernel) (by decide)) ?_
  refine zw_ite ?_ ?_
  · exact Iff.rfl
  · refine Iff.trans (zw_iload (show decode cX11_plan 56 = .ok (.iload 6, 2) by decide +kernel) rfl) ?_
    refine Iff.trans (zw_bipush (x := 12) (show decode cX11_plan 58 = .ok (.bipush 12, 2) by decide +kernel) (by decide)) ?_
    refine Iff.trans (zw_icmp_ge (t := 99) (show decode cX11_plan 60 = .ok (.if_icmp .ge 39, 3) by decide +kernel) (by decide)) ?_
    refine zw_ite ?_ ?_
    · exact Iff.rfl
    · refine Iff.trans (zw_aload_n (show decode cX11_plan 63 = .ok (.aload_n 0, 1) by decide +kernel) rfl) ?_
      refine Iff.trans (zw_get (show decode cX11_plan 64 = .ok (.getfield 88, 3) by decide +kernel) (by decide +kernel : zfld 11 88 = some (11, 16)) (hl.k2 zk_1) (hl.n2 zk_1) (zgetR (v := 87) (hl.r zrt_1_16) rfl)) ?_
      refine Iff.trans (zw_get (show decode cX11_plan 67 = .ok (.getfield 371, 3) by decide +kernel) (by decide +kernel : zfld 11 371 = some (9, 1)) (hl.k2 zk_87) (hl.n2 zk_87) (zgetR (v := 89) (hl.r zrt_87_1) rfl)) ?_
      refine Iff.trans (zw_iload (show decode cX11_plan 70 = .ok (.iload 6, 2) by decide +kernel) rfl) ?_
      refine Iff.trans (zw_iald2 (show decode cX11_plan 72 = .ok (.iaload, 1) by decide +kernel) (hl.k2 zk_89) (hl.n2 zk_89) (hl.l2 zk_89 zl_89) (w := zI σ 89 (x6 : Int32).toNatClampNeg) rfl) ?_
      refine zw_and ?_
      refine Iff.trans (zw_invS (K' := kJ6_bitCount_0f7a4) (as := [.int (zI σ 89 (x6 : Int32).toNatClampNeg)]) (rest := []) (show decode cX11_plan 73 = .ok (.invokestatic 374, 3) by decide +kernel) (by rfl) rfl rfl rfl ⟨Nat.le_of_ble_eq_true rfl, Nat.le_of_ble_eq_true rfl, Nat.le_of_ble_eq_true rfl⟩) ?_
      exact Iff.rfl

theorem bX11_plan_76 {d : Nat} {σ : zS} {Q : Option Value → zS → Prop} (hl : zLay σ) {x1 x2 x3 x4 x5 x6 y0 : Int32} {v7 : Value} (hv7 : v7.category = 1) : zW (d + 1) kX11_plan 76 [.ref 1, .int x1, .int x2, .int x3, .int x4, .int x5, .int x6, v7] [.int y0] σ Q ↔ (if y0 ≤ x5 then zW (d + 1) kX11_plan 44 [.ref 1, .int x1, .int x2, .int x3, .int x4, .int x5, .int (x6 + 1), .int y0] [] σ Q else zW (d + 1) kX11_plan 44 [.ref 1, .int x1, .int x2, .int x3, .int x6, .int y0, .int (x6 + 1), .int y0] [] σ Q) := by
  refine Iff.trans (zw_istore (ls' := [.ref 1, .int x1, .int x2, .int x3, .int x4, .int x5, .int x6, .int y0]) (show decode cX11_plan 76 = .ok (.istore 7, 2) by decide +kernel) (zset_s (Nat.le_of_ble_eq_true rfl) rfl)) ?_
  refine Iff.trans (zw_iload (show decode cX11_plan 78 = .ok (.iload 7, 2) by decide +kernel) rfl) ?_
  refine Iff.trans (zw_iload (show decode cX11_plan 80 = .ok (.iload 5, 2) by decide +kernel) rfl) ?_
  refine Iff.trans (zw_icmp_le (t := 93) (show decode cX11_plan 82 = .ok (.if_icmp .le 11, 3) by decide +kernel) (by decide)) ?_
  refine zw_ite ?_ ?_
  · refine Iff.trans (zw_iinc (w := 1) (ls' := [.ref 1, .int x1, .int x2, .int x3, .int x4, .int x5, .int (x6 + 1), .int y0]) (show decode cX11_plan 93 = .ok (.iinc 6 1, 3) by decide +kernel) rfl (by decide) (zset_s (Nat.le_of_ble_eq_true rfl) rfl)) ?_
    refine Iff.trans (zw_goto (t := 44) (show decode cX11_plan 96 = .ok (.goto (-52), 3) by decide +kernel) (by decide)) ?_
    exact Iff.rfl
  · refine Iff.trans (zw_iload (show decode cX11_plan 85 = .ok (.iload 6, 2) by decide +kernel) rfl) ?_
    refine Iff.trans (zw_istore (ls' := [.ref 1, .int x1, .int x2, .int x3, .int x6, .int x5, .int x6, .int y0]) (show decode cX11_plan 87 = .ok (.istore 4, 2) by decide +kernel) (zset_s (Nat.le_of_ble_eq_true rfl) rfl)) ?_
    refine Iff.trans (zw_iload (show decode cX11_plan 89 = .ok (.iload 7, 2) by decide +kernel) rfl) ?_
    refine Iff.trans (zw_istore (ls' := [.ref 1, .int x1, .int x2, .int x3, .int x6, .int y0, .int x6, .int y0]) (show decode cX11_plan 91 = .ok (.istore 5, 2) by decide +kernel) (zset_s (Nat.le_of_ble_eq_true rfl) rfl)) ?_
    refine Iff.trans (zw_iinc (w := 1) (ls' := [.ref 1, .int x1, .int x2, .int x3, .int x6, .int y0, .int (x6 + 1), .int y0]) (show decode cX11_plan 93 = .ok (.iinc 6 1, 3) by decide +kernel) rfl (by decide) (zset_s (Nat.le_of_ble_eq_true rfl) rfl)) ?_
    refine Iff.trans (zw_goto (t := 44) (show decode cX11_plan 96 = .ok (.goto (-52), 3) by decide +kernel) (by decide)) ?_
    exact Iff.rfl

theorem bX11_plan_99 {d : Nat} {σ : zS} {Q : Option Value → zS → Prop} (hl : zLay σ) {x1 x2 x3 x4 x5 x6 : Int32} {v7 : Value} (hv7 : v7.category = 1) : zW (d + 1) kX11_plan 99 [.ref 1, .int x1, .int x2, .int x3, .int x4, .int x5, .int x6, v7] [] σ Q ↔ (if x3 = (0 : Int32) then Q (some (.int x4)) σ else Q (some (.int x5)) σ) := by
  refine Iff.trans (zw_iload_n (show decode cX11_plan 99 = .ok (.iload_n 3, 1) by decide +kernel) rfl) ?_
  refine Iff.trans (zw_if_ne (t := 108) (show decode cX11_plan 100 = .ok (.ifCond .ne 8, 3) by decide +kernel) (by decide)) ?_
  refine zw_ite ?_ ?_
  · refine Iff.trans (zw_iload (show decode cX11_plan 103 = .ok (.iload 4, 2) by decide +kernel) rfl) ?_
    refine Iff.trans (zw_goto (t := 110) (show decode cX11_plan 105 = .ok (.goto 5, 3) by decide +kernel) (by decide)) ?_
    exact zw_iret1 (show decode cX11_plan 110 = .ok (.ireturn, 1) by decide +kernel) rfl
  · refine Iff.trans (zw_iload (show decode cX11_plan 108 = .ok (.iload 5, 2) by decide +kernel) rfl) ?_
    exact zw_iret1 (show decode cX11_plan 110 = .ok (.ireturn, 1) by decide +kernel) rfl

theorem bX11_fewest_0 {d : Nat} {σ : zS} {Q : Option Value → zS → Prop} (hl : zLay σ) {x1 x2 : Int32} : zCall (d + 1) kX11_fewest [.ref 1, .int x1, .int x2] σ Q ↔ zCall d kX11_findTrials [.ref 1, .int x1, .int x2] σ (fun r σ' => zisN r = true ∧ zW (d + 1) kX11_fewest 6 [.ref 1, .int x1, .int x2] (zRstk r ++ []) σ' Q) := by
  show zW (d + 1) kX11_fewest 0 [.ref 1, .int x1, .int x2] [] σ Q ↔ _
  refine Iff.trans (zw_aload_n (show decode cX11_fewest 0 = .ok (.aload_n 0, 1) by decide +kernel) rfl) ?_
  refine Iff.trans (zw_iload_n (show decode cX11_fewest 1 = .ok (.iload_n 1, 1) by decide +kernel) rfl) ?_
  refine Iff.trans (zw_iload_n (show decode cX11_fewest 2 = .ok (.iload_n 2, 1) by decide +kernel) rfl) ?_
  refine Iff.trans (zw_invV (K' := kX11_findTrials) (as' := [.int x1, .int x2]) (rest := []) (show decode cX11_fewest 3 = .ok (.invokevirtual 361, 3) by decide +kernel) (by rfl) rfl rfl rfl (hl.k2 zk_1) (by decide) (hl.n2 zk_1) ⟨Nat.le_of_ble_eq_true rfl, Nat.le_of_ble_eq_true rfl, Nat.le_of_ble_eq_true rfl⟩) ?_
  exact Iff.rfl

theorem bX11_fewest_6 {d : Nat} {σ : zS} {Q : Option Value → zS → Prop} (hl : zLay σ) {x1 x2 y0 : Int32} : zW (d + 1) kX11_fewest 6 [.ref 1, .int x1, .int x2] [.int y0] σ Q ↔ (if y0 = (0 : Int32) then Q (some (.int (-1))) σ else zCall d kX11_partPairs [.ref 1, .int x1] σ (fun r σ' => zisN r = true ∧ zW (d + 1) kX11_fewest 16 [.ref 1, .int x1, .int x2] (zRstk r ++ []) σ' Q)) := by
  refine Iff.trans (zw_if_ne (t := 11) (show decode cX11_fewest 6 = .ok (.ifCond .ne 5, 3) by decide +kernel) (by decide)) ?_
  refine zw_ite ?_ ?_
  · refine Iff.trans (zw_iconst (x := (-1)) (show decode cX11_fewest 9 = .ok (.iconst (-1), 1) by decide +kernel) (by decide)) ?_
    exact zw_iret1 (show decode cX11_fewest 10 = .ok (.ireturn, 1) by decide +kernel) rfl
  · refine Iff.trans (zw_aload_n (show decode cX11_fewest 11 = .ok (.aload_n 0, 1) by decide +kernel) rfl) ?_
    refine Iff.trans (zw_iload_n (show decode cX11_fewest 12 = .ok (.iload_n 1, 1) by decide +kernel) rfl) ?_
    refine Iff.trans (zw_invV (K' := kX11_partPairs) (as' := [.int x1]) (rest := []) (show decode cX11_fewest 13 = .ok (.invokevirtual 368, 3) by decide +kernel) (by rfl) rfl rfl rfl (hl.k2 zk_1) (by decide) (hl.n2 zk_1) ⟨Nat.le_of_ble_eq_true rfl, Nat.le_of_ble_eq_true rfl, Nat.le_of_ble_eq_true rfl⟩) ?_
    exact Iff.rfl

theorem bX11_fewest_16 {d : Nat} {σ : zS} {Q : Option Value → zS → Prop} (hl : zLay σ) {x1 x2 : Int32} : zW (d + 1) kX11_fewest 16 [.ref 1, .int x1, .int x2] [] σ Q ↔ zCall d kX9_leastSet [.ref 87] σ (fun r σ' => zisN r = true ∧ zW (d + 1) kX11_fewest 23 [.ref 1, .int x1, .int x2] (zRstk r ++ []) σ' Q) := by
  refine Iff.trans (zw_aload_n (show decode cX11_fewest 16 = .ok (.aload_n 0, 1) by decide +kernel) rfl) ?_
  refine Iff.trans (zw_get (show decode cX11_fewest 17 = .ok (.getfield 88, 3) by decide +kernel) (by decide +kernel : zfld 11 88 = some (11, 16)) (hl.k2 zk_1) (hl.n2 zk_1) (zgetR (v := 87) (hl.r zrt_1_16) rfl)) ?_
  refine Iff.trans (zw_invV (K' := kX9_leastSet) (as' := []) (rest := []) (show decode cX11_fewest 20 = .ok (.invokevirtual 379, 3) by decide +kernel) (by rfl) rfl rfl rfl (hl.k2 zk_87) (by decide) (hl.n2 zk_87) ⟨Nat.le_of_ble_eq_true rfl, Nat.le_of_ble_eq_true rfl, Nat.le_of_ble_eq_true rfl⟩) ?_
  exact Iff.rfl

theorem bX11_fewest_23 {d : Nat} {σ : zS} {Q : Option Value → zS → Prop} (hl : zLay σ) {x1 x2 y0 : Int32} : zW (d + 1) kX11_fewest 23 [.ref 1, .int x1, .int x2] [.int y0] σ Q ↔ Q (some (.int y0)) σ := by
  exact zw_iret1 (show decode cX11_fewest 23 = .ok (.ireturn, 1) by decide +kernel) rfl

theorem bX11_findTrials_0 {d : Nat} {σ : zS} {Q : Option Value → zS → Prop} (hl : zLay σ) {x1 x2 : Int32} : zCall (d + 1) kX11_findTrials [.ref 1, .int x1, .int x2] σ Q ↔ zCall d kX11_noBits [.int x1, .int (zI σ 1 2)] (zsI σ 87 (upd (zI σ 87) 3 0)) (fun r σ' => zisN r = true ∧ zW (d + 1) kX11_findTrials 16 [.ref 1, .int x1, .int x2, .retAddr 0, .retAddr 0] (zRstk r ++ []) σ' Q) := by
  show zW (d + 1) kX11_findTrials 0 [.ref 1, .int x1, .int x2, .retAddr 0, .retAddr 0] [] σ Q ↔ _
  refine Iff.trans (zw_aload_n (show decode cX11_findTrials 0 = .ok (.aload_n 0, 1) by decide +kernel) rfl) ?_
  refine Iff.trans (zw_get (show decode cX11_findTrials 1 = .ok (.getfield 88, 3) by decide +kernel) (by decide +kernel : zfld 11 88 = some (11, 16)) (hl.k2 zk_1) (hl.n2 zk_1) (zgetR (v := 87) (hl.r zrt_1_16) rfl)) ?_
  refine Iff.trans (zw_iconst (x := 0) (show decode cX11_findTrials 4 = .ok (.iconst 0, 1) by decide +kernel) (by decide)) ?_
  refine Iff.trans (zw_putI (show decode cX11_findTrials 5 = .ok (.putfield 364, 3) by decide +kernel) (by decide +kernel : zfld 11 364 = some (9, 3)) (hl.k2 zk_87) (hl.n2 zk_87) rfl (Or.inl rfl) (σ' := (zsI σ 87 (upd (zI σ 87) 3 0))) rfl) ?_
  refine Iff.trans (zw_iload_n (show decode cX11_findTrials 8 = .ok (.iload_n 1, 1) by decide +kernel) rfl) ?_
  refine Iff.trans (zw_aload_n (show decode cX11_findTrials 9 = .ok (.aload_n 0, 1) by decide +kernel) rfl) ?_
  refine Iff.trans (zw_getI (show decode cX11_findTrials 10 = .ok (.getfield 136, 3) by decide +kernel) (by decide +kernel : zfld 11 136 = some (11, 2)) (hl.I.k2 zk_1) (hl.I.n2 zk_1) (Or.inl rfl) (w := zI σ 1 2) (congrFun (zI_ne (by decide)) 2)) ?_
  refine Iff.trans (zw_invS (K' := kX11_noBits) (as := [.int x1, .int (zI σ 1 2)]) (rest := []) (show decode cX11_findTrials 13 = .ok (.invokestatic 311, 3) by decide +kernel) (by rfl) rfl rfl rfl ⟨Nat.le_of_ble_eq_true rfl, Nat.le_of_ble_eq_true rfl, Nat.le_of_ble_eq_true rfl⟩) ?_
  exact Iff.rfl

theorem bX11_findTrials_16 {d : Nat} {σ : zS} {Q : Option Value → zS → Prop} (hl : zLay σ) {x1 x2 y0 : Int32} : zW (d + 1) kX11_findTrials 16 [.ref 1, .int x1, .int x2, .retAddr 0, .retAddr 0] [.int y0] σ Q ↔ (if y0 = (0 : Int32) then zCall d kX11_noBits [.int x2, .int (zI σ 1 4)] σ (fun r σ' => zisN r = true ∧ zW (d + 1) kX11_findTrials 27 [.ref 1, .int x1, .int x2, .retAddr 0, .retAddr 0] (zRstk r ++ []) σ' Q) else Q (some (.int 0)) σ) := by
  refine Iff.trans (zw_if_ne (t := 30) (show decode cX11_findTrials 16 = .ok (.ifCond .ne 14, 3) by decide +kernel) (by decide)) ?_
  refine zw_ite ?_ ?_
  · refine Iff.trans (zw_iload_n (show decode cX11_findTrials 19 = .ok (.iload_n 2, 1) by decide +kernel) rfl) ?_
    refine Iff.trans (zw_aload_n (show decode cX11_findTrials 20 = .ok (.aload_n 0, 1) by decide +kernel) rfl) ?_
    refine Iff.trans (zw_getI (show decode cX11_findTrials 21 = .ok (.getfield 143, 3) by decide +kernel) (by decide +kernel : zfld 11 143 = some (11, 4)) (hl.k2 zk_1) (hl.n2 zk_1) (Or.inl rfl) (w := zI σ 1 4) rfl) ?_
    refine Iff.trans (zw_invS (K' := kX11_noBits) (as := [.int x2, .int (zI σ 1 4)]) (rest := []) (show decode cX11_findTrials 24 = .ok (.invokestatic 311, 3) by decide +kernel) (by rfl) rfl rfl rfl ⟨Nat.le_of_ble_eq_true rfl, Nat.le_of_ble_eq_true rfl, Nat.le_of_ble_eq_true rfl⟩) ?_
    exact Iff.rfl
  · refine Iff.trans (zw_iconst (x := 0) (show decode cX11_findTrials 30 = .ok (.iconst 0, 1) by decide +kernel) (by decide)) ?_
    exact zw_iret2c (show decode cX11_findTrials 31 = .ok (.ireturn, 1) by decide +kernel) rfl (Or.inl rfl)

theorem bX11_findTrials_27 {d : Nat} {σ : zS} {Q : Option Value → zS → Prop} (hl : zLay σ) {x1 x2 y0 : Int32} : zW (d + 1) kX11_findTrials 27 [.ref 1, .int x1, .int x2, .retAddr 0, .retAddr 0] [.int y0] σ Q ↔ (if y0 = (0 : Int32) then zW (d + 1) kX11_findTrials 34 [.ref 1, .int x1, .int x2, .int 0, .retAddr 0] [] σ Q else Q (some (.int 0)) σ) := by
  refine Iff.trans (zw_if_eq (t := 32) (show decode cX11_findTrials 27 = .ok (.ifCond .eq 5, 3) by decide +kernel) (by decide)) ?_
  refine zw_ite ?_ ?_
  · refine Iff.trans (zw_iconst (x := 0) (show decode cX11_findTrials 32 = .ok (.iconst 0, 1) by decide +kernel) (by decide)) ?_
    refine Iff.trans (zw_istore_n (ls' := [.ref 1, .int x1, .int x2, .int 0, .retAddr 0]) (show decode cX11_findTrials 33 = .ok (.istore_n 3, 1) by decide +kernel) (zset_s (Nat.le_of_ble_eq_true rfl) rfl)) ?_
    exact Iff.rfl
  · refine Iff.trans (zw_iconst (x := 0) (show decode cX11_findTrials 30 = .ok (.iconst 0, 1) by decide +kernel) (by decide)) ?_
    exact zw_iret2c (show decode cX11_findTrials 31 = .ok (.ireturn, 1) by decide +kernel) rfl (Or.inl rfl)

theorem bX11_findTrials_34 {d : Nat} {σ : zS} {Q : Option Value → zS → Prop} (hl : zLay σ) {x1 x2 x3 : Int32} {v4 : Value} (hv4 : v4.category = 1) : zW (d + 1) kX11_findTrials 34 [.ref 1, .int x1, .int x2, .int x3, v4] [] σ Q ↔ (if (zI σ 1 4) ≤ x3 then Q (some (.int 1)) σ else (if 10 ≤ x3 then Q (some (.int 1)) σ else zW (d + 1) kX11_findTrials 51 [.ref 1, .int x1, .int x2, .int x3, .int 0] [] σ Q)) := by
  refine Iff.trans (zw_iload_n (show decode cX11_findTrials 34 = .ok (.iload_n 3, 1) by decide +kernel) rfl) ?_
  refine Iff.trans (zw_aload_n (show decode cX11_findTrials 35 = .ok (.aload_n 0, 1) by decide +kernel) rfl) ?_
  refine Iff.trans (zw_getI (show decode cX11_findTrials 36 = .ok (.getfield 143, 3) by decide +kernel) (by decide +kernel : zfld 11 143 = some (11, 4)) (hl.k2 zk_1) (hl.n2 zk_1) (Or.inl rfl) (w := zI σ 1 4) rfl) ?_
  refine Iff.trans (zw_icmp_ge (t := 113) (show decode cX11_findTrials 39 = .ok (.if_icmp .ge 74, 3) by decide +kernel) (by decide)) ?_
  refine zw_ite ?_ ?_
  · refine Iff.trans (zw_iconst (x := 1) (show decode cX11_findTrials 113 = .ok (.iconst 1, 1) by decide +kernel) (by decide)) ?_
    exact zw_iret2c (show decode cX11_findTrials 114 = .ok (.ireturn, 1) by decide +kernel) rfl (Or.inr rfl)
  · refine Iff.trans (zw_iload_n (show decode cX11_findTrials 42 = .ok (.iload_n 3, 1) by decide +kernel) rfl) ?_
    refine Iff.trans (zw_bipush (x := 10) (show decode cX11_findTrials 43 = .ok (.bipush 10, 2) by decide +kernel) (by decide)) ?_
    refine Iff.trans (zw_icmp_ge (t := 113) (show decode cX11_findTrials 45 = .ok (.if_icmp .ge 68, 3) by decide +kernel) (by decide)) ?_
    refine zw_ite ?_ ?_
    · refine Iff.trans (zw_iconst (x := 1) (show decode cX11_findTrials 113 = .ok (.iconst 1, 1) by decide +kernel) (by decide)) ?_
      exact zw_iret2c (show decode cX11_findTrials 114 = .ok (.ireturn, 1) by decide +kernel) rfl (Or.inr rfl)
    · refine Iff.trans (zw_iconst (x := 0) (show decode cX11_findTrials 48 = .ok (.iconst 0, 1) by decide +kernel) (by decide)) ?_
      refine Iff.trans (zw_istore (ls' := [.ref 1, .int x1, .int x2, .int x3, .int 0]) (show decode cX11_findTrials 49 = .ok (.istore 4, 2) by decide +kernel) (zset_s (Nat.le_of_ble_eq_true rfl) rfl)) ?_
      exact Iff.rfl

theorem bX11_findTrials_51 {d : Nat} {σ : zS} {Q : Option Value → zS → Prop} (hl : zLay σ) {x1 x2 x3 x4 : Int32} : zW (d + 1) kX11_findTrials 51 [.ref 1, .int x1, .int x2, .int x3, .int x4] [] σ Q ↔ (if 6 ≤ x4 then zW (d + 1) kX11_findTrials 34 [.ref 1, .int x1, .int x2, .int (x3 + 1), .int x4] [] σ Q else zCall d kX11_hasBit [.int x2, .int x3] σ (fun r σ' => zisN r = true ∧ zW (d + 1) kX11_findTrials 63 [.ref 1, .int x1, .int x2, .int x3, .int x4] (zRstk r ++ []) σ' Q)) := by
  refine Iff.trans (zw_iload (show decode cX11_findTrials 51 = .ok (.iload 4, 2) by decide +kernel) rfl) ?_
  refine Iff.trans (zw_bipush (x := 6) (show decode cX11_findTrials 53 = .ok (.bipush 6, 2) by decide +kernel) (by decide)) ?_
  refine Iff.trans (zw_icmp_ge (t := 107) (show decode cX11_findTrials 55 = .ok (.if_icmp .ge 52, 3) by decide +kernel) (by decide)) ?_
  refine zw_ite ?_ ?_
  · refine Iff.trans (zw_iinc (w := 1) (ls' := [.ref 1, .int x1, .int x2, .int (x3 + 1), .int x4]) (show decode cX11_findTrials 107 = .ok (.iinc 3 1, 3) by decide +kernel) rfl (by decide) (zset_s (Nat.le_of_ble_eq_true rfl) rfl)) ?_
    refine Iff.trans (zw_goto (t := 34) (show decode cX11_findTrials 110 = .ok (.goto (-76), 3) by decide +kernel) (by decide)) ?_
    exact Iff.rfl
  · refine Iff.trans (zw_iload_n (show decode cX11_findTrials 58 = .ok (.iload_n 2, 1) by decide +kernel) rfl) ?_
    refine Iff.trans (zw_iload_n (show decode cX11_findTrials 59 = .ok (.iload_n 3, 1) by decide +kernel) rfl) ?_
    refine Iff.trans (zw_invS (K' := kX11_hasBit) (as := [.int x2, .int x3]) (rest := []) (show decode cX11_findTrials 60 = .ok (.invokestatic 282, 3) by decide +kernel) (by rfl) rfl rfl rfl ⟨Nat.le_of_ble_eq_true rfl, Nat.le_of_ble_eq_true rfl, Nat.le_of_ble_eq_true rfl⟩) ?_
    exact Iff.rfl

theorem bX11_findTrials_63 {d : Nat} {σ : zS} {Q : Option Value → zS → Prop} (hl : zLay σ) {x1 x2 x3 x4 y0 : Int32} : zW (d + 1) kX11_findTrials 63 [.ref 1, .int x1, .int x2, .int x3, .int x4] [.int y0] σ Q ↔ (if y0 = (0 : Int32) then zW (d + 1) kX11_findTrials 34 [.ref 1, .int x1, .int x2, .int (x3 + 1), .int x4] [] σ Q else (vp_in x3 10 ∧ zW (d + 1) kX11_findTrials 74 [.ref 1, .int x1, .int x2, .int x3, .int x4] (va_rf (zR σ 5 (x3 : Int32).toNatClampNeg) :: [.int x1, .ref 1]) σ Q)) := by
  refine Iff.trans (zw_if_eq (t := 107) (show decode cX11_findTrials 63 = .ok (.ifCond .eq 44, 3) by decide +kernel) (by decide)) ?_
  refine zw_ite ?_ ?_
  · refine Iff.trans (zw_iinc (w := 1) (ls' := [.ref 1, .int x1, .int x2, .int (x3 + 1), .int x4]) (show decode cX11_findTrials 107 = .ok (.iinc 3 1, 3) by decide +kernel) rfl (by decide) (zset_s (Nat.le_of_ble_eq_true rfl) rfl)) ?_
    refine Iff.trans (zw_goto (t := 34) (show decode cX11_findTrials 110 = .ok (.goto (-76), 3) by decide +kernel) (by decide)) ?_
    exact Iff.rfl
  · refine Iff.trans (zw_aload_n (show decode cX11_findTrials 66 = .ok (.aload_n 0, 1) by decide +kernel) rfl) ?_
    refine Iff.trans (zw_iload_n (show decode cX11_findTrials 67 = .ok (.iload_n 1, 1) by decide +kernel) rfl) ?_
    refine Iff.trans (zw_aload_n (show decode cX11_findTrials 68 = .ok (.aload_n 0, 1) by decide +kernel) rfl) ?_
    refine Iff.trans (zw_get (show decode cX11_findTrials 69 = .ok (.getfield 24, 3) by decide +kernel) (by decide +kernel : zfld 11 24 = some (11, 3)) (hl.k2 zk_1) (hl.n2 zk_1) (zgetR (v := 5) (hl.r zrt_1_3) rfl)) ?_
    refine Iff.trans (zw_iload_n (show decode cX11_findTrials 72 = .ok (.iload_n 3, 1) by decide +kernel) rfl) ?_
    refine Iff.trans (zw_aald (show decode cX11_findTrials 73 = .ok (.aaload, 1) by decide +kernel) (by rw [(hl.k2 zk_5)]; decide) (hl.n2 zk_5) (hl.l2 zk_5 zl_5)) ?_
    refine zw_and ?_
    exact Iff.rfl

theorem bX11_findTrials_74 {d : Nat} {σ : zS} {Q : Option Value → zS → Prop} (hl : zLay σ) {x1 x2 x3 x4 y1 : Int32} {b0 : Nat} (hb0 : zk b0 = 6) : zW (d + 1) kX11_findTrials 74 [.ref 1, .int x1, .int x2, .int x3, .int x4] [.ref b0, .int y1, .ref 1] σ Q ↔ zCall d kX11_liesOnAll [.ref 1, .int y1, .ref b0, .int x4] σ (fun r σ' => zisN r = true ∧ zW (d + 1) kX11_findTrials 79 [.ref 1, .int x1, .int x2, .int x3, .int x4] (zRstk r ++ []) σ' Q) := by
  refine Iff.trans (zw_iload (show decode cX11_findTrials 74 = .ok (.iload 4, 2) by decide +kernel) rfl) ?_
  refine Iff.trans (zw_invV (K' := kX11_liesOnAll) (as' := [.int y1, .ref b0, .int x4]) (rest := []) (show decode cX11_findTrials 76 = .ok (.invokevirtual 382, 3) by decide +kernel) (by rfl) rfl rfl rfl (hl.k2 zk_1) (by decide) (hl.n2 zk_1) ⟨Nat.le_of_ble_eq_true rfl, Nat.le_of_ble_eq_true rfl, Nat.le_of_ble_eq_true rfl⟩) ?_
  exact Iff.rfl

theorem bX11_findTrials_79 {d : Nat} {σ : zS} {Q : Option Value → zS → Prop} (hl : zLay σ) {x1 x2 x3 x4 y0 : Int32} : zW (d + 1) kX11_findTrials 79 [.ref 1, .int x1, .int x2, .int x3, .int x4] [.int y0] σ Q ↔ (if y0 = (0 : Int32) then zW (d + 1) kX11_findTrials 51 [.ref 1, .int x1, .int x2, .int x3, .int (x4 + 1)] [] σ Q else zCall d kX9_add [.ref 87, .int ((16 * x3) + x4)] σ (fun r σ' => zisN r = true ∧ zW (d + 1) kX11_findTrials 96 [.ref 1, .int x1, .int x2, .int x3, .int x4] (zRstk r ++ []) σ' Q)) := by
  refine Iff.trans (zw_if_eq (t := 101) (show decode cX11_findTrials 79 = .ok (.ifCond .eq 22, 3) by decide +kernel) (by decide)) ?_
  refine zw_ite ?_ ?_
  · refine Iff.trans (zw_iinc (w := 1) (ls' := [.ref 1, .int x1, .int x2, .int x3, .int (x4 + 1)]) (show decode cX11_findTrials 101 = .ok (.iinc 4 1, 3) by decide +kernel) rfl (by decide) (zset_s (Nat.le_of_ble_eq_true rfl) rfl)) ?_
    refine Iff.trans (zw_goto (t := 51) (show decode cX11_findTrials 104 = .ok (.goto (-53), 3) by decide +kernel) (by decide)) ?_
    exact Iff.rfl
  · refine Iff.trans (zw_aload_n (show decode cX11_findTrials 82 = .ok (.aload_n 0, 1) by decide +kernel) rfl) ?_
    refine Iff.trans (zw_get (show decode cX11_findTrials 83 = .ok (.getfield 88, 3) by decide +kernel) (by decide +kernel : zfld 11 88 = some (11, 16)) (hl.k2 zk_1) (hl.n2 zk_1) (zgetR (v := 87) (hl.r zrt_1_16) rfl)) ?_
    refine Iff.trans (zw_bipush (x := 16) (show decode cX11_findTrials 86 = .ok (.bipush 16, 2) by decide +kernel) (by decide)) ?_
    refine Iff.trans (zw_iload_n (show decode cX11_findTrials 88 = .ok (.iload_n 3, 1) by decide +kernel) rfl) ?_
    refine Iff.trans (zw_imul (show decode cX11_findTrials 89 = .ok (.imul, 1) by decide +kernel)) ?_
    refine Iff.trans (zw_iload (show decode cX11_findTrials 90 = .ok (.iload 4, 2) by decide +kernel) rfl) ?_
    refine Iff.trans (zw_iadd (show decode cX11_findTrials 92 = .ok (.iadd, 1) by decide +kernel)) ?_
    refine Iff.trans (zw_invV (K' := kX9_add) (as' := [.int ((16 * x3) + x4)]) (rest := []) (show decode cX11_findTrials 93 = .ok (.invokevirtual 386, 3) by decide +kernel) (by rfl) rfl rfl rfl (hl.k2 zk_87) (by decide) (hl.n2 zk_87) ⟨Nat.le_of_ble_eq_true rfl, Nat.le_of_ble_eq_true rfl, Nat.le_of_ble_eq_true rfl⟩) ?_
    exact Iff.rfl

theorem bX11_findTrials_96 {d : Nat} {σ : zS} {Q : Option Value → zS → Prop} (hl : zLay σ) {x1 x2 x3 x4 y0 : Int32} : zW (d + 1) kX11_findTrials 96 [.ref 1, .int x1, .int x2, .int x3, .int x4] [.int y0] σ Q ↔ (if y0 = (0 : Int32) then Q (some (.int 0)) σ else zW (d + 1) kX11_findTrials 51 [.ref 1, .int x1, .int x2, .int x3, .int (x4 + 1)] [] σ Q) := by
  refine Iff.trans (zw_if_ne (t := 101) (show decode cX11_findTrials 96 = .ok (.ifCond .ne 5, 3) by decide +kernel) (by decide)) ?_
  refine zw_ite ?_ ?_
  · refine Iff.trans (zw_iconst (x := 0) (show decode cX11_findTrials 99 = .ok (.iconst 0, 1) by decide +kernel) (by decide)) ?_
    exact zw_iret2c (show decode cX11_findTrials 100 = .ok (.ireturn, 1) by decide +kernel) rfl (Or.inl rfl)
  · refine Iff.trans (zw_iinc (w := 1) (ls' := [.ref 1, .int x1, .int x2, .int x3, .int (x4 + 1)]) (show decode cX11_findTrials 101 = .ok (.iinc 4 1, 3) by decide +kernel) rfl (by decide) (zset_s (Nat.le_of_ble_eq_true rfl) rfl)) ?_
    refine Iff.trans (zw_goto (t := 51) (show decode cX11_findTrials 104 = .ok (.goto (-53), 3) by decide +kernel) (by decide)) ?_
    exact Iff.rfl

theorem bX11_liesOnAll_0 {d : Nat} {σ : zS} {Q : Option Value → zS → Prop} (hl : zLay σ) {x1 x3 : Int32} {a2 : Nat} (ha2 : zk a2 = 6) : zCall (d + 1) kX11_liesOnAll [.ref 1, .int x1, .ref a2, .int x3] σ Q ↔ zW (d + 1) kX11_liesOnAll 3 [.ref 1, .int x1, .ref a2, .int x3, .int 0] [] σ Q := by
  show zW (d + 1) kX11_liesOnAll 0 [.ref 1, .int x1, .ref a2, .int x3, .retAddr 0] [] σ Q ↔ _
  refine Iff.trans (zw_iconst (x := 0) (show decode cX11_liesOnAll 0 = .ok (.iconst 0, 1) by decide +kernel) (by decide)) ?_
  refine Iff.trans (zw_istore (ls' := [.ref 1, .int x1, .ref a2, .int x3, .int 0]) (show decode cX11_liesOnAll 1 = .ok (.istore 4, 2) by decide +kernel) (zset_s (Nat.le_of_ble_eq_true rfl) rfl)) ?_
  exact Iff.rfl

theorem bX11_liesOnAll_3 {d : Nat} {σ : zS} {Q : Option Value → zS → Prop} (hl : zLay σ) {x1 x3 x4 : Int32} {a2 : Nat} (ha2 : zk a2 = 6) : zW (d + 1) kX11_liesOnAll 3 [.ref 1, .int x1, .ref a2, .int x3, .int x4] [] σ Q ↔ (if (zI σ 1 2) ≤ x4 then Q (some (.int 1)) σ else (if 6 ≤ x4 then Q (some (.int 1)) σ else zCall d kX11_hasBit [.int x1, .int x4] σ (fun r σ' => zisN r = true ∧ zW (d + 1) kX11_liesOnAll 25 [.ref 1, .int x1, .ref a2, .int x3, .int x4] (zRstk r ++ []) σ' Q))) := by
  refine Iff.trans (zw_iload (show decode cX11_liesOnAll 3 = .ok (.iload 4, 2) by decide +kernel) rfl) ?_
  refine Iff.trans (zw_aload_n (show decode cX11_liesOnAll 5 = .ok (.aload_n 0, 1) by decide +kernel) rfl) ?_
  refine Iff.trans (zw_getI (show decode cX11_liesOnAll 6 = .ok (.getfield 136, 3) by decide +kernel) (by decide +kernel : zfld 11 136 = some (11, 2)) (hl.k2 zk_1) (hl.n2 zk_1) (Or.inl rfl) (w := zI σ 1 2) rfl) ?_
  refine Iff.trans (zw_icmp_ge (t := 59) (show decode cX11_liesOnAll 9 = .ok (.if_icmp .ge 50, 3) by decide +kernel) (by decide)) ?_
  refine zw_ite ?_ ?_
  · refine Iff.trans (zw_iconst (x := 1) (show decode cX11_liesOnAll 59 = .ok (.iconst 1, 1) by decide +kernel) (by decide)) ?_
    exact zw_iret2c (show decode cX11_liesOnAll 60 = .ok (.ireturn, 1) by decide +kernel) rfl (Or.inr rfl)
  · refine Iff.trans (zw_iload (show decode cX11_liesOnAll 12 = .ok (.iload 4, 2) by decide +kernel) rfl) ?_
    refine Iff.trans (zw_bipush (x := 6) (show decode cX11_liesOnAll 14 = .ok (.bipush 6, 2) by decide +kernel) (by decide)) ?_
    refine Iff.trans (zw_icmp_ge (t := 59) (show decode cX11_liesOnAll 16 = .ok (.if_icmp .ge 43, 3) by decide +kernel) (by decide)) ?_
    refine zw_ite ?_ ?_
    · refine Iff.trans (zw_iconst (x := 1) (show decode cX11_liesOnAll 59 = .ok (.iconst 1, 1) by decide +kernel) (by decide)) ?_
      exact zw_iret2c (show decode cX11_liesOnAll 60 = .ok (.ireturn, 1) by decide +kernel) rfl (Or.inr rfl)
    · refine Iff.trans (zw_iload_n (show decode cX11_liesOnAll 19 = .ok (.iload_n 1, 1) by decide +kernel) rfl) ?_
      refine Iff.trans (zw_iload (show decode cX11_liesOnAll 20 = .ok (.iload 4, 2) by decide +kernel) rfl) ?_
      refine Iff.trans (zw_invS (K' := kX11_hasBit) (as := [.int x1, .int x4]) (rest := []) (show decode cX11_liesOnAll 22 = .ok (.invokestatic 282, 3) by decide +kernel) (by rfl) rfl rfl rfl ⟨Nat.le_of_ble_eq_true rfl, Nat.le_of_ble_eq_true rfl, Nat.le_of_ble_eq_true rfl⟩) ?_
      exact Iff.rfl

theorem bX11_liesOnAll_25 {d : Nat} {σ : zS} {Q : Option Value → zS → Prop} (hl : zLay σ) {x1 x3 x4 y0 : Int32} {a2 : Nat} (ha2 : zk a2 = 6) : zW (d + 1) kX11_liesOnAll 25 [.ref 1, .int x1, .ref a2, .int x3, .int x4] [.int y0] σ Q ↔ (if y0 = (0 : Int32) then zW (d + 1) kX11_liesOnAll 3 [.ref 1, .int x1, .ref a2, .int x3, .int (x4 + 1)] [] σ Q else (vp_in x4 6 ∧ zW (d + 1) kX11_liesOnAll 35 [.ref 1, .int x1, .ref a2, .int x3, .int x4] (va_rf (zR σ 4 (x4 : Int32).toNatClampNeg) :: []) σ Q)) := by
  refine Iff.trans (zw_if_eq (t := 53) (show decode cX11_liesOnAll 25 = .ok (.ifCond .eq 28, 3) by decide +kernel) (by decide)) ?_
  refine zw_ite ?_ ?_
  · refine Iff.trans (zw_iinc (w := 1) (ls' := [.ref 1, .int x1, .ref a2, .int x3, .int (x4 + 1)]) (show decode cX11_liesOnAll 53 = .ok (.iinc 4 1, 3) by decide +kernel) rfl (by decide) (zset_s (Nat.le_of_ble_eq_true rfl) rfl)) ?_
    refine Iff.trans (zw_goto (t := 3) (show decode cX11_liesOnAll 56 = .ok (.goto (-53), 3) by decide +kernel) (by decide)) ?_
    exact Iff.rfl
  · refine Iff.trans (zw_aload_n (show decode cX11_liesOnAll 28 = .ok (.aload_n 0, 1) by decide +kernel) rfl) ?_
    refine Iff.trans (zw_get (show decode cX11_liesOnAll 29 = .ok (.getfield 18, 3) by decide +kernel) (by decide +kernel : zfld 11 18 = some (11, 1)) (hl.k2 zk_1) (hl.n2 zk_1) (zgetR (v := 4) (hl.r zrt_1_1) rfl)) ?_
    refine Iff.trans (zw_iload (show decode cX11_liesOnAll 32 = .ok (.iload 4, 2) by decide +kernel) rfl) ?_
    refine Iff.trans (zw_aald (show decode cX11_liesOnAll 34 = .ok (.aaload, 1) by decide +kernel) (by rw [(hl.k2 zk_4)]; decide) (hl.n2 zk_4) (hl.l2 zk_4 zl_4)) ?_
    refine zw_and ?_
    exact Iff.rfl

theorem bX11_liesOnAll_35 {d : Nat} {σ : zS} {Q : Option Value → zS → Prop} (hl : zLay σ) {x1 x3 x4 : Int32} {a2 b0 : Nat} (ha2 : zk a2 = 6) (hb0 : zk b0 = 0) : zW (d + 1) kX11_liesOnAll 35 [.ref 1, .int x1, .ref a2, .int x3, .int x4] [.ref b0] σ Q ↔ zCall d kX0_holds [.ref b0, .ref a2, .int 0, .int x3, .int (zI σ 10 1)] σ (fun r σ' => zisN r = true ∧ zW (d + 1) kX11_liesOnAll 48 [.ref 1, .int x1, .ref a2, .int x3, .int x4] (zRstk r ++ []) σ' Q) := by
  refine Iff.trans (zw_aload_n (show decode cX11_liesOnAll 35 = .ok (.aload_n 2, 1) by decide +kernel) rfl) ?_
  refine Iff.trans (zw_iconst (x := 0) (show decode cX11_liesOnAll 36 = .ok (.iconst 0, 1) by decide +kernel) (by decide)) ?_
  refine Iff.trans (zw_iload_n (show decode cX11_liesOnAll 37 = .ok (.iload_n 3, 1) by decide +kernel) rfl) ?_
  refine Iff.trans (zw_aload_n (show decode cX11_liesOnAll 38 = .ok (.aload_n 0, 1) by decide +kernel) rfl) ?_
  refine Iff.trans (zw_get (show decode cX11_liesOnAll 39 = .ok (.getfield 38, 3) by decide +kernel) (by decide +kernel : zfld 11 38 = some (11, 6)) (hl.k2 zk_1) (hl.n2 zk_1) (zgetR (v := 10) (hl.r zrt_1_6) rfl)) ?_
  refine Iff.trans (zw_getI (show decode cX11_liesOnAll 42 = .ok (.getfield 180, 3) by decide +kernel) (by decide +kernel : zfld 11 180 = some (10, 1)) (hl.k2 zk_10) (hl.n2 zk_10) (Or.inl rfl) (w := zI σ 10 1) rfl) ?_
  refine Iff.trans (zw_invV (K' := kX0_holds) (as' := [.ref a2, .int 0, .int x3, .int (zI σ 10 1)]) (rest := []) (show decode cX11_liesOnAll 45 = .ok (.invokevirtual 196, 3) by decide +kernel) (by rfl) rfl rfl rfl (hl.k2 hb0) (by decide) (hl.n2 hb0) ⟨Nat.le_of_ble_eq_true rfl, Nat.le_of_ble_eq_true rfl, Nat.le_of_ble_eq_true rfl⟩) ?_
  exact Iff.rfl

theorem bX11_liesOnAll_48 {d : Nat} {σ : zS} {Q : Option Value → zS → Prop} (hl : zLay σ) {x1 x3 x4 y0 : Int32} {a2 : Nat} (ha2 : zk a2 = 6) : zW (d + 1) kX11_liesOnAll 48 [.ref 1, .int x1, .ref a2, .int x3, .int x4] [.int y0] σ Q ↔ (if y0 = (0 : Int32) then Q (some (.int 0)) σ else zW (d + 1) kX11_liesOnAll 3 [.ref 1, .int x1, .ref a2, .int x3, .int (x4 + 1)] [] σ Q) := by
  refine Iff.trans (zw_if_ne (t := 53) (show decode cX11_liesOnAll 48 = .ok (.ifCond .ne 5, 3) by decide +kernel) (by decide)) ?_
  refine zw_ite ?_ ?_
  · refine Iff.trans (zw_iconst (x := 0) (show decode cX11_liesOnAll 51 = .ok (.iconst 0, 1) by decide +kernel) (by decide)) ?_
    exact zw_iret2c (show decode cX11_liesOnAll 52 = .ok (.ireturn, 1) by decide +kernel) rfl (Or.inl rfl)
  · refine Iff.trans (zw_iinc (w := 1) (ls' := [.ref 1, .int x1, .ref a2, .int x3, .int (x4 + 1)]) (show decode cX11_liesOnAll 53 = .ok (.iinc 4 1, 3) by decide +kernel) rfl (by decide) (zset_s (Nat.le_of_ble_eq_true rfl) rfl)) ?_
    refine Iff.trans (zw_goto (t := 3) (show decode cX11_liesOnAll 56 = .ok (.goto (-53), 3) by decide +kernel) (by decide)) ?_
    exact Iff.rfl

theorem bX11_partPairs_0 {d : Nat} {σ : zS} {Q : Option Value → zS → Prop} (hl : zLay σ) {x1 : Int32} : zCall (d + 1) kX11_partPairs [.ref 1, .int x1] σ Q ↔ zW (d + 1) kX11_partPairs 2 [.ref 1, .int x1, .int 0, .retAddr 0, .retAddr 0, .retAddr 0, .retAddr 0] [] σ Q := by
  show zW (d + 1) kX11_partPairs 0 [.ref 1, .int x1, .retAddr 0, .retAddr 0, .retAddr 0, .retAddr 0, .retAddr 0] [] σ Q ↔ _
  refine Iff.trans (zw_iconst (x := 0) (show decode cX11_partPairs 0 = .ok (.iconst 0, 1) by decide +kernel) (by decide)) ?_
  refine Iff.trans (zw_istore_n (ls' := [.ref 1, .int x1, .int 0, .retAddr 0, .retAddr 0, .retAddr 0, .retAddr 0]) (show decode cX11_partPairs 1 = .ok (.istore_n 2, 1) by decide +kernel) (zset_s (Nat.le_of_ble_eq_true rfl) rfl)) ?_
  exact Iff.rfl

theorem bX11_partPairs_2 {d : Nat} {σ : zS} {Q : Option Value → zS → Prop} (hl : zLay σ) {x1 x2 : Int32} {v3 v4 v5 v6 : Value} (hv3 : v3.category = 1) (hv4 : v4.category = 1) (hv5 : v5.category = 1) (hv6 : v6.category = 1) : zW (d + 1) kX11_partPairs 2 [.ref 1, .int x1, .int x2, v3, v4, v5, v6] [] σ Q ↔ (if (zI σ 87 3) ≤ x2 then Q none σ else (if 12 ≤ x2 then Q none σ else (vp_in x2 12 ∧ (¬ 16 = (0 : Int32) ∧ (vp_in x2 12 ∧ (¬ 16 = (0 : Int32) ∧ zW (d + 1) kX11_partPairs 49 [.ref 1, .int x1, .int x2, .int ((zI σ 88 (x2 : Int32).toNatClampNeg) / 16), .int ((zI σ 88 (x2 : Int32).toNatClampNeg) - (zI σ 88 (x2 : Int32).toNatClampNeg) / 16 * 16), .int 0, v6] [] σ Q)))))) := by
  refine Iff.trans (zw_iload_n (show decode cX11_partPairs 2 = .ok (.iload_n 2, 1) by decide +kernel) rfl) ?_
  refine Iff.trans (zw_aload_n (show decode cX11_partPairs 3 = .ok (.aload_n 0, 1) by decide +kernel) rfl) ?_
  refine Iff.trans (zw_get (show decode cX11_partPairs 4 = .ok (.getfield 88, 3) by decide +kernel) (by decide +kernel : zfld 11 88 = some (11, 16)) (hl.k2 zk_1) (hl.n2 zk_1) (zgetR (v := 87) (hl.r zrt_1_16) rfl)) ?_
  refine Iff.trans (zw_getI (show decode cX11_partPairs 7 = .ok (.getfield 364, 3) by decide +kernel) (by decide +kernel : zfld 11 364 = some (9, 3)) (hl.k2 zk_87) (hl.n2 zk_87) (Or.inl rfl) (w := zI σ 87 3) rfl) ?_
  refine Iff.trans (zw_icmp_ge (t := 149) (show decode cX11_partPairs 10 = .ok (.if_icmp .ge 139, 3) by decide +kernel) (by decide)) ?_
  refine zw_ite ?_ ?_
  · exact zw_ret (show decode cX11_partPairs 149 = .ok (.return_, 1) by decide +kernel) rfl
  · refine Iff.trans (zw_iload_n (show decode cX11_partPairs 13 = .ok (.iload_n 2, 1) by decide +kernel) rfl) ?_
    refine Iff.trans (zw_bipush (x := 12) (show decode cX11_partPairs 14 = .ok (.bipush 12, 2) by decide +kernel) (by decide)) ?_
    refine Iff.trans (zw_icmp_ge (t := 149) (show decode cX11_partPairs 16 = .ok (.if_icmp .ge 133, 3) by decide +kernel) (by decide)) ?_
    refine zw_ite ?_ ?_
    · exact zw_ret (show decode cX11_partPairs 149 = .ok (.return_, 1) by decide +kernel) rfl
    · refine Iff.trans (zw_aload_n (show decode cX11_partPairs 19 = .ok (.aload_n 0, 1) by decide +kernel) rfl) ?_
      refine Iff.trans (zw_get (show decode cX11_partPairs 20 = .ok (.getfield 88, 3) by decide +kernel) (by decide +kernel : zfld 11 88 = some (11, 16)) (hl.k2 zk_1) (hl.n2 zk_1) (zgetR (v := 87) (hl.r zrt_1_16) rfl)) ?_
      refine Iff.trans (zw_get (show decode cX11_partPairs 23 = .ok (.getfield 365, 3) by decide +kernel) (by decide +kernel : zfld 11 365 = some (9, 0)) (hl.k2 zk_87) (hl.n2 zk_87) (zgetR (v := 88) (hl.r zrt_87_0) rfl)) ?_
      refine Iff.trans (zw_iload_n (show decode cX11_partPairs 26 = .ok (.iload_n 2, 1) by decide +kernel) rfl) ?_
      refine Iff.trans (zw_iald2 (show decode cX11_partPairs 27 = .ok (.iaload, 1) by decide +kernel) (hl.k2 zk_88) (hl.n2 zk_88) (hl.l2 zk_88 zl_88) (w := zI σ 88 (x2 : Int32).toNatClampNeg) rfl) ?_
      refine zw_and ?_
      refine Iff.trans (zw_bipush (x := 16) (show decode cX11_partPairs 28 = .ok (.bipush 16, 2) by decide +kernel) (by decide)) ?_
      refine Iff.trans (zw_idiv (show decode cX11_partPairs 30 = .ok (.idiv, 1) by decide +kernel)) ?_
      refine zw_and ?_
      refine Iff.trans (zw_istore_n (ls' := [.ref 1, .int x1, .int x2, .int ((zI σ 88 (x2 : Int32).toNatClampNeg) / 16), v4, v5, v6]) (show decode cX11_partPairs 31 = .ok (.istore_n 3, 1) by decide +kernel) (zset_s (Nat.le_of_ble_eq_true rfl) rfl)) ?_
      refine Iff.trans (zw_aload_n (show decode cX11_partPairs 32 = .ok (.aload_n 0, 1) by decide +kernel) rfl) ?_
      refine Iff.trans (zw_get (show decode cX11_partPairs 33 = .ok (.getfield 88, 3) by decide +kernel) (by decide +kernel : zfld 11 88 = some (11, 16)) (hl.k2 zk_1) (hl.n2 zk_1) (zgetR (v := 87) (hl.r zrt_1_16) rfl)) ?_
      refine Iff.trans (zw_get (show decode cX11_partPairs 36 = .ok (.getfield 365, 3) by decide +kernel) (by decide +kernel : zfld 11 365 = some (9, 0)) (hl.k2 zk_87) (hl.n2 zk_87) (zgetR (v := 88) (hl.r zrt_87_0) rfl)) ?_
      refine Iff.trans (zw_iload_n (show decode cX11_partPairs 39 = .ok (.iload_n 2, 1) by decide +kernel) rfl) ?_
      refine Iff.trans (zw_iald2 (show decode cX11_partPairs 40 = .ok (.iaload, 1) by decide +kernel) (hl.k2 zk_88) (hl.n2 zk_88) (hl.l2 zk_88 zl_88) (w := zI σ 88 (x2 : Int32).toNatClampNeg) rfl) ?_
      refine zw_and ?_
      refine Iff.trans (zw_bipush (x := 16) (show decode cX11_partPairs 41 = .ok (.bipush 16, 2) by decide +kernel) (by decide)) ?_
      refine Iff.trans (zw_irem (show decode cX11_partPairs 43 = .ok (.irem, 1) by decide +kernel)) ?_
      refine zw_and ?_
      refine Iff.trans (zw_istore (ls' := [.ref 1, .int x1, .int x2, .int ((zI σ 88 (x2 : Int32).toNatClampNeg) / 16), .int ((zI σ 88 (x2 : Int32).toNatClampNeg) - (zI σ 88 (x2 : Int32).toNatClampNeg) / 16 * 16), v5, v6]) (show decode cX11_partPairs 44 = .ok (.istore 4, 2) by decide +kernel) (zset_s (Nat.le_of_ble_eq_true rfl) rfl)) ?_
      refine Iff.trans (zw_iconst (x := 0) (show decode cX11_partPairs 46 = .ok (.iconst 0, 1) by decide +kernel) (by decide)) ?_
      refine Iff.trans (zw_istore (ls' := [.ref 1, .int x1, .int x2, .int ((zI σ 88 (x2 : Int32).toNatClampNeg) / 16), .int ((zI σ 88 (x2 : Int32).toNatClampNeg) - (zI σ 88 (x2 : Int32).toNatClampNeg) / 16 * 16), .int 0, v6]) (show decode cX11_partPairs 47 = .ok (.istore 5, 2) by decide +kernel) (zset_s (Nat.le_of_ble_eq_true rfl) rfl)) ?_
      exact Iff.rfl

theorem bX11_partPairs_49 {d : Nat} {σ : zS} {Q : Option Value → zS → Prop} (hl : zLay σ) {x1 x2 x3 x4 x5 : Int32} {v6 : Value} (hv6 : v6.category = 1) : zW (d + 1) kX11_partPairs 49 [.ref 1, .int x1, .int x2, .int x3, .int x4, .int x5, v6] [] σ Q ↔ (if (zI σ 1 2) ≤ x5 then zW (d + 1) kX11_partPairs 134 [.ref 1, .int x1, .int x2, .int x3, .int x4, .int x5, v6] [] σ Q else (if 6 ≤ x5 then zW (d + 1) kX11_partPairs 134 [.ref 1, .int x1, .int x2, .int x3, .int x4, .int x5, v6] [] σ Q else zCall d kX11_hasBit [.int x1, .int x5] σ (fun r σ' => zisN r = true ∧ zW (d + 1) kX11_partPairs 71 [.ref 1, .int x1, .int x2, .int x3, .int x4, .int x5, v6] (zRstk r ++ []) σ' Q))) := by
  refine Iff.trans (zw_iload (show decode cX11_partPairs 49 = .ok (.iload 5, 2) by decide +kernel) rfl) ?_
  refine Iff.trans (zw_aload_n (show decode cX11_partPairs 51 = .ok (.aload_n 0, 1) by decide +kernel) rfl) ?_
  refine Iff.trans (zw_getI (show decode cX11_partPairs 52 = .ok (.getfield 136, 3) by decide +kernel) (by decide +kernel : zfld 11 136 = some (11, 2)) (hl.k2 zk_1) (hl.n2 zk_1) (Or.inl rfl) (w := zI σ 1 2) rfl) ?_
  refine Iff.trans (zw_icmp_ge (t := 134) (show decode cX11_partPairs 55 = .ok (.if_icmp .ge 79, 3) by decide +kernel) (by decide)) ?_
  refine zw_ite ?_ ?_
  · exact Iff.rfl
  · refine Iff.trans (zw_iload (show decode cX11_partPairs 58 = .ok (.iload 5, 2) by decide +kernel) rfl) ?_
    refine Iff.trans (zw_bipush (x := 6) (show decode cX11_partPairs 60 = .ok (.bipush 6, 2) by decide +kernel) (by decide)) ?_
    refine Iff.trans (zw_icmp_ge (t := 134) (show decode cX11_partPairs 62 = .ok (.if_icmp .ge 72, 3) by decide +kernel) (by decide)) ?_
    refine zw_ite ?_ ?_
    · exact Iff.rfl
    · refine Iff.trans (zw_iload_n (show decode cX11_partPairs 65 = .ok (.iload_n 1, 1) by decide +kernel) rfl) ?_
      refine Iff.trans (zw_iload (show decode cX11_partPairs 66 = .ok (.iload 5, 2) by decide +kernel) rfl) ?_
      refine Iff.trans (zw_invS (K' := kX11_hasBit) (as := [.int x1, .int x5]) (rest := []) (show decode cX11_partPairs 68 = .ok (.invokestatic 282, 3) by decide +kernel) (by rfl) rfl rfl rfl ⟨Nat.le_of_ble_eq_true rfl, Nat.le_of_ble_eq_true rfl, Nat.le_of_ble_eq_true rfl⟩) ?_
      exact Iff.rfl

theorem bX11_partPairs_71 {d : Nat} {σ : zS} {Q : Option Value → zS → Prop} (hl : zLay σ) {x1 x2 x3 x4 x5 y0 : Int32} {v6 : Value} (hv6 : v6.category = 1) : zW (d + 1) kX11_partPairs 71 [.ref 1, .int x1, .int x2, .int x3, .int x4, .int x5, v6] [.int y0] σ Q ↔ (if y0 = (0 : Int32) then zW (d + 1) kX11_partPairs 86 [.ref 1, .int x1, .int x2, .int x3, .int x4, .int x5, v6] [] σ Q else zCall d kX11_noStick [.ref 1, .int x3] σ (fun r σ' => zisN r = true ∧ zW (d + 1) kX11_partPairs 79 [.ref 1, .int x1, .int x2, .int x3, .int x4, .int x5, v6] (zRstk r ++ []) σ' Q)) := by
  refine Iff.trans (zw_if_eq (t := 86) (show decode cX11_partPairs 71 = .ok (.ifCond .eq 15, 3) by decide +kernel) (by decide)) ?_
  refine zw_ite ?_ ?_
  · exact Iff.rfl
  · refine Iff.trans (zw_aload_n (show decode cX11_partPairs 74 = .ok (.aload_n 0, 1) by decide +kernel) rfl) ?_
    refine Iff.trans (zw_iload_n (show decode cX11_partPairs 75 = .ok (.iload_n 3, 1) by decide +kernel) rfl) ?_
    refine Iff.trans (zw_invV (K' := kX11_noStick) (as' := [.int x3]) (rest := []) (show decode cX11_partPairs 76 = .ok (.invokevirtual 187, 3) by decide +kernel) (by rfl) rfl rfl rfl (hl.k2 zk_1) (by decide) (hl.n2 zk_1) ⟨Nat.le_of_ble_eq_true rfl, Nat.le_of_ble_eq_true rfl, Nat.le_of_ble_eq_true rfl⟩) ?_
    exact Iff.rfl

theorem bX11_partPairs_79 {d : Nat} {σ : zS} {Q : Option Value → zS → Prop} (hl : zLay σ) {x1 x2 x3 x4 x5 y0 : Int32} {v6 : Value} (hv6 : v6.category = 1) : zW (d + 1) kX11_partPairs 79 [.ref 1, .int x1, .int x2, .int x3, .int x4, .int x5, v6] [.int y0] σ Q ↔ (if y0 = (0 : Int32) then zW (d + 1) kX11_partPairs 87 [.ref 1, .int x1, .int x2, .int x3, .int x4, .int x5, v6] [.int 1] σ Q else zW (d + 1) kX11_partPairs 86 [.ref 1, .int x1, .int x2, .int x3, .int x4, .int x5, v6] [] σ Q) := by
  refine Iff.trans (zw_if_ne (t := 86) (show decode cX11_partPairs 79 = .ok (.ifCond .ne 7, 3) by decide +kernel) (by decide)) ?_
  refine zw_ite ?_ ?_
  · refine Iff.trans (zw_iconst (x := 1) (show decode cX11_partPairs 82 = .ok (.iconst 1, 1) by decide +kernel) (by decide)) ?_
    refine Iff.trans (zw_goto (t := 87) (show decode cX11_partPairs 83 = .ok (.goto 4, 3) by decide +kernel) (by decide)) ?_
    exact Iff.rfl
  · exact Iff.rfl

theorem bX11_partPairs_86 {d : Nat} {σ : zS} {Q : Option Value → zS → Prop} (hl : zLay σ) {x1 x2 x3 x4 x5 : Int32} {v6 : Value} (hv6 : v6.category = 1) : zW (d + 1) kX11_partPairs 86 [.ref 1, .int x1, .int x2, .int x3, .int x4, .int x5, v6] [] σ Q ↔ zW (d + 1) kX11_partPairs 87 [.ref 1, .int x1, .int x2, .int x3, .int x4, .int x5, v6] [.int 0] σ Q := by
  refine Iff.trans (zw_iconst (x := 0) (show decode cX11_partPairs 86 = .ok (.iconst 0, 1) by decide +kernel) (by decide)) ?_
  exact Iff.rfl

theorem bX11_partPairs_87 {d : Nat} {σ : zS} {Q : Option Value → zS → Prop} (hl : zLay σ) {x1 x2 x3 x4 x5 y0 : Int32} {v6 : Value} (hv6 : v6.category = 1) : zW (d + 1) kX11_partPairs 87 [.ref 1, .int x1, .int x2, .int x3, .int x4, .int x5, v6] [.int y0] σ Q ↔ (if y0 = (0 : Int32) then (vp_in x5 6 ∧ zW (d + 1) kX11_partPairs 49 [.ref 1, .int x1, .int x2, .int x3, .int x4, .int (x5 + 1), .int y0] [] (zsI σ 90 (upd (zI σ 90) (x5 : Int32).toNatClampNeg (-1))) Q) else (vp_in x5 6 ∧ zW (d + 1) kX11_partPairs 111 [.ref 1, .int x1, .int x2, .int x3, .int x4, .int x5, .int y0] (va_rf (zR σ 4 (x5 : Int32).toNatClampNeg) :: [.ref 1, .int x5, .ref 90]) σ Q)) := by
  refine Iff.trans (zw_istore (ls' := [.ref 1, .int x1, .int x2, .int x3, .int x4, .int x5, .int y0]) (show decode cX11_partPairs 87 = .ok (.istore 6, 2) by decide +kernel) (zset_s (Nat.le_of_ble_eq_true rfl) rfl)) ?_
  refine Iff.trans (zw_aload_n (show decode cX11_partPairs 89 = .ok (.aload_n 0, 1) by decide +kernel) rfl) ?_
  refine Iff.trans (zw_get (show decode cX11_partPairs 90 = .ok (.getfield 88, 3) by decide +kernel) (by decide +kernel : zfld 11 88 = some (11, 16)) (hl.k2 zk_1) (hl.n2 zk_1) (zgetR (v := 87) (hl.r zrt_1_16) rfl)) ?_
  refine Iff.trans (zw_get (show decode cX11_partPairs 93 = .ok (.getfield 388, 3) by decide +kernel) (by decide +kernel : zfld 11 388 = some (9, 2)) (hl.k2 zk_87) (hl.n2 zk_87) (zgetR (v := 90) (hl.r zrt_87_2) rfl)) ?_
  refine Iff.trans (zw_iload (show decode cX11_partPairs 96 = .ok (.iload 5, 2) by decide +kernel) rfl) ?_
  refine Iff.trans (zw_iload (show decode cX11_partPairs 98 = .ok (.iload 6, 2) by decide +kernel) rfl) ?_
  refine Iff.trans (zw_if_eq (t := 126) (show decode cX11_partPairs 100 = .ok (.ifCond .eq 26, 3) by decide +kernel) (by decide)) ?_
  refine zw_ite ?_ ?_
  · refine Iff.trans (zw_iconst (x := (-1)) (show decode cX11_partPairs 126 = .ok (.iconst (-1), 1) by decide +kernel) (by decide)) ?_
    refine Iff.trans (zw_iast2 (show decode cX11_partPairs 127 = .ok (.iastore, 1) by decide +kernel) (hl.k2 zk_90) (hl.n2 zk_90) (hl.l2 zk_90 zl_90) (σ' := (zsI σ 90 (upd (zI σ 90) (x5 : Int32).toNatClampNeg (-1)))) rfl) ?_
    refine zw_and ?_
    refine Iff.trans (zw_iinc (w := 1) (ls' := [.ref 1, .int x1, .int x2, .int x3, .int x4, .int (x5 + 1), .int y0]) (show decode cX11_partPairs 128 = .ok (.iinc 5 1, 3) by decide +kernel) rfl (by decide) (zset_s (Nat.le_of_ble_eq_true rfl) rfl)) ?_
    refine Iff.trans (zw_goto (t := 49) (show decode cX11_partPairs 131 = .ok (.goto (-82), 3) by decide +kernel) (by decide)) ?_
    exact Iff.rfl
  · refine Iff.trans (zw_aload_n (show decode cX11_partPairs 103 = .ok (.aload_n 0, 1) by decide +kernel) rfl) ?_
    refine Iff.trans (zw_aload_n (show decode cX11_partPairs 104 = .ok (.aload_n 0, 1) by decide +kernel) rfl) ?_
    refine Iff.trans (zw_get (show decode cX11_partPairs 105 = .ok (.getfield 18, 3) by decide +kernel) (by decide +kernel : zfld 11 18 = some (11, 1)) (hl.k2 zk_1) (hl.n2 zk_1) (zgetR (v := 4) (hl.r zrt_1_1) rfl)) ?_
    refine Iff.trans (zw_iload (show decode cX11_partPairs 108 = .ok (.iload 5, 2) by decide +kernel) rfl) ?_
    refine Iff.trans (zw_aald (show decode cX11_partPairs 110 = .ok (.aaload, 1) by decide +kernel) (by rw [(hl.k2 zk_4)]; decide) (hl.n2 zk_4) (hl.l2 zk_4 zl_4)) ?_
    refine zw_and ?_
    exact Iff.rfl

theorem bX11_partPairs_111 {d : Nat} {σ : zS} {Q : Option Value → zS → Prop} (hl : zLay σ) {x1 x2 x3 x4 x5 x6 y2 : Int32} {b0 : Nat} (hb0 : zk b0 = 0) : zW (d + 1) kX11_partPairs 111 [.ref 1, .int x1, .int x2, .int x3, .int x4, .int x5, .int x6] [.ref b0, .ref 1, .int y2, .ref 90] σ Q ↔ (vp_in x3 10 ∧ zW (d + 1) kX11_partPairs 117 [.ref 1, .int x1, .int x2, .int x3, .int x4, .int x5, .int x6] (va_rf (zR σ 5 (x3 : Int32).toNatClampNeg) :: [.ref b0, .ref 1, .int y2, .ref 90]) σ Q) := by
  refine Iff.trans (zw_aload_n (show decode cX11_partPairs 111 = .ok (.aload_n 0, 1) by decide +kernel) rfl) ?_
  refine Iff.trans (zw_get (show decode cX11_partPairs 112 = .ok (.getfield 24, 3) by decide +kernel) (by decide +kernel : zfld 11 24 = some (11, 3)) (hl.k2 zk_1) (hl.n2 zk_1) (zgetR (v := 5) (hl.r zrt_1_3) rfl)) ?_
  refine Iff.trans (zw_iload_n (show decode cX11_partPairs 115 = .ok (.iload_n 3, 1) by decide +kernel) rfl) ?_
  refine Iff.trans (zw_aald (show decode cX11_partPairs 116 = .ok (.aaload, 1) by decide +kernel) (by rw [(hl.k2 zk_5)]; decide) (hl.n2 zk_5) (hl.l2 zk_5 zl_5)) ?_
  refine zw_and ?_
  exact Iff.rfl

theorem bX11_partPairs_117 {d : Nat} {σ : zS} {Q : Option Value → zS → Prop} (hl : zLay σ) {x1 x2 x3 x4 x5 x6 y3 : Int32} {b0 b1 : Nat} (hb0 : zk b0 = 6) (hb1 : zk b1 = 0) : zW (d + 1) kX11_partPairs 117 [.ref 1, .int x1, .int x2, .int x3, .int x4, .int x5, .int x6] [.ref b0, .ref b1, .ref 1, .int y3, .ref 90] σ Q ↔ zCall d kX11_ticksAlone [.ref 1, .ref b1, .ref b0, .int x4, .long 0] σ (fun r σ' => zisN r = true ∧ zW (d + 1) kX11_partPairs 123 [.ref 1, .int x1, .int x2, .int x3, .int x4, .int x5, .int x6] (zRstk r ++ [.int y3, .ref 90]) σ' Q) := by
  refine Iff.trans (zw_iload (show decode cX11_partPairs 117 = .ok (.iload 4, 2) by decide +kernel) rfl) ?_
  refine Iff.trans (zw_lconst (x := 0) (show decode cX11_partPairs 119 = .ok (.lconst 0, 1) by decide +kernel) (by decide)) ?_
  refine Iff.trans (zw_invV (K' := kX11_ticksAlone) (as' := [.ref b1, .ref b0, .int x4, .long 0]) (rest := [.int y3, .ref 90]) (show decode cX11_partPairs 120 = .ok (.invokevirtual 297, 3) by decide +kernel) (by rfl) rfl rfl rfl (hl.k2 zk_1) (by decide) (hl.n2 zk_1) ⟨Nat.le_of_ble_eq_true rfl, Nat.le_of_ble_eq_true rfl, Nat.le_of_ble_eq_true rfl⟩) ?_
  exact Iff.rfl

theorem bX11_partPairs_123 {d : Nat} {σ : zS} {Q : Option Value → zS → Prop} (hl : zLay σ) {x1 x2 x3 x4 x5 x6 y0 y1 : Int32} : zW (d + 1) kX11_partPairs 123 [.ref 1, .int x1, .int x2, .int x3, .int x4, .int x5, .int x6] [.int y0, .int y1, .ref 90] σ Q ↔ (vp_in y1 6 ∧ zW (d + 1) kX11_partPairs 49 [.ref 1, .int x1, .int x2, .int x3, .int x4, .int (x5 + 1), .int x6] [] (zsI σ 90 (upd (zI σ 90) (y1 : Int32).toNatClampNeg y0)) Q) := by
  refine Iff.trans (zw_goto (t := 127) (show decode cX11_partPairs 123 = .ok (.goto 4, 3) by decide +kernel) (by decide)) ?_
  refine Iff.trans (zw_iast2 (show decode cX11_partPairs 127 = .ok (.iastore, 1) by decide +kernel) (hl.k2 zk_90) (hl.n2 zk_90) (hl.l2 zk_90 zl_90) (σ' := (zsI σ 90 (upd (zI σ 90) (y1 : Int32).toNatClampNeg y0))) rfl) ?_
  refine zw_and ?_
  refine Iff.trans (zw_iinc (w := 1) (ls' := [.ref 1, .int x1, .int x2, .int x3, .int x4, .int (x5 + 1), .int x6]) (show decode cX11_partPairs 128 = .ok (.iinc 5 1, 3) by decide +kernel) rfl (by decide) (zset_s (Nat.le_of_ble_eq_true rfl) rfl)) ?_
  refine Iff.trans (zw_goto (t := 49) (show decode cX11_partPairs 131 = .ok (.goto (-82), 3) by decide +kernel) (by decide)) ?_
  exact Iff.rfl

theorem bX11_partPairs_134 {d : Nat} {σ : zS} {Q : Option Value → zS → Prop} (hl : zLay σ) {x1 x2 x3 x4 x5 : Int32} {v6 : Value} (hv6 : v6.category = 1) : zW (d + 1) kX11_partPairs 134 [.ref 1, .int x1, .int x2, .int x3, .int x4, .int x5, v6] [] σ Q ↔ zCall d kX9_partPairs [.ref 87, .int x2, .int x1] σ (fun r σ' => zisN r = true ∧ zW (d + 1) kX11_partPairs 143 [.ref 1, .int x1, .int x2, .int x3, .int x4, .int x5, v6] (zRstk r ++ []) σ' Q) := by
  refine Iff.trans (zw_aload_n (show decode cX11_partPairs 134 = .ok (.aload_n 0, 1) by decide +kernel) rfl) ?_
  refine Iff.trans (zw_get (show decode cX11_partPairs 135 = .ok (.getfield 88, 3) by decide +kernel) (by decide +kernel : zfld 11 88 = some (11, 16)) (hl.k2 zk_1) (hl.n2 zk_1) (zgetR (v := 87) (hl.r zrt_1_16) rfl)) ?_
  refine Iff.trans (zw_iload_n (show decode cX11_partPairs 138 = .ok (.iload_n 2, 1) by decide +kernel) rfl) ?_
  refine Iff.trans (zw_iload_n (show decode cX11_partPairs 139 = .ok (.iload_n 1, 1) by decide +kernel) rfl) ?_
  refine Iff.trans (zw_invV (K' := kX9_partPairs) (as' := [.int x2, .int x1]) (rest := []) (show decode cX11_partPairs 140 = .ok (.invokevirtual 391, 3) by decide +kernel) (by rfl) rfl rfl rfl (hl.k2 zk_87) (by decide) (hl.n2 zk_87) ⟨Nat.le_of_ble_eq_true rfl, Nat.le_of_ble_eq_true rfl, Nat.le_of_ble_eq_true rfl⟩) ?_
  exact Iff.rfl

theorem bX11_partPairs_143 {d : Nat} {σ : zS} {Q : Option Value → zS → Prop} (hl : zLay σ) {x1 x2 x3 x4 x5 : Int32} {v6 : Value} (hv6 : v6.category = 1) : zW (d + 1) kX11_partPairs 143 [.ref 1, .int x1, .int x2, .int x3, .int x4, .int x5, v6] [] σ Q ↔ zW (d + 1) kX11_partPairs 2 [.ref 1, .int x1, .int (x2 + 1), .int x3, .int x4, .int x5, v6] [] σ Q := by
  refine Iff.trans (zw_iinc (w := 1) (ls' := [.ref 1, .int x1, .int (x2 + 1), .int x3, .int x4, .int x5, v6]) (show decode cX11_partPairs 143 = .ok (.iinc 2 1, 3) by decide +kernel) rfl (by decide) (zset_s (Nat.le_of_ble_eq_true rfl) rfl)) ?_
  refine Iff.trans (zw_goto (t := 2) (show decode cX11_partPairs 146 = .ok (.goto (-144), 3) by decide +kernel) (by decide)) ?_
  exact Iff.rfl

theorem bX11_sight_0 {d : Nat} {σ : zS} {Q : Option Value → zS → Prop} (hl : zLay σ) {x1 x2 x3 : Int32} : zCall (d + 1) kX11_sight [.ref 1, .int x1, .int x2, .int x3] σ Q ↔ zCall d kX11_noStick [.ref 1, .int x1] σ (fun r σ' => zisN r = true ∧ zW (d + 1) kX11_sight 5 [.ref 1, .int x1, .int x2, .int x3] (zRstk r ++ []) σ' Q) := by
  show zW (d + 1) kX11_sight 0 [.ref 1, .int x1, .int x2, .int x3] [] σ Q ↔ _
  refine Iff.trans (zw_aload_n (show decode cX11_sight 0 = .ok (.aload_n 0, 1) by decide +kernel) rfl) ?_
  refine Iff.trans (zw_iload_n (show decode cX11_sight 1 = .ok (.iload_n 1, 1) by decide +kernel) rfl) ?_
  refine Iff.trans (zw_invV (K' := kX11_noStick) (as' := [.int x1]) (rest := []) (show decode cX11_sight 2 = .ok (.invokevirtual 187, 3) by decide +kernel) (by rfl) rfl rfl rfl (hl.k2 zk_1) (by decide) (hl.n2 zk_1) ⟨Nat.le_of_ble_eq_true rfl, Nat.le_of_ble_eq_true rfl, Nat.le_of_ble_eq_true rfl⟩) ?_
  exact Iff.rfl

theorem bX11_sight_5 {d : Nat} {σ : zS} {Q : Option Value → zS → Prop} (hl : zLay σ) {x1 x2 x3 y0 : Int32} : zW (d + 1) kX11_sight 5 [.ref 1, .int x1, .int x2, .int x3] [.int y0] σ Q ↔ (if y0 = (0 : Int32) then (if x2 < (0 : Int32) then Q (some (.int (-1))) σ else (if 6 ≤ x2 then Q (some (.int (-1))) σ else (if x3 < 1 then Q (some (.int (-1))) σ else (if x3 ≤ 99 then zCall d kX5_add [.ref 6, .int x1, .int x2, .int x3] σ (fun r σ' => zisN r = true ∧ zW (d + 1) kX11_sight 41 [.ref 1, .int x1, .int x2, .int x3] (zRstk r ++ []) σ' Q) else Q (some (.int (-1))) σ)))) else Q (some (.int (-1))) σ) := by
  refine Iff.trans (zw_if_ne (t := 29) (show decode cX11_sight 5 = .ok (.ifCond .ne 24, 3) by decide +kernel) (by decide)) ?_
  refine zw_ite ?_ ?_
  · refine Iff.trans (zw_iload_n (show decode cX11_sight 8 = .ok (.iload_n 2, 1) by decide +kernel) rfl) ?_
    refine Iff.trans (zw_if_lt (t := 29) (show decode cX11_sight 9 = .ok (.ifCond .lt 20, 3) by decide +kernel) (by decide)) ?_
    refine zw_ite ?_ ?_
    · refine Iff.trans (zw_iconst (x := (-1)) (show decode cX11_sight 29 = .ok (.iconst (-1), 1) by decide +kernel) (by decide)) ?_
      exact zw_iret1 (show decode cX11_sight 30 = .ok (.ireturn, 1) by decide +kernel) rfl
    · refine Iff.trans (zw_iload_n (show decode cX11_sight 12 = .ok (.iload_n 2, 1) by decide +kernel) rfl) ?_
      refine Iff.trans (zw_bipush (x := 6) (show decode cX11_sight 13 = .ok (.bipush 6, 2) by decide +kernel) (by decide)) ?_
      refine Iff.trans (zw_icmp_ge (t := 29) (show decode cX11_sight 15 = .ok (.if_icmp .ge 14, 3) by decide +kernel) (by decide)) ?_
      refine zw_ite ?_ ?_
      · refine Iff.trans (zw_iconst (x := (-1)) (show decode cX11_sight 29 = .ok (.iconst (-1), 1) by decide +kernel) (by decide)) ?_
        exact zw_iret1 (show decode cX11_sight 30 = .ok (.ireturn, 1) by decide +kernel) rfl
      · refine Iff.trans (zw_iload_n (show decode cX11_sight 18 = .ok (.iload_n 3, 1) by decide +kernel) rfl) ?_
        refine Iff.trans (zw_iconst (x := 1) (show decode cX11_sight 19 = .ok (.iconst 1, 1) by decide +kernel) (by decide)) ?_
        refine Iff.trans (zw_icmp_lt (t := 29) (show decode cX11_sight 20 = .ok (.if_icmp .lt 9, 3) by decide +kernel) (by decide)) ?_
        refine zw_ite ?_ ?_
        · refine Iff.trans (zw_iconst (x := (-1)) (show decode cX11_sight 29 = .ok (.iconst (-1), 1) by decide +kernel) (by decide)) ?_
          exact zw_iret1 (show decode cX11_sight 30 = .ok (.ireturn, 1) by decide +kernel) rfl
        · refine Iff.trans (zw_iload_n (show decode cX11_sight 23 = .ok (.iload_n 3, 1) by decide +kernel) rfl) ?_
          refine Iff.trans (zw_bipush (x := 99) (show decode cX11_sight 24 = .ok (.bipush 99, 2) by decide +kernel) (by decide)) ?_
          refine Iff.trans (zw_icmp_le (t := 31) (show decode cX11_sight 26 = .ok (.if_icmp .le 5, 3) by decide +kernel) (by decide)) ?_
          refine zw_ite ?_ ?_
          · refine Iff.trans (zw_aload_n (show decode cX11_sight 31 = .ok (.aload_n 0, 1) by decide +kernel) rfl) ?_
            refine Iff.trans (zw_get (show decode cX11_sight 32 = .ok (.getfield 31, 3) by decide +kernel) (by decide +kernel : zfld 11 31 = some (11, 5)) (hl.k2 zk_1) (hl.n2 zk_1) (zgetR (v := 6) (hl.r zrt_1_5) rfl)) ?_
            refine Iff.trans (zw_iload_n (show decode cX11_sight 35 = .ok (.iload_n 1, 1) by decide +kernel) rfl) ?_
            refine Iff.trans (zw_iload_n (show decode cX11_sight 36 = .ok (.iload_n 2, 1) by decide +kernel) rfl) ?_
            refine Iff.trans (zw_iload_n (show decode cX11_sight 37 = .ok (.iload_n 3, 1) by decide +kernel) rfl) ?_
            refine Iff.trans (zw_invV (K' := kX5_add) (as' := [.int x1, .int x2, .int x3]) (rest := []) (show decode cX11_sight 38 = .ok (.invokevirtual 394, 3) by decide +kernel) (by rfl) rfl rfl rfl (hl.k2 zk_6) (by decide) (hl.n2 zk_6) ⟨Nat.le_of_ble_eq_true rfl, Nat.le_of_ble_eq_true rfl, Nat.le_of_ble_eq_true rfl⟩) ?_
            exact Iff.rfl
          · refine Iff.trans (zw_iconst (x := (-1)) (show decode cX11_sight 29 = .ok (.iconst (-1), 1) by decide +kernel) (by decide)) ?_
            exact zw_iret1 (show decode cX11_sight 30 = .ok (.ireturn, 1) by decide +kernel) rfl
  · refine Iff.trans (zw_iconst (x := (-1)) (show decode cX11_sight 29 = .ok (.iconst (-1), 1) by decide +kernel) (by decide)) ?_
    exact zw_iret1 (show decode cX11_sight 30 = .ok (.ireturn, 1) by decide +kernel) rfl

theorem bX11_sight_41 {d : Nat} {σ : zS} {Q : Option Value → zS → Prop} (hl : zLay σ) {x1 x2 x3 y0 : Int32} : zW (d + 1) kX11_sight 41 [.ref 1, .int x1, .int x2, .int x3] [.int y0] σ Q ↔ Q (some (.int y0)) σ := by
  exact zw_iret1 (show decode cX11_sight 41 = .ok (.ireturn, 1) by decide +kernel) rfl

theorem bX11_agree_0 {d : Nat} {σ : zS} {Q : Option Value → zS → Prop} (hl : zLay σ) : zCall (d + 1) kX11_agree [.ref 1] σ Q ↔ zW (d + 1) kX11_agree 4 [.ref 1, .int 0, .int 0] [] σ Q := by
  show zW (d + 1) kX11_agree 0 [.ref 1, .retAddr 0, .retAddr 0] [] σ Q ↔ _
  refine Iff.trans (zw_iconst (x := 0) (show decode cX11_agree 0 = .ok (.iconst 0, 1) by decide +kernel) (by decide)) ?_
  refine Iff.trans (zw_istore_n (ls' := [.ref 1, .int 0, .retAddr 0]) (show decode cX11_agree 1 = .ok (.istore_n 1, 1) by decide +kernel) (zset_s (Nat.le_of_ble_eq_true rfl) rfl)) ?_
  refine Iff.trans (zw_iconst (x := 0) (show decode cX11_agree 2 = .ok (.iconst 0, 1) by decide +kernel) (by decide)) ?_
  refine Iff.trans (zw_istore_n (ls' := [.ref 1, .int 0, .int 0]) (show decode cX11_agree 3 = .ok (.istore_n 2, 1) by decide +kernel) (zset_s (Nat.le_of_ble_eq_true rfl) rfl)) ?_
  exact Iff.rfl

theorem bX11_agree_4 {d : Nat} {σ : zS} {Q : Option Value → zS → Prop} (hl : zLay σ) {x1 x2 : Int32} : zW (d + 1) kX11_agree 4 [.ref 1, .int x1, .int x2] [] σ Q ↔ (if (zI σ 1 2) ≤ x2 then Q (some (.int x1)) σ else (if 6 ≤ x2 then Q (some (.int x1)) σ else (vp_in x2 6 ∧ zW (d + 1) kX11_agree 25 [.ref 1, .int x1, .int x2] (va_rf (zR σ 4 (x2 : Int32).toNatClampNeg) :: [.ref 1]) σ Q))) := by
  refine Iff.trans (zw_iload_n (show decode cX11_agree 4 = .ok (.iload_n 2, 1) by decide +kernel) rfl) ?_
  refine Iff.trans (zw_aload_n (show decode cX11_agree 5 = .ok (.aload_n 0, 1) by decide +kernel) rfl) ?_
  refine Iff.trans (zw_getI (show decode cX11_agree 6 = .ok (.getfield 136, 3) by decide +kernel) (by decide +kernel : zfld 11 136 = some (11, 2)) (hl.k2 zk_1) (hl.n2 zk_1) (Or.inl rfl) (w := zI σ 1 2) rfl) ?_
  refine Iff.trans (zw_icmp_ge (t := 43) (show decode cX11_agree 9 = .ok (.if_icmp .ge 34, 3) by decide +kernel) (by decide)) ?_
  refine zw_ite ?_ ?_
  · refine Iff.trans (zw_iload_n (show decode cX11_agree 43 = .ok (.iload_n 1, 1) by decide +kernel) rfl) ?_
    exact zw_iret1 (show decode cX11_agree 44 = .ok (.ireturn, 1) by decide +kernel) rfl
  · refine Iff.trans (zw_iload_n (show decode cX11_agree 12 = .ok (.iload_n 2, 1) by decide +kernel) rfl) ?_
    refine Iff.trans (zw_bipush (x := 6) (show decode cX11_agree 13 = .ok (.bipush 6, 2) by decide +kernel) (by decide)) ?_
    refine Iff.trans (zw_icmp_ge (t := 43) (show decode cX11_agree 15 = .ok (.if_icmp .ge 28, 3) by decide +kernel) (by decide)) ?_
    refine zw_ite ?_ ?_
    · refine Iff.trans (zw_iload_n (show decode cX11_agree 43 = .ok (.iload_n 1, 1) by decide +kernel) rfl) ?_
      exact zw_iret1 (show decode cX11_agree 44 = .ok (.ireturn, 1) by decide +kernel) rfl
    · refine Iff.trans (zw_aload_n (show decode cX11_agree 18 = .ok (.aload_n 0, 1) by decide +kernel) rfl) ?_
      refine Iff.trans (zw_aload_n (show decode cX11_agree 19 = .ok (.aload_n 0, 1) by decide +kernel) rfl) ?_
      refine Iff.trans (zw_get (show decode cX11_agree 20 = .ok (.getfield 18, 3) by decide +kernel) (by decide +kernel : zfld 11 18 = some (11, 1)) (hl.k2 zk_1) (hl.n2 zk_1) (zgetR (v := 4) (hl.r zrt_1_1) rfl)) ?_
      refine Iff.trans (zw_iload_n (show decode cX11_agree 23 = .ok (.iload_n 2, 1) by decide +kernel) rfl) ?_
      refine Iff.trans (zw_aald (show decode cX11_agree 24 = .ok (.aaload, 1) by decide +kernel) (by rw [(hl.k2 zk_4)]; decide) (hl.n2 zk_4) (hl.l2 zk_4 zl_4)) ?_
      refine zw_and ?_
      exact Iff.rfl

theorem bX11_agree_25 {d : Nat} {σ : zS} {Q : Option Value → zS → Prop} (hl : zLay σ) {x1 x2 : Int32} {b0 : Nat} (hb0 : zk b0 = 0) : zW (d + 1) kX11_agree 25 [.ref 1, .int x1, .int x2] [.ref b0, .ref 1] σ Q ↔ zCall d kX11_agrees [.ref 1, .ref b0] σ (fun r σ' => zisN r = true ∧ zW (d + 1) kX11_agree 28 [.ref 1, .int x1, .int x2] (zRstk r ++ []) σ' Q) := by
  refine Iff.trans (zw_invV (K' := kX11_agrees) (as' := [.ref b0]) (rest := []) (show decode cX11_agree 25 = .ok (.invokevirtual 396, 3) by decide +kernel) (by rfl) rfl rfl rfl (hl.k2 zk_1) (by decide) (hl.n2 zk_1) ⟨Nat.le_of_ble_eq_true rfl, Nat.le_of_ble_eq_true rfl, Nat.le_of_ble_eq_true rfl⟩) ?_
  exact Iff.rfl

theorem bX11_agree_28 {d : Nat} {σ : zS} {Q : Option Value → zS → Prop} (hl : zLay σ) {x1 x2 y0 : Int32} : zW (d + 1) kX11_agree 28 [.ref 1, .int x1, .int x2] [.int y0] σ Q ↔ (if y0 = (0 : Int32) then zW (d + 1) kX11_agree 4 [.ref 1, .int x1, .int (x2 + 1)] [] σ Q else zW (d + 1) kX11_agree 4 [.ref 1, .int (x1 ||| (1 <<< (x2 &&& 31))), .int (x2 + 1)] [] σ Q) := by
  refine Iff.trans (zw_if_eq (t := 37) (show decode cX11_agree 28 = .ok (.ifCond .eq 9, 3) by decide +kernel) (by decide)) ?_
  refine zw_ite ?_ ?_
  · refine Iff.trans (zw_iinc (w := 1) (ls' := [.ref 1, .int x1, .int (x2 + 1)]) (show decode cX11_agree 37 = .ok (.iinc 2 1, 3) by decide +kernel) rfl (by decide) (zset_s (Nat.le_of_ble_eq_true rfl) rfl)) ?_
    refine Iff.trans (zw_goto (t := 4) (show decode cX11_agree 40 = .ok (.goto (-36), 3) by decide +kernel) (by decide)) ?_
    exact Iff.rfl
  · refine Iff.trans (zw_iload_n (show decode cX11_agree 31 = .ok (.iload_n 1, 1) by decide +kernel) rfl) ?_
    refine Iff.trans (zw_iconst (x := 1) (show decode cX11_agree 32 = .ok (.iconst 1, 1) by decide +kernel) (by decide)) ?_
    refine Iff.trans (zw_iload_n (show decode cX11_agree 33 = .ok (.iload_n 2, 1) by decide +kernel) rfl) ?_
    refine Iff.trans (zw_ishl (show decode cX11_agree 34 = .ok (.ishl, 1) by decide +kernel)) ?_
    refine Iff.trans (zw_ior (show decode cX11_agree 35 = .ok (.ior, 1) by decide +kernel)) ?_
    refine Iff.trans (zw_istore_n (ls' := [.ref 1, .int (x1 ||| (1 <<< (x2 &&& 31))), .int x2]) (show decode cX11_agree 36 = .ok (.istore_n 1, 1) by decide +kernel) (zset_s (Nat.le_of_ble_eq_true rfl) rfl)) ?_
    refine Iff.trans (zw_iinc (w := 1) (ls' := [.ref 1, .int (x1 ||| (1 <<< (x2 &&& 31))), .int (x2 + 1)]) (show decode cX11_agree 37 = .ok (.iinc 2 1, 3) by decide +kernel) rfl (by decide) (zset_s (Nat.le_of_ble_eq_true rfl) rfl)) ?_
    refine Iff.trans (zw_goto (t := 4) (show decode cX11_agree 40 = .ok (.goto (-36), 3) by decide +kernel) (by decide)) ?_
    exact Iff.rfl

theorem bX11_agrees_0 {d : Nat} {σ : zS} {Q : Option Value → zS → Prop} (hl : zLay σ) {a1 : Nat} (ha1 : zk a1 = 0) : zCall (d + 1) kX11_agrees [.ref 1, .ref a1] σ Q ↔ zW (d + 1) kX11_agrees 2 [.ref 1, .ref a1, .int 0, .retAddr 0] [] σ Q := by
  show zW (d + 1) kX11_agrees 0 [.ref 1, .ref a1, .retAddr 0, .retAddr 0] [] σ Q ↔ _
  refine Iff.trans (zw_iconst (x := 0) (show decode cX11_agrees 0 = .ok (.iconst 0, 1) by decide +kernel) (by decide)) ?_
  refine Iff.trans (zw_istore_n (ls' := [.ref 1, .ref a1, .int 0, .retAddr 0]) (show decode cX11_agrees 1 = .ok (.istore_n 2, 1) by decide +kernel) (zset_s (Nat.le_of_ble_eq_true rfl) rfl)) ?_
  exact Iff.rfl

theorem bX11_agrees_2 {d : Nat} {σ : zS} {Q : Option Value → zS → Prop} (hl : zLay σ) {a1 : Nat} {x2 : Int32} {v3 : Value} (ha1 : zk a1 = 0) (hv3 : v3.category = 1) : zW (d + 1) kX11_agrees 2 [.ref 1, .ref a1, .int x2, v3] [] σ Q ↔ (if (zI σ 6 3) ≤ x2 then Q (some (.int 1)) σ else (if 10 ≤ x2 then Q (some (.int 1)) σ else (vp_in x2 10 ∧ zCall d kX11_noStick [.ref 1, .int (zI σ 7 (x2 : Int32).toNatClampNeg)] σ (fun r σ' => zisN r = true ∧ zW (d + 1) kX11_agrees 34 [.ref 1, .ref a1, .int x2, .int (zI σ 7 (x2 : Int32).toNatClampNeg)] (zRstk r ++ []) σ' Q)))) := by
  refine Iff.trans (zw_iload_n (show decode cX11_agrees 2 = .ok (.iload_n 2, 1) by decide +kernel) rfl) ?_
  refine Iff.trans (zw_aload_n (show decode cX11_agrees 3 = .ok (.aload_n 0, 1) by decide +kernel) rfl) ?_
  refine Iff.trans (zw_get (show decode cX11_agrees 4 = .ok (.getfield 31, 3) by decide +kernel) (by decide +kernel : zfld 11 31 = some (11, 5)) (hl.k2 zk_1) (hl.n2 zk_1) (zgetR (v := 6) (hl.r zrt_1_5) rfl)) ?_
  refine Iff.trans (zw_getI (show decode cX11_agrees 7 = .ok (.getfield 400, 3) by decide +kernel) (by decide +kernel : zfld 11 400 = some (5, 3)) (hl.k2 zk_6) (hl.n2 zk_6) (Or.inl rfl) (w := zI σ 6 3) rfl) ?_
  refine Iff.trans (zw_icmp_ge (t := 78) (show decode cX11_agrees 10 = .ok (.if_icmp .ge 68, 3) by decide +kernel) (by decide)) ?_
  refine zw_ite ?_ ?_
  · refine Iff.trans (zw_iconst (x := 1) (show decode cX11_agrees 78 = .ok (.iconst 1, 1) by decide +kernel) (by decide)) ?_
    exact zw_iret2c (show decode cX11_agrees 79 = .ok (.ireturn, 1) by decide +kernel) rfl (Or.inr rfl)
  · refine Iff.trans (zw_iload_n (show decode cX11_agrees 13 = .ok (.iload_n 2, 1) by decide +kernel) rfl) ?_
    refine Iff.trans (zw_bipush (x := 10) (show decode cX11_agrees 14 = .ok (.bipush 10, 2) by decide +kernel) (by decide)) ?_
    refine Iff.trans (zw_icmp_ge (t := 78) (show decode cX11_agrees 16 = .ok (.if_icmp .ge 62, 3) by decide +kernel) (by decide)) ?_
    refine zw_ite ?_ ?_
    · refine Iff.trans (zw_iconst (x := 1) (show decode cX11_agrees 78 = .ok (.iconst 1, 1) by decide +kernel) (by decide)) ?_
      exact zw_iret2c (show decode cX11_agrees 79 = .ok (.ireturn, 1) by decide +kernel) rfl (Or.inr rfl)
    · refine Iff.trans (zw_aload_n (show decode cX11_agrees 19 = .ok (.aload_n 0, 1) by decide +kernel) rfl) ?_
      refine Iff.trans (zw_get (show decode cX11_agrees 20 = .ok (.getfield 31, 3) by decide +kernel) (by decide +kernel : zfld 11 31 = some (11, 5)) (hl.k2 zk_1) (hl.n2 zk_1) (zgetR (v := 6) (hl.r zrt_1_5) rfl)) ?_
      refine Iff.trans (zw_get (show decode cX11_agrees 23 = .ok (.getfield 401, 3) by decide +kernel) (by decide +kernel : zfld 11 401 = some (5, 0)) (hl.k2 zk_6) (hl.n2 zk_6) (zgetR (v := 7) (hl.r zrt_6_0) rfl)) ?_
      refine Iff.trans (zw_iload_n (show decode cX11_agrees 26 = .ok (.iload_n 2, 1) by decide +kernel) rfl) ?_
      refine Iff.trans (zw_iald2 (show decode cX11_agrees 27 = .ok (.iaload, 1) by decide +kernel) (hl.k2 zk_7) (hl.n2 zk_7) (hl.l2 zk_7 zl_7) (w := zI σ 7 (x2 : Int32).toNatClampNeg) rfl) ?_
      refine zw_and ?_
      refine Iff.trans (zw_istore_n (ls' := [.ref 1, .ref a1, .int x2, .int (zI σ 7 (x2 : Int32).toNatClampNeg)]) (show decode cX11_agrees 28 = .ok (.istore_n 3, 1) by decide +kernel) (zset_s (Nat.le_of_ble_eq_true rfl) rfl)) ?_
      refine Iff.trans (zw_aload_n (show decode cX11_agrees 29 = .ok (.aload_n 0, 1) by decide +kernel) rfl) ?_
      refine Iff.trans (zw_iload_n (show decode cX11_agrees 30 = .ok (.iload_n 3, 1) by decide +kernel) rfl) ?_
      refine Iff.trans (zw_invV (K' := kX11_noStick) (as' := [.int (zI σ 7 (x2 : Int32).toNatClampNeg)]) (rest := []) (show decode cX11_agrees 31 = .ok (.invokevirtual 187, 3) by decide +kernel) (by rfl) rfl rfl rfl (hl.k2 zk_1) (by decide) (hl.n2 zk_1) ⟨Nat.le_of_ble_eq_true rfl, Nat.le_of_ble_eq_true rfl, Nat.le_of_ble_eq_true rfl⟩) ?_
      exact Iff.rfl

theorem bX11_agrees_34 {d : Nat} {σ : zS} {Q : Option Value → zS → Prop} (hl : zLay σ) {a1 : Nat} {x2 x3 y0 : Int32} (ha1 : zk a1 = 0) : zW (d + 1) kX11_agrees 34 [.ref 1, .ref a1, .int x2, .int x3] [.int y0] σ Q ↔ (if y0 = (0 : Int32) then (vp_in x3 10 ∧ zW (d + 1) kX11_agrees 45 [.ref 1, .ref a1, .int x2, .int x3] (va_rf (zR σ 5 (x3 : Int32).toNatClampNeg) :: [.ref a1, .ref 1]) σ Q) else Q (some (.int 0)) σ) := by
  refine Iff.trans (zw_if_ne (t := 70) (show decode cX11_agrees 34 = .ok (.ifCond .ne 36, 3) by decide +kernel) (by decide)) ?_
  refine zw_ite ?_ ?_
  · refine Iff.trans (zw_aload_n (show decode cX11_agrees 37 = .ok (.aload_n 0, 1) by decide +kernel) rfl) ?_
    refine Iff.trans (zw_aload_n (show decode cX11_agrees 38 = .ok (.aload_n 1, 1) by decide +kernel) rfl) ?_
    refine Iff.trans (zw_aload_n (show decode cX11_agrees 39 = .ok (.aload_n 0, 1) by decide +kernel) rfl) ?_
    refine Iff.trans (zw_get (show decode cX11_agrees 40 = .ok (.getfield 24, 3) by decide +kernel) (by decide +kernel : zfld 11 24 = some (11, 3)) (hl.k2 zk_1) (hl.n2 zk_1) (zgetR (v := 5) (hl.r zrt_1_3) rfl)) ?_
    refine Iff.trans (zw_iload_n (show decode cX11_agrees 43 = .ok (.iload_n 3, 1) by decide +kernel) rfl) ?_
    refine Iff.trans (zw_aald (show decode cX11_agrees 44 = .ok (.aaload, 1) by decide +kernel) (by rw [(hl.k2 zk_5)]; decide) (hl.n2 zk_5) (hl.l2 zk_5 zl_5)) ?_
    refine zw_and ?_
    exact Iff.rfl
  · refine Iff.trans (zw_iconst (x := 0) (show decode cX11_agrees 70 = .ok (.iconst 0, 1) by decide +kernel) (by decide)) ?_
    exact zw_iret2c (show decode cX11_agrees 71 = .ok (.ireturn, 1) by decide +kernel) rfl (Or.inl rfl)

theorem bX11_agrees_45 {d : Nat} {σ : zS} {Q : Option Value → zS → Prop} (hl : zLay σ) {a1 b0 : Nat} {x2 x3 : Int32} (ha1 : zk a1 = 0) (hb0 : zk b0 = 6) : zW (d + 1) kX11_agrees 45 [.ref 1, .ref a1, .int x2, .int x3] [.ref b0, .ref a1, .ref 1] σ Q ↔ (vp_in x2 10 ∧ zCall d kX11_ticksAlone [.ref 1, .ref a1, .ref b0, .int (zI σ 8 (x2 : Int32).toNatClampNeg), .long 0] σ (fun r σ' => zisN r = true ∧ zW (d + 1) kX11_agrees 58 [.ref 1, .ref a1, .int x2, .int x3] (zRstk r ++ []) σ' Q)) := by
  refine Iff.trans (zw_aload_n (show decode cX11_agrees 45 = .ok (.aload_n 0, 1) by decide +kernel) rfl) ?_
  refine Iff.trans (zw_get (show decode cX11_agrees 46 = .ok (.getfield 31, 3) by decide +kernel) (by decide +kernel : zfld 11 31 = some (11, 5)) (hl.k2 zk_1) (hl.n2 zk_1) (zgetR (v := 6) (hl.r zrt_1_5) rfl)) ?_
  refine Iff.trans (zw_get (show decode cX11_agrees 49 = .ok (.getfield 404, 3) by decide +kernel) (by decide +kernel : zfld 11 404 = some (5, 1)) (hl.k2 zk_6) (hl.n2 zk_6) (zgetR (v := 8) (hl.r zrt_6_1) rfl)) ?_
  refine Iff.trans (zw_iload_n (show decode cX11_agrees 52 = .ok (.iload_n 2, 1) by decide +kernel) rfl) ?_
  refine Iff.trans (zw_iald2 (show decode cX11_agrees 53 = .ok (.iaload, 1) by decide +kernel) (hl.k2 zk_8) (hl.n2 zk_8) (hl.l2 zk_8 zl_8) (w := zI σ 8 (x2 : Int32).toNatClampNeg) rfl) ?_
  refine zw_and ?_
  refine Iff.trans (zw_lconst (x := 0) (show decode cX11_agrees 54 = .ok (.lconst 0, 1) by decide +kernel) (by decide)) ?_
  refine Iff.trans (zw_invV (K' := kX11_ticksAlone) (as' := [.ref a1, .ref b0, .int (zI σ 8 (x2 : Int32).toNatClampNeg), .long 0]) (rest := []) (show decode cX11_agrees 55 = .ok (.invokevirtual 297, 3) by decide +kernel) (by rfl) rfl rfl rfl (hl.k2 zk_1) (by decide) (hl.n2 zk_1) ⟨Nat.le_of_ble_eq_true rfl, Nat.le_of_ble_eq_true rfl, Nat.le_of_ble_eq_true rfl⟩) ?_
  exact Iff.rfl

theorem bX11_agrees_58 {d : Nat} {σ : zS} {Q : Option Value → zS → Prop} (hl : zLay σ) {a1 : Nat} {x2 x3 y0 : Int32} (ha1 : zk a1 = 0) : zW (d + 1) kX11_agrees 58 [.ref 1, .ref a1, .int x2, .int x3] [.int y0] σ Q ↔ (vp_in x2 10 ∧ (if y0 = (zI σ 9 (x2 : Int32).toNatClampNeg) then zW (d + 1) kX11_agrees 2 [.ref 1, .ref a1, .int (x2 + 1), .int x3] [] σ Q else Q (some (.int 0)) σ)) := by
  refine Iff.trans (zw_aload_n (show decode cX11_agrees 58 = .ok (.aload_n 0, 1) by decide +kernel) rfl) ?_
  refine Iff.trans (zw_get (show decode cX11_agrees 59 = .ok (.getfield 31, 3) by decide +kernel) (by decide +kernel : zfld 11 31 = some (11, 5)) (hl.k2 zk_1) (hl.n2 zk_1) (zgetR (v := 6) (hl.r zrt_1_5) rfl)) ?_
  refine Iff.trans (zw_get (show decode cX11_agrees 62 = .ok (.getfield 407, 3) by decide +kernel) (by decide +kernel : zfld 11 407 = some (5, 2)) (hl.k2 zk_6) (hl.n2 zk_6) (zgetR (v := 9) (hl.r zrt_6_2) rfl)) ?_
  refine Iff.trans (zw_iload_n (show decode cX11_agrees 65 = .ok (.iload_n 2, 1) by decide +kernel) rfl) ?_
  refine Iff.trans (zw_iald2 (show decode cX11_agrees 66 = .ok (.iaload, 1) by decide +kernel) (hl.k2 zk_9) (hl.n2 zk_9) (hl.l2 zk_9 zl_9) (w := zI σ 9 (x2 : Int32).toNatClampNeg) rfl) ?_
  refine zw_and ?_
  refine Iff.trans (zw_icmp_eq (t := 72) (show decode cX11_agrees 67 = .ok (.if_icmp .eq 5, 3) by decide +kernel) (by decide)) ?_
  refine zw_ite ?_ ?_
  · refine Iff.trans (zw_iinc (w := 1) (ls' := [.ref 1, .ref a1, .int (x2 + 1), .int x3]) (show decode cX11_agrees 72 = .ok (.iinc 2 1, 3) by decide +kernel) rfl (by decide) (zset_s (Nat.le_of_ble_eq_true rfl) rfl)) ?_
    refine Iff.trans (zw_goto (t := 2) (show decode cX11_agrees 75 = .ok (.goto (-73), 3) by decide +kernel) (by decide)) ?_
    exact Iff.rfl
  · refine Iff.trans (zw_iconst (x := 0) (show decode cX11_agrees 70 = .ok (.iconst 0, 1) by decide +kernel) (by decide)) ?_
    exact zw_iret2c (show decode cX11_agrees 71 = .ok (.ireturn, 1) by decide +kernel) rfl (Or.inl rfl)

theorem bX11_stoned_0 {d : Nat} {σ : zS} {Q : Option Value → zS → Prop} (hl : zLay σ) {x1 x2 : Int32} : zCall (d + 1) kX11_stoned [.ref 1, .int x1, .int x2] σ Q ↔ zCall d kX11_noBrook [.ref 1, .int x1] σ (fun r σ' => zisN r = true ∧ zW (d + 1) kX11_stoned 5 [.ref 1, .int x1, .int x2, .retAddr 0, .retAddr 0, .retAddr 0, .retAddr 0, .retAddr 0] (zRstk r ++ []) σ' Q) := by
  show zW (d + 1) kX11_stoned 0 [.ref 1, .int x1, .int x2, .retAddr 0, .retAddr 0, .retAddr 0, .retAddr 0, .retAddr 0] [] σ Q ↔ _
  refine Iff.trans (zw_aload_n (show decode cX11_stoned 0 = .ok (.aload_n 0, 1) by decide +kernel) rfl) ?_
  refine Iff.trans (zw_iload_n (show decode cX11_stoned 1 = .ok (.iload_n 1, 1) by decide +kernel) rfl) ?_
  refine Iff.trans (zw_invV (K' := kX11_noBrook) (as' := [.int x1]) (rest := []) (show decode cX11_stoned 2 = .ok (.invokevirtual 157, 3) by decide +kernel) (by rfl) rfl rfl rfl (hl.k2 zk_1) (by decide) (hl.n2 zk_1) ⟨Nat.le_of_ble_eq_true rfl, Nat.le_of_ble_eq_true rfl, Nat.le_of_ble_eq_true rfl⟩) ?_
  exact Iff.rfl

theorem bX11_stoned_5 {d : Nat} {σ : zS} {Q : Option Value → zS → Prop} (hl : zLay σ) {x1 x2 y0 : Int32} : zW (d + 1) kX11_stoned 5 [.ref 1, .int x1, .int x2, .retAddr 0, .retAddr 0, .retAddr 0, .retAddr 0, .retAddr 0] [.int y0] σ Q ↔ (if y0 = (0 : Int32) then (if (-1) ≤ x2 then (vp_in x1 6 ∧ zW (d + 1) kX11_stoned 25 [.ref 1, .int x1, .int x2, .retAddr 0, .retAddr 0, .retAddr 0, .retAddr 0, .retAddr 0] (va_rf (zR σ 4 (x1 : Int32).toNatClampNeg) :: [.ref 91]) σ Q) else Q (some (.int (-1))) σ) else Q (some (.int (-1))) σ) := by
  refine Iff.trans (zw_if_ne (t := 13) (show decode cX11_stoned 5 = .ok (.ifCond .ne 8, 3) by decide +kernel) (by decide)) ?_
  refine zw_ite ?_ ?_
  · refine Iff.trans (zw_iload_n (show decode cX11_stoned 8 = .ok (.iload_n 2, 1) by decide +kernel) rfl) ?_
    refine Iff.trans (zw_iconst (x := (-1)) (show decode cX11_stoned 9 = .ok (.iconst (-1), 1) by decide +kernel) (by decide)) ?_
    refine Iff.trans (zw_icmp_ge (t := 15) (show decode cX11_stoned 10 = .ok (.if_icmp .ge 5, 3) by decide +kernel) (by decide)) ?_
    refine zw_ite ?_ ?_
    · refine Iff.trans (zw_aload_n (show decode cX11_stoned 15 = .ok (.aload_n 0, 1) by decide +kernel) rfl) ?_
      refine Iff.trans (zw_get (show decode cX11_stoned 16 = .ok (.getfield 93, 3) by decide +kernel) (by decide +kernel : zfld 11 93 = some (11, 17)) (hl.k2 zk_1) (hl.n2 zk_1) (zgetR (v := 91) (hl.r zrt_1_17) rfl)) ?_
      refine Iff.trans (zw_aload_n (show decode cX11_stoned 19 = .ok (.aload_n 0, 1) by decide +kernel) rfl) ?_
      refine Iff.trans (zw_get (show decode cX11_stoned 20 = .ok (.getfield 18, 3) by decide +kernel) (by decide +kernel : zfld 11 18 = some (11, 1)) (hl.k2 zk_1) (hl.n2 zk_1) (zgetR (v := 4) (hl.r zrt_1_1) rfl)) ?_
      refine Iff.trans (zw_iload_n (show decode cX11_stoned 23 = .ok (.iload_n 1, 1) by decide +kernel) rfl) ?_
      refine Iff.trans (zw_aald (show decode cX11_stoned 24 = .ok (.aaload, 1) by decide +kernel) (by rw [(hl.k2 zk_4)]; decide) (hl.n2 zk_4) (hl.l2 zk_4 zl_4)) ?_
      refine zw_and ?_
      exact Iff.rfl
    · refine Iff.trans (zw_iconst (x := (-1)) (show decode cX11_stoned 13 = .ok (.iconst (-1), 1) by decide +kernel) (by decide)) ?_
      exact zw_iret1 (show decode cX11_stoned 14 = .ok (.ireturn, 1) by decide +kernel) rfl
  · refine Iff.trans (zw_iconst (x := (-1)) (show decode cX11_stoned 13 = .ok (.iconst (-1), 1) by decide +kernel) (by decide)) ?_
    exact zw_iret1 (show decode cX11_stoned 14 = .ok (.ireturn, 1) by decide +kernel) rfl

theorem bX11_stoned_25 {d : Nat} {σ : zS} {Q : Option Value → zS → Prop} (hl : zLay σ) {x1 x2 : Int32} {b0 : Nat} (hb0 : zk b0 = 0) : zW (d + 1) kX11_stoned 25 [.ref 1, .int x1, .int x2, .retAddr 0, .retAddr 0, .retAddr 0, .retAddr 0, .retAddr 0] [.ref b0, .ref 91] σ Q ↔ zCall d kX0_copyFrom [.ref 91, .ref b0] σ (fun r σ' => zisN r = true ∧ zW (d + 1) kX11_stoned 28 [.ref 1, .int x1, .int x2, .retAddr 0, .retAddr 0, .retAddr 0, .retAddr 0, .retAddr 0] (zRstk r ++ []) σ' Q) := by
  refine Iff.trans (zw_invV (K' := kX0_copyFrom) (as' := [.ref b0]) (rest := []) (show decode cX11_stoned 25 = .ok (.invokevirtual 139, 3) by decide +kernel) (by rfl) rfl rfl rfl (hl.k2 zk_91) (by decide) (hl.n2 zk_91) ⟨Nat.le_of_ble_eq_true rfl, Nat.le_of_ble_eq_true rfl, Nat.le_of_ble_eq_true rfl⟩) ?_
  exact Iff.rfl

theorem bX11_stoned_28 {d : Nat} {σ : zS} {Q : Option Value → zS → Prop} (hl : zLay σ) {x1 x2 : Int32} : zW (d + 1) kX11_stoned 28 [.ref 1, .int x1, .int x2, .retAddr 0, .retAddr 0, .retAddr 0, .retAddr 0, .retAddr 0] [] σ Q ↔ zW (d + 1) kX11_stoned 33 [.ref 1, .int x1, .int x2, .int 0, .int 0, .retAddr 0, .retAddr 0, .retAddr 0] [] σ Q := by
  refine Iff.trans (zw_iconst (x := 0) (show decode cX11_stoned 28 = .ok (.iconst 0, 1) by decide +kernel) (by decide)) ?_
  refine Iff.trans (zw_istore_n (ls' := [.ref 1, .int x1, .int x2, .int 0, .retAddr 0, .retAddr 0, .retAddr 0, .retAddr 0]) (show decode cX11_stoned 29 = .ok (.istore_n 3, 1) by decide +kernel) (zset_s (Nat.le_of_ble_eq_true rfl) rfl)) ?_
  refine Iff.trans (zw_iconst (x := 0) (show decode cX11_stoned 30 = .ok (.iconst 0, 1) by decide +kernel) (by decide)) ?_
  refine Iff.trans (zw_istore (ls' := [.ref 1, .int x1, .int x2, .int 0, .int 0, .retAddr 0, .retAddr 0, .retAddr 0]) (show decode cX11_stoned 31 = .ok (.istore 4, 2) by decide +kernel) (zset_s (Nat.le_of_ble_eq_true rfl) rfl)) ?_
  exact Iff.rfl

theorem bX11_stoned_33 {d : Nat} {σ : zS} {Q : Option Value → zS → Prop} (hl : zLay σ) {x1 x2 x3 x4 : Int32} {v5 v6 v7 : Value} (hv5 : v5.category = 1) (hv6 : v6.category = 1) (hv7 : v7.category = 1) : zW (d + 1) kX11_stoned 33 [.ref 1, .int x1, .int x2, .int x3, .int x4, v5, v6, v7] [] σ Q ↔ (if (zI σ 91 3) ≤ x4 then (if x2 = (-1) then Q (some (.int x3)) σ else Q (some (.int (-1))) σ) else zW (d + 1) kX11_stoned 48 [.ref 1, .int x1, .int x2, .int x3, .int x4, .int 0, v6, v7] [] σ Q) := by
  refine Iff.trans (zw_iload (show decode cX11_stoned 33 = .ok (.iload 4, 2) by decide +kernel) rfl) ?_
  refine Iff.trans (zw_aload_n (show decode cX11_stoned 35 = .ok (.aload_n 0, 1) by decide +kernel) rfl) ?_
  refine Iff.trans (zw_get (show decode cX11_stoned 36 = .ok (.getfield 93, 3) by decide +kernel) (by decide +kernel : zfld 11 93 = some (11, 17)) (hl.k2 zk_1) (hl.n2 zk_1) (zgetR (v := 91) (hl.r zrt_1_17) rfl)) ?_
  refine Iff.trans (zw_getI (show decode cX11_stoned 39 = .ok (.getfield 164, 3) by decide +kernel) (by decide +kernel : zfld 11 164 = some (0, 3)) (hl.k2 zk_91) (hl.n2 zk_91) (Or.inl rfl) (w := zI σ 91 3) rfl) ?_
  refine Iff.trans (zw_icmp_ge (t := 168) (show decode cX11_stoned 42 = .ok (.if_icmp .ge 126, 3) by decide +kernel) (by decide)) ?_
  refine zw_ite ?_ ?_
  · refine Iff.trans (zw_iload_n (show decode cX11_stoned 168 = .ok (.iload_n 2, 1) by decide +kernel) rfl) ?_
    refine Iff.trans (zw_iconst (x := (-1)) (show decode cX11_stoned 169 = .ok (.iconst (-1), 1) by decide +kernel) (by decide)) ?_
    refine Iff.trans (zw_icmp_ne (t := 177) (show decode cX11_stoned 170 = .ok (.if_icmp .ne 7, 3) by decide +kernel) (by decide)) ?_
    refine zw_ite ?_ ?_
    · refine Iff.trans (zw_iload_n (show decode cX11_stoned 173 = .ok (.iload_n 3, 1) by decide +kernel) rfl) ?_
      refine Iff.trans (zw_goto (t := 178) (show decode cX11_stoned 174 = .ok (.goto 4, 3) by decide +kernel) (by decide)) ?_
      exact zw_iret1 (show decode cX11_stoned 178 = .ok (.ireturn, 1) by decide +kernel) rfl
    · refine Iff.trans (zw_iconst (x := (-1)) (show decode cX11_stoned 177 = .ok (.iconst (-1), 1) by decide +kernel) (by decide)) ?_
      exact zw_iret1 (show decode cX11_stoned 178 = .ok (.ireturn, 1) by decide +kernel) rfl
  · refine Iff.trans (zw_iconst (x := 0) (show decode cX11_stoned 45 = .ok (.iconst 0, 1) by decide +kernel) (by decide)) ?_
    refine Iff.trans (zw_istore (ls' := [.ref 1, .int x1, .int x2, .int x3, .int x4, .int 0, v6, v7]) (show decode cX11_stoned 46 = .ok (.istore 5, 2) by decide +kernel) (zset_s (Nat.le_of_ble_eq_true rfl) rfl)) ?_
    exact Iff.rfl

theorem bX11_stoned_48 {d : Nat} {σ : zS} {Q : Option Value → zS → Prop} (hl : zLay σ) {x1 x2 x3 x4 x5 : Int32} {v6 v7 : Value} (hv6 : v6.category = 1) (hv7 : v7.category = 1) : zW (d + 1) kX11_stoned 48 [.ref 1, .int x1, .int x2, .int x3, .int x4, .int x5, v6, v7] [] σ Q ↔ (if (zI σ 91 4) ≤ x5 then zW (d + 1) kX11_stoned 33 [.ref 1, .int x1, .int x2, .int x3, .int (x4 + 1), .int x5, v6, v7] [] σ Q else zCall d kX0_signAt [.ref 91, .int x5, .int x4] σ (fun r σ' => zisN r = true ∧ zW (d + 1) kX11_stoned 71 [.ref 1, .int x1, .int x2, .int x3, .int x4, .int x5, v6, v7] (zRstk r ++ []) σ' Q)) := by
  refine Iff.trans (zw_iload (show decode cX11_stoned 48 = .ok (.iload 5, 2) by decide +kernel) rfl) ?_
  refine Iff.trans (zw_aload_n (show decode cX11_stoned 50 = .ok (.aload_n 0, 1) by decide +kernel) rfl) ?_
  refine Iff.trans (zw_get (show decode cX11_stoned 51 = .ok (.getfield 93, 3) by decide +kernel) (by decide +kernel : zfld 11 93 = some (11, 17)) (hl.k2 zk_1) (hl.n2 zk_1) (zgetR (v := 91) (hl.r zrt_1_17) rfl)) ?_
  refine Iff.trans (zw_getI (show decode cX11_stoned 54 = .ok (.getfield 167, 3) by decide +kernel) (by decide +kernel : zfld 11 167 = some (0, 4)) (hl.k2 zk_91) (hl.n2 zk_91) (Or.inl rfl) (w := zI σ 91 4) rfl) ?_
  refine Iff.trans (zw_icmp_ge (t := 162) (show decode cX11_stoned 57 = .ok (.if_icmp .ge 105, 3) by decide +kernel) (by decide)) ?_
  refine zw_ite ?_ ?_
  · refine Iff.trans (zw_iinc (w := 1) (ls' := [.ref 1, .int x1, .int x2, .int x3, .int (x4 + 1), .int x5, v6, v7]) (show decode cX11_stoned 162 = .ok (.iinc 4 1, 3) by decide +kernel) rfl (by decide) (zset_s (Nat.le_of_ble_eq_true rfl) rfl)) ?_
    refine Iff.trans (zw_goto (t := 33) (show decode cX11_stoned 165 = .ok (.goto (-132), 3) by decide +kernel) (by decide)) ?_
    exact Iff.rfl
  · refine Iff.trans (zw_aload_n (show decode cX11_stoned 60 = .ok (.aload_n 0, 1) by decide +kernel) rfl) ?_
    refine Iff.trans (zw_get (show decode cX11_stoned 61 = .ok (.getfield 93, 3) by decide +kernel) (by decide +kernel : zfld 11 93 = some (11, 17)) (hl.k2 zk_1) (hl.n2 zk_1) (zgetR (v := 91) (hl.r zrt_1_17) rfl)) ?_
    refine Iff.trans (zw_iload (show decode cX11_stoned 64 = .ok (.iload 5, 2) by decide +kernel) rfl) ?_
    refine Iff.trans (zw_iload (show decode cX11_stoned 66 = .ok (.iload 4, 2) by decide +kernel) rfl) ?_
    refine Iff.trans (zw_invV (K' := kX0_signAt) (as' := [.int x5, .int x4]) (rest := []) (show decode cX11_stoned 68 = .ok (.invokevirtual 410, 3) by decide +kernel) (by rfl) rfl rfl rfl (hl.k2 zk_91) (by decide) (hl.n2 zk_91) ⟨Nat.le_of_ble_eq_true rfl, Nat.le_of_ble_eq_true rfl, Nat.le_of_ble_eq_true rfl⟩) ?_
    exact Iff.rfl

theorem bX11_stoned_71 {d : Nat} {σ : zS} {Q : Option Value → zS → Prop} (hl : zLay σ) {x1 x2 x3 x4 x5 y0 : Int32} {v6 v7 : Value} (hv6 : v6.category = 1) (hv7 : v7.category = 1) : zW (d + 1) kX11_stoned 71 [.ref 1, .int x1, .int x2, .int x3, .int x4, .int x5, v6, v7] [.int y0] σ Q ↔ zCall d kX0_put [.ref 91, .int x5, .int x4, .int 111] σ (fun r σ' => zisN r = true ∧ zW (d + 1) kX11_stoned 86 [.ref 1, .int x1, .int x2, .int x3, .int x4, .int x5, .int y0, v7] (zRstk r ++ []) σ' Q) := by
  refine Iff.trans (zw_istore (ls' := [.ref 1, .int x1, .int x2, .int x3, .int x4, .int x5, .int y0, v7]) (show decode cX11_stoned 71 = .ok (.istore 6, 2) by decide +kernel) (zset_s (Nat.le_of_ble_eq_true rfl) rfl)) ?_
  refine Iff.trans (zw_aload_n (show decode cX11_stoned 73 = .ok (.aload_n 0, 1) by decide +kernel) rfl) ?_
  refine Iff.trans (zw_get (show decode cX11_stoned 74 = .ok (.getfield 93, 3) by decide +kernel) (by decide +kernel : zfld 11 93 = some (11, 17)) (hl.k2 zk_1) (hl.n2 zk_1) (zgetR (v := 91) (hl.r zrt_1_17) rfl)) ?_
  refine Iff.trans (zw_iload (show decode cX11_stoned 77 = .ok (.iload 5, 2) by decide +kernel) rfl) ?_
  refine Iff.trans (zw_iload (show decode cX11_stoned 79 = .ok (.iload 4, 2) by decide +kernel) rfl) ?_
  refine Iff.trans (zw_bipush (x := 111) (show decode cX11_stoned 81 = .ok (.bipush 111, 2) by decide +kernel) (by decide)) ?_
  refine Iff.trans (zw_invV (K' := kX0_put) (as' := [.int x5, .int x4, .int 111]) (rest := []) (show decode cX11_stoned 83 = .ok (.invokevirtual 413, 3) by decide +kernel) (by rfl) rfl rfl rfl (hl.k2 zk_91) (by decide) (hl.n2 zk_91) ⟨Nat.le_of_ble_eq_true rfl, Nat.le_of_ble_eq_true rfl, Nat.le_of_ble_eq_true rfl⟩) ?_
  exact Iff.rfl

theorem bX11_stoned_86 {d : Nat} {σ : zS} {Q : Option Value → zS → Prop} (hl : zLay σ) {x1 x2 x3 x4 x5 x6 : Int32} {v7 : Value} (hv7 : v7.category = 1) : zW (d + 1) kX11_stoned 86 [.ref 1, .int x1, .int x2, .int x3, .int x4, .int x5, .int x6, v7] [] σ Q ↔ (if x6 = 111 then zW (d + 1) kX11_stoned 108 [.ref 1, .int x1, .int x2, .int x3, .int x4, .int x5, .int x6, v7] [] σ Q else zCall d kX11_agrees [.ref 1, .ref 91] σ (fun r σ' => zisN r = true ∧ zW (d + 1) kX11_stoned 101 [.ref 1, .int x1, .int x2, .int x3, .int x4, .int x5, .int x6, v7] (zRstk r ++ []) σ' Q)) := by
  refine Iff.trans (zw_iload (show decode cX11_stoned 86 = .ok (.iload 6, 2) by decide +kernel) rfl) ?_
  refine Iff.trans (zw_bipush (x := 111) (show decode cX11_stoned 88 = .ok (.bipush 111, 2) by decide +kernel) (by decide)) ?_
  refine Iff.trans (zw_icmp_eq (t := 108) (show decode cX11_stoned 90 = .ok (.if_icmp .eq 18, 3) by decide +kernel) (by decide)) ?_
  refine zw_ite ?_ ?_
  · exact Iff.rfl
  · refine Iff.trans (zw_aload_n (show decode cX11_stoned 93 = .ok (.aload_n 0, 1) by decide +kernel) rfl) ?_
    refine Iff.trans (zw_aload_n (show decode cX11_stoned 94 = .ok (.aload_n 0, 1) by decide +kernel) rfl) ?_
    refine Iff.trans (zw_get (show decode cX11_stoned 95 = .ok (.getfield 93, 3) by decide +kernel) (by decide +kernel : zfld 11 93 = some (11, 17)) (hl.k2 zk_1) (hl.n2 zk_1) (zgetR (v := 91) (hl.r zrt_1_17) rfl)) ?_
    refine Iff.trans (zw_invV (K' := kX11_agrees) (as' := [.ref 91]) (rest := []) (show decode cX11_stoned 98 = .ok (.invokevirtual 396, 3) by decide +kernel) (by rfl) rfl rfl rfl (hl.k2 zk_1) (by decide) (hl.n2 zk_1) ⟨Nat.le_of_ble_eq_true rfl, Nat.le_of_ble_eq_true rfl, Nat.le_of_ble_eq_true rfl⟩) ?_
    exact Iff.rfl

theorem bX11_stoned_101 {d : Nat} {σ : zS} {Q : Option Value → zS → Prop} (hl : zLay σ) {x1 x2 x3 x4 x5 x6 y0 : Int32} {v7 : Value} (hv7 : v7.category = 1) : zW (d + 1) kX11_stoned 101 [.ref 1, .int x1, .int x2, .int x3, .int x4, .int x5, .int x6, v7] [.int y0] σ Q ↔ (if y0 = (0 : Int32) then zW (d + 1) kX11_stoned 108 [.ref 1, .int x1, .int x2, .int x3, .int x4, .int x5, .int x6, v7] [] σ Q else zW (d + 1) kX11_stoned 109 [.ref 1, .int x1, .int x2, .int x3, .int x4, .int x5, .int x6, v7] [.int 1] σ Q) := by
  refine Iff.trans (zw_if_eq (t := 108) (show decode cX11_stoned 101 = .ok (.ifCond .eq 7, 3) by decide +kernel) (by decide)) ?_
  refine zw_ite ?_ ?_
  · exact Iff.rfl
  · refine Iff.trans (zw_iconst (x := 1) (show decode cX11_stoned 104 = .ok (.iconst 1, 1) by decide +kernel) (by decide)) ?_
    refine Iff.trans (zw_goto (t := 109) (show decode cX11_stoned 105 = .ok (.goto 4, 3) by decide +kernel) (by decide)) ?_
    exact Iff.rfl

theorem bX11_stoned_108 {d : Nat} {σ : zS} {Q : Option Value → zS → Prop} (hl : zLay σ) {x1 x2 x3 x4 x5 x6 : Int32} {v7 : Value} (hv7 : v7.category = 1) : zW (d + 1) kX11_stoned 108 [.ref 1, .int x1, .int x2, .int x3, .int x4, .int x5, .int x6, v7] [] σ Q ↔ zW (d + 1) kX11_stoned 109 [.ref 1, .int x1, .int x2, .int x3, .int x4, .int x5, .int x6, v7] [.int 0] σ Q := by
  refine Iff.trans (zw_iconst (x := 0) (show decode cX11_stoned 108 = .ok (.iconst 0, 1) by decide +kernel) (by decide)) ?_
  exact Iff.rfl

theorem bX11_stoned_109 {d : Nat} {σ : zS} {Q : Option Value → zS → Prop} (hl : zLay σ) {x1 x2 x3 x4 x5 x6 y0 : Int32} {v7 : Value} (hv7 : v7.category = 1) : zW (d + 1) kX11_stoned 109 [.ref 1, .int x1, .int x2, .int x3, .int x4, .int x5, .int x6, v7] [.int y0] σ Q ↔ zCall d kX0_put [.ref 91, .int x5, .int x4, .int x6] σ (fun r σ' => zisN r = true ∧ zW (d + 1) kX11_stoned 124 [.ref 1, .int x1, .int x2, .int x3, .int x4, .int x5, .int x6, .int y0] (zRstk r ++ []) σ' Q) := by
  refine Iff.trans (zw_istore (ls' := [.ref 1, .int x1, .int x2, .int x3, .int x4, .int x5, .int x6, .int y0]) (show decode cX11_stoned 109 = .ok (.istore 7, 2) by decide +kernel) (zset_s (Nat.le_of_ble_eq_true rfl) rfl)) ?_
  refine Iff.trans (zw_aload_n (show decode cX11_stoned 111 = .ok (.aload_n 0, 1) by decide +kernel) rfl) ?_
  refine Iff.trans (zw_get (show decode cX11_stoned 112 = .ok (.getfield 93, 3) by decide +kernel) (by decide +kernel : zfld 11 93 = some (11, 17)) (hl.k2 zk_1) (hl.n2 zk_1) (zgetR (v := 91) (hl.r zrt_1_17) rfl)) ?_
  refine Iff.trans (zw_iload (show decode cX11_stoned 115 = .ok (.iload 5, 2) by decide +kernel) rfl) ?_
  refine Iff.trans (zw_iload (show decode cX11_stoned 117 = .ok (.iload 4, 2) by decide +kernel) rfl) ?_
  refine Iff.trans (zw_iload (show decode cX11_stoned 119 = .ok (.iload 6, 2) by decide +kernel) rfl) ?_
  refine Iff.trans (zw_invV (K' := kX0_put) (as' := [.int x5, .int x4, .int x6]) (rest := []) (show decode cX11_stoned 121 = .ok (.invokevirtual 413, 3) by decide +kernel) (by rfl) rfl rfl rfl (hl.k2 zk_91) (by decide) (hl.n2 zk_91) ⟨Nat.le_of_ble_eq_true rfl, Nat.le_of_ble_eq_true rfl, Nat.le_of_ble_eq_true rfl⟩) ?_
  exact Iff.rfl

theorem bX11_stoned_124 {d : Nat} {σ : zS} {Q : Option Value → zS → Prop} (hl : zLay σ) {x1 x2 x3 x4 x5 x6 x7 : Int32} : zW (d + 1) kX11_stoned 124 [.ref 1, .int x1, .int x2, .int x3, .int x4, .int x5, .int x6, .int x7] [] σ Q ↔ (if x7 = (0 : Int32) then zW (d + 1) kX11_stoned 143 [.ref 1, .int x1, .int x2, .int x3, .int x4, .int x5, .int x6, .int x7] [] σ Q else (if x3 = x2 then Q (some (.int ((16 * x4) + x5))) σ else zW (d + 1) kX11_stoned 143 [.ref 1, .int x1, .int x2, .int x3, .int x4, .int x5, .int x6, .int x7] [] σ Q)) := by
  refine Iff.trans (zw_iload (show decode cX11_stoned 124 = .ok (.iload 7, 2) by decide +kernel) rfl) ?_
  refine Iff.trans (zw_if_eq (t := 143) (show decode cX11_stoned 126 = .ok (.ifCond .eq 17, 3) by decide +kernel) (by decide)) ?_
  refine zw_ite ?_ ?_
  · exact Iff.rfl
  · refine Iff.trans (zw_iload_n (show decode cX11_stoned 129 = .ok (.iload_n 3, 1) by decide +kernel) rfl) ?_
    refine Iff.trans (zw_iload_n (show decode cX11_stoned 130 = .ok (.iload_n 2, 1) by decide +kernel) rfl) ?_
    refine Iff.trans (zw_icmp_ne (t := 143) (show decode cX11_stoned 131 = .ok (.if_icmp .ne 12, 3) by decide +kernel) (by decide)) ?_
    refine zw_ite ?_ ?_
    · refine Iff.trans (zw_bipush (x := 16) (show decode cX11_stoned 134 = .ok (.bipush 16, 2) by decide +kernel) (by decide)) ?_
      refine Iff.trans (zw_iload (show decode cX11_stoned 136 = .ok (.iload 4, 2) by decide +kernel) rfl) ?_
      refine Iff.trans (zw_imul (show decode cX11_stoned 138 = .ok (.imul, 1) by decide +kernel)) ?_
      refine Iff.trans (zw_iload (show decode cX11_stoned 139 = .ok (.iload 5, 2) by decide +kernel) rfl) ?_
      refine Iff.trans (zw_iadd (show decode cX11_stoned 141 = .ok (.iadd, 1) by decide +kernel)) ?_
      exact zw_iret1 (show decode cX11_stoned 142 = .ok (.ireturn, 1) by decide +kernel) rfl
    · exact Iff.rfl

theorem bX11_stoned_143 {d : Nat} {σ : zS} {Q : Option Value → zS → Prop} (hl : zLay σ) {x1 x2 x3 x4 x5 x6 x7 : Int32} : zW (d + 1) kX11_stoned 143 [.ref 1, .int x1, .int x2, .int x3, .int x4, .int x5, .int x6, .int x7] [] σ Q ↔ (if x7 = (0 : Int32) then zW (d + 1) kX11_stoned 48 [.ref 1, .int x1, .int x2, .int (x3 + 0), .int x4, .int (x5 + 1), .int x6, .int x7] [] σ Q else zW (d + 1) kX11_stoned 48 [.ref 1, .int x1, .int x2, .int (x3 + 1), .int x4, .int (x5 + 1), .int x6, .int x7] [] σ Q) := by
  refine Iff.trans (zw_iload_n (show decode cX11_stoned 143 = .ok (.iload_n 3, 1) by decide +kernel) rfl) ?_
  refine Iff.trans (zw_iload (show decode cX11_stoned 144 = .ok (.iload 7, 2) by decide +kernel) rfl) ?_
  refine Iff.trans (zw_if_eq (t := 153) (show decode cX11_stoned 146 = .ok (.ifCond .eq 7, 3) by decide +kernel) (by decide)) ?_
  refine zw_ite ?_ ?_
  · refine Iff.trans (zw_iconst (x := 0) (show decode cX11_stoned 153 = .ok (.iconst 0, 1) by decide +kernel) (by decide)) ?_
    refine Iff.trans (zw_iadd (show decode cX11_stoned 154 = .ok (.iadd, 1) by decide +kernel)) ?_
    refine Iff.trans (zw_istore_n (ls' := [.ref 1, .int x1, .int x2, .int (x3 + 0), .int x4, .int x5, .int x6, .int x7]) (show decode cX11_stoned 155 = .ok (.istore_n 3, 1) by decide +kernel) (zset_s (Nat.le_of_ble_eq_true rfl) rfl)) ?_
    refine Iff.trans (zw_iinc (w := 1) (ls' := [.ref 1, .int x1, .int x2, .int (x3 + 0), .int x4, .int (x5 + 1), .int x6, .int x7]) (show decode cX11_stoned 156 = .ok (.iinc 5 1, 3) by decide +kernel) rfl (by decide) (zset_s (Nat.le_of_ble_eq_true rfl) rfl)) ?_
    refine Iff.trans (zw_goto (t := 48) (show decode cX11_stoned 159 = .ok (.goto (-111), 3) by decide +kernel) (by decide)) ?_
    exact Iff.rfl
  · refine Iff.trans (zw_iconst (x := 1) (show decode cX11_stoned 149 = .ok (.iconst 1, 1) by decide +kernel) (by decide)) ?_
    refine Iff.trans (zw_goto (t := 154) (show decode cX11_stoned 150 = .ok (.goto 4, 3) by decide +kernel) (by decide)) ?_
    refine Iff.trans (zw_iadd (show decode cX11_stoned 154 = .ok (.iadd, 1) by decide +kernel)) ?_
    refine Iff.trans (zw_istore_n (ls' := [.ref 1, .int x1, .int x2, .int (x3 + 1), .int x4, .int x5, .int x6, .int x7]) (show decode cX11_stoned 155 = .ok (.istore_n 3, 1) by decide +kernel) (zset_s (Nat.le_of_ble_eq_true rfl) rfl)) ?_
    refine Iff.trans (zw_iinc (w := 1) (ls' := [.ref 1, .int x1, .int x2, .int (x3 + 1), .int x4, .int (x5 + 1), .int x6, .int x7]) (show decode cX11_stoned 156 = .ok (.iinc 5 1, 3) by decide +kernel) rfl (by decide) (zset_s (Nat.le_of_ble_eq_true rfl) rfl)) ?_
    refine Iff.trans (zw_goto (t := 48) (show decode cX11_stoned 159 = .ok (.goto (-111), 3) by decide +kernel) (by decide)) ?_
    exact Iff.rfl

theorem bX11_fair_0 {d : Nat} {σ : zS} {Q : Option Value → zS → Prop} (hl : zLay σ) {x1 x2 x3 x4 : Int32} : zCall (d + 1) kX11_fair [.ref 1, .int x1, .int x2, .int x3, .int x4] σ Q ↔ zCall d kX11_noBrook [.ref 1, .int x1] σ (fun r σ' => zisN r = true ∧ zW (d + 1) kX11_fair 5 [.ref 1, .int x1, .int x2, .int x3, .int x4, .retAddr 0, .retAddr 0, .retAddr 0, .retAddr 0, .retAddr 0] (zRstk r ++ []) σ' Q) := by
  show zW (d + 1) kX11_fair 0 [.ref 1, .int x1, .int x2, .int x3, .int x4, .retAddr 0, .retAddr 0, .retAddr 0, .retAddr 0, .retAddr 0] [] σ Q ↔ _
  refine Iff.trans (zw_aload_n (show decode cX11_fair 0 = .ok (.aload_n 0, 1) by decide +kernel) rfl) ?_
  refine Iff.trans (zw_iload_n (show decode cX11_fair 1 = .ok (.iload_n 1, 1) by decide +kernel) rfl) ?_
  refine Iff.trans (zw_invV (K' := kX11_noBrook) (as' := [.int x1]) (rest := []) (show decode cX11_fair 2 = .ok (.invokevirtual 157, 3) by decide +kernel) (by rfl) rfl rfl rfl (hl.k2 zk_1) (by decide) (hl.n2 zk_1) ⟨Nat.le_of_ble_eq_true rfl, Nat.le_of_ble_eq_true rfl, Nat.le_of_ble_eq_true rfl⟩) ?_
  exact Iff.rfl

theorem bX11_fair_5 {d : Nat} {σ : zS} {Q : Option Value → zS → Prop} (hl : zLay σ) {x1 x2 x3 x4 y0 : Int32} : zW (d + 1) kX11_fair 5 [.ref 1, .int x1, .int x2, .int x3, .int x4, .retAddr 0, .retAddr 0, .retAddr 0, .retAddr 0, .retAddr 0] [.int y0] σ Q ↔ (if y0 = (0 : Int32) then zCall d kX11_noStick [.ref 1, .int x2] σ (fun r σ' => zisN r = true ∧ zW (d + 1) kX11_fair 13 [.ref 1, .int x1, .int x2, .int x3, .int x4, .retAddr 0, .retAddr 0, .retAddr 0, .retAddr 0, .retAddr 0] (zRstk r ++ []) σ' Q) else Q (some (.int (-1))) σ) := by
  refine Iff.trans (zw_if_ne (t := 38) (show decode cX11_fair 5 = .ok (.ifCond .ne 33, 3) by decide +kernel) (by decide)) ?_
  refine zw_ite ?_ ?_
  · refine Iff.trans (zw_aload_n (show decode cX11_fair 8 = .ok (.aload_n 0, 1) by decide +kernel) rfl) ?_
    refine Iff.trans (zw_iload_n (show decode cX11_fair 9 = .ok (.iload_n 2, 1) by decide +kernel) rfl) ?_
    refine Iff.trans (zw_invV (K' := kX11_noStick) (as' := [.int x2]) (rest := []) (show decode cX11_fair 10 = .ok (.invokevirtual 187, 3) by decide +kernel) (by rfl) rfl rfl rfl (hl.k2 zk_1) (by decide) (hl.n2 zk_1) ⟨Nat.le_of_ble_eq_true rfl, Nat.le_of_ble_eq_true rfl, Nat.le_of_ble_eq_true rfl⟩) ?_
    exact Iff.rfl
  · refine Iff.trans (zw_iconst (x := (-1)) (show decode cX11_fair 38 = .ok (.iconst (-1), 1) by decide +kernel) (by decide)) ?_
    exact zw_iret1 (show decode cX11_fair 39 = .ok (.ireturn, 1) by decide +kernel) rfl

theorem bX11_fair_13 {d : Nat} {σ : zS} {Q : Option Value → zS → Prop} (hl : zLay σ) {x1 x2 x3 x4 y0 : Int32} : zW (d + 1) kX11_fair 13 [.ref 1, .int x1, .int x2, .int x3, .int x4, .retAddr 0, .retAddr 0, .retAddr 0, .retAddr 0, .retAddr 0] [.int y0] σ Q ↔ (if y0 = (0 : Int32) then (if x3 < 2 then Q (some (.int (-1))) σ else (if 6 < x3 then Q (some (.int (-1))) σ else (if x4 < (0 : Int32) then Q (some (.int (-1))) σ else (if x4 ≤ 1 then (vp_in x1 6 ∧ zW (d + 1) kX11_fair 46 [.ref 1, .int x1, .int x2, .int x3, .int x4, .retAddr 0, .retAddr 0, .retAddr 0, .retAddr 0, .retAddr 0] (va_rf (zR σ 4 (x1 : Int32).toNatClampNeg) :: []) σ Q) else Q (some (.int (-1))) σ)))) else Q (some (.int (-1))) σ) := by
  refine Iff.trans (zw_if_ne (t := 38) (show decode cX11_fair 13 = .ok (.ifCond .ne 25, 3) by decide +kernel) (by decide)) ?_
  refine zw_ite ?_ ?_
  · refine Iff.trans (zw_iload_n (show decode cX11_fair 16 = .ok (.iload_n 3, 1) by decide +kernel) rfl) ?_
    refine Iff.trans (zw_iconst (x := 2) (show decode cX11_fair 17 = .ok (.iconst 2, 1) by decide +kernel) (by decide)) ?_
    refine Iff.trans (zw_icmp_lt (t := 38) (show decode cX11_fair 18 = .ok (.if_icmp .lt 20, 3) by decide +kernel) (by decide)) ?_
    refine zw_ite ?_ ?_
    · refine Iff.trans (zw_iconst (x := (-1)) (show decode cX11_fair 38 = .ok (.iconst (-1), 1) by decide +kernel) (by decide)) ?_
      exact zw_iret1 (show decode cX11_fair 39 = .ok (.ireturn, 1) by decide +kernel) rfl
    · refine Iff.trans (zw_iload_n (show decode cX11_fair 21 = .ok (.iload_n 3, 1) by decide +kernel) rfl) ?_
      refine Iff.trans (zw_bipush (x := 6) (show decode cX11_fair 22 = .ok (.bipush 6, 2) by decide +kernel) (by decide)) ?_
      refine Iff.trans (zw_icmp_gt (t := 38) (show decode cX11_fair 24 = .ok (.if_icmp .gt 14, 3) by decide +kernel) (by decide)) ?_
      refine zw_ite ?_ ?_
      · refine Iff.trans (zw_iconst (x := (-1)) (show decode cX11_fair 38 = .ok (.iconst (-1), 1) by decide +kernel) (by decide)) ?_
        exact zw_iret1 (show decode cX11_fair 39 = .ok (.ireturn, 1) by decide +kernel) rfl
      · refine Iff.trans (zw_iload (show decode cX11_fair 27 = .ok (.iload 4, 2) by decide +kernel) rfl) ?_
        refine Iff.trans (zw_if_lt (t := 38) (show decode cX11_fair 29 = .ok (.ifCond .lt 9, 3) by decide +kernel) (by decide)) ?_
        refine zw_ite ?_ ?_
        · refine Iff.trans (zw_iconst (x := (-1)) (show decode cX11_fair 38 = .ok (.iconst (-1), 1) by decide +kernel) (by decide)) ?_
          exact zw_iret1 (show decode cX11_fair 39 = .ok (.ireturn, 1) by decide +kernel) rfl
        · refine Iff.trans (zw_iload (show decode cX11_fair 32 = .ok (.iload 4, 2) by decide +kernel) rfl) ?_
          refine Iff.trans (zw_iconst (x := 1) (show decode cX11_fair 34 = .ok (.iconst 1, 1) by decide +kernel) (by decide)) ?_
          refine Iff.trans (zw_icmp_le (t := 40) (show decode cX11_fair 35 = .ok (.if_icmp .le 5, 3) by decide +kernel) (by decide)) ?_
          refine zw_ite ?_ ?_
          · refine Iff.trans (zw_aload_n (show decode cX11_fair 40 = .ok (.aload_n 0, 1) by decide +kernel) rfl) ?_
            refine Iff.trans (zw_get (show decode cX11_fair 41 = .ok (.getfield 18, 3) by decide +kernel) (by decide +kernel : zfld 11 18 = some (11, 1)) (hl.k2 zk_1) (hl.n2 zk_1) (zgetR (v := 4) (hl.r zrt_1_1) rfl)) ?_
            refine Iff.trans (zw_iload_n (show decode cX11_fair 44 = .ok (.iload_n 1, 1) by decide +kernel) rfl) ?_
            refine Iff.trans (zw_aald (show decode cX11_fair 45 = .ok (.aaload, 1) by decide +kernel) (by rw [(hl.k2 zk_4)]; decide) (hl.n2 zk_4) (hl.l2 zk_4 zl_4)) ?_
            refine zw_and ?_
            exact Iff.rfl
          · refine Iff.trans (zw_iconst (x := (-1)) (show decode cX11_fair 38 = .ok (.iconst (-1), 1) by decide +kernel) (by decide)) ?_
            exact zw_iret1 (show decode cX11_fair 39 = .ok (.ireturn, 1) by decide +kernel) rfl
  · refine Iff.trans (zw_iconst (x := (-1)) (show decode cX11_fair 38 = .ok (.iconst (-1), 1) by decide +kernel) (by decide)) ?_
    exact zw_iret1 (show decode cX11_fair 39 = .ok (.ireturn, 1) by decide +kernel) rfl

theorem bX11_fair_46 {d : Nat} {σ : zS} {Q : Option Value → zS → Prop} (hl : zLay σ) {x1 x2 x3 x4 : Int32} {b0 : Nat} (hb0 : zk b0 = 0) : zW (d + 1) kX11_fair 46 [.ref 1, .int x1, .int x2, .int x3, .int x4, .retAddr 0, .retAddr 0, .retAddr 0, .retAddr 0, .retAddr 0] [.ref b0] σ Q ↔ zCall d kX3_clear [.ref 83] σ (fun r σ' => zisN r = true ∧ zW (d + 1) kX11_fair 55 [.ref 1, .int x1, .int x2, .int x3, .int x4, .ref b0, .retAddr 0, .retAddr 0, .retAddr 0, .retAddr 0] (zRstk r ++ []) σ' Q) := by
  refine Iff.trans (zw_astore (ls' := [.ref 1, .int x1, .int x2, .int x3, .int x4, .ref b0, .retAddr 0, .retAddr 0, .retAddr 0, .retAddr 0]) (show decode cX11_fair 46 = .ok (.astore 5, 2) by decide +kernel) (zset_s (Nat.le_of_ble_eq_true rfl) rfl)) ?_
  refine Iff.trans (zw_aload_n (show decode cX11_fair 48 = .ok (.aload_n 0, 1) by decide +kernel) rfl) ?_
  refine Iff.trans (zw_get (show decode cX11_fair 49 = .ok (.getfield 78, 3) by decide +kernel) (by decide +kernel : zfld 11 78 = some (11, 14)) (hl.k2 zk_1) (hl.n2 zk_1) (zgetR (v := 83) (hl.r zrt_1_14) rfl)) ?_
  refine Iff.trans (zw_invV (K' := kX3_clear) (as' := []) (rest := []) (show decode cX11_fair 52 = .ok (.invokevirtual 355, 3) by decide +kernel) (by rfl) rfl rfl rfl (hl.k2 zk_83) (by decide) (hl.n2 zk_83) ⟨Nat.le_of_ble_eq_true rfl, Nat.le_of_ble_eq_true rfl, Nat.le_of_ble_eq_true rfl⟩) ?_
  exact Iff.rfl

theorem bX11_fair_55 {d : Nat} {σ : zS} {Q : Option Value → zS → Prop} (hl : zLay σ) {x1 x2 x3 x4 : Int32} {a5 : Nat} (ha5 : zk a5 = 0) : zW (d + 1) kX11_fair 55 [.ref 1, .int x1, .int x2, .int x3, .int x4, .ref a5, .retAddr 0, .retAddr 0, .retAddr 0, .retAddr 0] [] σ Q ↔ zW (d + 1) kX11_fair 58 [.ref 1, .int x1, .int x2, .int x3, .int x4, .ref a5, .int 0, .retAddr 0, .retAddr 0, .retAddr 0] [] σ Q := by
  refine Iff.trans (zw_iconst (x := 0) (show decode cX11_fair 55 = .ok (.iconst 0, 1) by decide +kernel) (by decide)) ?_
  refine Iff.trans (zw_istore (ls' := [.ref 1, .int x1, .int x2, .int x3, .int x4, .ref a5, .int 0, .retAddr 0, .retAddr 0, .retAddr 0]) (show decode cX11_fair 56 = .ok (.istore 6, 2) by decide +kernel) (zset_s (Nat.le_of_ble_eq_true rfl) rfl)) ?_
  exact Iff.rfl

theorem bX11_fair_58 {d : Nat} {σ : zS} {Q : Option Value → zS → Prop} (hl : zLay σ) {x1 x2 x3 x4 x6 : Int32} {a5 : Nat} {v7 : Value} (ha5 : zk a5 = 0) (hv7 : v7.category = 1) : zW (d + 1) kX11_fair 58 [.ref 1, .int x1, .int x2, .int x3, .int x4, .ref a5, .int x6, v7, .retAddr 0, .retAddr 0] [] σ Q ↔ (if (zI σ a5 3) ≤ x6 then (if x3 ≤ (zI σ 83 1) then zW (d + 1) kX11_fair 128 [.ref 1, .int x1, .int x2, .int x3, .int x4, .ref a5, .int (-1), .int (-1), .int 0, .retAddr 0] [] σ Q else Q (some (.int (-1))) σ) else (vp_in x2 10 ∧ zW (d + 1) kX11_fair 77 [.ref 1, .int x1, .int x2, .int x3, .int x4, .ref a5, .int x6, v7, .retAddr 0, .retAddr 0] (va_rf (zR σ 5 (x2 : Int32).toNatClampNeg) :: [.ref a5, .ref 1]) σ Q)) := by
  refine Iff.trans (zw_iload (show decode cX11_fair 58 = .ok (.iload 6, 2) by decide +kernel) rfl) ?_
  refine Iff.trans (zw_aload (show decode cX11_fair 60 = .ok (.aload 5, 2) by decide +kernel) rfl) ?_
  refine Iff.trans (zw_getI (show decode cX11_fair 62 = .ok (.getfield 164, 3) by decide +kernel) (by decide +kernel : zfld 11 164 = some (0, 3)) (hl.k2 ha5) (hl.n2 ha5) (Or.inl rfl) (w := zI σ a5 3) rfl) ?_
  refine Iff.trans (zw_icmp_ge (t := 106) (show decode cX11_fair 65 = .ok (.if_icmp .ge 41, 3) by decide +kernel) (by decide)) ?_
  refine zw_ite ?_ ?_
  · refine Iff.trans (zw_aload_n (show decode cX11_fair 106 = .ok (.aload_n 0, 1) by decide +kernel) rfl) ?_
    refine Iff.trans (zw_get (show decode cX11_fair 107 = .ok (.getfield 78, 3) by decide +kernel) (by decide +kernel : zfld 11 78 = some (11, 14)) (hl.k2 zk_1) (hl.n2 zk_1) (zgetR (v := 83) (hl.r zrt_1_14) rfl)) ?_
    refine Iff.trans (zw_getI (show decode cX11_fair 110 = .ok (.getfield 416, 3) by decide +kernel) (by decide +kernel : zfld 11 416 = some (3, 1)) (hl.k2 zk_83) (hl.n2 zk_83) (Or.inl rfl) (w := zI σ 83 1) rfl) ?_
    refine Iff.trans (zw_iload_n (show decode cX11_fair 113 = .ok (.iload_n 3, 1) by decide +kernel) rfl) ?_
    refine Iff.trans (zw_icmp_ge (t := 119) (show decode cX11_fair 114 = .ok (.if_icmp .ge 5, 3) by decide +kernel) (by decide)) ?_
    refine zw_ite ?_ ?_
    · refine Iff.trans (zw_iconst (x := (-1)) (show decode cX11_fair 119 = .ok (.iconst (-1), 1) by decide +kernel) (by decide)) ?_
      refine Iff.trans (zw_istore (ls' := [.ref 1, .int x1, .int x2, .int x3, .int x4, .ref a5, .int (-1), v7, .retAddr 0, .retAddr 0]) (show decode cX11_fair 120 = .ok (.istore 6, 2) by decide +kernel) (zset_s (Nat.le_of_ble_eq_true rfl) rfl)) ?_
      refine Iff.trans (zw_iconst (x := (-1)) (show decode cX11_fair 122 = .ok (.iconst (-1), 1) by decide +kernel) (by decide)) ?_
      refine Iff.trans (zw_istore (ls' := [.ref 1, .int x1, .int x2, .int x3, .int x4, .ref a5, .int (-1), .int (-1), .retAddr 0, .retAddr 0]) (show decode cX11_fair 123 = .ok (.istore 7, 2) by decide +kernel) (zset_s (Nat.le_of_ble_eq_true rfl) rfl)) ?_
      refine Iff.trans (zw_iconst (x := 0) (show decode cX11_fair 125 = .ok (.iconst 0, 1) by decide +kernel) (by decide)) ?_
      refine Iff.trans (zw_istore (ls' := [.ref 1, .int x1, .int x2, .int x3, .int x4, .ref a5, .int (-1), .int (-1), .int 0, .retAddr 0]) (show decode cX11_fair 126 = .ok (.istore 8, 2) by decide +kernel) (zset_s (Nat.le_of_ble_eq_true rfl) rfl)) ?_
      exact Iff.rfl
    · refine Iff.trans (zw_iconst (x := (-1)) (show decode cX11_fair 117 = .ok (.iconst (-1), 1) by decide +kernel) (by decide)) ?_
      exact zw_iret1 (show decode cX11_fair 118 = .ok (.ireturn, 1) by decide +kernel) rfl
  · refine Iff.trans (zw_aload_n (show decode cX11_fair 68 = .ok (.aload_n 0, 1) by decide +kernel) rfl) ?_
    refine Iff.trans (zw_aload (show decode cX11_fair 69 = .ok (.aload 5, 2) by decide +kernel) rfl) ?_
    refine Iff.trans (zw_aload_n (show decode cX11_fair 71 = .ok (.aload_n 0, 1) by decide +kernel) rfl) ?_
    refine Iff.trans (zw_get (show decode cX11_fair 72 = .ok (.getfield 24, 3) by decide +kernel) (by decide +kernel : zfld 11 24 = some (11, 3)) (hl.k2 zk_1) (hl.n2 zk_1) (zgetR (v := 5) (hl.r zrt_1_3) rfl)) ?_
    refine Iff.trans (zw_iload_n (show decode cX11_fair 75 = .ok (.iload_n 2, 1) by decide +kernel) rfl) ?_
    refine Iff.trans (zw_aald (show decode cX11_fair 76 = .ok (.aaload, 1) by decide +kernel) (by rw [(hl.k2 zk_5)]; decide) (hl.n2 zk_5) (hl.l2 zk_5 zl_5)) ?_
    refine zw_and ?_
    exact Iff.rfl

theorem bX11_fair_77 {d : Nat} {σ : zS} {Q : Option Value → zS → Prop} (hl : zLay σ) {x1 x2 x3 x4 x6 : Int32} {a5 b0 b1 : Nat} {v7 : Value} (ha5 : zk a5 = 0) (hv7 : v7.category = 1) (hb0 : zk b0 = 6) (hb1 : zk b1 = 0) : zW (d + 1) kX11_fair 77 [.ref 1, .int x1, .int x2, .int x3, .int x4, .ref a5, .int x6, v7, .retAddr 0, .retAddr 0] [.ref b0, .ref b1, .ref 1] σ Q ↔ zCall d kX11_ticksAlone [.ref 1, .ref b1, .ref b0, .int x6, .long 0] σ (fun r σ' => zisN r = true ∧ zW (d + 1) kX11_fair 83 [.ref 1, .int x1, .int x2, .int x3, .int x4, .ref a5, .int x6, v7, .retAddr 0, .retAddr 0] (zRstk r ++ []) σ' Q) := by
  refine Iff.trans (zw_iload (show decode cX11_fair 77 = .ok (.iload 6, 2) by decide +kernel) rfl) ?_
  refine Iff.trans (zw_lconst (x := 0) (show decode cX11_fair 79 = .ok (.lconst 0, 1) by decide +kernel) (by decide)) ?_
  refine Iff.trans (zw_invV (K' := kX11_ticksAlone) (as' := [.ref b1, .ref b0, .int x6, .long 0]) (rest := []) (show decode cX11_fair 80 = .ok (.invokevirtual 297, 3) by decide +kernel) (by rfl) rfl rfl rfl (hl.k2 zk_1) (by decide) (hl.n2 zk_1) ⟨Nat.le_of_ble_eq_true rfl, Nat.le_of_ble_eq_true rfl, Nat.le_of_ble_eq_true rfl⟩) ?_
  exact Iff.rfl

theorem bX11_fair_83 {d : Nat} {σ : zS} {Q : Option Value → zS → Prop} (hl : zLay σ) {x1 x2 x3 x4 x6 y0 : Int32} {a5 : Nat} {v7 : Value} (ha5 : zk a5 = 0) (hv7 : v7.category = 1) : zW (d + 1) kX11_fair 83 [.ref 1, .int x1, .int x2, .int x3, .int x4, .ref a5, .int x6, v7, .retAddr 0, .retAddr 0] [.int y0] σ Q ↔ (if y0 = (-1) then zW (d + 1) kX11_fair 100 [.ref 1, .int x1, .int x2, .int x3, .int x4, .ref a5, .int x6, .int y0, .retAddr 0, .retAddr 0] [] σ Q else zCall d kX3_add [.ref 83, .int y0] σ (fun r σ' => zisN r = true ∧ zW (d + 1) kX11_fair 100 [.ref 1, .int x1, .int x2, .int x3, .int x4, .ref a5, .int x6, .int y0, .retAddr 0, .retAddr 0] (zRstk r ++ []) σ' Q)) := by
  refine Iff.trans (zw_istore (ls' := [.ref 1, .int x1, .int x2, .int x3, .int x4, .ref a5, .int x6, .int y0, .retAddr 0, .retAddr 0]) (show decode cX11_fair 83 = .ok (.istore 7, 2) by decide +kernel) (zset_s (Nat.le_of_ble_eq_true rfl) rfl)) ?_
  refine Iff.trans (zw_iload (show decode cX11_fair 85 = .ok (.iload 7, 2) by decide +kernel) rfl) ?_
  refine Iff.trans (zw_iconst (x := (-1)) (show decode cX11_fair 87 = .ok (.iconst (-1), 1) by decide +kernel) (by decide)) ?_
  refine Iff.trans (zw_icmp_eq (t := 100) (show decode cX11_fair 88 = .ok (.if_icmp .eq 12, 3) by decide +kernel) (by decide)) ?_
  refine zw_ite ?_ ?_
  · exact Iff.rfl
  · refine Iff.trans (zw_aload_n (show decode cX11_fair 91 = .ok (.aload_n 0, 1) by decide +kernel) rfl) ?_
    refine Iff.trans (zw_get (show decode cX11_fair 92 = .ok (.getfield 78, 3) by decide +kernel) (by decide +kernel : zfld 11 78 = some (11, 14)) (hl.k2 zk_1) (hl.n2 zk_1) (zgetR (v := 83) (hl.r zrt_1_14) rfl)) ?_
    refine Iff.trans (zw_iload (show decode cX11_fair 95 = .ok (.iload 7, 2) by decide +kernel) rfl) ?_
    refine Iff.trans (zw_invV (K' := kX3_add) (as' := [.int y0]) (rest := []) (show decode cX11_fair 97 = .ok (.invokevirtual 356, 3) by decide +kernel) (by rfl) rfl rfl rfl (hl.k2 zk_83) (by decide) (hl.n2 zk_83) ⟨Nat.le_of_ble_eq_true rfl, Nat.le_of_ble_eq_true rfl, Nat.le_of_ble_eq_true rfl⟩) ?_
    exact Iff.rfl

theorem bX11_fair_100 {d : Nat} {σ : zS} {Q : Option Value → zS → Prop} (hl : zLay σ) {x1 x2 x3 x4 x6 x7 : Int32} {a5 : Nat} (ha5 : zk a5 = 0) : zW (d + 1) kX11_fair 100 [.ref 1, .int x1, .int x2, .int x3, .int x4, .ref a5, .int x6, .int x7, .retAddr 0, .retAddr 0] [] σ Q ↔ zW (d + 1) kX11_fair 58 [.ref 1, .int x1, .int x2, .int x3, .int x4, .ref a5, .int (x6 + 1), .int x7, .retAddr 0, .retAddr 0] [] σ Q := by
  refine Iff.trans (zw_iinc (w := 1) (ls' := [.ref 1, .int x1, .int x2, .int x3, .int x4, .ref a5, .int (x6 + 1), .int x7, .retAddr 0, .retAddr 0]) (show decode cX11_fair 100 = .ok (.iinc 6 1, 3) by decide +kernel) rfl (by decide) (zset_s (Nat.le_of_ble_eq_true rfl) rfl)) ?_
  refine Iff.trans (zw_goto (t := 58) (show decode cX11_fair 103 = .ok (.goto (-45), 3) by decide +kernel) (by decide)) ?_
  exact Iff.rfl

theorem bX11_fair_128 {d : Nat} {σ : zS} {Q : Option Value → zS → Prop} (hl : zLay σ) {x1 x2 x3 x4 x6 x7 x8 : Int32} {a5 : Nat} {v9 : Value} (ha5 : zk a5 = 0) (hv9 : v9.category = 1) : zW (d + 1) kX11_fair 128 [.ref 1, .int x1, .int x2, .int x3, .int x4, .ref a5, .int x6, .int x7, .int x8, v9] [] σ Q ↔ (if (1 <<< (x3 &&& 31)) ≤ x8 then (if x4 = (0 : Int32) then Q (some (.int x6)) σ else Q (some (.int x7)) σ) else zCall d kJ6_bitCount_0f7a4 [.int x8] σ (fun r σ' => zisN r = true ∧ zW (d + 1) kX11_fair 141 [.ref 1, .int x1, .int x2, .int x3, .int x4, .ref a5, .int x6, .int x7, .int x8, v9] (zRstk r ++ []) σ' Q)) := by
  refine Iff.trans (zw_iload (show decode cX11_fair 128 = .ok (.iload 8, 2) by decide +kernel) rfl) ?_
  refine Iff.trans (zw_iconst (x := 1) (show decode cX11_fair 130 = .ok (.iconst 1, 1) by decide +kernel) (by decide)) ?_
  refine Iff.trans (zw_iload_n (show decode cX11_fair 131 = .ok (.iload_n 3, 1) by decide +kernel) rfl) ?_
  refine Iff.trans (zw_ishl (show decode cX11_fair 132 = .ok (.ishl, 1) by decide +kernel)) ?_
  refine Iff.trans (zw_icmp_ge (t := 193) (show decode cX11_fair 133 = .ok (.if_icmp .ge 60, 3) by decide +kernel) (by decide)) ?_
  refine zw_ite ?_ ?_
  · refine Iff.trans (zw_iload (show decode cX11_fair 193 = .ok (.iload 4, 2) by decide +kernel) rfl) ?_
    refine Iff.trans (zw_if_ne (t := 203) (show decode cX11_fair 195 = .ok (.ifCond .ne 8, 3) by decide +kernel) (by decide)) ?_
    refine zw_ite ?_ ?_
    · refine Iff.trans (zw_iload (show decode cX11_fair 198 = .ok (.iload 6, 2) by decide +kernel) rfl) ?_
      refine Iff.trans (zw_goto (t := 205) (show decode cX11_fair 200 = .ok (.goto 5, 3) by decide +kernel) (by decide)) ?_
      exact zw_iret1 (show decode cX11_fair 205 = .ok (.ireturn, 1) by decide +kernel) rfl
    · refine Iff.trans (zw_iload (show decode cX11_fair 203 = .ok (.iload 7, 2) by decide +kernel) rfl) ?_
      exact zw_iret1 (show decode cX11_fair 205 = .ok (.ireturn, 1) by decide +kernel) rfl
  · refine Iff.trans (zw_iload (show decode cX11_fair 136 = .ok (.iload 8, 2) by decide +kernel) rfl) ?_
    refine Iff.trans (zw_invS (K' := kJ6_bitCount_0f7a4) (as := [.int x8]) (rest := []) (show decode cX11_fair 138 = .ok (.invokestatic 374, 3) by decide +kernel) (by rfl) rfl rfl rfl ⟨Nat.le_of_ble_eq_true rfl, Nat.le_of_ble_eq_true rfl, Nat.le_of_ble_eq_true rfl⟩) ?_
    exact Iff.rfl

theorem bX11_fair_141 {d : Nat} {σ : zS} {Q : Option Value → zS → Prop} (hl : zLay σ) {x1 x2 x3 x4 x6 x7 x8 y0 : Int32} {a5 : Nat} {v9 : Value} (ha5 : zk a5 = 0) (hv9 : v9.category = 1) : zW (d + 1) kX11_fair 141 [.ref 1, .int x1, .int x2, .int x3, .int x4, .ref a5, .int x6, .int x7, .int x8, v9] [.int y0] σ Q ↔ (¬ 2 = (0 : Int32) ∧ (if y0 = (x3 / 2) then zCall d kX11_gapOf [.ref 1, .int x8, .int x3] σ (fun r σ' => zisN r = true ∧ zW (d + 1) kX11_fair 154 [.ref 1, .int x1, .int x2, .int x3, .int x4, .ref a5, .int x6, .int x7, .int x8, v9] (zRstk r ++ []) σ' Q) else zW (d + 1) kX11_fair 158 [.ref 1, .int x1, .int x2, .int x3, .int x4, .ref a5, .int x6, .int x7, .int x8, v9] [.int (-1)] σ Q)) := by
  refine Iff.trans (zw_iload_n (show decode cX11_fair 141 = .ok (.iload_n 3, 1) by decide +kernel) rfl) ?_
  refine Iff.trans (zw_iconst (x := 2) (show decode cX11_fair 142 = .ok (.iconst 2, 1) by decide +kernel) (by decide)) ?_
  refine Iff.trans (zw_idiv (show decode cX11_fair 143 = .ok (.idiv, 1) by decide +kernel)) ?_
  refine zw_and ?_
  refine Iff.trans (zw_icmp_ne (t := 157) (show decode cX11_fair 144 = .ok (.if_icmp .ne 13, 3) by decide +kernel) (by decide)) ?_
  refine zw_ite ?_ ?_
  · refine Iff.trans (zw_aload_n (show decode cX11_fair 147 = .ok (.aload_n 0, 1) by decide +kernel) rfl) ?_
    refine Iff.trans (zw_iload (show decode cX11_fair 148 = .ok (.iload 8, 2) by decide +kernel) rfl) ?_
    refine Iff.trans (zw_iload_n (show decode cX11_fair 150 = .ok (.iload_n 3, 1) by decide +kernel) rfl) ?_
    refine Iff.trans (zw_invV (K' := kX11_gapOf) (as' := [.int x8, .int x3]) (rest := []) (show decode cX11_fair 151 = .ok (.invokevirtual 417, 3) by decide +kernel) (by rfl) rfl rfl rfl (hl.k2 zk_1) (by decide) (hl.n2 zk_1) ⟨Nat.le_of_ble_eq_true rfl, Nat.le_of_ble_eq_true rfl, Nat.le_of_ble_eq_true rfl⟩) ?_
    exact Iff.rfl
  · refine Iff.trans (zw_iconst (x := (-1)) (show decode cX11_fair 157 = .ok (.iconst (-1), 1) by decide +kernel) (by decide)) ?_
    exact Iff.rfl

theorem bX11_fair_154 {d : Nat} {σ : zS} {Q : Option Value → zS → Prop} (hl : zLay σ) {x1 x2 x3 x4 x6 x7 x8 y0 : Int32} {a5 : Nat} {v9 : Value} (ha5 : zk a5 = 0) (hv9 : v9.category = 1) : zW (d + 1) kX11_fair 154 [.ref 1, .int x1, .int x2, .int x3, .int x4, .ref a5, .int x6, .int x7, .int x8, v9] [.int y0] σ Q ↔ zW (d + 1) kX11_fair 158 [.ref 1, .int x1, .int x2, .int x3, .int x4, .ref a5, .int x6, .int x7, .int x8, v9] [.int y0] σ Q := by
  refine Iff.trans (zw_goto (t := 158) (show decode cX11_fair 154 = .ok (.goto 4, 3) by decide +kernel) (by decide)) ?_
  exact Iff.rfl

theorem bX11_fair_158 {d : Nat} {σ : zS} {Q : Option Value → zS → Prop} (hl : zLay σ) {x1 x2 x3 x4 x6 x7 x8 y0 : Int32} {a5 : Nat} {v9 : Value} (ha5 : zk a5 = 0) (hv9 : v9.category = 1) : zW (d + 1) kX11_fair 158 [.ref 1, .int x1, .int x2, .int x3, .int x4, .ref a5, .int x6, .int x7, .int x8, v9] [.int y0] σ Q ↔ (if y0 = (-1) then zW (d + 1) kX11_fair 128 [.ref 1, .int x1, .int x2, .int x3, .int x4, .ref a5, .int x6, .int x7, .int (x8 + 1), .int y0] [] σ Q else (if x7 = (-1) then zW (d + 1) kX11_fair 128 [.ref 1, .int x1, .int x2, .int x3, .int x4, .ref a5, .int x8, .int y0, .int (x8 + 1), .int y0] [] σ Q else (if x7 ≤ y0 then zW (d + 1) kX11_fair 128 [.ref 1, .int x1, .int x2, .int x3, .int x4, .ref a5, .int x6, .int x7, .int (x8 + 1), .int y0] [] σ Q else zW (d + 1) kX11_fair 128 [.ref 1, .int x1, .int x2, .int x3, .int x4, .ref a5, .int x8, .int y0, .int (x8 + 1), .int y0] [] σ Q))) := by
  refine Iff.trans (zw_istore (ls' := [.ref 1, .int x1, .int x2, .int x3, .int x4, .ref a5, .int x6, .int x7, .int x8, .int y0]) (show decode cX11_fair 158 = .ok (.istore 9, 2) by decide +kernel) (zset_s (Nat.le_of_ble_eq_true rfl) rfl)) ?_
  refine Iff.trans (zw_iload (show decode cX11_fair 160 = .ok (.iload 9, 2) by decide +kernel) rfl) ?_
  refine Iff.trans (zw_iconst (x := (-1)) (show decode cX11_fair 162 = .ok (.iconst (-1), 1) by decide +kernel) (by decide)) ?_
  refine Iff.trans (zw_icmp_eq (t := 187) (show decode cX11_fair 163 = .ok (.if_icmp .eq 24, 3) by decide +kernel) (by decide)) ?_
  refine zw_ite ?_ ?_
  · refine Iff.trans (zw_iinc (w := 1) (ls' := [.ref 1, .int x1, .int x2, .int x3, .int x4, .ref a5, .int x6, .int x7, .int (x8 + 1), .int y0]) (show decode cX11_fair 187 = .ok (.iinc 8 1, 3) by decide +kernel) rfl (by decide) (zset_s (Nat.le_of_ble_eq_true rfl) rfl)) ?_
    refine Iff.trans (zw_goto (t := 128) (show decode cX11_fair 190 = .ok (.goto (-62), 3) by decide +kernel) (by decide)) ?_
    exact Iff.rfl
  · refine Iff.trans (zw_iload (show decode cX11_fair 166 = .ok (.iload 7, 2) by decide +kernel) rfl) ?_
    refine Iff.trans (zw_iconst (x := (-1)) (show decode cX11_fair 168 = .ok (.iconst (-1), 1) by decide +kernel) (by decide)) ?_
    refine Iff.trans (zw_icmp_eq (t := 179) (show decode cX11_fair 169 = .ok (.if_icmp .eq 10, 3) by decide +kernel) (by decide)) ?_
    refine zw_ite ?_ ?_
    · refine Iff.trans (zw_iload (show decode cX11_fair 179 = .ok (.iload 8, 2) by decide +kernel) rfl) ?_
      refine Iff.trans (zw_istore (ls' := [.ref 1, .int x1, .int x2, .int x3, .int x4, .ref a5, .int x8, .int x7, .int x8, .int y0]) (show decode cX11_fair 181 = .ok (.istore 6, 2) by decide +kernel) (zset_s (Nat.le_of_ble_eq_true rfl) rfl)) ?_
      refine Iff.trans (zw_iload (show decode cX11_fair 183 = .ok (.iload 9, 2) by decide +kernel) rfl) ?_
      refine Iff.trans (zw_istore (ls' := [.ref 1, .int x1, .int x2, .int x3, .int x4, .ref a5, .int x8, .int y0, .int x8, .int y0]) (show decode cX11_fair 185 = .ok (.istore 7, 2) by decide +kernel) (zset_s (Nat.le_of_ble_eq_true rfl) rfl)) ?_
      refine Iff.trans (zw_iinc (w := 1) (ls' := [.ref 1, .int x1, .int x2, .int x3, .int x4, .ref a5, .int x8, .int y0, .int (x8 + 1), .int y0]) (show decode cX11_fair 187 = .ok (.iinc 8 1, 3) by decide +kernel) rfl (by decide) (zset_s (Nat.le_of_ble_eq_true rfl) rfl)) ?_
      refine Iff.trans (zw_goto (t := 128) (show decode cX11_fair 190 = .ok (.goto (-62), 3) by decide +kernel) (by decide)) ?_
      exact Iff.rfl
    · refine Iff.trans (zw_iload (show decode cX11_fair 172 = .ok (.iload 9, 2) by decide +kernel) rfl) ?_
      refine Iff.trans (zw_iload (show decode cX11_fair 174 = .ok (.iload 7, 2) by decide +kernel) rfl) ?_
      refine Iff.trans (zw_icmp_ge (t := 187) (show decode cX11_fair 176 = .ok (.if_icmp .ge 11, 3) by decide +kernel) (by decide)) ?_
      refine zw_ite ?_ ?_
      · refine Iff.trans (zw_iinc (w := 1) (ls' := [.ref 1, .int x1, .int x2, .int x3, .int x4, .ref a5, .int x6, .int x7, .int (x8 + 1), .int y0]) (show decode cX11_fair 187 = .ok (.iinc 8 1, 3) by decide +kernel) rfl (by decide) (zset_s (Nat.le_of_ble_eq_true rfl) rfl)) ?_
        refine Iff.trans (zw_goto (t := 128) (show decode cX11_fair 190 = .ok (.goto (-62), 3) by decide +kernel) (by decide)) ?_
        exact Iff.rfl
      · refine Iff.trans (zw_iload (show decode cX11_fair 179 = .ok (.iload 8, 2) by decide +kernel) rfl) ?_
        refine Iff.trans (zw_istore (ls' := [.ref 1, .int x1, .int x2, .int x3, .int x4, .ref a5, .int x8, .int x7, .int x8, .int y0]) (show decode cX11_fair 181 = .ok (.istore 6, 2) by decide +kernel) (zset_s (Nat.le_of_ble_eq_true rfl) rfl)) ?_
        refine Iff.trans (zw_iload (show decode cX11_fair 183 = .ok (.iload 9, 2) by decide +kernel) rfl) ?_
        refine Iff.trans (zw_istore (ls' := [.ref 1, .int x1, .int x2, .int x3, .int x4, .ref a5, .int x8, .int y0, .int x8, .int y0]) (show decode cX11_fair 185 = .ok (.istore 7, 2) by decide +kernel) (zset_s (Nat.le_of_ble_eq_true rfl) rfl)) ?_
        refine Iff.trans (zw_iinc (w := 1) (ls' := [.ref 1, .int x1, .int x2, .int x3, .int x4, .ref a5, .int x8, .int y0, .int (x8 + 1), .int y0]) (show decode cX11_fair 187 = .ok (.iinc 8 1, 3) by decide +kernel) rfl (by decide) (zset_s (Nat.le_of_ble_eq_true rfl) rfl)) ?_
        refine Iff.trans (zw_goto (t := 128) (show decode cX11_fair 190 = .ok (.goto (-62), 3) by decide +kernel) (by decide)) ?_
        exact Iff.rfl

theorem bX11_gapOf_0 {d : Nat} {σ : zS} {Q : Option Value → zS → Prop} (hl : zLay σ) {x1 x2 : Int32} : zCall (d + 1) kX11_gapOf [.ref 1, .int x1, .int x2] σ Q ↔ zW (d + 1) kX11_gapOf 5 [.ref 1, .int x1, .int x2, .int 0, .int 0, .retAddr 0] [] σ Q := by
  show zW (d + 1) kX11_gapOf 0 [.ref 1, .int x1, .int x2, .retAddr 0, .retAddr 0, .retAddr 0] [] σ Q ↔ _
  refine Iff.trans (zw_iconst (x := 0) (show decode cX11_gapOf 0 = .ok (.iconst 0, 1) by decide +kernel) (by decide)) ?_
  refine Iff.trans (zw_istore_n (ls' := [.ref 1, .int x1, .int x2, .int 0, .retAddr 0, .retAddr 0]) (show decode cX11_gapOf 1 = .ok (.istore_n 3, 1) by decide +kernel) (zset_s (Nat.le_of_ble_eq_true rfl) rfl)) ?_
  refine Iff.trans (zw_iconst (x := 0) (show decode cX11_gapOf 2 = .ok (.iconst 0, 1) by decide +kernel) (by decide)) ?_
  refine Iff.trans (zw_istore (ls' := [.ref 1, .int x1, .int x2, .int 0, .int 0, .retAddr 0]) (show decode cX11_gapOf 3 = .ok (.istore 4, 2) by decide +kernel) (zset_s (Nat.le_of_ble_eq_true rfl) rfl)) ?_
  exact Iff.rfl

theorem bX11_gapOf_5 {d : Nat} {σ : zS} {Q : Option Value → zS → Prop} (hl : zLay σ) {x1 x2 x3 x4 : Int32} {v5 : Value} (hv5 : v5.category = 1) : zW (d + 1) kX11_gapOf 5 [.ref 1, .int x1, .int x2, .int x3, .int x4, v5] [] σ Q ↔ (if x2 ≤ x4 then (if (0 : Int32) ≤ x3 then Q (some (.int x3)) σ else Q (some (.int (-x3))) σ) else zCall d kX3_at [.ref 83, .int x4] σ (fun r σ' => zisN r = true ∧ zW (d + 1) kX11_gapOf 22 [.ref 1, .int x1, .int x2, .int x3, .int x4, v5] (zRstk r ++ [.int 60]) σ' Q)) := by
  refine Iff.trans (zw_iload (show decode cX11_gapOf 5 = .ok (.iload 4, 2) by decide +kernel) rfl) ?_
  refine Iff.trans (zw_iload_n (show decode cX11_gapOf 7 = .ok (.iload_n 2, 1) by decide +kernel) rfl) ?_
  refine Iff.trans (zw_icmp_ge (t := 55) (show decode cX11_gapOf 8 = .ok (.if_icmp .ge 47, 3) by decide +kernel) (by decide)) ?_
  refine zw_ite ?_ ?_
  · refine Iff.trans (zw_iload_n (show decode cX11_gapOf 55 = .ok (.iload_n 3, 1) by decide +kernel) rfl) ?_
    refine Iff.trans (zw_if_ge (t := 64) (show decode cX11_gapOf 56 = .ok (.ifCond .ge 8, 3) by decide +kernel) (by decide)) ?_
    refine zw_ite ?_ ?_
    · refine Iff.trans (zw_iload_n (show decode cX11_gapOf 64 = .ok (.iload_n 3, 1) by decide +kernel) rfl) ?_
      exact zw_iret1 (show decode cX11_gapOf 65 = .ok (.ireturn, 1) by decide +kernel) rfl
    · refine Iff.trans (zw_iload_n (show decode cX11_gapOf 59 = .ok (.iload_n 3, 1) by decide +kernel) rfl) ?_
      refine Iff.trans (zw_ineg (show decode cX11_gapOf 60 = .ok (.ineg, 1) by decide +kernel)) ?_
      refine Iff.trans (zw_goto (t := 65) (show decode cX11_gapOf 61 = .ok (.goto 4, 3) by decide +kernel) (by decide)) ?_
      exact zw_iret1 (show decode cX11_gapOf 65 = .ok (.ireturn, 1) by decide +kernel) rfl
  · refine Iff.trans (zw_bipush (x := 60) (show decode cX11_gapOf 11 = .ok (.bipush 60, 2) by decide +kernel) (by decide)) ?_
    refine Iff.trans (zw_aload_n (show decode cX11_gapOf 13 = .ok (.aload_n 0, 1) by decide +kernel) rfl) ?_
    refine Iff.trans (zw_get (show decode cX11_gapOf 14 = .ok (.getfield 78, 3) by decide +kernel) (by decide +kernel : zfld 11 78 = some (11, 14)) (hl.k2 zk_1) (hl.n2 zk_1) (zgetR (v := 83) (hl.r zrt_1_14) rfl)) ?_
    refine Iff.trans (zw_iload (show decode cX11_gapOf 17 = .ok (.iload 4, 2) by decide +kernel) rfl) ?_
    refine Iff.trans (zw_invV (K' := kX3_at) (as' := [.int x4]) (rest := [.int 60]) (show decode cX11_gapOf 19 = .ok (.invokevirtual 420, 3) by decide +kernel) (by rfl) rfl rfl rfl (hl.k2 zk_83) (by decide) (hl.n2 zk_83) ⟨Nat.le_of_ble_eq_true rfl, Nat.le_of_ble_eq_true rfl, Nat.le_of_ble_eq_true rfl⟩) ?_
    exact Iff.rfl

theorem bX11_gapOf_22 {d : Nat} {σ : zS} {Q : Option Value → zS → Prop} (hl : zLay σ) {x1 x2 x3 x4 y0 y1 : Int32} {v5 : Value} (hv5 : v5.category = 1) : zW (d + 1) kX11_gapOf 22 [.ref 1, .int x1, .int x2, .int x3, .int x4, v5] [.int y0, .int y1] σ Q ↔ zCall d kX11_hasBit [.int x1, .int ((x2 - 1) - x4)] σ (fun r σ' => zisN r = true ∧ zW (d + 1) kX11_gapOf 36 [.ref 1, .int x1, .int x2, .int x3, .int x4, .int (y1 - y0)] (zRstk r ++ [.int x3]) σ' Q) := by
  refine Iff.trans (zw_isub (show decode cX11_gapOf 22 = .ok (.isub, 1) by decide +kernel)) ?_
  refine Iff.trans (zw_istore (ls' := [.ref 1, .int x1, .int x2, .int x3, .int x4, .int (y1 - y0)]) (show decode cX11_gapOf 23 = .ok (.istore 5, 2) by decide +kernel) (zset_s (Nat.le_of_ble_eq_true rfl) rfl)) ?_
  refine Iff.trans (zw_iload_n (show decode cX11_gapOf 25 = .ok (.iload_n 3, 1) by decide +kernel) rfl) ?_
  refine Iff.trans (zw_iload_n (show decode cX11_gapOf 26 = .ok (.iload_n 1, 1) by decide +kernel) rfl) ?_
  refine Iff.trans (zw_iload_n (show decode cX11_gapOf 27 = .ok (.iload_n 2, 1) by decide +kernel) rfl) ?_
  refine Iff.trans (zw_iconst (x := 1) (show decode cX11_gapOf 28 = .ok (.iconst 1, 1) by decide +kernel) (by decide)) ?_
  refine Iff.trans (zw_isub (show decode cX11_gapOf 29 = .ok (.isub, 1) by decide +kernel)) ?_
  refine Iff.trans (zw_iload (show decode cX11_gapOf 30 = .ok (.iload 4, 2) by decide +kernel) rfl) ?_
  refine Iff.trans (zw_isub (show decode cX11_gapOf 32 = .ok (.isub, 1) by decide +kernel)) ?_
  refine Iff.trans (zw_invS (K' := kX11_hasBit) (as := [.int x1, .int ((x2 - 1) - x4)]) (rest := [.int x3]) (show decode cX11_gapOf 33 = .ok (.invokestatic 282, 3) by decide +kernel) (by rfl) rfl rfl rfl ⟨Nat.le_of_ble_eq_true rfl, Nat.le_of_ble_eq_true rfl, Nat.le_of_ble_eq_true rfl⟩) ?_
  exact Iff.rfl

theorem bX11_gapOf_36 {d : Nat} {σ : zS} {Q : Option Value → zS → Prop} (hl : zLay σ) {x1 x2 x3 x4 x5 y0 y1 : Int32} : zW (d + 1) kX11_gapOf 36 [.ref 1, .int x1, .int x2, .int x3, .int x4, .int x5] [.int y0, .int y1] σ Q ↔ (if y0 = (0 : Int32) then zW (d + 1) kX11_gapOf 5 [.ref 1, .int x1, .int x2, .int (y1 + x5), .int (x4 + 1), .int x5] [] σ Q else zW (d + 1) kX11_gapOf 5 [.ref 1, .int x1, .int x2, .int (y1 + (-x5)), .int (x4 + 1), .int x5] [] σ Q) := by
  refine Iff.trans (zw_if_eq (t := 45) (show decode cX11_gapOf 36 = .ok (.ifCond .eq 9, 3) by decide +kernel) (by decide)) ?_
  refine zw_ite ?_ ?_
  · refine Iff.trans (zw_iload (show decode cX11_gapOf 45 = .ok (.iload 5, 2) by decide +kernel) rfl) ?_
    refine Iff.trans (zw_iadd (show decode cX11_gapOf 47 = .ok (.iadd, 1) by decide +kernel)) ?_
    refine Iff.trans (zw_istore_n (ls' := [.ref 1, .int x1, .int x2, .int (y1 + x5), .int x4, .int x5]) (show decode cX11_gapOf 48 = .ok (.istore_n 3, 1) by decide +kernel) (zset_s (Nat.le_of_ble_eq_true rfl) rfl)) ?_
    refine Iff.trans (zw_iinc (w := 1) (ls' := [.ref 1, .int x1, .int x2, .int (y1 + x5), .int (x4 + 1), .int x5]) (show decode cX11_gapOf 49 = .ok (.iinc 4 1, 3) by decide +kernel) rfl (by decide) (zset_s (Nat.le_of_ble_eq_true rfl) rfl)) ?_
    refine Iff.trans (zw_goto (t := 5) (show decode cX11_gapOf 52 = .ok (.goto (-47), 3) by decide +kernel) (by decide)) ?_
    exact Iff.rfl
  · refine Iff.trans (zw_iload (show decode cX11_gapOf 39 = .ok (.iload 5, 2) by decide +kernel) rfl) ?_
    refine Iff.trans (zw_ineg (show decode cX11_gapOf 41 = .ok (.ineg, 1) by decide +kernel)) ?_
    refine Iff.trans (zw_goto (t := 47) (show decode cX11_gapOf 42 = .ok (.goto 5, 3) by decide +kernel) (by decide)) ?_
    refine Iff.trans (zw_iadd (show decode cX11_gapOf 47 = .ok (.iadd, 1) by decide +kernel)) ?_
    refine Iff.trans (zw_istore_n (ls' := [.ref 1, .int x1, .int x2, .int (y1 + (-x5)), .int x4, .int x5]) (show decode cX11_gapOf 48 = .ok (.istore_n 3, 1) by decide +kernel) (zset_s (Nat.le_of_ble_eq_true rfl) rfl)) ?_
    refine Iff.trans (zw_iinc (w := 1) (ls' := [.ref 1, .int x1, .int x2, .int (y1 + (-x5)), .int (x4 + 1), .int x5]) (show decode cX11_gapOf 49 = .ok (.iinc 4 1, 3) by decide +kernel) rfl (by decide) (zset_s (Nat.le_of_ble_eq_true rfl) rfl)) ?_
    refine Iff.trans (zw_goto (t := 5) (show decode cX11_gapOf 52 = .ok (.goto (-47), 3) by decide +kernel) (by decide)) ?_
    exact Iff.rfl

theorem bX11_image_0 {d : Nat} {σ : zS} {Q : Option Value → zS → Prop} (hl : zLay σ) : zCall (d + 1) kX11_image [.ref 1] σ Q ↔ (if (zI σ 12 9) = (0 : Int32) then Q (some (.int (-1))) σ else zCall d kX2_copyFrom [.ref 36, .ref 12] σ (fun r σ' => zisN r = true ∧ zW (d + 1) kX11_image 23 [.ref 1] (zRstk r ++ []) σ' Q)) := by
  show zW (d + 1) kX11_image 0 [.ref 1] [] σ Q ↔ _
  refine Iff.trans (zw_aload_n (show decode cX11_image 0 = .ok (.aload_n 0, 1) by decide +kernel) rfl) ?_
  refine Iff.trans (zw_get (show decode cX11_image 1 = .ok (.getfield 48, 3) by decide +kernel) (by decide +kernel : zfld 11 48 = some (11, 8)) (hl.k2 zk_1) (hl.n2 zk_1) (zgetR (v := 12) (hl.r zrt_1_8) rfl)) ?_
  refine Iff.trans (zw_getI (show decode cX11_image 4 = .ok (.getfield 206, 3) by decide +kernel) (by decide +kernel : zfld 11 206 = some (2, 9)) (hl.k2 zk_12) (hl.n2 zk_12) (Or.inr rfl) (w := zI σ 12 9) rfl) ?_
  refine Iff.trans (zw_if_ne (t := 12) (show decode cX11_image 7 = .ok (.ifCond .ne 5, 3) by decide +kernel) (by decide)) ?_
  refine zw_ite ?_ ?_
  · refine Iff.trans (zw_iconst (x := (-1)) (show decode cX11_image 10 = .ok (.iconst (-1), 1) by decide +kernel) (by decide)) ?_
    exact zw_iret1 (show decode cX11_image 11 = .ok (.ireturn, 1) by decide +kernel) rfl
  · refine Iff.trans (zw_aload_n (show decode cX11_image 12 = .ok (.aload_n 0, 1) by decide +kernel) rfl) ?_
    refine Iff.trans (zw_get (show decode cX11_image 13 = .ok (.getfield 59, 3) by decide +kernel) (by decide +kernel : zfld 11 59 = some (11, 10)) (hl.k2 zk_1) (hl.n2 zk_1) (zgetR (v := 36) (hl.r zrt_1_10) rfl)) ?_
    refine Iff.trans (zw_aload_n (show decode cX11_image 16 = .ok (.aload_n 0, 1) by decide +kernel) rfl) ?_
    refine Iff.trans (zw_get (show decode cX11_image 17 = .ok (.getfield 48, 3) by decide +kernel) (by decide +kernel : zfld 11 48 = some (11, 8)) (hl.k2 zk_1) (hl.n2 zk_1) (zgetR (v := 12) (hl.r zrt_1_8) rfl)) ?_
    refine Iff.trans (zw_invV (K' := kX2_copyFrom) (as' := [.ref 12]) (rest := []) (show decode cX11_image 20 = .ok (.invokevirtual 423, 3) by decide +kernel) (by rfl) rfl rfl rfl (hl.k2 zk_36) (by decide) (hl.n2 zk_36) ⟨Nat.le_of_ble_eq_true rfl, Nat.le_of_ble_eq_true rfl, Nat.le_of_ble_eq_true rfl⟩) ?_
    exact Iff.rfl

theorem bX11_image_23 {d : Nat} {σ : zS} {Q : Option Value → zS → Prop} (hl : zLay σ) : zW (d + 1) kX11_image 23 [.ref 1] [] σ Q ↔ zCall d kX1_copyFrom [.ref 56, .ref 32] σ (fun r σ' => zisN r = true ∧ zW (d + 1) kX11_image 34 [.ref 1] (zRstk r ++ []) σ' Q) := by
  refine Iff.trans (zw_aload_n (show decode cX11_image 23 = .ok (.aload_n 0, 1) by decide +kernel) rfl) ?_
  refine Iff.trans (zw_get (show decode cX11_image 24 = .ok (.getfield 62, 3) by decide +kernel) (by decide +kernel : zfld 11 62 = some (11, 11)) (hl.k2 zk_1) (hl.n2 zk_1) (zgetR (v := 56) (hl.r zrt_1_11) rfl)) ?_
  refine Iff.trans (zw_aload_n (show decode cX11_image 27 = .ok (.aload_n 0, 1) by decide +kernel) rfl) ?_
  refine Iff.trans (zw_get (show decode cX11_image 28 = .ok (.getfield 55, 3) by decide +kernel) (by decide +kernel : zfld 11 55 = some (11, 9)) (hl.k2 zk_1) (hl.n2 zk_1) (zgetR (v := 32) (hl.r zrt_1_9) rfl)) ?_
  refine Iff.trans (zw_invV (K' := kX1_copyFrom) (as' := [.ref 32]) (rest := []) (show decode cX11_image 31 = .ok (.invokevirtual 425, 3) by decide +kernel) (by rfl) rfl rfl rfl (hl.k2 zk_56) (by decide) (hl.n2 zk_56) ⟨Nat.le_of_ble_eq_true rfl, Nat.le_of_ble_eq_true rfl, Nat.le_of_ble_eq_true rfl⟩) ?_
  exact Iff.rfl

theorem bX11_image_34 {d : Nat} {σ : zS} {Q : Option Value → zS → Prop} (hl : zLay σ) : zW (d + 1) kX11_image 34 [.ref 1] [] σ Q ↔ Q (some (.int (zI σ 12 5))) σ := by
  refine Iff.trans (zw_aload_n (show decode cX11_image 34 = .ok (.aload_n 0, 1) by decide +kernel) rfl) ?_
  refine Iff.trans (zw_get (show decode cX11_image 35 = .ok (.getfield 48, 3) by decide +kernel) (by decide +kernel : zfld 11 48 = some (11, 8)) (hl.k2 zk_1) (hl.n2 zk_1) (zgetR (v := 12) (hl.r zrt_1_8) rfl)) ?_
  refine Iff.trans (zw_getI (show decode cX11_image 38 = .ok (.getfield 428, 3) by decide +kernel) (by decide +kernel : zfld 11 428 = some (2, 5)) (hl.k2 zk_12) (hl.n2 zk_12) (Or.inl rfl) (w := zI σ 12 5) rfl) ?_
  exact zw_iret1 (show decode cX11_image 41 = .ok (.ireturn, 1) by decide +kernel) rfl

theorem bX11_back_0 {d : Nat} {σ : zS} {Q : Option Value → zS → Prop} (hl : zLay σ) : zCall (d + 1) kX11_back [.ref 1] σ Q ↔ (if (zI σ 36 9) = (0 : Int32) then Q (some (.int (-1))) σ else zCall d kX2_copyFrom [.ref 12, .ref 36] σ (fun r σ' => zisN r = true ∧ zW (d + 1) kX11_back 23 [.ref 1] (zRstk r ++ []) σ' Q)) := by
  show zW (d + 1) kX11_back 0 [.ref 1] [] σ Q ↔ _
  refine Iff.trans (zw_aload_n (show decode cX11_back 0 = .ok (.aload_n 0, 1) by decide +kernel) rfl) ?_
  refine Iff.trans (zw_get (show decode cX11_back 1 = .ok (.getfield 59, 3) by decide +kernel) (by decide +kernel : zfld 11 59 = some (11, 10)) (hl.k2 zk_1) (hl.n2 zk_1) (zgetR (v := 36) (hl.r zrt_1_10) rfl)) ?_
  refine Iff.trans (zw_getI (show decode cX11_back 4 = .ok (.getfield 206, 3) by decide +kernel) (by decide +kernel : zfld 11 206 = some (2, 9)) (hl.k2 zk_36) (hl.n2 zk_36) (Or.inr rfl) (w := zI σ 36 9) rfl) ?_
  refine Iff.trans (zw_if_ne (t := 12) (show decode cX11_back 7 = .ok (.ifCond .ne 5, 3) by decide +kernel) (by decide)) ?_
  refine zw_ite ?_ ?_
  · refine Iff.trans (zw_iconst (x := (-1)) (show decode cX11_back 10 = .ok (.iconst (-1), 1) by decide +kernel) (by decide)) ?_
    exact zw_iret1 (show decode cX11_back 11 = .ok (.ireturn, 1) by decide +kernel) rfl
  · refine Iff.trans (zw_aload_n (show decode cX11_back 12 = .ok (.aload_n 0, 1) by decide +kernel) rfl) ?_
    refine Iff.trans (zw_get (show decode cX11_back 13 = .ok (.getfield 48, 3) by decide +kernel) (by decide +kernel : zfld 11 48 = some (11, 8)) (hl.k2 zk_1) (hl.n2 zk_1) (zgetR (v := 12) (hl.r zrt_1_8) rfl)) ?_
    refine Iff.trans (zw_aload_n (show decode cX11_back 16 = .ok (.aload_n 0, 1) by decide +kernel) rfl) ?_
    refine Iff.trans (zw_get (show decode cX11_back 17 = .ok (.getfield 59, 3) by decide +kernel) (by decide +kernel : zfld 11 59 = some (11, 10)) (hl.k2 zk_1) (hl.n2 zk_1) (zgetR (v := 36) (hl.r zrt_1_10) rfl)) ?_
    refine Iff.trans (zw_invV (K' := kX2_copyFrom) (as' := [.ref 36]) (rest := []) (show decode cX11_back 20 = .ok (.invokevirtual 423, 3) by decide +kernel) (by rfl) rfl rfl rfl (hl.k2 zk_12) (by decide) (hl.n2 zk_12) ⟨Nat.le_of_ble_eq_true rfl, Nat.le_of_ble_eq_true rfl, Nat.le_of_ble_eq_true rfl⟩) ?_
    exact Iff.rfl

theorem bX11_back_23 {d : Nat} {σ : zS} {Q : Option Value → zS → Prop} (hl : zLay σ) : zW (d + 1) kX11_back 23 [.ref 1] [] σ Q ↔ zCall d kX1_copyFrom [.ref 32, .ref 56] σ (fun r σ' => zisN r = true ∧ zW (d + 1) kX11_back 34 [.ref 1] (zRstk r ++ []) σ' Q) := by
  refine Iff.trans (zw_aload_n (show decode cX11_back 23 = .ok (.aload_n 0, 1) by decide +kernel) rfl) ?_
  refine Iff.trans (zw_get (show decode cX11_back 24 = .ok (.getfield 55, 3) by decide +kernel) (by decide +kernel : zfld 11 55 = some (11, 9)) (hl.k2 zk_1) (hl.n2 zk_1) (zgetR (v := 32) (hl.r zrt_1_9) rfl)) ?_
  refine Iff.trans (zw_aload_n (show decode cX11_back 27 = .ok (.aload_n 0, 1) by decide +kernel) rfl) ?_
  refine Iff.trans (zw_get (show decode cX11_back 28 = .ok (.getfield 62, 3) by decide +kernel) (by decide +kernel : zfld 11 62 = some (11, 11)) (hl.k2 zk_1) (hl.n2 zk_1) (zgetR (v := 56) (hl.r zrt_1_11) rfl)) ?_
  refine Iff.trans (zw_invV (K' := kX1_copyFrom) (as' := [.ref 56]) (rest := []) (show decode cX11_back 31 = .ok (.invokevirtual 425, 3) by decide +kernel) (by rfl) rfl rfl rfl (hl.k2 zk_32) (by decide) (hl.n2 zk_32) ⟨Nat.le_of_ble_eq_true rfl, Nat.le_of_ble_eq_true rfl, Nat.le_of_ble_eq_true rfl⟩) ?_
  exact Iff.rfl

theorem bX11_back_34 {d : Nat} {σ : zS} {Q : Option Value → zS → Prop} (hl : zLay σ) : zW (d + 1) kX11_back 34 [.ref 1] [] σ Q ↔ Q (some (.int (zI σ 12 5))) σ := by
  refine Iff.trans (zw_aload_n (show decode cX11_back 34 = .ok (.aload_n 0, 1) by decide +kernel) rfl) ?_
  refine Iff.trans (zw_get (show decode cX11_back 35 = .ok (.getfield 48, 3) by decide +kernel) (by decide +kernel : zfld 11 48 = some (11, 8)) (hl.k2 zk_1) (hl.n2 zk_1) (zgetR (v := 12) (hl.r zrt_1_8) rfl)) ?_
  refine Iff.trans (zw_getI (show decode cX11_back 38 = .ok (.getfield 428, 3) by decide +kernel) (by decide +kernel : zfld 11 428 = some (2, 5)) (hl.k2 zk_12) (hl.n2 zk_12) (Or.inl rfl) (w := zI σ 12 5) rfl) ?_
  exact zw_iret1 (show decode cX11_back 41 = .ok (.ireturn, 1) by decide +kernel) rfl

theorem bX11_was_0 {d : Nat} {σ : zS} {Q : Option Value → zS → Prop} (hl : zLay σ) {x1 x2 x3 : Int32} : zCall (d + 1) kX11_was [.ref 1, .int x1, .int x2, .int x3] σ Q ↔ zCall d kX11_noRunner [.ref 1, .int x1] σ (fun r σ' => zisN r = true ∧ zW (d + 1) kX11_was 5 [.ref 1, .int x1, .int x2, .int x3] (zRstk r ++ []) σ' Q) := by
  show zW (d + 1) kX11_was 0 [.ref 1, .int x1, .int x2, .int x3] [] σ Q ↔ _
  refine Iff.trans (zw_aload_n (show decode cX11_was 0 = .ok (.aload_n 0, 1) by decide +kernel) rfl) ?_
  refine Iff.trans (zw_iload_n (show decode cX11_was 1 = .ok (.iload_n 1, 1) by decide +kernel) rfl) ?_
  refine Iff.trans (zw_invV (K' := kX11_noRunner) (as' := [.int x1]) (rest := []) (show decode cX11_was 2 = .ok (.invokevirtual 243, 3) by decide +kernel) (by rfl) rfl rfl rfl (hl.k2 zk_1) (by decide) (hl.n2 zk_1) ⟨Nat.le_of_ble_eq_true rfl, Nat.le_of_ble_eq_true rfl, Nat.le_of_ble_eq_true rfl⟩) ?_
  exact Iff.rfl

theorem bX11_was_5 {d : Nat} {σ : zS} {Q : Option Value → zS → Prop} (hl : zLay σ) {x1 x2 x3 y0 : Int32} : zW (d + 1) kX11_was 5 [.ref 1, .int x1, .int x2, .int x3] [.int y0] σ Q ↔ (if y0 = (0 : Int32) then zCall d kX11_noTick [.ref 1, .int x2] σ (fun r σ' => zisN r = true ∧ zW (d + 1) kX11_was 13 [.ref 1, .int x1, .int x2, .int x3] (zRstk r ++ []) σ' Q) else Q (some (.int (-1))) σ) := by
  refine Iff.trans (zw_if_ne (t := 25) (show decode cX11_was 5 = .ok (.ifCond .ne 20, 3) by decide +kernel) (by decide)) ?_
  refine zw_ite ?_ ?_
  · refine Iff.trans (zw_aload_n (show decode cX11_was 8 = .ok (.aload_n 0, 1) by decide +kernel) rfl) ?_
    refine Iff.trans (zw_iload_n (show decode cX11_was 9 = .ok (.iload_n 2, 1) by decide +kernel) rfl) ?_
    refine Iff.trans (zw_invV (K' := kX11_noTick) (as' := [.int x2]) (rest := []) (show decode cX11_was 10 = .ok (.invokevirtual 430, 3) by decide +kernel) (by rfl) rfl rfl rfl (hl.k2 zk_1) (by decide) (hl.n2 zk_1) ⟨Nat.le_of_ble_eq_true rfl, Nat.le_of_ble_eq_true rfl, Nat.le_of_ble_eq_true rfl⟩) ?_
    exact Iff.rfl
  · refine Iff.trans (zw_iconst (x := (-1)) (show decode cX11_was 25 = .ok (.iconst (-1), 1) by decide +kernel) (by decide)) ?_
    exact zw_iret1 (show decode cX11_was 26 = .ok (.ireturn, 1) by decide +kernel) rfl

theorem bX11_was_13 {d : Nat} {σ : zS} {Q : Option Value → zS → Prop} (hl : zLay σ) {x1 x2 x3 y0 : Int32} : zW (d + 1) kX11_was 13 [.ref 1, .int x1, .int x2, .int x3] [.int y0] σ Q ↔ (if y0 = (0 : Int32) then (if x3 < (0 : Int32) then Q (some (.int (-1))) σ else (if x3 ≤ 1 then (if x3 = (0 : Int32) then zCall d kX1_xAt [.ref 32, .int x2, .int x1] σ (fun r σ' => zisN r = true ∧ zW (d + 1) kX11_was 40 [.ref 1, .int x1, .int x2, .int x3] (zRstk r ++ []) σ' Q) else zCall d kX1_yAt [.ref 32, .int x2, .int x1] σ (fun r σ' => zisN r = true ∧ zW (d + 1) kX11_was 52 [.ref 1, .int x1, .int x2, .int x3] (zRstk r ++ []) σ' Q)) else Q (some (.int (-1))) σ)) else Q (some (.int (-1))) σ) := by
  refine Iff.trans (zw_if_ne (t := 25) (show decode cX11_was 13 = .ok (.ifCond .ne 12, 3) by decide +kernel) (by decide)) ?_
  refine zw_ite ?_ ?_
  · refine Iff.trans (zw_iload_n (show decode cX11_was 16 = .ok (.iload_n 3, 1) by decide +kernel) rfl) ?_
    refine Iff.trans (zw_if_lt (t := 25) (show decode cX11_was 17 = .ok (.ifCond .lt 8, 3) by decide +kernel) (by decide)) ?_
    refine zw_ite ?_ ?_
    · refine Iff.trans (zw_iconst (x := (-1)) (show decode cX11_was 25 = .ok (.iconst (-1), 1) by decide +kernel) (by decide)) ?_
      exact zw_iret1 (show decode cX11_was 26 = .ok (.ireturn, 1) by decide +kernel) rfl
    · refine Iff.trans (zw_iload_n (show decode cX11_was 20 = .ok (.iload_n 3, 1) by decide +kernel) rfl) ?_
      refine Iff.trans (zw_iconst (x := 1) (show decode cX11_was 21 = .ok (.iconst 1, 1) by decide +kernel) (by decide)) ?_
      refine Iff.trans (zw_icmp_le (t := 27) (show decode cX11_was 22 = .ok (.if_icmp .le 5, 3) by decide +kernel) (by decide)) ?_
      refine zw_ite ?_ ?_
      · refine Iff.trans (zw_iload_n (show decode cX11_was 27 = .ok (.iload_n 3, 1) by decide +kernel) rfl) ?_
        refine Iff.trans (zw_if_ne (t := 43) (show decode cX11_was 28 = .ok (.ifCond .ne 15, 3) by decide +kernel) (by decide)) ?_
        refine zw_ite ?_ ?_
        · refine Iff.trans (zw_aload_n (show decode cX11_was 31 = .ok (.aload_n 0, 1) by decide +kernel) rfl) ?_
          refine Iff.trans (zw_get (show decode cX11_was 32 = .ok (.getfield 55, 3) by decide +kernel) (by decide +kernel : zfld 11 55 = some (11, 9)) (hl.k2 zk_1) (hl.n2 zk_1) (zgetR (v := 32) (hl.r zrt_1_9) rfl)) ?_
          refine Iff.trans (zw_iload_n (show decode cX11_was 35 = .ok (.iload_n 2, 1) by decide +kernel) rfl) ?_
          refine Iff.trans (zw_iload_n (show decode cX11_was 36 = .ok (.iload_n 1, 1) by decide +kernel) rfl) ?_
          refine Iff.trans (zw_invV (K' := kX1_xAt) (as' := [.int x2, .int x1]) (rest := []) (show decode cX11_was 37 = .ok (.invokevirtual 433, 3) by decide +kernel) (by rfl) rfl rfl rfl (hl.k2 zk_32) (by decide) (hl.n2 zk_32) ⟨Nat.le_of_ble_eq_true rfl, Nat.le_of_ble_eq_true rfl, Nat.le_of_ble_eq_true rfl⟩) ?_
          exact Iff.rfl
        · refine Iff.trans (zw_aload_n (show decode cX11_was 43 = .ok (.aload_n 0, 1) by decide +kernel) rfl) ?_
          refine Iff.trans (zw_get (show decode cX11_was 44 = .ok (.getfield 55, 3) by decide +kernel) (by decide +kernel : zfld 11 55 = some (11, 9)) (hl.k2 zk_1) (hl.n2 zk_1) (zgetR (v := 32) (hl.r zrt_1_9) rfl)) ?_
          refine Iff.trans (zw_iload_n (show decode cX11_was 47 = .ok (.iload_n 2, 1) by decide +kernel) rfl) ?_
          refine Iff.trans (zw_iload_n (show decode cX11_was 48 = .ok (.iload_n 1, 1) by decide +kernel) rfl) ?_
          refine Iff.trans (zw_invV (K' := kX1_yAt) (as' := [.int x2, .int x1]) (rest := []) (show decode cX11_was 49 = .ok (.invokevirtual 436, 3) by decide +kernel) (by rfl) rfl rfl rfl (hl.k2 zk_32) (by decide) (hl.n2 zk_32) ⟨Nat.le_of_ble_eq_true rfl, Nat.le_of_ble_eq_true rfl, Nat.le_of_ble_eq_true rfl⟩) ?_
          exact Iff.rfl
      · refine Iff.trans (zw_iconst (x := (-1)) (show decode cX11_was 25 = .ok (.iconst (-1), 1) by decide +kernel) (by decide)) ?_
        exact zw_iret1 (show decode cX11_was 26 = .ok (.ireturn, 1) by decide +kernel) rfl
  · refine Iff.trans (zw_iconst (x := (-1)) (show decode cX11_was 25 = .ok (.iconst (-1), 1) by decide +kernel) (by decide)) ?_
    exact zw_iret1 (show decode cX11_was 26 = .ok (.ireturn, 1) by decide +kernel) rfl

theorem bX11_was_40 {d : Nat} {σ : zS} {Q : Option Value → zS → Prop} (hl : zLay σ) {x1 x2 x3 y0 : Int32} : zW (d + 1) kX11_was 40 [.ref 1, .int x1, .int x2, .int x3] [.int y0] σ Q ↔ zW (d + 1) kX11_was 52 [.ref 1, .int x1, .int x2, .int x3] [.int y0] σ Q := by
  refine Iff.trans (zw_goto (t := 52) (show decode cX11_was 40 = .ok (.goto 12, 3) by decide +kernel) (by decide)) ?_
  exact Iff.rfl

theorem bX11_was_52 {d : Nat} {σ : zS} {Q : Option Value → zS → Prop} (hl : zLay σ) {x1 x2 x3 y0 : Int32} : zW (d + 1) kX11_was 52 [.ref 1, .int x1, .int x2, .int x3] [.int y0] σ Q ↔ Q (some (.int y0)) σ := by
  exact zw_iret1 (show decode cX11_was 52 = .ok (.ireturn, 1) by decide +kernel) rfl

theorem bX11_noTick_0 {d : Nat} {σ : zS} {Q : Option Value → zS → Prop} (hl : zLay σ) {x1 : Int32} : zCall d kX11_noTick [.ref 1, .int x1] σ Q ↔ (if (zI σ 12 9) = (0 : Int32) then Q (some (.int 1)) σ else (if x1 < (0 : Int32) then Q (some (.int 1)) σ else (if x1 ≤ (zI σ 12 5) then Q (some (.int 0)) σ else Q (some (.int 1)) σ))) := by
  show zW d kX11_noTick 0 [.ref 1, .int x1] [] σ Q ↔ _
  refine Iff.trans (zw_aload_n (show decode cX11_noTick 0 = .ok (.aload_n 0, 1) by decide +kernel) rfl) ?_
  refine Iff.trans (zw_get (show decode cX11_noTick 1 = .ok (.getfield 48, 3) by decide +kernel) (by decide +kernel : zfld 11 48 = some (11, 8)) (hl.k2 zk_1) (hl.n2 zk_1) (zgetR (v := 12) (hl.r zrt_1_8) rfl)) ?_
  refine Iff.trans (zw_getI (show decode cX11_noTick 4 = .ok (.getfield 206, 3) by decide +kernel) (by decide +kernel : zfld 11 206 = some (2, 9)) (hl.k2 zk_12) (hl.n2 zk_12) (Or.inr rfl) (w := zI σ 12 9) rfl) ?_
  refine Iff.trans (zw_if_eq (t := 25) (show decode cX11_noTick 7 = .ok (.ifCond .eq 18, 3) by decide +kernel) (by decide)) ?_
  refine zw_ite ?_ ?_
  · refine Iff.trans (zw_iconst (x := 1) (show decode cX11_noTick 25 = .ok (.iconst 1, 1) by decide +kernel) (by decide)) ?_
    refine Iff.trans (zw_goto (t := 30) (show decode cX11_noTick 26 = .ok (.goto 4, 3) by decide +kernel) (by decide)) ?_
    exact zw_iret2c (show decode cX11_noTick 30 = .ok (.ireturn, 1) by decide +kernel) rfl (Or.inr rfl)
  · refine Iff.trans (zw_iload_n (show decode cX11_noTick 10 = .ok (.iload_n 1, 1) by decide +kernel) rfl) ?_
    refine Iff.trans (zw_if_lt (t := 25) (show decode cX11_noTick 11 = .ok (.ifCond .lt 14, 3) by decide +kernel) (by decide)) ?_
    refine zw_ite ?_ ?_
    · refine Iff.trans (zw_iconst (x := 1) (show decode cX11_noTick 25 = .ok (.iconst 1, 1) by decide +kernel) (by decide)) ?_
      refine Iff.trans (zw_goto (t := 30) (show decode cX11_noTick 26 = .ok (.goto 4, 3) by decide +kernel) (by decide)) ?_
      exact zw_iret2c (show decode cX11_noTick 30 = .ok (.ireturn, 1) by decide +kernel) rfl (Or.inr rfl)
    · refine Iff.trans (zw_iload_n (show decode cX11_noTick 14 = .ok (.iload_n 1, 1) by decide +kernel) rfl) ?_
      refine Iff.trans (zw_aload_n (show decode cX11_noTick 15 = .ok (.aload_n 0, 1) by decide +kernel) rfl) ?_
      refine Iff.trans (zw_get (show decode cX11_noTick 16 = .ok (.getfield 48, 3) by decide +kernel) (by decide +kernel : zfld 11 48 = some (11, 8)) (hl.k2 zk_1) (hl.n2 zk_1) (zgetR (v := 12) (hl.r zrt_1_8) rfl)) ?_
      refine Iff.trans (zw_getI (show decode cX11_noTick 19 = .ok (.getfield 428, 3) by decide +kernel) (by decide +kernel : zfld 11 428 = some (2, 5)) (hl.k2 zk_12) (hl.n2 zk_12) (Or.inl rfl) (w := zI σ 12 5) rfl) ?_
      refine Iff.trans (zw_icmp_le (t := 29) (show decode cX11_noTick 22 = .ok (.if_icmp .le 7, 3) by decide +kernel) (by decide)) ?_
      refine zw_ite ?_ ?_
      · refine Iff.trans (zw_iconst (x := 0) (show decode cX11_noTick 29 = .ok (.iconst 0, 1) by decide +kernel) (by decide)) ?_
        exact zw_iret2c (show decode cX11_noTick 30 = .ok (.ireturn, 1) by decide +kernel) rfl (Or.inl rfl)
      · refine Iff.trans (zw_iconst (x := 1) (show decode cX11_noTick 25 = .ok (.iconst 1, 1) by decide +kernel) (by decide)) ?_
        refine Iff.trans (zw_goto (t := 30) (show decode cX11_noTick 26 = .ok (.goto 4, 3) by decide +kernel) (by decide)) ?_
        exact zw_iret2c (show decode cX11_noTick 30 = .ok (.ireturn, 1) by decide +kernel) rfl (Or.inr rfl)

theorem bX11_passed_0 {d : Nat} {σ : zS} {Q : Option Value → zS → Prop} (hl : zLay σ) {x1 x2 : Int32} : zCall (d + 1) kX11_passed [.ref 1, .int x1, .int x2] σ Q ↔ (if (zI σ 12 9) = (0 : Int32) then Q (some (.int (-1))) σ else zCall d kX11_noRunner [.ref 1, .int x1] σ (fun r σ' => zisN r = true ∧ zW (d + 1) kX11_passed 15 [.ref 1, .int x1, .int x2, .retAddr 0] (zRstk r ++ []) σ' Q)) := by
  show zW (d + 1) kX11_passed 0 [.ref 1, .int x1, .int x2, .retAddr 0] [] σ Q ↔ _
  refine Iff.trans (zw_aload_n (show decode cX11_passed 0 = .ok (.aload_n 0, 1) by decide +kernel) rfl) ?_
  refine Iff.trans (zw_get (show decode cX11_passed 1 = .ok (.getfield 48, 3) by decide +kernel) (by decide +kernel : zfld 11 48 = some (11, 8)) (hl.k2 zk_1) (hl.n2 zk_1) (zgetR (v := 12) (hl.r zrt_1_8) rfl)) ?_
  refine Iff.trans (zw_getI (show decode cX11_passed 4 = .ok (.getfield 206, 3) by decide +kernel) (by decide +kernel : zfld 11 206 = some (2, 9)) (hl.k2 zk_12) (hl.n2 zk_12) (Or.inr rfl) (w := zI σ 12 9) rfl) ?_
  refine Iff.trans (zw_if_eq (t := 29) (show decode cX11_passed 7 = .ok (.ifCond .eq 22, 3) by decide +kernel) (by decide)) ?_
  refine zw_ite ?_ ?_
  · refine Iff.trans (zw_iconst (x := (-1)) (show decode cX11_passed 29 = .ok (.iconst (-1), 1) by decide +kernel) (by decide)) ?_
    exact zw_iret1 (show decode cX11_passed 30 = .ok (.ireturn, 1) by decide +kernel) rfl
  · refine Iff.trans (zw_aload_n (show decode cX11_passed 10 = .ok (.aload_n 0, 1) by decide +kernel) rfl) ?_
    refine Iff.trans (zw_iload_n (show decode cX11_passed 11 = .ok (.iload_n 1, 1) by decide +kernel) rfl) ?_
    refine Iff.trans (zw_invV (K' := kX11_noRunner) (as' := [.int x1]) (rest := []) (show decode cX11_passed 12 = .ok (.invokevirtual 243, 3) by decide +kernel) (by rfl) rfl rfl rfl (hl.k2 zk_1) (by decide) (hl.n2 zk_1) ⟨Nat.le_of_ble_eq_true rfl, Nat.le_of_ble_eq_true rfl, Nat.le_of_ble_eq_true rfl⟩) ?_
    exact Iff.rfl

theorem bX11_passed_15 {d : Nat} {σ : zS} {Q : Option Value → zS → Prop} (hl : zLay σ) {x1 x2 y0 : Int32} : zW (d + 1) kX11_passed 15 [.ref 1, .int x1, .int x2, .retAddr 0] [.int y0] σ Q ↔ (if y0 = (0 : Int32) then (if x2 < 1 then Q (some (.int (-1))) σ else (if x2 ≤ 16 then zW (d + 1) kX11_passed 33 [.ref 1, .int x1, .int x2, .int 1] [] σ Q else Q (some (.int (-1))) σ)) else Q (some (.int (-1))) σ) := by
  refine Iff.trans (zw_if_ne (t := 29) (show decode cX11_passed 15 = .ok (.ifCond .ne 14, 3) by decide +kernel) (by decide)) ?_
  refine zw_ite ?_ ?_
  · refine Iff.trans (zw_iload_n (show decode cX11_passed 18 = .ok (.iload_n 2, 1) by decide +kernel) rfl) ?_
    refine Iff.trans (zw_iconst (x := 1) (show decode cX11_passed 19 = .ok (.iconst 1, 1) by decide +kernel) (by decide)) ?_
    refine Iff.trans (zw_icmp_lt (t := 29) (show decode cX11_passed 20 = .ok (.if_icmp .lt 9, 3) by decide +kernel) (by decide)) ?_
    refine zw_ite ?_ ?_
    · refine Iff.trans (zw_iconst (x := (-1)) (show decode cX11_passed 29 = .ok (.iconst (-1), 1) by decide +kernel) (by decide)) ?_
      exact zw_iret1 (show decode cX11_passed 30 = .ok (.ireturn, 1) by decide +kernel) rfl
    · refine Iff.trans (zw_iload_n (show decode cX11_passed 23 = .ok (.iload_n 2, 1) by decide +kernel) rfl) ?_
      refine Iff.trans (zw_bipush (x := 16) (show decode cX11_passed 24 = .ok (.bipush 16, 2) by decide +kernel) (by decide)) ?_
      refine Iff.trans (zw_icmp_le (t := 31) (show decode cX11_passed 26 = .ok (.if_icmp .le 5, 3) by decide +kernel) (by decide)) ?_
      refine zw_ite ?_ ?_
      · refine Iff.trans (zw_iconst (x := 1) (show decode cX11_passed 31 = .ok (.iconst 1, 1) by decide +kernel) (by decide)) ?_
        refine Iff.trans (zw_istore_n (ls' := [.ref 1, .int x1, .int x2, .int 1]) (show decode cX11_passed 32 = .ok (.istore_n 3, 1) by decide +kernel) (zset_s (Nat.le_of_ble_eq_true rfl) rfl)) ?_
        exact Iff.rfl
      · refine Iff.trans (zw_iconst (x := (-1)) (show decode cX11_passed 29 = .ok (.iconst (-1), 1) by decide +kernel) (by decide)) ?_
        exact zw_iret1 (show decode cX11_passed 30 = .ok (.ireturn, 1) by decide +kernel) rfl
  · refine Iff.trans (zw_iconst (x := (-1)) (show decode cX11_passed 29 = .ok (.iconst (-1), 1) by decide +kernel) (by decide)) ?_
    exact zw_iret1 (show decode cX11_passed 30 = .ok (.ireturn, 1) by decide +kernel) rfl

theorem bX11_passed_33 {d : Nat} {σ : zS} {Q : Option Value → zS → Prop} (hl : zLay σ) {x1 x2 x3 : Int32} : zW (d + 1) kX11_passed 33 [.ref 1, .int x1, .int x2, .int x3] [] σ Q ↔ (if (zI σ 12 5) < x3 then Q (some (.int (-1))) σ else zCall d kX1_xAt [.ref 32, .int x3, .int x1] σ (fun r σ' => zisN r = true ∧ zW (d + 1) kX11_passed 53 [.ref 1, .int x1, .int x2, .int x3] (zRstk r ++ []) σ' Q)) := by
  refine Iff.trans (zw_iload_n (show decode cX11_passed 33 = .ok (.iload_n 3, 1) by decide +kernel) rfl) ?_
  refine Iff.trans (zw_aload_n (show decode cX11_passed 34 = .ok (.aload_n 0, 1) by decide +kernel) rfl) ?_
  refine Iff.trans (zw_get (show decode cX11_passed 35 = .ok (.getfield 48, 3) by decide +kernel) (by decide +kernel : zfld 11 48 = some (11, 8)) (hl.k2 zk_1) (hl.n2 zk_1) (zgetR (v := 12) (hl.r zrt_1_8) rfl)) ?_
  refine Iff.trans (zw_getI (show decode cX11_passed 38 = .ok (.getfield 428, 3) by decide +kernel) (by decide +kernel : zfld 11 428 = some (2, 5)) (hl.k2 zk_12) (hl.n2 zk_12) (Or.inl rfl) (w := zI σ 12 5) rfl) ?_
  refine Iff.trans (zw_icmp_gt (t := 65) (show decode cX11_passed 41 = .ok (.if_icmp .gt 24, 3) by decide +kernel) (by decide)) ?_
  refine zw_ite ?_ ?_
  · refine Iff.trans (zw_iconst (x := (-1)) (show decode cX11_passed 65 = .ok (.iconst (-1), 1) by decide +kernel) (by decide)) ?_
    exact zw_iret1 (show decode cX11_passed 66 = .ok (.ireturn, 1) by decide +kernel) rfl
  · refine Iff.trans (zw_aload_n (show decode cX11_passed 44 = .ok (.aload_n 0, 1) by decide +kernel) rfl) ?_
    refine Iff.trans (zw_get (show decode cX11_passed 45 = .ok (.getfield 55, 3) by decide +kernel) (by decide +kernel : zfld 11 55 = some (11, 9)) (hl.k2 zk_1) (hl.n2 zk_1) (zgetR (v := 32) (hl.r zrt_1_9) rfl)) ?_
    refine Iff.trans (zw_iload_n (show decode cX11_passed 48 = .ok (.iload_n 3, 1) by decide +kernel) rfl) ?_
    refine Iff.trans (zw_iload_n (show decode cX11_passed 49 = .ok (.iload_n 1, 1) by decide +kernel) rfl) ?_
    refine Iff.trans (zw_invV (K' := kX1_xAt) (as' := [.int x3, .int x1]) (rest := []) (show decode cX11_passed 50 = .ok (.invokevirtual 433, 3) by decide +kernel) (by rfl) rfl rfl rfl (hl.k2 zk_32) (by decide) (hl.n2 zk_32) ⟨Nat.le_of_ble_eq_true rfl, Nat.le_of_ble_eq_true rfl, Nat.le_of_ble_eq_true rfl⟩) ?_
    exact Iff.rfl

theorem bX11_passed_53 {d : Nat} {σ : zS} {Q : Option Value → zS → Prop} (hl : zLay σ) {x1 x2 x3 y0 : Int32} : zW (d + 1) kX11_passed 53 [.ref 1, .int x1, .int x2, .int x3] [.int y0] σ Q ↔ (if y0 < x2 then zW (d + 1) kX11_passed 33 [.ref 1, .int x1, .int x2, .int (x3 + 1)] [] σ Q else Q (some (.int x3)) σ) := by
  refine Iff.trans (zw_iload_n (show decode cX11_passed 53 = .ok (.iload_n 2, 1) by decide +kernel) rfl) ?_
  refine Iff.trans (zw_icmp_lt (t := 59) (show decode cX11_passed 54 = .ok (.if_icmp .lt 5, 3) by decide +kernel) (by decide)) ?_
  refine zw_ite ?_ ?_
  · refine Iff.trans (zw_iinc (w := 1) (ls' := [.ref 1, .int x1, .int x2, .int (x3 + 1)]) (show decode cX11_passed 59 = .ok (.iinc 3 1, 3) by decide +kernel) rfl (by decide) (zset_s (Nat.le_of_ble_eq_true rfl) rfl)) ?_
    refine Iff.trans (zw_goto (t := 33) (show decode cX11_passed 62 = .ok (.goto (-29), 3) by decide +kernel) (by decide)) ?_
    exact Iff.rfl
  · refine Iff.trans (zw_iload_n (show decode cX11_passed 57 = .ok (.iload_n 3, 1) by decide +kernel) rfl) ?_
    exact zw_iret1 (show decode cX11_passed 58 = .ok (.ireturn, 1) by decide +kernel) rfl

theorem bX11_leader_0 {d : Nat} {σ : zS} {Q : Option Value → zS → Prop} (hl : zLay σ) {x1 : Int32} : zCall (d + 1) kX11_leader [.ref 1, .int x1] σ Q ↔ zCall d kX11_noTick [.ref 1, .int x1] σ (fun r σ' => zisN r = true ∧ zW (d + 1) kX11_leader 5 [.ref 1, .int x1] (zRstk r ++ []) σ' Q) := by
  show zW (d + 1) kX11_leader 0 [.ref 1, .int x1] [] σ Q ↔ _
  refine Iff.trans (zw_aload_n (show decode cX11_leader 0 = .ok (.aload_n 0, 1) by decide +kernel) rfl) ?_
  refine Iff.trans (zw_iload_n (show decode cX11_leader 1 = .ok (.iload_n 1, 1) by decide +kernel) rfl) ?_
  refine Iff.trans (zw_invV (K' := kX11_noTick) (as' := [.int x1]) (rest := []) (show decode cX11_leader 2 = .ok (.invokevirtual 430, 3) by decide +kernel) (by rfl) rfl rfl rfl (hl.k2 zk_1) (by decide) (hl.n2 zk_1) ⟨Nat.le_of_ble_eq_true rfl, Nat.le_of_ble_eq_true rfl, Nat.le_of_ble_eq_true rfl⟩) ?_
  exact Iff.rfl

theorem bX11_leader_5 {d : Nat} {σ : zS} {Q : Option Value → zS → Prop} (hl : zLay σ) {x1 y0 : Int32} : zW (d + 1) kX11_leader 5 [.ref 1, .int x1] [.int y0] σ Q ↔ (if y0 = (0 : Int32) then zCall d kX1_leaderAt [.ref 32, .int x1] σ (fun r σ' => zisN r = true ∧ zW (d + 1) kX11_leader 20 [.ref 1, .int x1] (zRstk r ++ []) σ' Q) else zW (d + 1) kX11_leader 20 [.ref 1, .int x1] [.int (-1)] σ Q) := by
  refine Iff.trans (zw_if_eq (t := 12) (show decode cX11_leader 5 = .ok (.ifCond .eq 7, 3) by decide +kernel) (by decide)) ?_
  refine zw_ite ?_ ?_
  · refine Iff.trans (zw_aload_n (show decode cX11_leader 12 = .ok (.aload_n 0, 1) by decide +kernel) rfl) ?_
    refine Iff.trans (zw_get (show decode cX11_leader 13 = .ok (.getfield 55, 3) by decide +kernel) (by decide +kernel : zfld 11 55 = some (11, 9)) (hl.k2 zk_1) (hl.n2 zk_1) (zgetR (v := 32) (hl.r zrt_1_9) rfl)) ?_
    refine Iff.trans (zw_iload_n (show decode cX11_leader 16 = .ok (.iload_n 1, 1) by decide +kernel) rfl) ?_
    refine Iff.trans (zw_invV (K' := kX1_leaderAt) (as' := [.int x1]) (rest := []) (show decode cX11_leader 17 = .ok (.invokevirtual 439, 3) by decide +kernel) (by rfl) rfl rfl rfl (hl.k2 zk_32) (by decide) (hl.n2 zk_32) ⟨Nat.le_of_ble_eq_true rfl, Nat.le_of_ble_eq_true rfl, Nat.le_of_ble_eq_true rfl⟩) ?_
    exact Iff.rfl
  · refine Iff.trans (zw_iconst (x := (-1)) (show decode cX11_leader 8 = .ok (.iconst (-1), 1) by decide +kernel) (by decide)) ?_
    refine Iff.trans (zw_goto (t := 20) (show decode cX11_leader 9 = .ok (.goto 11, 3) by decide +kernel) (by decide)) ?_
    exact Iff.rfl

theorem bX11_leader_20 {d : Nat} {σ : zS} {Q : Option Value → zS → Prop} (hl : zLay σ) {x1 y0 : Int32} : zW (d + 1) kX11_leader 20 [.ref 1, .int x1] [.int y0] σ Q ↔ Q (some (.int y0)) σ := by
  exact zw_iret1 (show decode cX11_leader 20 = .ok (.ireturn, 1) by decide +kernel) rfl

theorem bX11_led_0 {d : Nat} {σ : zS} {Q : Option Value → zS → Prop} (hl : zLay σ) {x1 : Int32} : zCall (d + 1) kX11_led [.ref 1, .int x1] σ Q ↔ (if (zI σ 12 9) = (0 : Int32) then Q (some (.int (-1))) σ else (if x1 = (-1) then zW (d + 1) kX11_led 25 [.ref 1, .int x1] [] σ Q else zCall d kX11_noRunner [.ref 1, .int x1] σ (fun r σ' => zisN r = true ∧ zW (d + 1) kX11_led 20 [.ref 1, .int x1] (zRstk r ++ []) σ' Q))) := by
  show zW (d + 1) kX11_led 0 [.ref 1, .int x1] [] σ Q ↔ _
  refine Iff.trans (zw_aload_n (show decode cX11_led 0 = .ok (.aload_n 0, 1) by decide +kernel) rfl) ?_
  refine Iff.trans (zw_get (show decode cX11_led 1 = .ok (.getfield 48, 3) by decide +kernel) (by decide +kernel : zfld 11 48 = some (11, 8)) (hl.k2 zk_1) (hl.n2 zk_1) (zgetR (v := 12) (hl.r zrt_1_8) rfl)) ?_
  refine Iff.trans (zw_getI (show decode cX11_led 4 = .ok (.getfield 206, 3) by decide +kernel) (by decide +kernel : zfld 11 206 = some (2, 9)) (hl.k2 zk_12) (hl.n2 zk_12) (Or.inr rfl) (w := zI σ 12 9) rfl) ?_
  refine Iff.trans (zw_if_eq (t := 23) (show decode cX11_led 7 = .ok (.ifCond .eq 16, 3) by decide +kernel) (by decide)) ?_
  refine zw_ite ?_ ?_
  · refine Iff.trans (zw_iconst (x := (-1)) (show decode cX11_led 23 = .ok (.iconst (-1), 1) by decide +kernel) (by decide)) ?_
    exact zw_iret1 (show decode cX11_led 24 = .ok (.ireturn, 1) by decide +kernel) rfl
  · refine Iff.trans (zw_iload_n (show decode cX11_led 10 = .ok (.iload_n 1, 1) by decide +kernel) rfl) ?_
    refine Iff.trans (zw_iconst (x := (-1)) (show decode cX11_led 11 = .ok (.iconst (-1), 1) by decide +kernel) (by decide)) ?_
    refine Iff.trans (zw_icmp_eq (t := 25) (show decode cX11_led 12 = .ok (.if_icmp .eq 13, 3) by decide +kernel) (by decide)) ?_
    refine zw_ite ?_ ?_
    · exact Iff.rfl
    · refine Iff.trans (zw_aload_n (show decode cX11_led 15 = .ok (.aload_n 0, 1) by decide +kernel) rfl) ?_
      refine Iff.trans (zw_iload_n (show decode cX11_led 16 = .ok (.iload_n 1, 1) by decide +kernel) rfl) ?_
      refine Iff.trans (zw_invV (K' := kX11_noRunner) (as' := [.int x1]) (rest := []) (show decode cX11_led 17 = .ok (.invokevirtual 243, 3) by decide +kernel) (by rfl) rfl rfl rfl (hl.k2 zk_1) (by decide) (hl.n2 zk_1) ⟨Nat.le_of_ble_eq_true rfl, Nat.le_of_ble_eq_true rfl, Nat.le_of_ble_eq_true rfl⟩) ?_
      exact Iff.rfl

theorem bX11_led_20 {d : Nat} {σ : zS} {Q : Option Value → zS → Prop} (hl : zLay σ) {x1 y0 : Int32} : zW (d + 1) kX11_led 20 [.ref 1, .int x1] [.int y0] σ Q ↔ (if y0 = (0 : Int32) then zW (d + 1) kX11_led 25 [.ref 1, .int x1] [] σ Q else Q (some (.int (-1))) σ) := by
  refine Iff.trans (zw_if_eq (t := 25) (show decode cX11_led 20 = .ok (.ifCond .eq 5, 3) by decide +kernel) (by decide)) ?_
  refine zw_ite ?_ ?_
  · exact Iff.rfl
  · refine Iff.trans (zw_iconst (x := (-1)) (show decode cX11_led 23 = .ok (.iconst (-1), 1) by decide +kernel) (by decide)) ?_
    exact zw_iret1 (show decode cX11_led 24 = .ok (.ireturn, 1) by decide +kernel) rfl

theorem bX11_led_25 {d : Nat} {σ : zS} {Q : Option Value → zS → Prop} (hl : zLay σ) {x1 : Int32} : zW (d + 1) kX11_led 25 [.ref 1, .int x1] [] σ Q ↔ (if x1 = (-1) then zCall d kX1_changes [.ref 32, .int (zI σ 12 5)] σ (fun r σ' => zisN r = true ∧ zW (d + 1) kX11_led 44 [.ref 1, .int x1] (zRstk r ++ []) σ' Q) else zCall d kX1_ticksLed [.ref 32, .int x1, .int (zI σ 12 5)] σ (fun r σ' => zisN r = true ∧ zW (d + 1) kX11_led 62 [.ref 1, .int x1] (zRstk r ++ []) σ' Q)) := by
  refine Iff.trans (zw_iload_n (show decode cX11_led 25 = .ok (.iload_n 1, 1) by decide +kernel) rfl) ?_
  refine Iff.trans (zw_iconst (x := (-1)) (show decode cX11_led 26 = .ok (.iconst (-1), 1) by decide +kernel) (by decide)) ?_
  refine Iff.trans (zw_icmp_ne (t := 47) (show decode cX11_led 27 = .ok (.if_icmp .ne 20, 3) by decide +kernel) (by decide)) ?_
  refine zw_ite ?_ ?_
  · refine Iff.trans (zw_aload_n (show decode cX11_led 30 = .ok (.aload_n 0, 1) by decide +kernel) rfl) ?_
    refine Iff.trans (zw_get (show decode cX11_led 31 = .ok (.getfield 55, 3) by decide +kernel) (by decide +kernel : zfld 11 55 = some (11, 9)) (hl.k2 zk_1) (hl.n2 zk_1) (zgetR (v := 32) (hl.r zrt_1_9) rfl)) ?_
    refine Iff.trans (zw_aload_n (show decode cX11_led 34 = .ok (.aload_n 0, 1) by decide +kernel) rfl) ?_
    refine Iff.trans (zw_get (show decode cX11_led 35 = .ok (.getfield 48, 3) by decide +kernel) (by decide +kernel : zfld 11 48 = some (11, 8)) (hl.k2 zk_1) (hl.n2 zk_1) (zgetR (v := 12) (hl.r zrt_1_8) rfl)) ?_
    refine Iff.trans (zw_getI (show decode cX11_led 38 = .ok (.getfield 428, 3) by decide +kernel) (by decide +kernel : zfld 11 428 = some (2, 5)) (hl.k2 zk_12) (hl.n2 zk_12) (Or.inl rfl) (w := zI σ 12 5) rfl) ?_
    refine Iff.trans (zw_invV (K' := kX1_changes) (as' := [.int (zI σ 12 5)]) (rest := []) (show decode cX11_led 41 = .ok (.invokevirtual 442, 3) by decide +kernel) (by rfl) rfl rfl rfl (hl.k2 zk_32) (by decide) (hl.n2 zk_32) ⟨Nat.le_of_ble_eq_true rfl, Nat.le_of_ble_eq_true rfl, Nat.le_of_ble_eq_true rfl⟩) ?_
    exact Iff.rfl
  · refine Iff.trans (zw_aload_n (show decode cX11_led 47 = .ok (.aload_n 0, 1) by decide +kernel) rfl) ?_
    refine Iff.trans (zw_get (show decode cX11_led 48 = .ok (.getfield 55, 3) by decide +kernel) (by decide +kernel : zfld 11 55 = some (11, 9)) (hl.k2 zk_1) (hl.n2 zk_1) (zgetR (v := 32) (hl.r zrt_1_9) rfl)) ?_
    refine Iff.trans (zw_iload_n (show decode cX11_led 51 = .ok (.iload_n 1, 1) by decide +kernel) rfl) ?_
    refine Iff.trans (zw_aload_n (show decode cX11_led 52 = .ok (.aload_n 0, 1) by decide +kernel) rfl) ?_
    refine Iff.trans (zw_get (show decode cX11_led 53 = .ok (.getfield 48, 3) by decide +kernel) (by decide +kernel : zfld 11 48 = some (11, 8)) (hl.k2 zk_1) (hl.n2 zk_1) (zgetR (v := 12) (hl.r zrt_1_8) rfl)) ?_
    refine Iff.trans (zw_getI (show decode cX11_led 56 = .ok (.getfield 428, 3) by decide +kernel) (by decide +kernel : zfld 11 428 = some (2, 5)) (hl.k2 zk_12) (hl.n2 zk_12) (Or.inl rfl) (w := zI σ 12 5) rfl) ?_
    refine Iff.trans (zw_invV (K' := kX1_ticksLed) (as' := [.int x1, .int (zI σ 12 5)]) (rest := []) (show decode cX11_led 59 = .ok (.invokevirtual 445, 3) by decide +kernel) (by rfl) rfl rfl rfl (hl.k2 zk_32) (by decide) (hl.n2 zk_32) ⟨Nat.le_of_ble_eq_true rfl, Nat.le_of_ble_eq_true rfl, Nat.le_of_ble_eq_true rfl⟩) ?_
    exact Iff.rfl

theorem bX11_led_44 {d : Nat} {σ : zS} {Q : Option Value → zS → Prop} (hl : zLay σ) {x1 y0 : Int32} : zW (d + 1) kX11_led 44 [.ref 1, .int x1] [.int y0] σ Q ↔ zW (d + 1) kX11_led 62 [.ref 1, .int x1] [.int y0] σ Q := by
  refine Iff.trans (zw_goto (t := 62) (show decode cX11_led 44 = .ok (.goto 18, 3) by decide +kernel) (by decide)) ?_
  exact Iff.rfl

theorem bX11_led_62 {d : Nat} {σ : zS} {Q : Option Value → zS → Prop} (hl : zLay σ) {x1 y0 : Int32} : zW (d + 1) kX11_led 62 [.ref 1, .int x1] [.int y0] σ Q ↔ Q (some (.int y0)) σ := by
  exact zw_iret1 (show decode cX11_led 62 = .ok (.ireturn, 1) by decide +kernel) rfl

theorem bX11_struck_0 {d : Nat} {σ : zS} {Q : Option Value → zS → Prop} (hl : zLay σ) {x1 : Int32} : zCall (d + 1) kX11_struck [.ref 1, .int x1] σ Q ↔ (if (zI σ 12 9) = (0 : Int32) then Q (some (.int (-1))) σ else (if x1 < (-1) then Q (some (.int (-1))) σ else (if x1 < 16 then (if x1 = (-1) then zCall d kX2_narrow [.ref 12] σ (fun r σ' => zisN r = true ∧ zW (d + 1) kX11_struck 35 [.ref 1, .int x1] (zRstk r ++ []) σ' Q) else (vp_in x1 16 ∧ Q (some (.int (zI σ 15 (x1 : Int32).toNatClampNeg))) σ)) else Q (some (.int (-1))) σ))) := by
  show zW (d + 1) kX11_struck 0 [.ref 1, .int x1] [] σ Q ↔ _
  refine Iff.trans (zw_aload_n (show decode cX11_struck 0 = .ok (.aload_n 0, 1) by decide +kernel) rfl) ?_
  refine Iff.trans (zw_get (show decode cX11_struck 1 = .ok (.getfield 48, 3) by decide +kernel) (by decide +kernel : zfld 11 48 = some (11, 8)) (hl.k2 zk_1) (hl.n2 zk_1) (zgetR (v := 12) (hl.r zrt_1_8) rfl)) ?_
  refine Iff.trans (zw_getI (show decode cX11_struck 4 = .ok (.getfield 206, 3) by decide +kernel) (by decide +kernel : zfld 11 206 = some (2, 9)) (hl.k2 zk_12) (hl.n2 zk_12) (Or.inr rfl) (w := zI σ 12 9) rfl) ?_
  refine Iff.trans (zw_if_eq (t := 21) (show decode cX11_struck 7 = .ok (.ifCond .eq 14, 3) by decide +kernel) (by decide)) ?_
  refine zw_ite ?_ ?_
  · refine Iff.trans (zw_iconst (x := (-1)) (show decode cX11_struck 21 = .ok (.iconst (-1), 1) by decide +kernel) (by decide)) ?_
    exact zw_iret1 (show decode cX11_struck 22 = .ok (.ireturn, 1) by decide +kernel) rfl
  · refine Iff.trans (zw_iload_n (show decode cX11_struck 10 = .ok (.iload_n 1, 1) by decide +kernel) rfl) ?_
    refine Iff.trans (zw_iconst (x := (-1)) (show decode cX11_struck 11 = .ok (.iconst (-1), 1) by decide +kernel) (by decide)) ?_
    refine Iff.trans (zw_icmp_lt (t := 21) (show decode cX11_struck 12 = .ok (.if_icmp .lt 9, 3) by decide +kernel) (by decide)) ?_
    refine zw_ite ?_ ?_
    · refine Iff.trans (zw_iconst (x := (-1)) (show decode cX11_struck 21 = .ok (.iconst (-1), 1) by decide +kernel) (by decide)) ?_
      exact zw_iret1 (show decode cX11_struck 22 = .ok (.ireturn, 1) by decide +kernel) rfl
    · refine Iff.trans (zw_iload_n (show decode cX11_struck 15 = .ok (.iload_n 1, 1) by decide +kernel) rfl) ?_
      refine Iff.trans (zw_bipush (x := 16) (show decode cX11_struck 16 = .ok (.bipush 16, 2) by decide +kernel) (by decide)) ?_
      refine Iff.trans (zw_icmp_lt (t := 23) (show decode cX11_struck 18 = .ok (.if_icmp .lt 5, 3) by decide +kernel) (by decide)) ?_
      refine zw_ite ?_ ?_
      · refine Iff.trans (zw_iload_n (show decode cX11_struck 23 = .ok (.iload_n 1, 1) by decide +kernel) rfl) ?_
        refine Iff.trans (zw_iconst (x := (-1)) (show decode cX11_struck 24 = .ok (.iconst (-1), 1) by decide +kernel) (by decide)) ?_
        refine Iff.trans (zw_icmp_ne (t := 38) (show decode cX11_struck 25 = .ok (.if_icmp .ne 13, 3) by decide +kernel) (by decide)) ?_
        refine zw_ite ?_ ?_
        · refine Iff.trans (zw_aload_n (show decode cX11_struck 28 = .ok (.aload_n 0, 1) by decide +kernel) rfl) ?_
          refine Iff.trans (zw_get (show decode cX11_struck 29 = .ok (.getfield 48, 3) by decide +kernel) (by decide +kernel : zfld 11 48 = some (11, 8)) (hl.k2 zk_1) (hl.n2 zk_1) (zgetR (v := 12) (hl.r zrt_1_8) rfl)) ?_
          refine Iff.trans (zw_invV (K' := kX2_narrow) (as' := []) (rest := []) (show decode cX11_struck 32 = .ok (.invokevirtual 448, 3) by decide +kernel) (by rfl) rfl rfl rfl (hl.k2 zk_12) (by decide) (hl.n2 zk_12) ⟨Nat.le_of_ble_eq_true rfl, Nat.le_of_ble_eq_true rfl, Nat.le_of_ble_eq_true rfl⟩) ?_
          exact Iff.rfl
        · refine Iff.trans (zw_aload_n (show decode cX11_struck 38 = .ok (.aload_n 0, 1) by decide +kernel) rfl) ?_
          refine Iff.trans (zw_get (show decode cX11_struck 39 = .ok (.getfield 48, 3) by decide +kernel) (by decide +kernel : zfld 11 48 = some (11, 8)) (hl.k2 zk_1) (hl.n2 zk_1) (zgetR (v := 12) (hl.r zrt_1_8) rfl)) ?_
          refine Iff.trans (zw_get (show decode cX11_struck 42 = .ok (.getfield 451, 3) by decide +kernel) (by decide +kernel : zfld 11 451 = some (2, 2)) (hl.k2 zk_12) (hl.n2 zk_12) (zgetR (v := 15) (hl.r zrt_12_2) rfl)) ?_
          refine Iff.trans (zw_iload_n (show decode cX11_struck 45 = .ok (.iload_n 1, 1) by decide +kernel) rfl) ?_
          refine Iff.trans (zw_iald2 (show decode cX11_struck 46 = .ok (.iaload, 1) by decide +kernel) (hl.k2 zk_15) (hl.n2 zk_15) (hl.l2 zk_15 zl_15) (w := zI σ 15 (x1 : Int32).toNatClampNeg) rfl) ?_
          refine zw_and ?_
          exact zw_iret1 (show decode cX11_struck 47 = .ok (.ireturn, 1) by decide +kernel) rfl
      · refine Iff.trans (zw_iconst (x := (-1)) (show decode cX11_struck 21 = .ok (.iconst (-1), 1) by decide +kernel) (by decide)) ?_
        exact zw_iret1 (show decode cX11_struck 22 = .ok (.ireturn, 1) by decide +kernel) rfl

theorem bX11_struck_35 {d : Nat} {σ : zS} {Q : Option Value → zS → Prop} (hl : zLay σ) {x1 y0 : Int32} : zW (d + 1) kX11_struck 35 [.ref 1, .int x1] [.int y0] σ Q ↔ Q (some (.int y0)) σ := by
  refine Iff.trans (zw_goto (t := 47) (show decode cX11_struck 35 = .ok (.goto 12, 3) by decide +kernel) (by decide)) ?_
  exact zw_iret1 (show decode cX11_struck 47 = .ok (.ireturn, 1) by decide +kernel) rfl

theorem bX11_rounds_0 {d : Nat} {σ : zS} {Q : Option Value → zS → Prop} (hl : zLay σ) {x1 x2 x3 : Int32} : zCall (d + 1) kX11_rounds [.ref 1, .int x1, .int x2, .int x3] σ Q ↔ zCall d kX11_noRunner [.ref 1, .int x1] σ (fun r σ' => zisN r = true ∧ zW (d + 1) kX11_rounds 5 [.ref 1, .int x1, .int x2, .int x3, .retAddr 0, .retAddr 0] (zRstk r ++ []) σ' Q) := by
  show zW (d + 1) kX11_rounds 0 [.ref 1, .int x1, .int x2, .int x3, .retAddr 0, .retAddr 0] [] σ Q ↔ _
  refine Iff.trans (zw_aload_n (show decode cX11_rounds 0 = .ok (.aload_n 0, 1) by decide +kernel) rfl) ?_
  refine Iff.trans (zw_iload_n (show decode cX11_rounds 1 = .ok (.iload_n 1, 1) by decide +kernel) rfl) ?_
  refine Iff.trans (zw_invV (K' := kX11_noRunner) (as' := [.int x1]) (rest := []) (show decode cX11_rounds 2 = .ok (.invokevirtual 243, 3) by decide +kernel) (by rfl) rfl rfl rfl (hl.k2 zk_1) (by decide) (hl.n2 zk_1) ⟨Nat.le_of_ble_eq_true rfl, Nat.le_of_ble_eq_true rfl, Nat.le_of_ble_eq_true rfl⟩) ?_
  exact Iff.rfl

theorem bX11_rounds_5 {d : Nat} {σ : zS} {Q : Option Value → zS → Prop} (hl : zLay σ) {x1 x2 x3 y0 : Int32} : zW (d + 1) kX11_rounds 5 [.ref 1, .int x1, .int x2, .int x3, .retAddr 0, .retAddr 0] [.int y0] σ Q ↔ (if y0 = (0 : Int32) then zCall d kX11_noSeeds [.int x2] σ (fun r σ' => zisN r = true ∧ zW (d + 1) kX11_rounds 12 [.ref 1, .int x1, .int x2, .int x3, .retAddr 0, .retAddr 0] (zRstk r ++ []) σ' Q) else Q (some (.int (-1))) σ) := by
  refine Iff.trans (zw_if_ne (t := 24) (show decode cX11_rounds 5 = .ok (.ifCond .ne 19, 3) by decide +kernel) (by decide)) ?_
  refine zw_ite ?_ ?_
  · refine Iff.trans (zw_iload_n (show decode cX11_rounds 8 = .ok (.iload_n 2, 1) by decide +kernel) rfl) ?_
    refine Iff.trans (zw_invS (K' := kX11_noSeeds) (as := [.int x2]) (rest := []) (show decode cX11_rounds 9 = .ok (.invokestatic 285, 3) by decide +kernel) (by rfl) rfl rfl rfl ⟨Nat.le_of_ble_eq_true rfl, Nat.le_of_ble_eq_true rfl, Nat.le_of_ble_eq_true rfl⟩) ?_
    exact Iff.rfl
  · refine Iff.trans (zw_iconst (x := (-1)) (show decode cX11_rounds 24 = .ok (.iconst (-1), 1) by decide +kernel) (by decide)) ?_
    exact zw_iret1 (show decode cX11_rounds 25 = .ok (.ireturn, 1) by decide +kernel) rfl

theorem bX11_rounds_12 {d : Nat} {σ : zS} {Q : Option Value → zS → Prop} (hl : zLay σ) {x1 x2 x3 y0 : Int32} : zW (d + 1) kX11_rounds 12 [.ref 1, .int x1, .int x2, .int x3, .retAddr 0, .retAddr 0] [.int y0] σ Q ↔ (if y0 = (0 : Int32) then (if x3 < (0 : Int32) then Q (some (.int (-1))) σ else (if x3 ≤ 2 then zCall d kX7_clear [.ref 80] σ (fun r σ' => zisN r = true ∧ zW (d + 1) kX11_rounds 33 [.ref 1, .int x1, .int x2, .int x3, .retAddr 0, .retAddr 0] (zRstk r ++ []) σ' Q) else Q (some (.int (-1))) σ)) else Q (some (.int (-1))) σ) := by
  refine Iff.trans (zw_if_ne (t := 24) (show decode cX11_rounds 12 = .ok (.ifCond .ne 12, 3) by decide +kernel) (by decide)) ?_
  refine zw_ite ?_ ?_
  · refine Iff.trans (zw_iload_n (show decode cX11_rounds 15 = .ok (.iload_n 3, 1) by decide +kernel) rfl) ?_
    refine Iff.trans (zw_if_lt (t := 24) (show decode cX11_rounds 16 = .ok (.ifCond .lt 8, 3) by decide +kernel) (by decide)) ?_
    refine zw_ite ?_ ?_
    · refine Iff.trans (zw_iconst (x := (-1)) (show decode cX11_rounds 24 = .ok (.iconst (-1), 1) by decide +kernel) (by decide)) ?_
      exact zw_iret1 (show decode cX11_rounds 25 = .ok (.ireturn, 1) by decide +kernel) rfl
    · refine Iff.trans (zw_iload_n (show decode cX11_rounds 19 = .ok (.iload_n 3, 1) by decide +kernel) rfl) ?_
      refine Iff.trans (zw_iconst (x := 2) (show decode cX11_rounds 20 = .ok (.iconst 2, 1) by decide +kernel) (by decide)) ?_
      refine Iff.trans (zw_icmp_le (t := 26) (show decode cX11_rounds 21 = .ok (.if_icmp .le 5, 3) by decide +kernel) (by decide)) ?_
      refine zw_ite ?_ ?_
      · refine Iff.trans (zw_aload_n (show decode cX11_rounds 26 = .ok (.aload_n 0, 1) by decide +kernel) rfl) ?_
        refine Iff.trans (zw_get (show decode cX11_rounds 27 = .ok (.getfield 71, 3) by decide +kernel) (by decide +kernel : zfld 11 71 = some (11, 13)) (hl.k2 zk_1) (hl.n2 zk_1) (zgetR (v := 80) (hl.r zrt_1_13) rfl)) ?_
        refine Iff.trans (zw_invV (K' := kX7_clear) (as' := []) (rest := []) (show decode cX11_rounds 30 = .ok (.invokevirtual 338, 3) by decide +kernel) (by rfl) rfl rfl rfl (hl.k2 zk_80) (by decide) (hl.n2 zk_80) ⟨Nat.le_of_ble_eq_true rfl, Nat.le_of_ble_eq_true rfl, Nat.le_of_ble_eq_true rfl⟩) ?_
        exact Iff.rfl
      · refine Iff.trans (zw_iconst (x := (-1)) (show decode cX11_rounds 24 = .ok (.iconst (-1), 1) by decide +kernel) (by decide)) ?_
        exact zw_iret1 (show decode cX11_rounds 25 = .ok (.ireturn, 1) by decide +kernel) rfl
  · refine Iff.trans (zw_iconst (x := (-1)) (show decode cX11_rounds 24 = .ok (.iconst (-1), 1) by decide +kernel) (by decide)) ?_
    exact zw_iret1 (show decode cX11_rounds 25 = .ok (.ireturn, 1) by decide +kernel) rfl

theorem bX11_rounds_33 {d : Nat} {σ : zS} {Q : Option Value → zS → Prop} (hl : zLay σ) {x1 x2 x3 : Int32} : zW (d + 1) kX11_rounds 33 [.ref 1, .int x1, .int x2, .int x3, .retAddr 0, .retAddr 0] [] σ Q ↔ zW (d + 1) kX11_rounds 39 [.ref 1, .int x1, .int x2, .int x3, .int 0, .int 0] [] σ Q := by
  refine Iff.trans (zw_iconst (x := 0) (show decode cX11_rounds 33 = .ok (.iconst 0, 1) by decide +kernel) (by decide)) ?_
  refine Iff.trans (zw_istore (ls' := [.ref 1, .int x1, .int x2, .int x3, .int 0, .retAddr 0]) (show decode cX11_rounds 34 = .ok (.istore 4, 2) by decide +kernel) (zset_s (Nat.le_of_ble_eq_true rfl) rfl)) ?_
  refine Iff.trans (zw_iconst (x := 0) (show decode cX11_rounds 36 = .ok (.iconst 0, 1) by decide +kernel) (by decide)) ?_
  refine Iff.trans (zw_istore (ls' := [.ref 1, .int x1, .int x2, .int x3, .int 0, .int 0]) (show decode cX11_rounds 37 = .ok (.istore 5, 2) by decide +kernel) (zset_s (Nat.le_of_ble_eq_true rfl) rfl)) ?_
  exact Iff.rfl

theorem bX11_rounds_39 {d : Nat} {σ : zS} {Q : Option Value → zS → Prop} (hl : zLay σ) {x1 x2 x3 x4 x5 : Int32} : zW (d + 1) kX11_rounds 39 [.ref 1, .int x1, .int x2, .int x3, .int x4, .int x5] [] σ Q ↔ (if (zI σ 12 4) ≤ x5 then (if x3 = (0 : Int32) then (vp_in x1 6 ∧ Q (some (.int (zI σ 81 (x1 : Int32).toNatClampNeg))) σ) else (if x3 = 1 then (vp_in x1 6 ∧ Q (some (.int (zI σ 82 (x1 : Int32).toNatClampNeg))) σ) else Q (some (.int x4)) σ)) else zCall d kX11_turnRunners [.ref 1, .int x5] σ (fun r σ' => zisN r = true ∧ zW (d + 1) kX11_rounds 57 [.ref 1, .int x1, .int x2, .int x3, .int x4, .int x5] (zRstk r ++ []) σ' Q)) := by
  refine Iff.trans (zw_iload (show decode cX11_rounds 39 = .ok (.iload 5, 2) by decide +kernel) rfl) ?_
  refine Iff.trans (zw_aload_n (show decode cX11_rounds 41 = .ok (.aload_n 0, 1) by decide +kernel) rfl) ?_
  refine Iff.trans (zw_get (show decode cX11_rounds 42 = .ok (.getfield 48, 3) by decide +kernel) (by decide +kernel : zfld 11 48 = some (11, 8)) (hl.k2 zk_1) (hl.n2 zk_1) (zgetR (v := 12) (hl.r zrt_1_8) rfl)) ?_
  refine Iff.trans (zw_getI (show decode cX11_rounds 45 = .ok (.getfield 200, 3) by decide +kernel) (by decide +kernel : zfld 11 200 = some (2, 4)) (hl.k2 zk_12) (hl.n2 zk_12) (Or.inl rfl) (w := zI σ 12 4) rfl) ?_
  refine Iff.trans (zw_icmp_ge (t := 88) (show decode cX11_rounds 48 = .ok (.if_icmp .ge 40, 3) by decide +kernel) (by decide)) ?_
  refine zw_ite ?_ ?_
  · refine Iff.trans (zw_iload_n (show decode cX11_rounds 88 = .ok (.iload_n 3, 1) by decide +kernel) rfl) ?_
    refine Iff.trans (zw_if_ne (t := 102) (show decode cX11_rounds 89 = .ok (.ifCond .ne 13, 3) by decide +kernel) (by decide)) ?_
    refine zw_ite ?_ ?_
    · refine Iff.trans (zw_aload_n (show decode cX11_rounds 92 = .ok (.aload_n 0, 1) by decide +kernel) rfl) ?_
      refine Iff.trans (zw_get (show decode cX11_rounds 93 = .ok (.getfield 71, 3) by decide +kernel) (by decide +kernel : zfld 11 71 = some (11, 13)) (hl.k2 zk_1) (hl.n2 zk_1) (zgetR (v := 80) (hl.r zrt_1_13) rfl)) ?_
      refine Iff.trans (zw_get (show decode cX11_rounds 96 = .ok (.getfield 291, 3) by decide +kernel) (by decide +kernel : zfld 11 291 = some (7, 0)) (hl.k2 zk_80) (hl.n2 zk_80) (zgetR (v := 81) (hl.r zrt_80_0) rfl)) ?_
      refine Iff.trans (zw_iload_n (show decode cX11_rounds 99 = .ok (.iload_n 1, 1) by decide +kernel) rfl) ?_
      refine Iff.trans (zw_iald2 (show decode cX11_rounds 100 = .ok (.iaload, 1) by decide +kernel) (hl.k2 zk_81) (hl.n2 zk_81) (hl.l2 zk_81 zl_81) (w := zI σ 81 (x1 : Int32).toNatClampNeg) rfl) ?_
      refine zw_and ?_
      exact zw_iret1 (show decode cX11_rounds 101 = .ok (.ireturn, 1) by decide +kernel) rfl
    · refine Iff.trans (zw_iload_n (show decode cX11_rounds 102 = .ok (.iload_n 3, 1) by decide +kernel) rfl) ?_
      refine Iff.trans (zw_iconst (x := 1) (show decode cX11_rounds 103 = .ok (.iconst 1, 1) by decide +kernel) (by decide)) ?_
      refine Iff.trans (zw_icmp_ne (t := 119) (show decode cX11_rounds 104 = .ok (.if_icmp .ne 15, 3) by decide +kernel) (by decide)) ?_
      refine zw_ite ?_ ?_
      · refine Iff.trans (zw_aload_n (show decode cX11_rounds 107 = .ok (.aload_n 0, 1) by decide +kernel) rfl) ?_
        refine Iff.trans (zw_get (show decode cX11_rounds 108 = .ok (.getfield 71, 3) by decide +kernel) (by decide +kernel : zfld 11 71 = some (11, 13)) (hl.k2 zk_1) (hl.n2 zk_1) (zgetR (v := 80) (hl.r zrt_1_13) rfl)) ?_
        refine Iff.trans (zw_get (show decode cX11_rounds 111 = .ok (.getfield 294, 3) by decide +kernel) (by decide +kernel : zfld 11 294 = some (7, 1)) (hl.k2 zk_80) (hl.n2 zk_80) (zgetR (v := 82) (hl.r zrt_80_1) rfl)) ?_
        refine Iff.trans (zw_iload_n (show decode cX11_rounds 114 = .ok (.iload_n 1, 1) by decide +kernel) rfl) ?_
        refine Iff.trans (zw_iald2 (show decode cX11_rounds 115 = .ok (.iaload, 1) by decide +kernel) (hl.k2 zk_82) (hl.n2 zk_82) (hl.l2 zk_82 zl_82) (w := zI σ 82 (x1 : Int32).toNatClampNeg) rfl) ?_
        refine zw_and ?_
        refine Iff.trans (zw_goto (t := 121) (show decode cX11_rounds 116 = .ok (.goto 5, 3) by decide +kernel) (by decide)) ?_
        exact zw_iret1 (show decode cX11_rounds 121 = .ok (.ireturn, 1) by decide +kernel) rfl
      · refine Iff.trans (zw_iload (show decode cX11_rounds 119 = .ok (.iload 4, 2) by decide +kernel) rfl) ?_
        exact zw_iret1 (show decode cX11_rounds 121 = .ok (.ireturn, 1) by decide +kernel) rfl
  · refine Iff.trans (zw_aload_n (show decode cX11_rounds 51 = .ok (.aload_n 0, 1) by decide +kernel) rfl) ?_
    refine Iff.trans (zw_iload (show decode cX11_rounds 52 = .ok (.iload 5, 2) by decide +kernel) rfl) ?_
    refine Iff.trans (zw_invV (K' := kX11_turnRunners) (as' := [.int x5]) (rest := []) (show decode cX11_rounds 54 = .ok (.invokevirtual 325, 3) by decide +kernel) (by rfl) rfl rfl rfl (hl.k2 zk_1) (by decide) (hl.n2 zk_1) ⟨Nat.le_of_ble_eq_true rfl, Nat.le_of_ble_eq_true rfl, Nat.le_of_ble_eq_true rfl⟩) ?_
    exact Iff.rfl

theorem bX11_rounds_57 {d : Nat} {σ : zS} {Q : Option Value → zS → Prop} (hl : zLay σ) {x1 x2 x3 x4 x5 : Int32} : zW (d + 1) kX11_rounds 57 [.ref 1, .int x1, .int x2, .int x3, .int x4, .int x5] [] σ Q ↔ zCall d kX2_fits [.ref 60, .int (zI σ 10 1)] σ (fun r σ' => zisN r = true ∧ zW (d + 1) kX11_rounds 71 [.ref 1, .int x1, .int x2, .int x3, .int x4, .int x5] (zRstk r ++ []) σ' Q) := by
  refine Iff.trans (zw_aload_n (show decode cX11_rounds 57 = .ok (.aload_n 0, 1) by decide +kernel) rfl) ?_
  refine Iff.trans (zw_get (show decode cX11_rounds 58 = .ok (.getfield 65, 3) by decide +kernel) (by decide +kernel : zfld 11 65 = some (11, 12)) (hl.k2 zk_1) (hl.n2 zk_1) (zgetR (v := 60) (hl.r zrt_1_12) rfl)) ?_
  refine Iff.trans (zw_aload_n (show decode cX11_rounds 61 = .ok (.aload_n 0, 1) by decide +kernel) rfl) ?_
  refine Iff.trans (zw_get (show decode cX11_rounds 62 = .ok (.getfield 38, 3) by decide +kernel) (by decide +kernel : zfld 11 38 = some (11, 6)) (hl.k2 zk_1) (hl.n2 zk_1) (zgetR (v := 10) (hl.r zrt_1_6) rfl)) ?_
  refine Iff.trans (zw_getI (show decode cX11_rounds 65 = .ok (.getfield 180, 3) by decide +kernel) (by decide +kernel : zfld 11 180 = some (10, 1)) (hl.k2 zk_10) (hl.n2 zk_10) (Or.inl rfl) (w := zI σ 10 1) rfl) ?_
  refine Iff.trans (zw_invV (K' := kX2_fits) (as' := [.int (zI σ 10 1)]) (rest := []) (show decode cX11_rounds 68 = .ok (.invokevirtual 224, 3) by decide +kernel) (by rfl) rfl rfl rfl (hl.k2 zk_60) (by decide) (hl.n2 zk_60) ⟨Nat.le_of_ble_eq_true rfl, Nat.le_of_ble_eq_true rfl, Nat.le_of_ble_eq_true rfl⟩) ?_
  exact Iff.rfl

theorem bX11_rounds_71 {d : Nat} {σ : zS} {Q : Option Value → zS → Prop} (hl : zLay σ) {x1 x2 x3 x4 x5 y0 : Int32} : zW (d + 1) kX11_rounds 71 [.ref 1, .int x1, .int x2, .int x3, .int x4, .int x5] [.int y0] σ Q ↔ (if y0 = (0 : Int32) then zW (d + 1) kX11_rounds 39 [.ref 1, .int x1, .int x2, .int x3, .int x4, .int (x5 + 1)] [] σ Q else zCall d kX11_tallySeeds [.ref 1, .int x2] σ (fun r σ' => zisN r = true ∧ zW (d + 1) kX11_rounds 79 [.ref 1, .int x1, .int x2, .int x3, .int x4, .int x5] (zRstk r ++ []) σ' Q)) := by
  refine Iff.trans (zw_if_eq (t := 82) (show decode cX11_rounds 71 = .ok (.ifCond .eq 11, 3) by decide +kernel) (by decide)) ?_
  refine zw_ite ?_ ?_
  · refine Iff.trans (zw_iinc (w := 1) (ls' := [.ref 1, .int x1, .int x2, .int x3, .int x4, .int (x5 + 1)]) (show decode cX11_rounds 82 = .ok (.iinc 5 1, 3) by decide +kernel) rfl (by decide) (zset_s (Nat.le_of_ble_eq_true rfl) rfl)) ?_
    refine Iff.trans (zw_goto (t := 39) (show decode cX11_rounds 85 = .ok (.goto (-46), 3) by decide +kernel) (by decide)) ?_
    exact Iff.rfl
  · refine Iff.trans (zw_aload_n (show decode cX11_rounds 74 = .ok (.aload_n 0, 1) by decide +kernel) rfl) ?_
    refine Iff.trans (zw_iload_n (show decode cX11_rounds 75 = .ok (.iload_n 2, 1) by decide +kernel) rfl) ?_
    refine Iff.trans (zw_invV (K' := kX11_tallySeeds) (as' := [.int x2]) (rest := []) (show decode cX11_rounds 76 = .ok (.invokevirtual 340, 3) by decide +kernel) (by rfl) rfl rfl rfl (hl.k2 zk_1) (by decide) (hl.n2 zk_1) ⟨Nat.le_of_ble_eq_true rfl, Nat.le_of_ble_eq_true rfl, Nat.le_of_ble_eq_true rfl⟩) ?_
    exact Iff.rfl

theorem bX11_rounds_79 {d : Nat} {σ : zS} {Q : Option Value → zS → Prop} (hl : zLay σ) {x1 x2 x3 x4 x5 : Int32} : zW (d + 1) kX11_rounds 79 [.ref 1, .int x1, .int x2, .int x3, .int x4, .int x5] [] σ Q ↔ zW (d + 1) kX11_rounds 39 [.ref 1, .int x1, .int x2, .int x3, .int (x4 + 1), .int (x5 + 1)] [] σ Q := by
  refine Iff.trans (zw_iinc (w := 1) (ls' := [.ref 1, .int x1, .int x2, .int x3, .int (x4 + 1), .int x5]) (show decode cX11_rounds 79 = .ok (.iinc 4 1, 3) by decide +kernel) rfl (by decide) (zset_s (Nat.le_of_ble_eq_true rfl) rfl)) ?_
  refine Iff.trans (zw_iinc (w := 1) (ls' := [.ref 1, .int x1, .int x2, .int x3, .int (x4 + 1), .int (x5 + 1)]) (show decode cX11_rounds 82 = .ok (.iinc 5 1, 3) by decide +kernel) rfl (by decide) (zset_s (Nat.le_of_ble_eq_true rfl) rfl)) ?_
  refine Iff.trans (zw_goto (t := 39) (show decode cX11_rounds 85 = .ok (.goto (-46), 3) by decide +kernel) (by decide)) ?_
  exact Iff.rfl

theorem bX11_duel_0 {d : Nat} {σ : zS} {Q : Option Value → zS → Prop} (hl : zLay σ) {x1 x2 x3 x4 : Int32} : zCall (d + 1) kX11_duel [.ref 1, .int x1, .int x2, .int x3, .int x4] σ Q ↔ zCall d kX11_noBrook [.ref 1, .int x1] σ (fun r σ' => zisN r = true ∧ zW (d + 1) kX11_duel 5 [.ref 1, .int x1, .int x2, .int x3, .int x4, .retAddr 0, .retAddr 0, .retAddr 0, .retAddr 0, .retAddr 0] (zRstk r ++ []) σ' Q) := by
  show zW (d + 1) kX11_duel 0 [.ref 1, .int x1, .int x2, .int x3, .int x4, .retAddr 0, .retAddr 0, .retAddr 0, .retAddr 0, .retAddr 0] [] σ Q ↔ _
  refine Iff.trans (zw_aload_n (show decode cX11_duel 0 = .ok (.aload_n 0, 1) by decide +kernel) rfl) ?_
  refine Iff.trans (zw_iload_n (show decode cX11_duel 1 = .ok (.iload_n 1, 1) by decide +kernel) rfl) ?_
  refine Iff.trans (zw_invV (K' := kX11_noBrook) (as' := [.int x1]) (rest := []) (show decode cX11_duel 2 = .ok (.invokevirtual 157, 3) by decide +kernel) (by rfl) rfl rfl rfl (hl.k2 zk_1) (by decide) (hl.n2 zk_1) ⟨Nat.le_of_ble_eq_true rfl, Nat.le_of_ble_eq_true rfl, Nat.le_of_ble_eq_true rfl⟩) ?_
  exact Iff.rfl

theorem bX11_duel_5 {d : Nat} {σ : zS} {Q : Option Value → zS → Prop} (hl : zLay σ) {x1 x2 x3 x4 y0 : Int32} : zW (d + 1) kX11_duel 5 [.ref 1, .int x1, .int x2, .int x3, .int x4, .retAddr 0, .retAddr 0, .retAddr 0, .retAddr 0, .retAddr 0] [.int y0] σ Q ↔ (if y0 = (0 : Int32) then zCall d kX11_noStick [.ref 1, .int x2] σ (fun r σ' => zisN r = true ∧ zW (d + 1) kX11_duel 13 [.ref 1, .int x1, .int x2, .int x3, .int x4, .retAddr 0, .retAddr 0, .retAddr 0, .retAddr 0, .retAddr 0] (zRstk r ++ []) σ' Q) else Q (some (.int (-1000))) σ) := by
  refine Iff.trans (zw_if_ne (t := 32) (show decode cX11_duel 5 = .ok (.ifCond .ne 27, 3) by decide +kernel) (by decide)) ?_
  refine zw_ite ?_ ?_
  · refine Iff.trans (zw_aload_n (show decode cX11_duel 8 = .ok (.aload_n 0, 1) by decide +kernel) rfl) ?_
    refine Iff.trans (zw_iload_n (show decode cX11_duel 9 = .ok (.iload_n 2, 1) by decide +kernel) rfl) ?_
    refine Iff.trans (zw_invV (K' := kX11_noStick) (as' := [.int x2]) (rest := []) (show decode cX11_duel 10 = .ok (.invokevirtual 187, 3) by decide +kernel) (by rfl) rfl rfl rfl (hl.k2 zk_1) (by decide) (hl.n2 zk_1) ⟨Nat.le_of_ble_eq_true rfl, Nat.le_of_ble_eq_true rfl, Nat.le_of_ble_eq_true rfl⟩) ?_
    exact Iff.rfl
  · refine Iff.trans (zw_sipush (x := (-1000)) (show decode cX11_duel 32 = .ok (.sipush (-1000), 3) by decide +kernel) (by decide)) ?_
    exact zw_iret1 (show decode cX11_duel 35 = .ok (.ireturn, 1) by decide +kernel) rfl

theorem bX11_duel_13 {d : Nat} {σ : zS} {Q : Option Value → zS → Prop} (hl : zLay σ) {x1 x2 x3 x4 y0 : Int32} : zW (d + 1) kX11_duel 13 [.ref 1, .int x1, .int x2, .int x3, .int x4, .retAddr 0, .retAddr 0, .retAddr 0, .retAddr 0, .retAddr 0] [.int y0] σ Q ↔ (if y0 = (0 : Int32) then zCall d kX11_noStick [.ref 1, .int x3] σ (fun r σ' => zisN r = true ∧ zW (d + 1) kX11_duel 21 [.ref 1, .int x1, .int x2, .int x3, .int x4, .retAddr 0, .retAddr 0, .retAddr 0, .retAddr 0, .retAddr 0] (zRstk r ++ []) σ' Q) else Q (some (.int (-1000))) σ) := by
  refine Iff.trans (zw_if_ne (t := 32) (show decode cX11_duel 13 = .ok (.ifCond .ne 19, 3) by decide +kernel) (by decide)) ?_
  refine zw_ite ?_ ?_
  · refine Iff.trans (zw_aload_n (show decode cX11_duel 16 = .ok (.aload_n 0, 1) by decide +kernel) rfl) ?_
    refine Iff.trans (zw_iload_n (show decode cX11_duel 17 = .ok (.iload_n 3, 1) by decide +kernel) rfl) ?_
    refine Iff.trans (zw_invV (K' := kX11_noStick) (as' := [.int x3]) (rest := []) (show decode cX11_duel 18 = .ok (.invokevirtual 187, 3) by decide +kernel) (by rfl) rfl rfl rfl (hl.k2 zk_1) (by decide) (hl.n2 zk_1) ⟨Nat.le_of_ble_eq_true rfl, Nat.le_of_ble_eq_true rfl, Nat.le_of_ble_eq_true rfl⟩) ?_
    exact Iff.rfl
  · refine Iff.trans (zw_sipush (x := (-1000)) (show decode cX11_duel 32 = .ok (.sipush (-1000), 3) by decide +kernel) (by decide)) ?_
    exact zw_iret1 (show decode cX11_duel 35 = .ok (.ireturn, 1) by decide +kernel) rfl

theorem bX11_duel_21 {d : Nat} {σ : zS} {Q : Option Value → zS → Prop} (hl : zLay σ) {x1 x2 x3 x4 y0 : Int32} : zW (d + 1) kX11_duel 21 [.ref 1, .int x1, .int x2, .int x3, .int x4, .retAddr 0, .retAddr 0, .retAddr 0, .retAddr 0, .retAddr 0] [.int y0] σ Q ↔ (if y0 = (0 : Int32) then zCall d kX11_noSeeds [.int x4] σ (fun r σ' => zisN r = true ∧ zW (d + 1) kX11_duel 29 [.ref 1, .int x1, .int x2, .int x3, .int x4, .retAddr 0, .retAddr 0, .retAddr 0, .retAddr 0, .retAddr 0] (zRstk r ++ []) σ' Q) else Q (some (.int (-1000))) σ) := by
  refine Iff.trans (zw_if_ne (t := 32) (show decode cX11_duel 21 = .ok (.ifCond .ne 11, 3) by decide +kernel) (by decide)) ?_
  refine zw_ite ?_ ?_
  · refine Iff.trans (zw_iload (show decode cX11_duel 24 = .ok (.iload 4, 2) by decide +kernel) rfl) ?_
    refine Iff.trans (zw_invS (K' := kX11_noSeeds) (as := [.int x4]) (rest := []) (show decode cX11_duel 26 = .ok (.invokestatic 285, 3) by decide +kernel) (by rfl) rfl rfl rfl ⟨Nat.le_of_ble_eq_true rfl, Nat.le_of_ble_eq_true rfl, Nat.le_of_ble_eq_true rfl⟩) ?_
    exact Iff.rfl
  · refine Iff.trans (zw_sipush (x := (-1000)) (show decode cX11_duel 32 = .ok (.sipush (-1000), 3) by decide +kernel) (by decide)) ?_
    exact zw_iret1 (show decode cX11_duel 35 = .ok (.ireturn, 1) by decide +kernel) rfl

theorem bX11_duel_29 {d : Nat} {σ : zS} {Q : Option Value → zS → Prop} (hl : zLay σ) {x1 x2 x3 x4 y0 : Int32} : zW (d + 1) kX11_duel 29 [.ref 1, .int x1, .int x2, .int x3, .int x4, .retAddr 0, .retAddr 0, .retAddr 0, .retAddr 0, .retAddr 0] [.int y0] σ Q ↔ (if y0 = (0 : Int32) then (vp_in x1 6 ∧ zW (d + 1) kX11_duel 42 [.ref 1, .int x1, .int x2, .int x3, .int x4, .retAddr 0, .retAddr 0, .retAddr 0, .retAddr 0, .retAddr 0] (va_rf (zR σ 4 (x1 : Int32).toNatClampNeg) :: []) σ Q) else Q (some (.int (-1000))) σ) := by
  refine Iff.trans (zw_if_eq (t := 36) (show decode cX11_duel 29 = .ok (.ifCond .eq 7, 3) by decide +kernel) (by decide)) ?_
  refine zw_ite ?_ ?_
  · refine Iff.trans (zw_aload_n (show decode cX11_duel 36 = .ok (.aload_n 0, 1) by decide +kernel) rfl) ?_
    refine Iff.trans (zw_get (show decode cX11_duel 37 = .ok (.getfield 18, 3) by decide +kernel) (by decide +kernel : zfld 11 18 = some (11, 1)) (hl.k2 zk_1) (hl.n2 zk_1) (zgetR (v := 4) (hl.r zrt_1_1) rfl)) ?_
    refine Iff.trans (zw_iload_n (show decode cX11_duel 40 = .ok (.iload_n 1, 1) by decide +kernel) rfl) ?_
    refine Iff.trans (zw_aald (show decode cX11_duel 41 = .ok (.aaload, 1) by decide +kernel) (by rw [(hl.k2 zk_4)]; decide) (hl.n2 zk_4) (hl.l2 zk_4 zl_4)) ?_
    refine zw_and ?_
    exact Iff.rfl
  · refine Iff.trans (zw_sipush (x := (-1000)) (show decode cX11_duel 32 = .ok (.sipush (-1000), 3) by decide +kernel) (by decide)) ?_
    exact zw_iret1 (show decode cX11_duel 35 = .ok (.ireturn, 1) by decide +kernel) rfl

theorem bX11_duel_42 {d : Nat} {σ : zS} {Q : Option Value → zS → Prop} (hl : zLay σ) {x1 x2 x3 x4 : Int32} {b0 : Nat} (hb0 : zk b0 = 0) : zW (d + 1) kX11_duel 42 [.ref 1, .int x1, .int x2, .int x3, .int x4, .retAddr 0, .retAddr 0, .retAddr 0, .retAddr 0, .retAddr 0] [.ref b0] σ Q ↔ zW (d + 1) kX11_duel 53 [.ref 1, .int x1, .int x2, .int x3, .int x4, .ref b0, .int 0, .int 0, .int 0, .retAddr 0] [] σ Q := by
  refine Iff.trans (zw_astore (ls' := [.ref 1, .int x1, .int x2, .int x3, .int x4, .ref b0, .retAddr 0, .retAddr 0, .retAddr 0, .retAddr 0]) (show decode cX11_duel 42 = .ok (.astore 5, 2) by decide +kernel) (zset_s (Nat.le_of_ble_eq_true rfl) rfl)) ?_
  refine Iff.trans (zw_iconst (x := 0) (show decode cX11_duel 44 = .ok (.iconst 0, 1) by decide +kernel) (by decide)) ?_
  refine Iff.trans (zw_istore (ls' := [.ref 1, .int x1, .int x2, .int x3, .int x4, .ref b0, .int 0, .retAddr 0, .retAddr 0, .retAddr 0]) (show decode cX11_duel 45 = .ok (.istore 6, 2) by decide +kernel) (zset_s (Nat.le_of_ble_eq_true rfl) rfl)) ?_
  refine Iff.trans (zw_iconst (x := 0) (show decode cX11_duel 47 = .ok (.iconst 0, 1) by decide +kernel) (by decide)) ?_
  refine Iff.trans (zw_istore (ls' := [.ref 1, .int x1, .int x2, .int x3, .int x4, .ref b0, .int 0, .int 0, .retAddr 0, .retAddr 0]) (show decode cX11_duel 48 = .ok (.istore 7, 2) by decide +kernel) (zset_s (Nat.le_of_ble_eq_true rfl) rfl)) ?_
  refine Iff.trans (zw_iconst (x := 0) (show decode cX11_duel 50 = .ok (.iconst 0, 1) by decide +kernel) (by decide)) ?_
  refine Iff.trans (zw_istore (ls' := [.ref 1, .int x1, .int x2, .int x3, .int x4, .ref b0, .int 0, .int 0, .int 0, .retAddr 0]) (show decode cX11_duel 51 = .ok (.istore 8, 2) by decide +kernel) (zset_s (Nat.le_of_ble_eq_true rfl) rfl)) ?_
  exact Iff.rfl

theorem bX11_duel_53 {d : Nat} {σ : zS} {Q : Option Value → zS → Prop} (hl : zLay σ) {x1 x2 x3 x4 x6 x7 x8 : Int32} {a5 : Nat} {v9 : Value} (ha5 : zk a5 = 0) (hv9 : v9.category = 1) : zW (d + 1) kX11_duel 53 [.ref 1, .int x1, .int x2, .int x3, .int x4, .ref a5, .int x6, .int x7, .int x8, v9] [] σ Q ↔ (if (zI σ a5 3) ≤ x8 then (if x6 = (0 : Int32) then Q (some (.int (-1000))) σ else Q (some (.int x7)) σ) else zW (d + 1) kX11_duel 66 [.ref 1, .int x1, .int x2, .int x3, .int x4, .ref a5, .int x6, .int x7, .int x8, .int 0] [] σ Q) := by
  refine Iff.trans (zw_iload (show decode cX11_duel 53 = .ok (.iload 8, 2) by decide +kernel) rfl) ?_
  refine Iff.trans (zw_aload (show decode cX11_duel 55 = .ok (.aload 5, 2) by decide +kernel) rfl) ?_
  refine Iff.trans (zw_getI (show decode cX11_duel 57 = .ok (.getfield 164, 3) by decide +kernel) (by decide +kernel : zfld 11 164 = some (0, 3)) (hl.k2 ha5) (hl.n2 ha5) (Or.inl rfl) (w := zI σ a5 3) rfl) ?_
  refine Iff.trans (zw_icmp_ge (t := 127) (show decode cX11_duel 60 = .ok (.if_icmp .ge 67, 3) by decide +kernel) (by decide)) ?_
  refine zw_ite ?_ ?_
  · refine Iff.trans (zw_iload (show decode cX11_duel 127 = .ok (.iload 6, 2) by decide +kernel) rfl) ?_
    refine Iff.trans (zw_if_eq (t := 137) (show decode cX11_duel 129 = .ok (.ifCond .eq 8, 3) by decide +kernel) (by decide)) ?_
    refine zw_ite ?_ ?_
    · refine Iff.trans (zw_sipush (x := (-1000)) (show decode cX11_duel 137 = .ok (.sipush (-1000), 3) by decide +kernel) (by decide)) ?_
      exact zw_iret1 (show decode cX11_duel 140 = .ok (.ireturn, 1) by decide +kernel) rfl
    · refine Iff.trans (zw_iload (show decode cX11_duel 132 = .ok (.iload 7, 2) by decide +kernel) rfl) ?_
      refine Iff.trans (zw_goto (t := 140) (show decode cX11_duel 134 = .ok (.goto 6, 3) by decide +kernel) (by decide)) ?_
      exact zw_iret1 (show decode cX11_duel 140 = .ok (.ireturn, 1) by decide +kernel) rfl
  · refine Iff.trans (zw_iconst (x := 0) (show decode cX11_duel 63 = .ok (.iconst 0, 1) by decide +kernel) (by decide)) ?_
    refine Iff.trans (zw_istore (ls' := [.ref 1, .int x1, .int x2, .int x3, .int x4, .ref a5, .int x6, .int x7, .int x8, .int 0]) (show decode cX11_duel 64 = .ok (.istore 9, 2) by decide +kernel) (zset_s (Nat.le_of_ble_eq_true rfl) rfl)) ?_
    exact Iff.rfl

theorem bX11_duel_66 {d : Nat} {σ : zS} {Q : Option Value → zS → Prop} (hl : zLay σ) {x1 x2 x3 x4 x6 x7 x8 x9 : Int32} {a5 : Nat} (ha5 : zk a5 = 0) : zW (d + 1) kX11_duel 66 [.ref 1, .int x1, .int x2, .int x3, .int x4, .ref a5, .int x6, .int x7, .int x8, .int x9] [] σ Q ↔ (if (zI σ a5 3) ≤ x9 then zW (d + 1) kX11_duel 53 [.ref 1, .int x1, .int x2, .int x3, .int x4, .ref a5, .int x6, .int x7, .int (x8 + 1), .int x9] [] σ Q else (vp_in x2 10 ∧ zW (d + 1) kX11_duel 85 [.ref 1, .int x1, .int x2, .int x3, .int x4, .ref a5, .int x6, .int x7, .int x8, .int x9] (va_rf (zR σ 5 (x2 : Int32).toNatClampNeg) :: [.ref a5, .ref 1]) σ Q)) := by
  refine Iff.trans (zw_iload (show decode cX11_duel 66 = .ok (.iload 9, 2) by decide +kernel) rfl) ?_
  refine Iff.trans (zw_aload (show decode cX11_duel 68 = .ok (.aload 5, 2) by decide +kernel) rfl) ?_
  refine Iff.trans (zw_getI (show decode cX11_duel 70 = .ok (.getfield 164, 3) by decide +kernel) (by decide +kernel : zfld 11 164 = some (0, 3)) (hl.k2 ha5) (hl.n2 ha5) (Or.inl rfl) (w := zI σ a5 3) rfl) ?_
  refine Iff.trans (zw_icmp_ge (t := 121) (show decode cX11_duel 73 = .ok (.if_icmp .ge 48, 3) by decide +kernel) (by decide)) ?_
  refine zw_ite ?_ ?_
  · refine Iff.trans (zw_iinc (w := 1) (ls' := [.ref 1, .int x1, .int x2, .int x3, .int x4, .ref a5, .int x6, .int x7, .int (x8 + 1), .int x9]) (show decode cX11_duel 121 = .ok (.iinc 8 1, 3) by decide +kernel) rfl (by decide) (zset_s (Nat.le_of_ble_eq_true rfl) rfl)) ?_
    refine Iff.trans (zw_goto (t := 53) (show decode cX11_duel 124 = .ok (.goto (-71), 3) by decide +kernel) (by decide)) ?_
    exact Iff.rfl
  · refine Iff.trans (zw_aload_n (show decode cX11_duel 76 = .ok (.aload_n 0, 1) by decide +kernel) rfl) ?_
    refine Iff.trans (zw_aload (show decode cX11_duel 77 = .ok (.aload 5, 2) by decide +kernel) rfl) ?_
    refine Iff.trans (zw_aload_n (show decode cX11_duel 79 = .ok (.aload_n 0, 1) by decide +kernel) rfl) ?_
    refine Iff.trans (zw_get (show decode cX11_duel 80 = .ok (.getfield 24, 3) by decide +kernel) (by decide +kernel : zfld 11 24 = some (11, 3)) (hl.k2 zk_1) (hl.n2 zk_1) (zgetR (v := 5) (hl.r zrt_1_3) rfl)) ?_
    refine Iff.trans (zw_iload_n (show decode cX11_duel 83 = .ok (.iload_n 2, 1) by decide +kernel) rfl) ?_
    refine Iff.trans (zw_aald (show decode cX11_duel 84 = .ok (.aaload, 1) by decide +kernel) (by rw [(hl.k2 zk_5)]; decide) (hl.n2 zk_5) (hl.l2 zk_5 zl_5)) ?_
    refine zw_and ?_
    exact Iff.rfl

theorem bX11_duel_85 {d : Nat} {σ : zS} {Q : Option Value → zS → Prop} (hl : zLay σ) {x1 x2 x3 x4 x6 x7 x8 x9 : Int32} {a5 b0 b1 : Nat} (ha5 : zk a5 = 0) (hb0 : zk b0 = 6) (hb1 : zk b1 = 0) : zW (d + 1) kX11_duel 85 [.ref 1, .int x1, .int x2, .int x3, .int x4, .ref a5, .int x6, .int x7, .int x8, .int x9] [.ref b0, .ref b1, .ref 1] σ Q ↔ (vp_in x3 10 ∧ zW (d + 1) kX11_duel 93 [.ref 1, .int x1, .int x2, .int x3, .int x4, .ref a5, .int x6, .int x7, .int x8, .int x9] (va_rf (zR σ 5 (x3 : Int32).toNatClampNeg) :: [.int x8, .ref b0, .ref b1, .ref 1]) σ Q) := by
  refine Iff.trans (zw_iload (show decode cX11_duel 85 = .ok (.iload 8, 2) by decide +kernel) rfl) ?_
  refine Iff.trans (zw_aload_n (show decode cX11_duel 87 = .ok (.aload_n 0, 1) by decide +kernel) rfl) ?_
  refine Iff.trans (zw_get (show decode cX11_duel 88 = .ok (.getfield 24, 3) by decide +kernel) (by decide +kernel : zfld 11 24 = some (11, 3)) (hl.k2 zk_1) (hl.n2 zk_1) (zgetR (v := 5) (hl.r zrt_1_3) rfl)) ?_
  refine Iff.trans (zw_iload_n (show decode cX11_duel 91 = .ok (.iload_n 3, 1) by decide +kernel) rfl) ?_
  refine Iff.trans (zw_aald (show decode cX11_duel 92 = .ok (.aaload, 1) by decide +kernel) (by rw [(hl.k2 zk_5)]; decide) (hl.n2 zk_5) (hl.l2 zk_5 zl_5)) ?_
  refine zw_and ?_
  exact Iff.rfl

theorem bX11_duel_93 {d : Nat} {σ : zS} {Q : Option Value → zS → Prop} (hl : zLay σ) {x1 x2 x3 x4 x6 x7 x8 x9 y1 : Int32} {a5 b0 b2 b3 : Nat} (ha5 : zk a5 = 0) (hb0 : zk b0 = 6) (hb2 : zk b2 = 6) (hb3 : zk b3 = 0) : zW (d + 1) kX11_duel 93 [.ref 1, .int x1, .int x2, .int x3, .int x4, .ref a5, .int x6, .int x7, .int x8, .int x9] [.ref b0, .int y1, .ref b2, .ref b3, .ref 1] σ Q ↔ zCall d kX11_placeTwo [.ref 1, .ref b3, .ref b2, .int y1, .ref b0, .int x9] σ (fun r σ' => zisN r = true ∧ zW (d + 1) kX11_duel 98 [.ref 1, .int x1, .int x2, .int x3, .int x4, .ref a5, .int x6, .int x7, .int x8, .int x9] (zRstk r ++ []) σ' Q) := by
  refine Iff.trans (zw_iload (show decode cX11_duel 93 = .ok (.iload 9, 2) by decide +kernel) rfl) ?_
  refine Iff.trans (zw_invV (K' := kX11_placeTwo) (as' := [.ref b3, .ref b2, .int y1, .ref b0, .int x9]) (rest := []) (show decode cX11_duel 95 = .ok (.invokevirtual 318, 3) by decide +kernel) (by rfl) rfl rfl rfl (hl.k2 zk_1) (by decide) (hl.n2 zk_1) ⟨Nat.le_of_ble_eq_true rfl, Nat.le_of_ble_eq_true rfl, Nat.le_of_ble_eq_true rfl⟩) ?_
  exact Iff.rfl

theorem bX11_duel_98 {d : Nat} {σ : zS} {Q : Option Value → zS → Prop} (hl : zLay σ) {x1 x2 x3 x4 x6 x7 x8 x9 y0 : Int32} {a5 : Nat} (ha5 : zk a5 = 0) : zW (d + 1) kX11_duel 98 [.ref 1, .int x1, .int x2, .int x3, .int x4, .ref a5, .int x6, .int x7, .int x8, .int x9] [.int y0] σ Q ↔ (if y0 = (0 : Int32) then zW (d + 1) kX11_duel 66 [.ref 1, .int x1, .int x2, .int x3, .int x4, .ref a5, .int x6, .int x7, .int x8, .int (x9 + 1)] [] σ Q else zCall d kX11_leadOfFirst [.ref 1, .int x4] σ (fun r σ' => zisN r = true ∧ zW (d + 1) kX11_duel 112 [.ref 1, .int x1, .int x2, .int x3, .int x4, .ref a5, .int 1, .int x7, .int x8, .int x9] (zRstk r ++ [.int x7]) σ' Q)) := by
  refine Iff.trans (zw_if_eq (t := 115) (show decode cX11_duel 98 = .ok (.ifCond .eq 17, 3) by decide +kernel) (by decide)) ?_
  refine zw_ite ?_ ?_
  · refine Iff.trans (zw_iinc (w := 1) (ls' := [.ref 1, .int x1, .int x2, .int x3, .int x4, .ref a5, .int x6, .int x7, .int x8, .int (x9 + 1)]) (show decode cX11_duel 115 = .ok (.iinc 9 1, 3) by decide +kernel) rfl (by decide) (zset_s (Nat.le_of_ble_eq_true rfl) rfl)) ?_
    refine Iff.trans (zw_goto (t := 66) (show decode cX11_duel 118 = .ok (.goto (-52), 3) by decide +kernel) (by decide)) ?_
    exact Iff.rfl
  · refine Iff.trans (zw_iconst (x := 1) (show decode cX11_duel 101 = .ok (.iconst 1, 1) by decide +kernel) (by decide)) ?_
    refine Iff.trans (zw_istore (ls' := [.ref 1, .int x1, .int x2, .int x3, .int x4, .ref a5, .int 1, .int x7, .int x8, .int x9]) (show decode cX11_duel 102 = .ok (.istore 6, 2) by decide +kernel) (zset_s (Nat.le_of_ble_eq_true rfl) rfl)) ?_
    refine Iff.trans (zw_iload (show decode cX11_duel 104 = .ok (.iload 7, 2) by decide +kernel) rfl) ?_
    refine Iff.trans (zw_aload_n (show decode cX11_duel 106 = .ok (.aload_n 0, 1) by decide +kernel) rfl) ?_
    refine Iff.trans (zw_iload (show decode cX11_duel 107 = .ok (.iload 4, 2) by decide +kernel) rfl) ?_
    refine Iff.trans (zw_invV (K' := kX11_leadOfFirst) (as' := [.int x4]) (rest := [.int x7]) (show decode cX11_duel 109 = .ok (.invokevirtual 322, 3) by decide +kernel) (by rfl) rfl rfl rfl (hl.k2 zk_1) (by decide) (hl.n2 zk_1) ⟨Nat.le_of_ble_eq_true rfl, Nat.le_of_ble_eq_true rfl, Nat.le_of_ble_eq_true rfl⟩) ?_
    exact Iff.rfl

theorem bX11_duel_112 {d : Nat} {σ : zS} {Q : Option Value → zS → Prop} (hl : zLay σ) {x1 x2 x3 x4 x6 x7 x8 x9 y0 y1 : Int32} {a5 : Nat} (ha5 : zk a5 = 0) : zW (d + 1) kX11_duel 112 [.ref 1, .int x1, .int x2, .int x3, .int x4, .ref a5, .int x6, .int x7, .int x8, .int x9] [.int y0, .int y1] σ Q ↔ zW (d + 1) kX11_duel 66 [.ref 1, .int x1, .int x2, .int x3, .int x4, .ref a5, .int x6, .int (y1 + y0), .int x8, .int (x9 + 1)] [] σ Q := by
  refine Iff.trans (zw_iadd (show decode cX11_duel 112 = .ok (.iadd, 1) by decide +kernel)) ?_
  refine Iff.trans (zw_istore (ls' := [.ref 1, .int x1, .int x2, .int x3, .int x4, .ref a5, .int x6, .int (y1 + y0), .int x8, .int x9]) (show decode cX11_duel 113 = .ok (.istore 7, 2) by decide +kernel) (zset_s (Nat.le_of_ble_eq_true rfl) rfl)) ?_
  refine Iff.trans (zw_iinc (w := 1) (ls' := [.ref 1, .int x1, .int x2, .int x3, .int x4, .ref a5, .int x6, .int (y1 + y0), .int x8, .int (x9 + 1)]) (show decode cX11_duel 115 = .ok (.iinc 9 1, 3) by decide +kernel) rfl (by decide) (zset_s (Nat.le_of_ble_eq_true rfl) rfl)) ?_
  refine Iff.trans (zw_goto (t := 66) (show decode cX11_duel 118 = .ok (.goto (-52), 3) by decide +kernel) (by decide)) ?_
  exact Iff.rfl

theorem bX11_ladder_0 {d : Nat} {σ : zS} {Q : Option Value → zS → Prop} (hl : zLay σ) {x1 x2 x3 x4 : Int32} : zCall (d + 1) kX11_ladder [.ref 1, .int x1, .int x2, .int x3, .int x4] σ Q ↔ zCall d kX11_noBrook [.ref 1, .int x1] σ (fun r σ' => zisN r = true ∧ zW (d + 1) kX11_ladder 5 [.ref 1, .int x1, .int x2, .int x3, .int x4, .retAddr 0, .retAddr 0] (zRstk r ++ []) σ' Q) := by
  show zW (d + 1) kX11_ladder 0 [.ref 1, .int x1, .int x2, .int x3, .int x4, .retAddr 0, .retAddr 0] [] σ Q ↔ _
  refine Iff.trans (zw_aload_n (show decode cX11_ladder 0 = .ok (.aload_n 0, 1) by decide +kernel) rfl) ?_
  refine Iff.trans (zw_iload_n (show decode cX11_ladder 1 = .ok (.iload_n 1, 1) by decide +kernel) rfl) ?_
  refine Iff.trans (zw_invV (K' := kX11_noBrook) (as' := [.int x1]) (rest := []) (show decode cX11_ladder 2 = .ok (.invokevirtual 157, 3) by decide +kernel) (by rfl) rfl rfl rfl (hl.k2 zk_1) (by decide) (hl.n2 zk_1) ⟨Nat.le_of_ble_eq_true rfl, Nat.le_of_ble_eq_true rfl, Nat.le_of_ble_eq_true rfl⟩) ?_
  exact Iff.rfl

theorem bX11_ladder_5 {d : Nat} {σ : zS} {Q : Option Value → zS → Prop} (hl : zLay σ) {x1 x2 x3 x4 y0 : Int32} : zW (d + 1) kX11_ladder 5 [.ref 1, .int x1, .int x2, .int x3, .int x4, .retAddr 0, .retAddr 0] [.int y0] σ Q ↔ (if y0 = (0 : Int32) then zCall d kX11_noBits [.int x2, .int (zI σ 1 4)] σ (fun r σ' => zisN r = true ∧ zW (d + 1) kX11_ladder 16 [.ref 1, .int x1, .int x2, .int x3, .int x4, .retAddr 0, .retAddr 0] (zRstk r ++ []) σ' Q) else Q (some (.int (-1))) σ) := by
  refine Iff.trans (zw_if_ne (t := 32) (show decode cX11_ladder 5 = .ok (.ifCond .ne 27, 3) by decide +kernel) (by decide)) ?_
  refine zw_ite ?_ ?_
  · refine Iff.trans (zw_iload_n (show decode cX11_ladder 8 = .ok (.iload_n 2, 1) by decide +kernel) rfl) ?_
    refine Iff.trans (zw_aload_n (show decode cX11_ladder 9 = .ok (.aload_n 0, 1) by decide +kernel) rfl) ?_
    refine Iff.trans (zw_getI (show decode cX11_ladder 10 = .ok (.getfield 143, 3) by decide +kernel) (by decide +kernel : zfld 11 143 = some (11, 4)) (hl.k2 zk_1) (hl.n2 zk_1) (Or.inl rfl) (w := zI σ 1 4) rfl) ?_
    refine Iff.trans (zw_invS (K' := kX11_noBits) (as := [.int x2, .int (zI σ 1 4)]) (rest := []) (show decode cX11_ladder 13 = .ok (.invokestatic 311, 3) by decide +kernel) (by rfl) rfl rfl rfl ⟨Nat.le_of_ble_eq_true rfl, Nat.le_of_ble_eq_true rfl, Nat.le_of_ble_eq_true rfl⟩) ?_
    exact Iff.rfl
  · refine Iff.trans (zw_iconst (x := (-1)) (show decode cX11_ladder 32 = .ok (.iconst (-1), 1) by decide +kernel) (by decide)) ?_
    exact zw_iret1 (show decode cX11_ladder 33 = .ok (.ireturn, 1) by decide +kernel) rfl

theorem bX11_ladder_16 {d : Nat} {σ : zS} {Q : Option Value → zS → Prop} (hl : zLay σ) {x1 x2 x3 x4 y0 : Int32} : zW (d + 1) kX11_ladder 16 [.ref 1, .int x1, .int x2, .int x3, .int x4, .retAddr 0, .retAddr 0] [.int y0] σ Q ↔ (if y0 = (0 : Int32) then zCall d kX11_noSeeds [.int x3] σ (fun r σ' => zisN r = true ∧ zW (d + 1) kX11_ladder 23 [.ref 1, .int x1, .int x2, .int x3, .int x4, .retAddr 0, .retAddr 0] (zRstk r ++ []) σ' Q) else Q (some (.int (-1))) σ) := by
  refine Iff.trans (zw_if_ne (t := 32) (show decode cX11_ladder 16 = .ok (.ifCond .ne 16, 3) by decide +kernel) (by decide)) ?_
  refine zw_ite ?_ ?_
  · refine Iff.trans (zw_iload_n (show decode cX11_ladder 19 = .ok (.iload_n 3, 1) by decide +kernel) rfl) ?_
    refine Iff.trans (zw_invS (K' := kX11_noSeeds) (as := [.int x3]) (rest := []) (show decode cX11_ladder 20 = .ok (.invokestatic 285, 3) by decide +kernel) (by rfl) rfl rfl rfl ⟨Nat.le_of_ble_eq_true rfl, Nat.le_of_ble_eq_true rfl, Nat.le_of_ble_eq_true rfl⟩) ?_
    exact Iff.rfl
  · refine Iff.trans (zw_iconst (x := (-1)) (show decode cX11_ladder 32 = .ok (.iconst (-1), 1) by decide +kernel) (by decide)) ?_
    exact zw_iret1 (show decode cX11_ladder 33 = .ok (.ireturn, 1) by decide +kernel) rfl

theorem bX11_ladder_23 {d : Nat} {σ : zS} {Q : Option Value → zS → Prop} (hl : zLay σ) {x1 x2 x3 x4 y0 : Int32} : zW (d + 1) kX11_ladder 23 [.ref 1, .int x1, .int x2, .int x3, .int x4, .retAddr 0, .retAddr 0] [.int y0] σ Q ↔ (if y0 = (0 : Int32) then (if (-1) ≤ x4 then zCall d kX3_clear [.ref 85] σ (fun r σ' => zisN r = true ∧ zW (d + 1) kX11_ladder 41 [.ref 1, .int x1, .int x2, .int x3, .int x4, .retAddr 0, .retAddr 0] (zRstk r ++ []) σ' Q) else Q (some (.int (-1))) σ) else Q (some (.int (-1))) σ) := by
  refine Iff.trans (zw_if_ne (t := 32) (show decode cX11_ladder 23 = .ok (.ifCond .ne 9, 3) by decide +kernel) (by decide)) ?_
  refine zw_ite ?_ ?_
  · refine Iff.trans (zw_iload (show decode cX11_ladder 26 = .ok (.iload 4, 2) by decide +kernel) rfl) ?_
    refine Iff.trans (zw_iconst (x := (-1)) (show decode cX11_ladder 28 = .ok (.iconst (-1), 1) by decide +kernel) (by decide)) ?_
    refine Iff.trans (zw_icmp_ge (t := 34) (show decode cX11_ladder 29 = .ok (.if_icmp .ge 5, 3) by decide +kernel) (by decide)) ?_
    refine zw_ite ?_ ?_
    · refine Iff.trans (zw_aload_n (show decode cX11_ladder 34 = .ok (.aload_n 0, 1) by decide +kernel) rfl) ?_
      refine Iff.trans (zw_get (show decode cX11_ladder 35 = .ok (.getfield 82, 3) by decide +kernel) (by decide +kernel : zfld 11 82 = some (11, 15)) (hl.k2 zk_1) (hl.n2 zk_1) (zgetR (v := 85) (hl.r zrt_1_15) rfl)) ?_
      refine Iff.trans (zw_invV (K' := kX3_clear) (as' := []) (rest := []) (show decode cX11_ladder 38 = .ok (.invokevirtual 355, 3) by decide +kernel) (by rfl) rfl rfl rfl (hl.k2 zk_85) (by decide) (hl.n2 zk_85) ⟨Nat.le_of_ble_eq_true rfl, Nat.le_of_ble_eq_true rfl, Nat.le_of_ble_eq_true rfl⟩) ?_
      exact Iff.rfl
    · refine Iff.trans (zw_iconst (x := (-1)) (show decode cX11_ladder 32 = .ok (.iconst (-1), 1) by decide +kernel) (by decide)) ?_
      exact zw_iret1 (show decode cX11_ladder 33 = .ok (.ireturn, 1) by decide +kernel) rfl
  · refine Iff.trans (zw_iconst (x := (-1)) (show decode cX11_ladder 32 = .ok (.iconst (-1), 1) by decide +kernel) (by decide)) ?_
    exact zw_iret1 (show decode cX11_ladder 33 = .ok (.ireturn, 1) by decide +kernel) rfl

theorem bX11_ladder_41 {d : Nat} {σ : zS} {Q : Option Value → zS → Prop} (hl : zLay σ) {x1 x2 x3 x4 : Int32} : zW (d + 1) kX11_ladder 41 [.ref 1, .int x1, .int x2, .int x3, .int x4, .retAddr 0, .retAddr 0] [] σ Q ↔ zW (d + 1) kX11_ladder 44 [.ref 1, .int x1, .int x2, .int x3, .int x4, .int 0, .retAddr 0] [] σ Q := by
  refine Iff.trans (zw_iconst (x := 0) (show decode cX11_ladder 41 = .ok (.iconst 0, 1) by decide +kernel) (by decide)) ?_
  refine Iff.trans (zw_istore (ls' := [.ref 1, .int x1, .int x2, .int x3, .int x4, .int 0, .retAddr 0]) (show decode cX11_ladder 42 = .ok (.istore 5, 2) by decide +kernel) (zset_s (Nat.le_of_ble_eq_true rfl) rfl)) ?_
  exact Iff.rfl

theorem bX11_ladder_44 {d : Nat} {σ : zS} {Q : Option Value → zS → Prop} (hl : zLay σ) {x1 x2 x3 x4 x5 : Int32} {v6 : Value} (hv6 : v6.category = 1) : zW (d + 1) kX11_ladder 44 [.ref 1, .int x1, .int x2, .int x3, .int x4, .int x5, v6] [] σ Q ↔ (if (zI σ 1 4) ≤ x5 then zW (d + 1) kX11_ladder 120 [.ref 1, .int x1, .int x2, .int x3, .int x4, .int x5, v6] [] σ Q else (if 10 ≤ x5 then zW (d + 1) kX11_ladder 120 [.ref 1, .int x1, .int x2, .int x3, .int x4, .int x5, v6] [] σ Q else zCall d kX11_hasBit [.int x2, .int x5] σ (fun r σ' => zisN r = true ∧ zW (d + 1) kX11_ladder 66 [.ref 1, .int x1, .int x2, .int x3, .int x4, .int x5, v6] (zRstk r ++ []) σ' Q))) := by
  refine Iff.trans (zw_iload (show decode cX11_ladder 44 = .ok (.iload 5, 2) by decide +kernel) rfl) ?_
  refine Iff.trans (zw_aload_n (show decode cX11_ladder 46 = .ok (.aload_n 0, 1) by decide +kernel) rfl) ?_
  refine Iff.trans (zw_getI (show decode cX11_ladder 47 = .ok (.getfield 143, 3) by decide +kernel) (by decide +kernel : zfld 11 143 = some (11, 4)) (hl.k2 zk_1) (hl.n2 zk_1) (Or.inl rfl) (w := zI σ 1 4) rfl) ?_
  refine Iff.trans (zw_icmp_ge (t := 120) (show decode cX11_ladder 50 = .ok (.if_icmp .ge 70, 3) by decide +kernel) (by decide)) ?_
  refine zw_ite ?_ ?_
  · exact Iff.rfl
  · refine Iff.trans (zw_iload (show decode cX11_ladder 53 = .ok (.iload 5, 2) by decide +kernel) rfl) ?_
    refine Iff.trans (zw_bipush (x := 10) (show decode cX11_ladder 55 = .ok (.bipush 10, 2) by decide +kernel) (by decide)) ?_
    refine Iff.trans (zw_icmp_ge (t := 120) (show decode cX11_ladder 57 = .ok (.if_icmp .ge 63, 3) by decide +kernel) (by decide)) ?_
    refine zw_ite ?_ ?_
    · exact Iff.rfl
    · refine Iff.trans (zw_iload_n (show decode cX11_ladder 60 = .ok (.iload_n 2, 1) by decide +kernel) rfl) ?_
      refine Iff.trans (zw_iload (show decode cX11_ladder 61 = .ok (.iload 5, 2) by decide +kernel) rfl) ?_
      refine Iff.trans (zw_invS (K' := kX11_hasBit) (as := [.int x2, .int x5]) (rest := []) (show decode cX11_ladder 63 = .ok (.invokestatic 282, 3) by decide +kernel) (by rfl) rfl rfl rfl ⟨Nat.le_of_ble_eq_true rfl, Nat.le_of_ble_eq_true rfl, Nat.le_of_ble_eq_true rfl⟩) ?_
      exact Iff.rfl

theorem bX11_ladder_66 {d : Nat} {σ : zS} {Q : Option Value → zS → Prop} (hl : zLay σ) {x1 x2 x3 x4 x5 y0 : Int32} {v6 : Value} (hv6 : v6.category = 1) : zW (d + 1) kX11_ladder 66 [.ref 1, .int x1, .int x2, .int x3, .int x4, .int x5, v6] [.int y0] σ Q ↔ (if y0 = (0 : Int32) then zW (d + 1) kX11_ladder 91 [.ref 1, .int x1, .int x2, .int x3, .int x4, .int x5, v6] [.int (-1)] σ Q else (vp_in x1 6 ∧ zW (d + 1) kX11_ladder 76 [.ref 1, .int x1, .int x2, .int x3, .int x4, .int x5, v6] (va_rf (zR σ 4 (x1 : Int32).toNatClampNeg) :: [.ref 1]) σ Q)) := by
  refine Iff.trans (zw_if_eq (t := 90) (show decode cX11_ladder 66 = .ok (.ifCond .eq 24, 3) by decide +kernel) (by decide)) ?_
  refine zw_ite ?_ ?_
  · refine Iff.trans (zw_iconst (x := (-1)) (show decode cX11_ladder 90 = .ok (.iconst (-1), 1) by decide +kernel) (by decide)) ?_
    exact Iff.rfl
  · refine Iff.trans (zw_aload_n (show decode cX11_ladder 69 = .ok (.aload_n 0, 1) by decide +kernel) rfl) ?_
    refine Iff.trans (zw_aload_n (show decode cX11_ladder 70 = .ok (.aload_n 0, 1) by decide +kernel) rfl) ?_
    refine Iff.trans (zw_get (show decode cX11_ladder 71 = .ok (.getfield 18, 3) by decide +kernel) (by decide +kernel : zfld 11 18 = some (11, 1)) (hl.k2 zk_1) (hl.n2 zk_1) (zgetR (v := 4) (hl.r zrt_1_1) rfl)) ?_
    refine Iff.trans (zw_iload_n (show decode cX11_ladder 74 = .ok (.iload_n 1, 1) by decide +kernel) rfl) ?_
    refine Iff.trans (zw_aald (show decode cX11_ladder 75 = .ok (.aaload, 1) by decide +kernel) (by rw [(hl.k2 zk_4)]; decide) (hl.n2 zk_4) (hl.l2 zk_4 zl_4)) ?_
    refine zw_and ?_
    exact Iff.rfl

theorem bX11_ladder_76 {d : Nat} {σ : zS} {Q : Option Value → zS → Prop} (hl : zLay σ) {x1 x2 x3 x4 x5 : Int32} {v6 : Value} {b0 : Nat} (hv6 : v6.category = 1) (hb0 : zk b0 = 0) : zW (d + 1) kX11_ladder 76 [.ref 1, .int x1, .int x2, .int x3, .int x4, .int x5, v6] [.ref b0, .ref 1] σ Q ↔ (vp_in x5 10 ∧ zW (d + 1) kX11_ladder 83 [.ref 1, .int x1, .int x2, .int x3, .int x4, .int x5, v6] (va_rf (zR σ 5 (x5 : Int32).toNatClampNeg) :: [.ref b0, .ref 1]) σ Q) := by
  refine Iff.trans (zw_aload_n (show decode cX11_ladder 76 = .ok (.aload_n 0, 1) by decide +kernel) rfl) ?_
  refine Iff.trans (zw_get (show decode cX11_ladder 77 = .ok (.getfield 24, 3) by decide +kernel) (by decide +kernel : zfld 11 24 = some (11, 3)) (hl.k2 zk_1) (hl.n2 zk_1) (zgetR (v := 5) (hl.r zrt_1_3) rfl)) ?_
  refine Iff.trans (zw_iload (show decode cX11_ladder 80 = .ok (.iload 5, 2) by decide +kernel) rfl) ?_
  refine Iff.trans (zw_aald (show decode cX11_ladder 82 = .ok (.aaload, 1) by decide +kernel) (by rw [(hl.k2 zk_5)]; decide) (hl.n2 zk_5) (hl.l2 zk_5 zl_5)) ?_
  refine zw_and ?_
  exact Iff.rfl

theorem bX11_ladder_83 {d : Nat} {σ : zS} {Q : Option Value → zS → Prop} (hl : zLay σ) {x1 x2 x3 x4 x5 : Int32} {v6 : Value} {b0 b1 : Nat} (hv6 : v6.category = 1) (hb0 : zk b0 = 6) (hb1 : zk b1 = 0) : zW (d + 1) kX11_ladder 83 [.ref 1, .int x1, .int x2, .int x3, .int x4, .int x5, v6] [.ref b0, .ref b1, .ref 1] σ Q ↔ zCall d kX11_leastSum [.ref 1, .ref b1, .ref b0, .int x3] σ (fun r σ' => zisN r = true ∧ zW (d + 1) kX11_ladder 87 [.ref 1, .int x1, .int x2, .int x3, .int x4, .int x5, v6] (zRstk r ++ []) σ' Q) := by
  refine Iff.trans (zw_iload_n (show decode cX11_ladder 83 = .ok (.iload_n 3, 1) by decide +kernel) rfl) ?_
  refine Iff.trans (zw_invV (K' := kX11_leastSum) (as' := [.ref b1, .ref b0, .int x3]) (rest := []) (show decode cX11_ladder 84 = .ok (.invokevirtual 454, 3) by decide +kernel) (by rfl) rfl rfl rfl (hl.k2 zk_1) (by decide) (hl.n2 zk_1) ⟨Nat.le_of_ble_eq_true rfl, Nat.le_of_ble_eq_true rfl, Nat.le_of_ble_eq_true rfl⟩) ?_
  exact Iff.rfl

theorem bX11_ladder_87 {d : Nat} {σ : zS} {Q : Option Value → zS → Prop} (hl : zLay σ) {x1 x2 x3 x4 x5 y0 : Int32} {v6 : Value} (hv6 : v6.category = 1) : zW (d + 1) kX11_ladder 87 [.ref 1, .int x1, .int x2, .int x3, .int x4, .int x5, v6] [.int y0] σ Q ↔ zW (d + 1) kX11_ladder 91 [.ref 1, .int x1, .int x2, .int x3, .int x4, .int x5, v6] [.int y0] σ Q := by
  refine Iff.trans (zw_goto (t := 91) (show decode cX11_ladder 87 = .ok (.goto 4, 3) by decide +kernel) (by decide)) ?_
  exact Iff.rfl

theorem bX11_ladder_91 {d : Nat} {σ : zS} {Q : Option Value → zS → Prop} (hl : zLay σ) {x1 x2 x3 x4 x5 y0 : Int32} {v6 : Value} (hv6 : v6.category = 1) : zW (d + 1) kX11_ladder 91 [.ref 1, .int x1, .int x2, .int x3, .int x4, .int x5, v6] [.int y0] σ Q ↔ (if y0 = (-1) then zW (d + 1) kX11_ladder 114 [.ref 1, .int x1, .int x2, .int x3, .int x4, .int x5, .int y0] [] σ Q else zCall d kX3_add [.ref 85, .int ((16 * y0) + x5)] σ (fun r σ' => zisN r = true ∧ zW (d + 1) kX11_ladder 114 [.ref 1, .int x1, .int x2, .int x3, .int x4, .int x5, .int y0] (zRstk r ++ []) σ' Q)) := by
  refine Iff.trans (zw_istore (ls' := [.ref 1, .int x1, .int x2, .int x3, .int x4, .int x5, .int y0]) (show decode cX11_ladder 91 = .ok (.istore 6, 2) by decide +kernel) (zset_s (Nat.le_of_ble_eq_true rfl) rfl)) ?_
  refine Iff.trans (zw_iload (show decode cX11_ladder 93 = .ok (.iload 6, 2) by decide +kernel) rfl) ?_
  refine Iff.trans (zw_iconst (x := (-1)) (show decode cX11_ladder 95 = .ok (.iconst (-1), 1) by decide +kernel) (by decide)) ?_
  refine Iff.trans (zw_icmp_eq (t := 114) (show decode cX11_ladder 96 = .ok (.if_icmp .eq 18, 3) by decide +kernel) (by decide)) ?_
  refine zw_ite ?_ ?_
  · exact Iff.rfl
  · refine Iff.trans (zw_aload_n (show decode cX11_ladder 99 = .ok (.aload_n 0, 1) by decide +kernel) rfl) ?_
    refine Iff.trans (zw_get (show decode cX11_ladder 100 = .ok (.getfield 82, 3) by decide +kernel) (by decide +kernel : zfld 11 82 = some (11, 15)) (hl.k2 zk_1) (hl.n2 zk_1) (zgetR (v := 85) (hl.r zrt_1_15) rfl)) ?_
    refine Iff.trans (zw_bipush (x := 16) (show decode cX11_ladder 103 = .ok (.bipush 16, 2) by decide +kernel) (by decide)) ?_
    refine Iff.trans (zw_iload (show decode cX11_ladder 105 = .ok (.iload 6, 2) by decide +kernel) rfl) ?_
    refine Iff.trans (zw_imul (show decode cX11_ladder 107 = .ok (.imul, 1) by decide +kernel)) ?_
    refine Iff.trans (zw_iload (show decode cX11_ladder 108 = .ok (.iload 5, 2) by decide +kernel) rfl) ?_
    refine Iff.trans (zw_iadd (show decode cX11_ladder 110 = .ok (.iadd, 1) by decide +kernel)) ?_
    refine Iff.trans (zw_invV (K' := kX3_add) (as' := [.int ((16 * y0) + x5)]) (rest := []) (show decode cX11_ladder 111 = .ok (.invokevirtual 356, 3) by decide +kernel) (by rfl) rfl rfl rfl (hl.k2 zk_85) (by decide) (hl.n2 zk_85) ⟨Nat.le_of_ble_eq_true rfl, Nat.le_of_ble_eq_true rfl, Nat.le_of_ble_eq_true rfl⟩) ?_
    exact Iff.rfl

theorem bX11_ladder_114 {d : Nat} {σ : zS} {Q : Option Value → zS → Prop} (hl : zLay σ) {x1 x2 x3 x4 x5 x6 : Int32} : zW (d + 1) kX11_ladder 114 [.ref 1, .int x1, .int x2, .int x3, .int x4, .int x5, .int x6] [] σ Q ↔ zW (d + 1) kX11_ladder 44 [.ref 1, .int x1, .int x2, .int x3, .int x4, .int (x5 + 1), .int x6] [] σ Q := by
  refine Iff.trans (zw_iinc (w := 1) (ls' := [.ref 1, .int x1, .int x2, .int x3, .int x4, .int (x5 + 1), .int x6]) (show decode cX11_ladder 114 = .ok (.iinc 5 1, 3) by decide +kernel) rfl (by decide) (zset_s (Nat.le_of_ble_eq_true rfl) rfl)) ?_
  refine Iff.trans (zw_goto (t := 44) (show decode cX11_ladder 117 = .ok (.goto (-73), 3) by decide +kernel) (by decide)) ?_
  exact Iff.rfl

theorem bX11_ladder_120 {d : Nat} {σ : zS} {Q : Option Value → zS → Prop} (hl : zLay σ) {x1 x2 x3 x4 x5 : Int32} {v6 : Value} (hv6 : v6.category = 1) : zW (d + 1) kX11_ladder 120 [.ref 1, .int x1, .int x2, .int x3, .int x4, .int x5, v6] [] σ Q ↔ (if x4 = (-1) then Q (some (.int (zI σ 85 1))) σ else (if x4 < (zI σ 85 1) then zCall d kX3_at [.ref 85, .int x4] σ (fun r σ' => zisN r = true ∧ zW (d + 1) kX11_ladder 159 [.ref 1, .int x1, .int x2, .int x3, .int x4, .int x5, v6] (zRstk r ++ []) σ' Q) else Q (some (.int (-1))) σ)) := by
  refine Iff.trans (zw_iload (show decode cX11_ladder 120 = .ok (.iload 4, 2) by decide +kernel) rfl) ?_
  refine Iff.trans (zw_iconst (x := (-1)) (show decode cX11_ladder 122 = .ok (.iconst (-1), 1) by decide +kernel) (by decide)) ?_
  refine Iff.trans (zw_icmp_ne (t := 134) (show decode cX11_ladder 123 = .ok (.if_icmp .ne 11, 3) by decide +kernel) (by decide)) ?_
  refine zw_ite ?_ ?_
  · refine Iff.trans (zw_aload_n (show decode cX11_ladder 126 = .ok (.aload_n 0, 1) by decide +kernel) rfl) ?_
    refine Iff.trans (zw_get (show decode cX11_ladder 127 = .ok (.getfield 82, 3) by decide +kernel) (by decide +kernel : zfld 11 82 = some (11, 15)) (hl.k2 zk_1) (hl.n2 zk_1) (zgetR (v := 85) (hl.r zrt_1_15) rfl)) ?_
    refine Iff.trans (zw_getI (show decode cX11_ladder 130 = .ok (.getfield 416, 3) by decide +kernel) (by decide +kernel : zfld 11 416 = some (3, 1)) (hl.k2 zk_85) (hl.n2 zk_85) (Or.inl rfl) (w := zI σ 85 1) rfl) ?_
    exact zw_iret1 (show decode cX11_ladder 133 = .ok (.ireturn, 1) by decide +kernel) rfl
  · refine Iff.trans (zw_iload (show decode cX11_ladder 134 = .ok (.iload 4, 2) by decide +kernel) rfl) ?_
    refine Iff.trans (zw_aload_n (show decode cX11_ladder 136 = .ok (.aload_n 0, 1) by decide +kernel) rfl) ?_
    refine Iff.trans (zw_get (show decode cX11_ladder 137 = .ok (.getfield 82, 3) by decide +kernel) (by decide +kernel : zfld 11 82 = some (11, 15)) (hl.k2 zk_1) (hl.n2 zk_1) (zgetR (v := 85) (hl.r zrt_1_15) rfl)) ?_
    refine Iff.trans (zw_getI (show decode cX11_ladder 140 = .ok (.getfield 416, 3) by decide +kernel) (by decide +kernel : zfld 11 416 = some (3, 1)) (hl.k2 zk_85) (hl.n2 zk_85) (Or.inl rfl) (w := zI σ 85 1) rfl) ?_
    refine Iff.trans (zw_icmp_lt (t := 150) (show decode cX11_ladder 143 = .ok (.if_icmp .lt 7, 3) by decide +kernel) (by decide)) ?_
    refine zw_ite ?_ ?_
    · refine Iff.trans (zw_aload_n (show decode cX11_ladder 150 = .ok (.aload_n 0, 1) by decide +kernel) rfl) ?_
      refine Iff.trans (zw_get (show decode cX11_ladder 151 = .ok (.getfield 82, 3) by decide +kernel) (by decide +kernel : zfld 11 82 = some (11, 15)) (hl.k2 zk_1) (hl.n2 zk_1) (zgetR (v := 85) (hl.r zrt_1_15) rfl)) ?_
      refine Iff.trans (zw_iload (show decode cX11_ladder 154 = .ok (.iload 4, 2) by decide +kernel) rfl) ?_
      refine Iff.trans (zw_invV (K' := kX3_at) (as' := [.int x4]) (rest := []) (show decode cX11_ladder 156 = .ok (.invokevirtual 420, 3) by decide +kernel) (by rfl) rfl rfl rfl (hl.k2 zk_85) (by decide) (hl.n2 zk_85) ⟨Nat.le_of_ble_eq_true rfl, Nat.le_of_ble_eq_true rfl, Nat.le_of_ble_eq_true rfl⟩) ?_
      exact Iff.rfl
    · refine Iff.trans (zw_iconst (x := (-1)) (show decode cX11_ladder 146 = .ok (.iconst (-1), 1) by decide +kernel) (by decide)) ?_
      refine Iff.trans (zw_goto (t := 162) (show decode cX11_ladder 147 = .ok (.goto 15, 3) by decide +kernel) (by decide)) ?_
      exact zw_iret1 (show decode cX11_ladder 162 = .ok (.ireturn, 1) by decide +kernel) rfl

theorem bX11_ladder_159 {d : Nat} {σ : zS} {Q : Option Value → zS → Prop} (hl : zLay σ) {x1 x2 x3 x4 x5 y0 : Int32} {v6 : Value} (hv6 : v6.category = 1) : zW (d + 1) kX11_ladder 159 [.ref 1, .int x1, .int x2, .int x3, .int x4, .int x5, v6] [.int y0] σ Q ↔ (¬ 16 = (0 : Int32) ∧ Q (some (.int (y0 - y0 / 16 * 16))) σ) := by
  refine Iff.trans (zw_bipush (x := 16) (show decode cX11_ladder 159 = .ok (.bipush 16, 2) by decide +kernel) (by decide)) ?_
  refine Iff.trans (zw_irem (show decode cX11_ladder 161 = .ok (.irem, 1) by decide +kernel)) ?_
  refine zw_and ?_
  exact zw_iret1 (show decode cX11_ladder 162 = .ok (.ireturn, 1) by decide +kernel) rfl

theorem bX11_leastSum_0 {d : Nat} {σ : zS} {Q : Option Value → zS → Prop} (hl : zLay σ) {a1 a2 : Nat} {x3 : Int32} (ha1 : zk a1 = 0) (ha2 : zk a2 = 6) : zCall (d + 1) kX11_leastSum [.ref 1, .ref a1, .ref a2, .int x3] σ Q ↔ zW (d + 1) kX11_leastSum 6 [.ref 1, .ref a1, .ref a2, .int x3, .int (-1), .int 0, .retAddr 0] [] σ Q := by
  show zW (d + 1) kX11_leastSum 0 [.ref 1, .ref a1, .ref a2, .int x3, .retAddr 0, .retAddr 0, .retAddr 0] [] σ Q ↔ _
  refine Iff.trans (zw_iconst (x := (-1)) (show decode cX11_leastSum 0 = .ok (.iconst (-1), 1) by decide +kernel) (by decide)) ?_
  refine Iff.trans (zw_istore (ls' := [.ref 1, .ref a1, .ref a2, .int x3, .int (-1), .retAddr 0, .retAddr 0]) (show decode cX11_leastSum 1 = .ok (.istore 4, 2) by decide +kernel) (zset_s (Nat.le_of_ble_eq_true rfl) rfl)) ?_
  refine Iff.trans (zw_iconst (x := 0) (show decode cX11_leastSum 3 = .ok (.iconst 0, 1) by decide +kernel) (by decide)) ?_
  refine Iff.trans (zw_istore (ls' := [.ref 1, .ref a1, .ref a2, .int x3, .int (-1), .int 0, .retAddr 0]) (show decode cX11_leastSum 4 = .ok (.istore 5, 2) by decide +kernel) (zset_s (Nat.le_of_ble_eq_true rfl) rfl)) ?_
  exact Iff.rfl

theorem bX11_leastSum_6 {d : Nat} {σ : zS} {Q : Option Value → zS → Prop} (hl : zLay σ) {a1 a2 : Nat} {x3 x4 x5 : Int32} {v6 : Value} (ha1 : zk a1 = 0) (ha2 : zk a2 = 6) (hv6 : v6.category = 1) : zW (d + 1) kX11_leastSum 6 [.ref 1, .ref a1, .ref a2, .int x3, .int x4, .int x5, v6] [] σ Q ↔ (if (zI σ a1 3) ≤ x5 then Q (some (.int x4)) σ else zCall d kX11_timeAlone [.ref 1, .ref a1, .ref a2, .int x5, .int x3] σ (fun r σ' => zisN r = true ∧ zW (d + 1) kX11_leastSum 24 [.ref 1, .ref a1, .ref a2, .int x3, .int x4, .int x5, v6] (zRstk r ++ []) σ' Q)) := by
  refine Iff.trans (zw_iload (show decode cX11_leastSum 6 = .ok (.iload 5, 2) by decide +kernel) rfl) ?_
  refine Iff.trans (zw_aload_n (show decode cX11_leastSum 8 = .ok (.aload_n 1, 1) by decide +kernel) rfl) ?_
  refine Iff.trans (zw_getI (show decode cX11_leastSum 9 = .ok (.getfield 164, 3) by decide +kernel) (by decide +kernel : zfld 11 164 = some (0, 3)) (hl.k2 ha1) (hl.n2 ha1) (Or.inl rfl) (w := zI σ a1 3) rfl) ?_
  refine Iff.trans (zw_icmp_ge (t := 55) (show decode cX11_leastSum 12 = .ok (.if_icmp .ge 43, 3) by decide +kernel) (by decide)) ?_
  refine zw_ite ?_ ?_
  · refine Iff.trans (zw_iload (show decode cX11_leastSum 55 = .ok (.iload 4, 2) by decide +kernel) rfl) ?_
    exact zw_iret1 (show decode cX11_leastSum 57 = .ok (.ireturn, 1) by decide +kernel) rfl
  · refine Iff.trans (zw_aload_n (show decode cX11_leastSum 15 = .ok (.aload_n 0, 1) by decide +kernel) rfl) ?_
    refine Iff.trans (zw_aload_n (show decode cX11_leastSum 16 = .ok (.aload_n 1, 1) by decide +kernel) rfl) ?_
    refine Iff.trans (zw_aload_n (show decode cX11_leastSum 17 = .ok (.aload_n 2, 1) by decide +kernel) rfl) ?_
    refine Iff.trans (zw_iload (show decode cX11_leastSum 18 = .ok (.iload 5, 2) by decide +kernel) rfl) ?_
    refine Iff.trans (zw_iload_n (show decode cX11_leastSum 20 = .ok (.iload_n 3, 1) by decide +kernel) rfl) ?_
    refine Iff.trans (zw_invV (K' := kX11_timeAlone) (as' := [.ref a1, .ref a2, .int x5, .int x3]) (rest := []) (show decode cX11_leastSum 21 = .ok (.invokevirtual 314, 3) by decide +kernel) (by rfl) rfl rfl rfl (hl.k2 zk_1) (by decide) (hl.n2 zk_1) ⟨Nat.le_of_ble_eq_true rfl, Nat.le_of_ble_eq_true rfl, Nat.le_of_ble_eq_true rfl⟩) ?_
    exact Iff.rfl

theorem bX11_leastSum_24 {d : Nat} {σ : zS} {Q : Option Value → zS → Prop} (hl : zLay σ) {a1 a2 : Nat} {x3 x4 x5 y0 : Int32} {v6 : Value} (ha1 : zk a1 = 0) (ha2 : zk a2 = 6) (hv6 : v6.category = 1) : zW (d + 1) kX11_leastSum 24 [.ref 1, .ref a1, .ref a2, .int x3, .int x4, .int x5, v6] [.int y0] σ Q ↔ (if y0 = (-1) then zW (d + 1) kX11_leastSum 6 [.ref 1, .ref a1, .ref a2, .int x3, .int x4, .int (x5 + 1), .int y0] [] σ Q else (if x4 = (-1) then zW (d + 1) kX11_leastSum 6 [.ref 1, .ref a1, .ref a2, .int x3, .int y0, .int (x5 + 1), .int y0] [] σ Q else (if x4 ≤ y0 then zW (d + 1) kX11_leastSum 6 [.ref 1, .ref a1, .ref a2, .int x3, .int x4, .int (x5 + 1), .int y0] [] σ Q else zW (d + 1) kX11_leastSum 6 [.ref 1, .ref a1, .ref a2, .int x3, .int y0, .int (x5 + 1), .int y0] [] σ Q))) := by
  refine Iff.trans (zw_istore (ls' := [.ref 1, .ref a1, .ref a2, .int x3, .int x4, .int x5, .int y0]) (show decode cX11_leastSum 24 = .ok (.istore 6, 2) by decide +kernel) (zset_s (Nat.le_of_ble_eq_true rfl) rfl)) ?_
  refine Iff.trans (zw_iload (show decode cX11_leastSum 26 = .ok (.iload 6, 2) by decide +kernel) rfl) ?_
  refine Iff.trans (zw_iconst (x := (-1)) (show decode cX11_leastSum 28 = .ok (.iconst (-1), 1) by decide +kernel) (by decide)) ?_
  refine Iff.trans (zw_icmp_eq (t := 49) (show decode cX11_leastSum 29 = .ok (.if_icmp .eq 20, 3) by decide +kernel) (by decide)) ?_
  refine zw_ite ?_ ?_
  · refine Iff.trans (zw_iinc (w := 1) (ls' := [.ref 1, .ref a1, .ref a2, .int x3, .int x4, .int (x5 + 1), .int y0]) (show decode cX11_leastSum 49 = .ok (.iinc 5 1, 3) by decide +kernel) rfl (by decide) (zset_s (Nat.le_of_ble_eq_true rfl) rfl)) ?_
    refine Iff.trans (zw_goto (t := 6) (show decode cX11_leastSum 52 = .ok (.goto (-46), 3) by decide +kernel) (by decide)) ?_
    exact Iff.rfl
  · refine Iff.trans (zw_iload (show decode cX11_leastSum 32 = .ok (.iload 4, 2) by decide +kernel) rfl) ?_
    refine Iff.trans (zw_iconst (x := (-1)) (show decode cX11_leastSum 34 = .ok (.iconst (-1), 1) by decide +kernel) (by decide)) ?_
    refine Iff.trans (zw_icmp_eq (t := 45) (show decode cX11_leastSum 35 = .ok (.if_icmp .eq 10, 3) by decide +kernel) (by decide)) ?_
    refine zw_ite ?_ ?_
    · refine Iff.trans (zw_iload (show decode cX11_leastSum 45 = .ok (.iload 6, 2) by decide +kernel) rfl) ?_
      refine Iff.trans (zw_istore (ls' := [.ref 1, .ref a1, .ref a2, .int x3, .int y0, .int x5, .int y0]) (show decode cX11_leastSum 47 = .ok (.istore 4, 2) by decide +kernel) (zset_s (Nat.le_of_ble_eq_true rfl) rfl)) ?_
      refine Iff.trans (zw_iinc (w := 1) (ls' := [.ref 1, .ref a1, .ref a2, .int x3, .int y0, .int (x5 + 1), .int y0]) (show decode cX11_leastSum 49 = .ok (.iinc 5 1, 3) by decide +kernel) rfl (by decide) (zset_s (Nat.le_of_ble_eq_true rfl) rfl)) ?_
      refine Iff.trans (zw_goto (t := 6) (show decode cX11_leastSum 52 = .ok (.goto (-46), 3) by decide +kernel) (by decide)) ?_
      exact Iff.rfl
    · refine Iff.trans (zw_iload (show decode cX11_leastSum 38 = .ok (.iload 6, 2) by decide +kernel) rfl) ?_
      refine Iff.trans (zw_iload (show decode cX11_leastSum 40 = .ok (.iload 4, 2) by decide +kernel) rfl) ?_
      refine Iff.trans (zw_icmp_ge (t := 49) (show decode cX11_leastSum 42 = .ok (.if_icmp .ge 7, 3) by decide +kernel) (by decide)) ?_
      refine zw_ite ?_ ?_
      · refine Iff.trans (zw_iinc (w := 1) (ls' := [.ref 1, .ref a1, .ref a2, .int x3, .int x4, .int (x5 + 1), .int y0]) (show decode cX11_leastSum 49 = .ok (.iinc 5 1, 3) by decide +kernel) rfl (by decide) (zset_s (Nat.le_of_ble_eq_true rfl) rfl)) ?_
        refine Iff.trans (zw_goto (t := 6) (show decode cX11_leastSum 52 = .ok (.goto (-46), 3) by decide +kernel) (by decide)) ?_
        exact Iff.rfl
      · refine Iff.trans (zw_iload (show decode cX11_leastSum 45 = .ok (.iload 6, 2) by decide +kernel) rfl) ?_
        refine Iff.trans (zw_istore (ls' := [.ref 1, .ref a1, .ref a2, .int x3, .int y0, .int x5, .int y0]) (show decode cX11_leastSum 47 = .ok (.istore 4, 2) by decide +kernel) (zset_s (Nat.le_of_ble_eq_true rfl) rfl)) ?_
        refine Iff.trans (zw_iinc (w := 1) (ls' := [.ref 1, .ref a1, .ref a2, .int x3, .int y0, .int (x5 + 1), .int y0]) (show decode cX11_leastSum 49 = .ok (.iinc 5 1, 3) by decide +kernel) rfl (by decide) (zset_s (Nat.le_of_ble_eq_true rfl) rfl)) ?_
        refine Iff.trans (zw_goto (t := 6) (show decode cX11_leastSum 52 = .ok (.goto (-46), 3) by decide +kernel) (by decide)) ?_
        exact Iff.rfl

theorem bX11_reach_0 {d : Nat} {σ : zS} {Q : Option Value → zS → Prop} (hl : zLay σ) {x1 x2 x3 x4 x5 : Int32} : zCall (d + 1) kX11_reach [.ref 1, .int x1, .int x2, .int x3, .int x4, .int x5] σ Q ↔ zCall d kX11_noBrook [.ref 1, .int x1] σ (fun r σ' => zisN r = true ∧ zW (d + 1) kX11_reach 5 [.ref 1, .int x1, .int x2, .int x3, .int x4, .int x5] (zRstk r ++ []) σ' Q) := by
  show zW (d + 1) kX11_reach 0 [.ref 1, .int x1, .int x2, .int x3, .int x4, .int x5] [] σ Q ↔ _
  refine Iff.trans (zw_aload_n (show decode cX11_reach 0 = .ok (.aload_n 0, 1) by decide +kernel) rfl) ?_
  refine Iff.trans (zw_iload_n (show decode cX11_reach 1 = .ok (.iload_n 1, 1) by decide +kernel) rfl) ?_
  refine Iff.trans (zw_invV (K' := kX11_noBrook) (as' := [.int x1]) (rest := []) (show decode cX11_reach 2 = .ok (.invokevirtual 157, 3) by decide +kernel) (by rfl) rfl rfl rfl (hl.k2 zk_1) (by decide) (hl.n2 zk_1) ⟨Nat.le_of_ble_eq_true rfl, Nat.le_of_ble_eq_true rfl, Nat.le_of_ble_eq_true rfl⟩) ?_
  exact Iff.rfl

theorem bX11_reach_5 {d : Nat} {σ : zS} {Q : Option Value → zS → Prop} (hl : zLay σ) {x1 x2 x3 x4 x5 y0 : Int32} : zW (d + 1) kX11_reach 5 [.ref 1, .int x1, .int x2, .int x3, .int x4, .int x5] [.int y0] σ Q ↔ (if y0 = (0 : Int32) then zCall d kX11_noStick [.ref 1, .int x2] σ (fun r σ' => zisN r = true ∧ zW (d + 1) kX11_reach 13 [.ref 1, .int x1, .int x2, .int x3, .int x4, .int x5] (zRstk r ++ []) σ' Q) else Q (some (.int (-1))) σ) := by
  refine Iff.trans (zw_if_ne (t := 35) (show decode cX11_reach 5 = .ok (.ifCond .ne 30, 3) by decide +kernel) (by decide)) ?_
  refine zw_ite ?_ ?_
  · refine Iff.trans (zw_aload_n (show decode cX11_reach 8 = .ok (.aload_n 0, 1) by decide +kernel) rfl) ?_
    refine Iff.trans (zw_iload_n (show decode cX11_reach 9 = .ok (.iload_n 2, 1) by decide +kernel) rfl) ?_
    refine Iff.trans (zw_invV (K' := kX11_noStick) (as' := [.int x2]) (rest := []) (show decode cX11_reach 10 = .ok (.invokevirtual 187, 3) by decide +kernel) (by rfl) rfl rfl rfl (hl.k2 zk_1) (by decide) (hl.n2 zk_1) ⟨Nat.le_of_ble_eq_true rfl, Nat.le_of_ble_eq_true rfl, Nat.le_of_ble_eq_true rfl⟩) ?_
    exact Iff.rfl
  · refine Iff.trans (zw_iconst (x := (-1)) (show decode cX11_reach 35 = .ok (.iconst (-1), 1) by decide +kernel) (by decide)) ?_
    exact zw_iret1 (show decode cX11_reach 36 = .ok (.ireturn, 1) by decide +kernel) rfl

theorem bX11_reach_13 {d : Nat} {σ : zS} {Q : Option Value → zS → Prop} (hl : zLay σ) {x1 x2 x3 x4 x5 y0 : Int32} : zW (d + 1) kX11_reach 13 [.ref 1, .int x1, .int x2, .int x3, .int x4, .int x5] [.int y0] σ Q ↔ (if y0 = (0 : Int32) then zCall d kX11_noSeeds [.int x4] σ (fun r σ' => zisN r = true ∧ zW (d + 1) kX11_reach 21 [.ref 1, .int x1, .int x2, .int x3, .int x4, .int x5] (zRstk r ++ []) σ' Q) else Q (some (.int (-1))) σ) := by
  refine Iff.trans (zw_if_ne (t := 35) (show decode cX11_reach 13 = .ok (.ifCond .ne 22, 3) by decide +kernel) (by decide)) ?_
  refine zw_ite ?_ ?_
  · refine Iff.trans (zw_iload (show decode cX11_reach 16 = .ok (.iload 4, 2) by decide +kernel) rfl) ?_
    refine Iff.trans (zw_invS (K' := kX11_noSeeds) (as := [.int x4]) (rest := []) (show decode cX11_reach 18 = .ok (.invokestatic 285, 3) by decide +kernel) (by rfl) rfl rfl rfl ⟨Nat.le_of_ble_eq_true rfl, Nat.le_of_ble_eq_true rfl, Nat.le_of_ble_eq_true rfl⟩) ?_
    exact Iff.rfl
  · refine Iff.trans (zw_iconst (x := (-1)) (show decode cX11_reach 35 = .ok (.iconst (-1), 1) by decide +kernel) (by decide)) ?_
    exact zw_iret1 (show decode cX11_reach 36 = .ok (.ireturn, 1) by decide +kernel) rfl

theorem bX11_reach_21 {d : Nat} {σ : zS} {Q : Option Value → zS → Prop} (hl : zLay σ) {x1 x2 x3 x4 x5 y0 : Int32} : zW (d + 1) kX11_reach 21 [.ref 1, .int x1, .int x2, .int x3, .int x4, .int x5] [.int y0] σ Q ↔ (if y0 = (0 : Int32) then (if x5 < (0 : Int32) then Q (some (.int (-1))) σ else (if x5 ≤ 2 then (vp_in x1 6 ∧ zW (d + 1) kX11_reach 44 [.ref 1, .int x1, .int x2, .int x3, .int x4, .int x5] (va_rf (zR σ 4 (x1 : Int32).toNatClampNeg) :: [.ref 1]) σ Q) else Q (some (.int (-1))) σ)) else Q (some (.int (-1))) σ) := by
  refine Iff.trans (zw_if_ne (t := 35) (show decode cX11_reach 21 = .ok (.ifCond .ne 14, 3) by decide +kernel) (by decide)) ?_
  refine zw_ite ?_ ?_
  · refine Iff.trans (zw_iload (show decode cX11_reach 24 = .ok (.iload 5, 2) by decide +kernel) rfl) ?_
    refine Iff.trans (zw_if_lt (t := 35) (show decode cX11_reach 26 = .ok (.ifCond .lt 9, 3) by decide +kernel) (by decide)) ?_
    refine zw_ite ?_ ?_
    · refine Iff.trans (zw_iconst (x := (-1)) (show decode cX11_reach 35 = .ok (.iconst (-1), 1) by decide +kernel) (by decide)) ?_
      exact zw_iret1 (show decode cX11_reach 36 = .ok (.ireturn, 1) by decide +kernel) rfl
    · refine Iff.trans (zw_iload (show decode cX11_reach 29 = .ok (.iload 5, 2) by decide +kernel) rfl) ?_
      refine Iff.trans (zw_iconst (x := 2) (show decode cX11_reach 31 = .ok (.iconst 2, 1) by decide +kernel) (by decide)) ?_
      refine Iff.trans (zw_icmp_le (t := 37) (show decode cX11_reach 32 = .ok (.if_icmp .le 5, 3) by decide +kernel) (by decide)) ?_
      refine zw_ite ?_ ?_
      · refine Iff.trans (zw_aload_n (show decode cX11_reach 37 = .ok (.aload_n 0, 1) by decide +kernel) rfl) ?_
        refine Iff.trans (zw_aload_n (show decode cX11_reach 38 = .ok (.aload_n 0, 1) by decide +kernel) rfl) ?_
        refine Iff.trans (zw_get (show decode cX11_reach 39 = .ok (.getfield 18, 3) by decide +kernel) (by decide +kernel : zfld 11 18 = some (11, 1)) (hl.k2 zk_1) (hl.n2 zk_1) (zgetR (v := 4) (hl.r zrt_1_1) rfl)) ?_
        refine Iff.trans (zw_iload_n (show decode cX11_reach 42 = .ok (.iload_n 1, 1) by decide +kernel) rfl) ?_
        refine Iff.trans (zw_aald (show decode cX11_reach 43 = .ok (.aaload, 1) by decide +kernel) (by rw [(hl.k2 zk_4)]; decide) (hl.n2 zk_4) (hl.l2 zk_4 zl_4)) ?_
        refine zw_and ?_
        exact Iff.rfl
      · refine Iff.trans (zw_iconst (x := (-1)) (show decode cX11_reach 35 = .ok (.iconst (-1), 1) by decide +kernel) (by decide)) ?_
        exact zw_iret1 (show decode cX11_reach 36 = .ok (.ireturn, 1) by decide +kernel) rfl
  · refine Iff.trans (zw_iconst (x := (-1)) (show decode cX11_reach 35 = .ok (.iconst (-1), 1) by decide +kernel) (by decide)) ?_
    exact zw_iret1 (show decode cX11_reach 36 = .ok (.ireturn, 1) by decide +kernel) rfl

theorem bX11_reach_44 {d : Nat} {σ : zS} {Q : Option Value → zS → Prop} (hl : zLay σ) {x1 x2 x3 x4 x5 : Int32} {b0 : Nat} (hb0 : zk b0 = 0) : zW (d + 1) kX11_reach 44 [.ref 1, .int x1, .int x2, .int x3, .int x4, .int x5] [.ref b0, .ref 1] σ Q ↔ (vp_in x2 10 ∧ zW (d + 1) kX11_reach 50 [.ref 1, .int x1, .int x2, .int x3, .int x4, .int x5] (va_rf (zR σ 5 (x2 : Int32).toNatClampNeg) :: [.ref b0, .ref 1]) σ Q) := by
  refine Iff.trans (zw_aload_n (show decode cX11_reach 44 = .ok (.aload_n 0, 1) by decide +kernel) rfl) ?_
  refine Iff.trans (zw_get (show decode cX11_reach 45 = .ok (.getfield 24, 3) by decide +kernel) (by decide +kernel : zfld 11 24 = some (11, 3)) (hl.k2 zk_1) (hl.n2 zk_1) (zgetR (v := 5) (hl.r zrt_1_3) rfl)) ?_
  refine Iff.trans (zw_iload_n (show decode cX11_reach 48 = .ok (.iload_n 2, 1) by decide +kernel) rfl) ?_
  refine Iff.trans (zw_aald (show decode cX11_reach 49 = .ok (.aaload, 1) by decide +kernel) (by rw [(hl.k2 zk_5)]; decide) (hl.n2 zk_5) (hl.l2 zk_5 zl_5)) ?_
  refine zw_and ?_
  exact Iff.rfl

theorem bX11_reach_50 {d : Nat} {σ : zS} {Q : Option Value → zS → Prop} (hl : zLay σ) {x1 x2 x3 x4 x5 : Int32} {b0 b1 : Nat} (hb0 : zk b0 = 6) (hb1 : zk b1 = 0) : zW (d + 1) kX11_reach 50 [.ref 1, .int x1, .int x2, .int x3, .int x4, .int x5] [.ref b0, .ref b1, .ref 1] σ Q ↔ zCall d kX11_timeAlone [.ref 1, .ref b1, .ref b0, .int x3, .int x4] σ (fun r σ' => zisN r = true ∧ zW (d + 1) kX11_reach 56 [.ref 1, .int x1, .int x2, .int x3, .int x4, .int x5] (zRstk r ++ []) σ' Q) := by
  refine Iff.trans (zw_iload_n (show decode cX11_reach 50 = .ok (.iload_n 3, 1) by decide +kernel) rfl) ?_
  refine Iff.trans (zw_iload (show decode cX11_reach 51 = .ok (.iload 4, 2) by decide +kernel) rfl) ?_
  refine Iff.trans (zw_invV (K' := kX11_timeAlone) (as' := [.ref b1, .ref b0, .int x3, .int x4]) (rest := []) (show decode cX11_reach 53 = .ok (.invokevirtual 314, 3) by decide +kernel) (by rfl) rfl rfl rfl (hl.k2 zk_1) (by decide) (hl.n2 zk_1) ⟨Nat.le_of_ble_eq_true rfl, Nat.le_of_ble_eq_true rfl, Nat.le_of_ble_eq_true rfl⟩) ?_
  exact Iff.rfl

theorem bX11_reach_56 {d : Nat} {σ : zS} {Q : Option Value → zS → Prop} (hl : zLay σ) {x1 x2 x3 x4 x5 y0 : Int32} : zW (d + 1) kX11_reach 56 [.ref 1, .int x1, .int x2, .int x3, .int x4, .int x5] [.int y0] σ Q ↔ (if y0 = (-1) then Q (some (.int (-1))) σ else (if x5 = (0 : Int32) then zCall d kX3_at [.ref 83, .int 0] σ (fun r σ' => zisN r = true ∧ zW (d + 1) kX11_reach 75 [.ref 1, .int x1, .int x2, .int x3, .int x4, .int x5] (zRstk r ++ []) σ' Q) else (if x5 = 1 then zCall d kX3_at [.ref 83, .int (x4 - 1)] σ (fun r σ' => zisN r = true ∧ zW (d + 1) kX11_reach 93 [.ref 1, .int x1, .int x2, .int x3, .int x4, .int x5] (zRstk r ++ []) σ' Q) else (¬ 2 = (0 : Int32) ∧ zCall d kX3_at [.ref 83, .int ((x4 - 1) / 2)] σ (fun r σ' => zisN r = true ∧ zW (d + 1) kX11_reach 109 [.ref 1, .int x1, .int x2, .int x3, .int x4, .int x5] (zRstk r ++ []) σ' Q))))) := by
  refine Iff.trans (zw_iconst (x := (-1)) (show decode cX11_reach 56 = .ok (.iconst (-1), 1) by decide +kernel) (by decide)) ?_
  refine Iff.trans (zw_icmp_ne (t := 62) (show decode cX11_reach 57 = .ok (.if_icmp .ne 5, 3) by decide +kernel) (by decide)) ?_
  refine zw_ite ?_ ?_
  · refine Iff.trans (zw_iconst (x := (-1)) (show decode cX11_reach 60 = .ok (.iconst (-1), 1) by decide +kernel) (by decide)) ?_
    exact zw_iret1 (show decode cX11_reach 61 = .ok (.ireturn, 1) by decide +kernel) rfl
  · refine Iff.trans (zw_iload (show decode cX11_reach 62 = .ok (.iload 5, 2) by decide +kernel) rfl) ?_
    refine Iff.trans (zw_if_ne (t := 76) (show decode cX11_reach 64 = .ok (.ifCond .ne 12, 3) by decide +kernel) (by decide)) ?_
    refine zw_ite ?_ ?_
    · refine Iff.trans (zw_aload_n (show decode cX11_reach 67 = .ok (.aload_n 0, 1) by decide +kernel) rfl) ?_
      refine Iff.trans (zw_get (show decode cX11_reach 68 = .ok (.getfield 78, 3) by decide +kernel) (by decide +kernel : zfld 11 78 = some (11, 14)) (hl.k2 zk_1) (hl.n2 zk_1) (zgetR (v := 83) (hl.r zrt_1_14) rfl)) ?_
      refine Iff.trans (zw_iconst (x := 0) (show decode cX11_reach 71 = .ok (.iconst 0, 1) by decide +kernel) (by decide)) ?_
      refine Iff.trans (zw_invV (K' := kX3_at) (as' := [.int 0]) (rest := []) (show decode cX11_reach 72 = .ok (.invokevirtual 420, 3) by decide +kernel) (by rfl) rfl rfl rfl (hl.k2 zk_83) (by decide) (hl.n2 zk_83) ⟨Nat.le_of_ble_eq_true rfl, Nat.le_of_ble_eq_true rfl, Nat.le_of_ble_eq_true rfl⟩) ?_
      exact Iff.rfl
    · refine Iff.trans (zw_iload (show decode cX11_reach 76 = .ok (.iload 5, 2) by decide +kernel) rfl) ?_
      refine Iff.trans (zw_iconst (x := 1) (show decode cX11_reach 78 = .ok (.iconst 1, 1) by decide +kernel) (by decide)) ?_
      refine Iff.trans (zw_icmp_ne (t := 96) (show decode cX11_reach 79 = .ok (.if_icmp .ne 17, 3) by decide +kernel) (by decide)) ?_
      refine zw_ite ?_ ?_
      · refine Iff.trans (zw_aload_n (show decode cX11_reach 82 = .ok (.aload_n 0, 1) by decide +kernel) rfl) ?_
        refine Iff.trans (zw_get (show decode cX11_reach 83 = .ok (.getfield 78, 3) by decide +kernel) (by decide +kernel : zfld 11 78 = some (11, 14)) (hl.k2 zk_1) (hl.n2 zk_1) (zgetR (v := 83) (hl.r zrt_1_14) rfl)) ?_
        refine Iff.trans (zw_iload (show decode cX11_reach 86 = .ok (.iload 4, 2) by decide +kernel) rfl) ?_
        refine Iff.trans (zw_iconst (x := 1) (show decode cX11_reach 88 = .ok (.iconst 1, 1) by decide +kernel) (by decide)) ?_
        refine Iff.trans (zw_isub (show decode cX11_reach 89 = .ok (.isub, 1) by decide +kernel)) ?_
        refine Iff.trans (zw_invV (K' := kX3_at) (as' := [.int (x4 - 1)]) (rest := []) (show decode cX11_reach 90 = .ok (.invokevirtual 420, 3) by decide +kernel) (by rfl) rfl rfl rfl (hl.k2 zk_83) (by decide) (hl.n2 zk_83) ⟨Nat.le_of_ble_eq_true rfl, Nat.le_of_ble_eq_true rfl, Nat.le_of_ble_eq_true rfl⟩) ?_
        exact Iff.rfl
      · refine Iff.trans (zw_aload_n (show decode cX11_reach 96 = .ok (.aload_n 0, 1) by decide +kernel) rfl) ?_
        refine Iff.trans (zw_get (show decode cX11_reach 97 = .ok (.getfield 78, 3) by decide +kernel) (by decide +kernel : zfld 11 78 = some (11, 14)) (hl.k2 zk_1) (hl.n2 zk_1) (zgetR (v := 83) (hl.r zrt_1_14) rfl)) ?_
        refine Iff.trans (zw_iload (show decode cX11_reach 100 = .ok (.iload 4, 2) by decide +kernel) rfl) ?_
        refine Iff.trans (zw_iconst (x := 1) (show decode cX11_reach 102 = .ok (.iconst 1, 1) by decide +kernel) (by decide)) ?_
        refine Iff.trans (zw_isub (show decode cX11_reach 103 = .ok (.isub, 1) by decide +kernel)) ?_
        refine Iff.trans (zw_iconst (x := 2) (show decode cX11_reach 104 = .ok (.iconst 2, 1) by decide +kernel) (by decide)) ?_
        refine Iff.trans (zw_idiv (show decode cX11_reach 105 = .ok (.idiv, 1) by decide +kernel)) ?_
        refine zw_and ?_
        refine Iff.trans (zw_invV (K' := kX3_at) (as' := [.int ((x4 - 1) / 2)]) (rest := []) (show decode cX11_reach 106 = .ok (.invokevirtual 420, 3) by decide +kernel) (by rfl) rfl rfl rfl (hl.k2 zk_83) (by decide) (hl.n2 zk_83) ⟨Nat.le_of_ble_eq_true rfl, Nat.le_of_ble_eq_true rfl, Nat.le_of_ble_eq_true rfl⟩) ?_
        exact Iff.rfl

theorem bX11_reach_75 {d : Nat} {σ : zS} {Q : Option Value → zS → Prop} (hl : zLay σ) {x1 x2 x3 x4 x5 y0 : Int32} : zW (d + 1) kX11_reach 75 [.ref 1, .int x1, .int x2, .int x3, .int x4, .int x5] [.int y0] σ Q ↔ Q (some (.int y0)) σ := by
  exact zw_iret1 (show decode cX11_reach 75 = .ok (.ireturn, 1) by decide +kernel) rfl

theorem bX11_reach_93 {d : Nat} {σ : zS} {Q : Option Value → zS → Prop} (hl : zLay σ) {x1 x2 x3 x4 x5 y0 : Int32} : zW (d + 1) kX11_reach 93 [.ref 1, .int x1, .int x2, .int x3, .int x4, .int x5] [.int y0] σ Q ↔ zW (d + 1) kX11_reach 109 [.ref 1, .int x1, .int x2, .int x3, .int x4, .int x5] [.int y0] σ Q := by
  refine Iff.trans (zw_goto (t := 109) (show decode cX11_reach 93 = .ok (.goto 16, 3) by decide +kernel) (by decide)) ?_
  exact Iff.rfl

theorem bX11_reach_109 {d : Nat} {σ : zS} {Q : Option Value → zS → Prop} (hl : zLay σ) {x1 x2 x3 x4 x5 y0 : Int32} : zW (d + 1) kX11_reach 109 [.ref 1, .int x1, .int x2, .int x3, .int x4, .int x5] [.int y0] σ Q ↔ Q (some (.int y0)) σ := by
  exact zw_iret1 (show decode cX11_reach 109 = .ok (.ireturn, 1) by decide +kernel) rfl

theorem bX11_close_0 {d : Nat} {σ : zS} {Q : Option Value → zS → Prop} (hl : zLay σ) {x1 : Int32} : zCall (d + 1) kX11_close [.ref 1, .int x1] σ Q ↔ (if (zI σ 12 4) < 2 then Q (some (.int (-1))) σ else zCall d kX11_noSeeds [.int x1] σ (fun r σ' => zisN r = true ∧ zW (d + 1) kX11_close 15 [.ref 1, .int x1] (zRstk r ++ []) σ' Q)) := by
  show zW (d + 1) kX11_close 0 [.ref 1, .int x1] [] σ Q ↔ _
  refine Iff.trans (zw_aload_n (show decode cX11_close 0 = .ok (.aload_n 0, 1) by decide +kernel) rfl) ?_
  refine Iff.trans (zw_get (show decode cX11_close 1 = .ok (.getfield 48, 3) by decide +kernel) (by decide +kernel : zfld 11 48 = some (11, 8)) (hl.k2 zk_1) (hl.n2 zk_1) (zgetR (v := 12) (hl.r zrt_1_8) rfl)) ?_
  refine Iff.trans (zw_getI (show decode cX11_close 4 = .ok (.getfield 200, 3) by decide +kernel) (by decide +kernel : zfld 11 200 = some (2, 4)) (hl.k2 zk_12) (hl.n2 zk_12) (Or.inl rfl) (w := zI σ 12 4) rfl) ?_
  refine Iff.trans (zw_iconst (x := 2) (show decode cX11_close 7 = .ok (.iconst 2, 1) by decide +kernel) (by decide)) ?_
  refine Iff.trans (zw_icmp_lt (t := 26) (show decode cX11_close 8 = .ok (.if_icmp .lt 18, 3) by decide +kernel) (by decide)) ?_
  refine zw_ite ?_ ?_
  · refine Iff.trans (zw_iconst (x := (-1)) (show decode cX11_close 26 = .ok (.iconst (-1), 1) by decide +kernel) (by decide)) ?_
    exact zw_iret1 (show decode cX11_close 27 = .ok (.ireturn, 1) by decide +kernel) rfl
  · refine Iff.trans (zw_iload_n (show decode cX11_close 11 = .ok (.iload_n 1, 1) by decide +kernel) rfl) ?_
    refine Iff.trans (zw_invS (K' := kX11_noSeeds) (as := [.int x1]) (rest := []) (show decode cX11_close 12 = .ok (.invokestatic 285, 3) by decide +kernel) (by rfl) rfl rfl rfl ⟨Nat.le_of_ble_eq_true rfl, Nat.le_of_ble_eq_true rfl, Nat.le_of_ble_eq_true rfl⟩) ?_
    exact Iff.rfl

theorem bX11_close_15 {d : Nat} {σ : zS} {Q : Option Value → zS → Prop} (hl : zLay σ) {x1 y0 : Int32} : zW (d + 1) kX11_close 15 [.ref 1, .int x1] [.int y0] σ Q ↔ (if y0 = (0 : Int32) then zCall d kX11_tallyTold [.ref 1, .int x1] σ (fun r σ' => zisN r = true ∧ zW (d + 1) kX11_close 23 [.ref 1, .int x1] (zRstk r ++ []) σ' Q) else Q (some (.int (-1))) σ) := by
  refine Iff.trans (zw_if_ne (t := 26) (show decode cX11_close 15 = .ok (.ifCond .ne 11, 3) by decide +kernel) (by decide)) ?_
  refine zw_ite ?_ ?_
  · refine Iff.trans (zw_aload_n (show decode cX11_close 18 = .ok (.aload_n 0, 1) by decide +kernel) rfl) ?_
    refine Iff.trans (zw_iload_n (show decode cX11_close 19 = .ok (.iload_n 1, 1) by decide +kernel) rfl) ?_
    refine Iff.trans (zw_invV (K' := kX11_tallyTold) (as' := [.int x1]) (rest := []) (show decode cX11_close 20 = .ok (.invokevirtual 288, 3) by decide +kernel) (by rfl) rfl rfl rfl (hl.k2 zk_1) (by decide) (hl.n2 zk_1) ⟨Nat.le_of_ble_eq_true rfl, Nat.le_of_ble_eq_true rfl, Nat.le_of_ble_eq_true rfl⟩) ?_
    exact Iff.rfl
  · refine Iff.trans (zw_iconst (x := (-1)) (show decode cX11_close 26 = .ok (.iconst (-1), 1) by decide +kernel) (by decide)) ?_
    exact zw_iret1 (show decode cX11_close 27 = .ok (.ireturn, 1) by decide +kernel) rfl

theorem bX11_close_23 {d : Nat} {σ : zS} {Q : Option Value → zS → Prop} (hl : zLay σ) {x1 y0 : Int32} : zW (d + 1) kX11_close 23 [.ref 1, .int x1] [.int y0] σ Q ↔ (if y0 = (0 : Int32) then Q (some (.int (-1))) σ else Q (some (.int (zI σ 80 2))) σ) := by
  refine Iff.trans (zw_if_ne (t := 28) (show decode cX11_close 23 = .ok (.ifCond .ne 5, 3) by decide +kernel) (by decide)) ?_
  refine zw_ite ?_ ?_
  · refine Iff.trans (zw_iconst (x := (-1)) (show decode cX11_close 26 = .ok (.iconst (-1), 1) by decide +kernel) (by decide)) ?_
    exact zw_iret1 (show decode cX11_close 27 = .ok (.ireturn, 1) by decide +kernel) rfl
  · refine Iff.trans (zw_aload_n (show decode cX11_close 28 = .ok (.aload_n 0, 1) by decide +kernel) rfl) ?_
    refine Iff.trans (zw_get (show decode cX11_close 29 = .ok (.getfield 71, 3) by decide +kernel) (by decide +kernel : zfld 11 71 = some (11, 13)) (hl.k2 zk_1) (hl.n2 zk_1) (zgetR (v := 80) (hl.r zrt_1_13) rfl)) ?_
    refine Iff.trans (zw_getI (show decode cX11_close 32 = .ok (.getfield 458, 3) by decide +kernel) (by decide +kernel : zfld 11 458 = some (7, 2)) (hl.k2 zk_80) (hl.n2 zk_80) (Or.inl rfl) (w := zI σ 80 2) rfl) ?_
    exact zw_iret1 (show decode cX11_close 35 = .ok (.ireturn, 1) by decide +kernel) rfl

theorem bX11_count_0 {d : Nat} {σ : zS} {Q : Option Value → zS → Prop} (hl : zLay σ) {x1 : Int32} : zCall d kX11_count [.ref 1, .int x1] σ Q ↔ zW d kX11_count 1 [.ref 1, .int x1] [.int x1] σ Q := by
  show zW d kX11_count 0 [.ref 1, .int x1] [] σ Q ↔ _
  refine Iff.trans (zw_iload_n (show decode cX11_count 0 = .ok (.iload_n 1, 1) by decide +kernel) rfl) ?_
  exact Iff.rfl

theorem bX11_count_52 {d : Nat} {σ : zS} {Q : Option Value → zS → Prop} (hl : zLay σ) {x1 : Int32} : zW d kX11_count 52 [.ref 1, .int x1] [] σ Q ↔ Q (some (.int (zI σ 1 2))) σ := by
  refine Iff.trans (zw_aload_n (show decode cX11_count 52 = .ok (.aload_n 0, 1) by decide +kernel) rfl) ?_
  refine Iff.trans (zw_getI (show decode cX11_count 53 = .ok (.getfield 136, 3) by decide +kernel) (by decide +kernel : zfld 11 136 = some (11, 2)) (hl.k2 zk_1) (hl.n2 zk_1) (Or.inl rfl) (w := zI σ 1 2) rfl) ?_
  exact zw_iret1 (show decode cX11_count 56 = .ok (.ireturn, 1) by decide +kernel) rfl

theorem bX11_count_57 {d : Nat} {σ : zS} {Q : Option Value → zS → Prop} (hl : zLay σ) {x1 : Int32} : zW d kX11_count 57 [.ref 1, .int x1] [] σ Q ↔ Q (some (.int (zI σ 1 4))) σ := by
  refine Iff.trans (zw_aload_n (show decode cX11_count 57 = .ok (.aload_n 0, 1) by decide +kernel) rfl) ?_
  refine Iff.trans (zw_getI (show decode cX11_count 58 = .ok (.getfield 143, 3) by decide +kernel) (by decide +kernel : zfld 11 143 = some (11, 4)) (hl.k2 zk_1) (hl.n2 zk_1) (Or.inl rfl) (w := zI σ 1 4) rfl) ?_
  exact zw_iret1 (show decode cX11_count 61 = .ok (.ireturn, 1) by decide +kernel) rfl

theorem bX11_count_62 {d : Nat} {σ : zS} {Q : Option Value → zS → Prop} (hl : zLay σ) {x1 : Int32} : zW d kX11_count 62 [.ref 1, .int x1] [] σ Q ↔ Q (some (.int (zI σ 12 4))) σ := by
  refine Iff.trans (zw_aload_n (show decode cX11_count 62 = .ok (.aload_n 0, 1) by decide +kernel) rfl) ?_
  refine Iff.trans (zw_get (show decode cX11_count 63 = .ok (.getfield 48, 3) by decide +kernel) (by decide +kernel : zfld 11 48 = some (11, 8)) (hl.k2 zk_1) (hl.n2 zk_1) (zgetR (v := 12) (hl.r zrt_1_8) rfl)) ?_
  refine Iff.trans (zw_getI (show decode cX11_count 66 = .ok (.getfield 200, 3) by decide +kernel) (by decide +kernel : zfld 11 200 = some (2, 4)) (hl.k2 zk_12) (hl.n2 zk_12) (Or.inl rfl) (w := zI σ 12 4) rfl) ?_
  exact zw_iret1 (show decode cX11_count 69 = .ok (.ireturn, 1) by decide +kernel) rfl

theorem bX11_count_70 {d : Nat} {σ : zS} {Q : Option Value → zS → Prop} (hl : zLay σ) {x1 : Int32} : zW d kX11_count 70 [.ref 1, .int x1] [] σ Q ↔ Q (some (.int (zI σ 6 3))) σ := by
  refine Iff.trans (zw_aload_n (show decode cX11_count 70 = .ok (.aload_n 0, 1) by decide +kernel) rfl) ?_
  refine Iff.trans (zw_get (show decode cX11_count 71 = .ok (.getfield 31, 3) by decide +kernel) (by decide +kernel : zfld 11 31 = some (11, 5)) (hl.k2 zk_1) (hl.n2 zk_1) (zgetR (v := 6) (hl.r zrt_1_5) rfl)) ?_
  refine Iff.trans (zw_getI (show decode cX11_count 74 = .ok (.getfield 400, 3) by decide +kernel) (by decide +kernel : zfld 11 400 = some (5, 3)) (hl.k2 zk_6) (hl.n2 zk_6) (Or.inl rfl) (w := zI σ 6 3) rfl) ?_
  exact zw_iret1 (show decode cX11_count 77 = .ok (.ireturn, 1) by decide +kernel) rfl

theorem bX11_count_78 {d : Nat} {σ : zS} {Q : Option Value → zS → Prop} (hl : zLay σ) {x1 : Int32} : zW d kX11_count 78 [.ref 1, .int x1] [] σ Q ↔ Q (some (.int (zI σ 2 1))) σ := by
  refine Iff.trans (zw_aload_n (show decode cX11_count 78 = .ok (.aload_n 0, 1) by decide +kernel) rfl) ?_
  refine Iff.trans (zw_get (show decode cX11_count 79 = .ok (.getfield 10, 3) by decide +kernel) (by decide +kernel : zfld 11 10 = some (11, 0)) (hl.k2 zk_1) (hl.n2 zk_1) (zgetR (v := 2) (hl.r zrt_1_0) rfl)) ?_
  refine Iff.trans (zw_getI (show decode cX11_count 82 = .ok (.getfield 110, 3) by decide +kernel) (by decide +kernel : zfld 11 110 = some (8, 1)) (hl.k2 zk_2) (hl.n2 zk_2) (Or.inl rfl) (w := zI σ 2 1) rfl) ?_
  exact zw_iret1 (show decode cX11_count 85 = .ok (.ireturn, 1) by decide +kernel) rfl

theorem bX11_count_86 {d : Nat} {σ : zS} {Q : Option Value → zS → Prop} (hl : zLay σ) {x1 : Int32} : zW d kX11_count 86 [.ref 1, .int x1] [] σ Q ↔ (if (zI σ 12 9) = (0 : Int32) then Q (some (.int (-1))) σ else Q (some (.int (zI σ 12 5))) σ) := by
  refine Iff.trans (zw_aload_n (show decode cX11_count 86 = .ok (.aload_n 0, 1) by decide +kernel) rfl) ?_
  refine Iff.trans (zw_get (show decode cX11_count 87 = .ok (.getfield 48, 3) by decide +kernel) (by decide +kernel : zfld 11 48 = some (11, 8)) (hl.k2 zk_1) (hl.n2 zk_1) (zgetR (v := 12) (hl.r zrt_1_8) rfl)) ?_
  refine Iff.trans (zw_getI (show decode cX11_count 90 = .ok (.getfield 206, 3) by decide +kernel) (by decide +kernel : zfld 11 206 = some (2, 9)) (hl.k2 zk_12) (hl.n2 zk_12) (Or.inr rfl) (w := zI σ 12 9) rfl) ?_
  refine Iff.trans (zw_if_eq (t := 106) (show decode cX11_count 93 = .ok (.ifCond .eq 13, 3) by decide +kernel) (by decide)) ?_
  refine zw_ite ?_ ?_
  · refine Iff.trans (zw_iconst (x := (-1)) (show decode cX11_count 106 = .ok (.iconst (-1), 1) by decide +kernel) (by decide)) ?_
    exact zw_iret1 (show decode cX11_count 107 = .ok (.ireturn, 1) by decide +kernel) rfl
  · refine Iff.trans (zw_aload_n (show decode cX11_count 96 = .ok (.aload_n 0, 1) by decide +kernel) rfl) ?_
    refine Iff.trans (zw_get (show decode cX11_count 97 = .ok (.getfield 48, 3) by decide +kernel) (by decide +kernel : zfld 11 48 = some (11, 8)) (hl.k2 zk_1) (hl.n2 zk_1) (zgetR (v := 12) (hl.r zrt_1_8) rfl)) ?_
    refine Iff.trans (zw_getI (show decode cX11_count 100 = .ok (.getfield 428, 3) by decide +kernel) (by decide +kernel : zfld 11 428 = some (2, 5)) (hl.k2 zk_12) (hl.n2 zk_12) (Or.inl rfl) (w := zI σ 12 5) rfl) ?_
    refine Iff.trans (zw_goto (t := 107) (show decode cX11_count 103 = .ok (.goto 4, 3) by decide +kernel) (by decide)) ?_
    exact zw_iret1 (show decode cX11_count 107 = .ok (.ireturn, 1) by decide +kernel) rfl

theorem bX11_count_108 {d : Nat} {σ : zS} {Q : Option Value → zS → Prop} (hl : zLay σ) {x1 : Int32} : zW d kX11_count 108 [.ref 1, .int x1] [] σ Q ↔ Q (some (.int (zI σ 10 0))) σ := by
  refine Iff.trans (zw_aload_n (show decode cX11_count 108 = .ok (.aload_n 0, 1) by decide +kernel) rfl) ?_
  refine Iff.trans (zw_get (show decode cX11_count 109 = .ok (.getfield 38, 3) by decide +kernel) (by decide +kernel : zfld 11 38 = some (11, 6)) (hl.k2 zk_1) (hl.n2 zk_1) (zgetR (v := 10) (hl.r zrt_1_6) rfl)) ?_
  refine Iff.trans (zw_getI (show decode cX11_count 112 = .ok (.getfield 190, 3) by decide +kernel) (by decide +kernel : zfld 11 190 = some (10, 0)) (hl.k2 zk_10) (hl.n2 zk_10) (Or.inl rfl) (w := zI σ 10 0) rfl) ?_
  exact zw_iret1 (show decode cX11_count 115 = .ok (.ireturn, 1) by decide +kernel) rfl

theorem bX11_count_116 {d : Nat} {σ : zS} {Q : Option Value → zS → Prop} (hl : zLay σ) {x1 : Int32} : zW d kX11_count 116 [.ref 1, .int x1] [] σ Q ↔ Q (some (.int (zI σ 10 1))) σ := by
  refine Iff.trans (zw_aload_n (show decode cX11_count 116 = .ok (.aload_n 0, 1) by decide +kernel) rfl) ?_
  refine Iff.trans (zw_get (show decode cX11_count 117 = .ok (.getfield 38, 3) by decide +kernel) (by decide +kernel : zfld 11 38 = some (11, 6)) (hl.k2 zk_1) (hl.n2 zk_1) (zgetR (v := 10) (hl.r zrt_1_6) rfl)) ?_
  refine Iff.trans (zw_getI (show decode cX11_count 120 = .ok (.getfield 180, 3) by decide +kernel) (by decide +kernel : zfld 11 180 = some (10, 1)) (hl.k2 zk_10) (hl.n2 zk_10) (Or.inl rfl) (w := zI σ 10 1) rfl) ?_
  exact zw_iret1 (show decode cX11_count 123 = .ok (.ireturn, 1) by decide +kernel) rfl

theorem bX11_count_124 {d : Nat} {σ : zS} {Q : Option Value → zS → Prop} (hl : zLay σ) {x1 : Int32} : zW d kX11_count 124 [.ref 1, .int x1] [] σ Q ↔ Q (some (.int (zI σ 10 2))) σ := by
  refine Iff.trans (zw_aload_n (show decode cX11_count 124 = .ok (.aload_n 0, 1) by decide +kernel) rfl) ?_
  refine Iff.trans (zw_get (show decode cX11_count 125 = .ok (.getfield 38, 3) by decide +kernel) (by decide +kernel : zfld 11 38 = some (11, 6)) (hl.k2 zk_1) (hl.n2 zk_1) (zgetR (v := 10) (hl.r zrt_1_6) rfl)) ?_
  refine Iff.trans (zw_getI (show decode cX11_count 128 = .ok (.getfield 193, 3) by decide +kernel) (by decide +kernel : zfld 11 193 = some (10, 2)) (hl.k2 zk_10) (hl.n2 zk_10) (Or.inl rfl) (w := zI σ 10 2) rfl) ?_
  exact zw_iret1 (show decode cX11_count 131 = .ok (.ireturn, 1) by decide +kernel) rfl

theorem bX11_count_132 {d : Nat} {σ : zS} {Q : Option Value → zS → Prop} (hl : zLay σ) {x1 : Int32} : zW d kX11_count 132 [.ref 1, .int x1] [] σ Q ↔ Q (some (.int (-1000))) σ := by
  refine Iff.trans (zw_sipush (x := (-1000)) (show decode cX11_count 132 = .ok (.sipush (-1000), 3) by decide +kernel) (by decide)) ?_
  exact zw_iret1 (show decode cX11_count 135 = .ok (.ireturn, 1) by decide +kernel) rfl

