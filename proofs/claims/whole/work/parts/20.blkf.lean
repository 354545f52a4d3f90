theorem bX12_gameOf_0 {d : Nat} {σ : zS} {Q : Option Value → zS → Prop} (hl : zLay σ) {x1 x2 x3 x4 x5 x6 : Int32} : zCall (d + 1) kX12_gameOf [.ref 131, .int x1, .int x2, .int x3, .int x4, .int x5, .int x6] σ Q ↔ (vp_in x2 11 ∧ (vp_in x2 11 ∧ (vp_in x2 11 ∧ zCall d kX12_join [.ref 131, .int (zI σ 136 (x2 : Int32).toNatClampNeg), .int (zI σ 137 (x2 : Int32).toNatClampNeg), .int (zI σ 138 (x2 : Int32).toNatClampNeg), .int x4] (zsI σ 131 (upd (upd (zI σ 131) 19 x1) 20 0)) (fun r σ' => zisN r = true ∧ zW (d + 1) kX12_gameOf 34 [.ref 131, .int x1, .int x2, .int x3, .int x4, .int x5, .int x6] (zRstk r ++ []) σ' Q)))) := by
  show zW (d + 1) kX12_gameOf 0 [.ref 131, .int x1, .int x2, .int x3, .int x4, .int x5, .int x6] [] σ Q ↔ _
  refine Iff.trans (zw_aload_n (show decode cX12_gameOf 0 = .ok (.aload_n 0, 1) by decide +kernel) rfl) ?_
  refine Iff.trans (zw_iload_n (show decode cX12_gameOf 1 = .ok (.iload_n 1, 1) by decide +kernel) rfl) ?_
  refine Iff.trans (zw_putI (show decode cX12_gameOf 2 = .ok (.putfield 45, 3) by decide +kernel) (by decide +kernel : zfld 12 45 = some (12, 19)) (hl.k2 zk_131) (hl.n2 zk_131) rfl (Or.inl rfl) (σ' := (zsI σ 131 (upd (zI σ 131) 19 x1))) rfl) ?_
  refine Iff.trans (zw_aload_n (show decode cX12_gameOf 5 = .ok (.aload_n 0, 1) by decide +kernel) rfl) ?_
  refine Iff.trans (zw_iconst (x := 0) (show decode cX12_gameOf 6 = .ok (.iconst 0, 1) by decide +kernel) (by decide)) ?_
  refine Iff.trans (zw_putI (show decode cX12_gameOf 7 = .ok (.putfield 222, 3) by decide +kernel) (by decide +kernel : zfld 12 222 = some (12, 20)) (hl.I.k2 zk_131) (hl.I.n2 zk_131) rfl (Or.inl rfl) (σ' := (zsI σ 131 (upd (upd (zI σ 131) 19 x1) 20 0))) (Eq.trans (congrArg (fun f => zsI (zsI σ 131 (upd (zI σ 131) 19 x1)) 131 (upd f 20 0)) zI_self) zsI_s)) ?_
  refine Iff.trans (zw_aload_n (show decode cX12_gameOf 10 = .ok (.aload_n 0, 1) by decide +kernel) rfl) ?_
  refine Iff.trans (zw_aload_n (show decode cX12_gameOf 11 = .ok (.aload_n 0, 1) by decide +kernel) rfl) ?_
  refine Iff.trans (zw_get (show decode cX12_gameOf 12 = .ok (.getfield 23, 3) by decide +kernel) (by decide +kernel : zfld 12 23 = some (12, 8)) (hl.I.k2 zk_131) (hl.I.n2 zk_131) (zgetR (v := 136) (hl.I.r zrt_131_8) rfl)) ?_
  refine Iff.trans (zw_iload_n (show decode cX12_gameOf 15 = .ok (.iload_n 2, 1) by decide +kernel) rfl) ?_
  refine Iff.trans (zw_iald2 (show decode cX12_gameOf 16 = .ok (.iaload, 1) by decide +kernel) (hl.I.k2 zk_136) (hl.I.n2 zk_136) (hl.I.l2 zk_136 zl_136) (w := zI σ 136 (x2 : Int32).toNatClampNeg) (congrFun (zI_ne (by decide)) _)) ?_
  refine zw_and ?_
  refine Iff.trans (zw_aload_n (show decode cX12_gameOf 17 = .ok (.aload_n 0, 1) by decide +kernel) rfl) ?_
  refine Iff.trans (zw_get (show decode cX12_gameOf 18 = .ok (.getfield 26, 3) by decide +kernel) (by decide +kernel : zfld 12 26 = some (12, 9)) (hl.I.k2 zk_131) (hl.I.n2 zk_131) (zgetR (v := 137) (hl.I.r zrt_131_9) rfl)) ?_
  refine Iff.trans (zw_iload_n (show decode cX12_gameOf 21 = .ok (.iload_n 2, 1) by decide +kernel) rfl) ?_
  refine Iff.trans (zw_iald2 (show decode cX12_gameOf 22 = .ok (.iaload, 1) by decide +kernel) (hl.I.k2 zk_137) (hl.I.n2 zk_137) (hl.I.l2 zk_137 zl_137) (w := zI σ 137 (x2 : Int32).toNatClampNeg) (congrFun (zI_ne (by decide)) _)) ?_
  refine zw_and ?_
  refine Iff.trans (zw_aload_n (show decode cX12_gameOf 23 = .ok (.aload_n 0, 1) by decide +kernel) rfl) ?_
  refine Iff.trans (zw_get (show decode cX12_gameOf 24 = .ok (.getfield 29, 3) by decide +kernel) (by decide +kernel : zfld 12 29 = some (12, 10)) (hl.I.k2 zk_131) (hl.I.n2 zk_131) (zgetR (v := 138) (hl.I.r zrt_131_10) rfl)) ?_
  refine Iff.trans (zw_iload_n (show decode cX12_gameOf 27 = .ok (.iload_n 2, 1) by decide +kernel) rfl) ?_
  refine Iff.trans (zw_iald2 (show decode cX12_gameOf 28 = .ok (.iaload, 1) by decide +kernel) (hl.I.k2 zk_138) (hl.I.n2 zk_138) (hl.I.l2 zk_138 zl_138) (w := zI σ 138 (x2 : Int32).toNatClampNeg) (congrFun (zI_ne (by decide)) _)) ?_
  refine zw_and ?_
  refine Iff.trans (zw_iload (show decode cX12_gameOf 29 = .ok (.iload 4, 2) by decide +kernel) rfl) ?_
  refine Iff.trans (zw_invV (K' := kX12_join) (as' := [.int (zI σ 136 (x2 : Int32).toNatClampNeg), .int (zI σ 137 (x2 : Int32).toNatClampNeg), .int (zI σ 138 (x2 : Int32).toNatClampNeg), .int x4]) (rest := []) (show decode cX12_gameOf 31 = .ok (.invokevirtual 244, 3) by decide +kernel) (by rfl) rfl rfl rfl (hl.I.k2 zk_131) (by decide) (hl.I.n2 zk_131) ⟨Nat.le_of_ble_eq_true rfl, Nat.le_of_ble_eq_true rfl, Nat.le_of_ble_eq_true rfl⟩) ?_
  exact Iff.rfl

theorem bX12_gameOf_34 {d : Nat} {σ : zS} {Q : Option Value → zS → Prop} (hl : zLay σ) {x1 x2 x3 x4 x5 x6 : Int32} : zW (d + 1) kX12_gameOf 34 [.ref 131, .int x1, .int x2, .int x3, .int x4, .int x5, .int x6] [] σ Q ↔ (vp_in x3 11 ∧ (vp_in x3 11 ∧ (vp_in x3 11 ∧ zCall d kX12_join [.ref 131, .int (zI σ 136 (x3 : Int32).toNatClampNeg), .int (zI σ 137 (x3 : Int32).toNatClampNeg), .int (zI σ 138 (x3 : Int32).toNatClampNeg), .int x5] σ (fun r σ' => zisN r = true ∧ zW (d + 1) kX12_gameOf 58 [.ref 131, .int x1, .int x2, .int x3, .int x4, .int x5, .int x6] (zRstk r ++ []) σ' Q)))) := by
  refine Iff.trans (zw_aload_n (show decode cX12_gameOf 34 = .ok (.aload_n 0, 1) by decide +kernel) rfl) ?_
  refine Iff.trans (zw_aload_n (show decode cX12_gameOf 35 = .ok (.aload_n 0, 1) by decide +kernel) rfl) ?_
  refine Iff.trans (zw_get (show decode cX12_gameOf 36 = .ok (.getfield 23, 3) by decide +kernel) (by decide +kernel : zfld 12 23 = some (12, 8)) (hl.k2 zk_131) (hl.n2 zk_131) (zgetR (v := 136) (hl.r zrt_131_8) rfl)) ?_
  refine Iff.trans (zw_iload_n (show decode cX12_gameOf 39 = .ok (.iload_n 3, 1) by decide +kernel) rfl) ?_
  refine Iff.trans (zw_iald2 (show decode cX12_gameOf 40 = .ok (.iaload, 1) by decide +kernel) (hl.k2 zk_136) (hl.n2 zk_136) (hl.l2 zk_136 zl_136) (w := zI σ 136 (x3 : Int32).toNatClampNeg) rfl) ?_
  refine zw_and ?_
  refine Iff.trans (zw_aload_n (show decode cX12_gameOf 41 = .ok (.aload_n 0, 1) by decide +kernel) rfl) ?_
  refine Iff.trans (zw_get (show decode cX12_gameOf 42 = .ok (.getfield 26, 3) by decide +kernel) (by decide +kernel : zfld 12 26 = some (12, 9)) (hl.k2 zk_131) (hl.n2 zk_131) (zgetR (v := 137) (hl.r zrt_131_9) rfl)) ?_
  refine Iff.trans (zw_iload_n (show decode cX12_gameOf 45 = .ok (.iload_n 3, 1) by decide +kernel) rfl) ?_
  refine Iff.trans (zw_iald2 (show decode cX12_gameOf 46 = .ok (.iaload, 1) by decide +kernel) (hl.k2 zk_137) (hl.n2 zk_137) (hl.l2 zk_137 zl_137) (w := zI σ 137 (x3 : Int32).toNatClampNeg) rfl) ?_
  refine zw_and ?_
  refine Iff.trans (zw_aload_n (show decode cX12_gameOf 47 = .ok (.aload_n 0, 1) by decide +kernel) rfl) ?_
  refine Iff.trans (zw_get (show decode cX12_gameOf 48 = .ok (.getfield 29, 3) by decide +kernel) (by decide +kernel : zfld 12 29 = some (12, 10)) (hl.k2 zk_131) (hl.n2 zk_131) (zgetR (v := 138) (hl.r zrt_131_10) rfl)) ?_
  refine Iff.trans (zw_iload_n (show decode cX12_gameOf 51 = .ok (.iload_n 3, 1) by decide +kernel) rfl) ?_
  refine Iff.trans (zw_iald2 (show decode cX12_gameOf 52 = .ok (.iaload, 1) by decide +kernel) (hl.k2 zk_138) (hl.n2 zk_138) (hl.l2 zk_138 zl_138) (w := zI σ 138 (x3 : Int32).toNatClampNeg) rfl) ?_
  refine zw_and ?_
  refine Iff.trans (zw_iload (show decode cX12_gameOf 53 = .ok (.iload 5, 2) by decide +kernel) rfl) ?_
  refine Iff.trans (zw_invV (K' := kX12_join) (as' := [.int (zI σ 136 (x3 : Int32).toNatClampNeg), .int (zI σ 137 (x3 : Int32).toNatClampNeg), .int (zI σ 138 (x3 : Int32).toNatClampNeg), .int x5]) (rest := []) (show decode cX12_gameOf 55 = .ok (.invokevirtual 244, 3) by decide +kernel) (by rfl) rfl rfl rfl (hl.k2 zk_131) (by decide) (hl.n2 zk_131) ⟨Nat.le_of_ble_eq_true rfl, Nat.le_of_ble_eq_true rfl, Nat.le_of_ble_eq_true rfl⟩) ?_
  exact Iff.rfl

theorem bX12_gameOf_58 {d : Nat} {σ : zS} {Q : Option Value → zS → Prop} (hl : zLay σ) {x1 x2 x3 x4 x5 x6 : Int32} : zW (d + 1) kX12_gameOf 58 [.ref 131, .int x1, .int x2, .int x3, .int x4, .int x5, .int x6] [] σ Q ↔ zCall d kX12_sumOf [.ref 131, .int 0, .int x6, .int 1] σ (fun r σ' => zisN r = true ∧ zW (d + 1) kX12_gameOf 66 [.ref 131, .int x1, .int x2, .int x3, .int x4, .int x5, .int x6] (zRstk r ++ []) σ' Q) := by
  refine Iff.trans (zw_aload_n (show decode cX12_gameOf 58 = .ok (.aload_n 0, 1) by decide +kernel) rfl) ?_
  refine Iff.trans (zw_iconst (x := 0) (show decode cX12_gameOf 59 = .ok (.iconst 0, 1) by decide +kernel) (by decide)) ?_
  refine Iff.trans (zw_iload (show decode cX12_gameOf 60 = .ok (.iload 6, 2) by decide +kernel) rfl) ?_
  refine Iff.trans (zw_iconst (x := 1) (show decode cX12_gameOf 62 = .ok (.iconst 1, 1) by decide +kernel) (by decide)) ?_
  refine Iff.trans (zw_invV (K' := kX12_sumOf) (as' := [.int 0, .int x6, .int 1]) (rest := []) (show decode cX12_gameOf 63 = .ok (.invokevirtual 340, 3) by decide +kernel) (by rfl) rfl rfl rfl (hl.k2 zk_131) (by decide) (hl.n2 zk_131) ⟨Nat.le_of_ble_eq_true rfl, Nat.le_of_ble_eq_true rfl, Nat.le_of_ble_eq_true rfl⟩) ?_
  exact Iff.rfl

theorem bX12_gameOf_66 {d : Nat} {σ : zS} {Q : Option Value → zS → Prop} (hl : zLay σ) {x1 x2 x3 x4 x5 x6 y0 : Int32} : zW (d + 1) kX12_gameOf 66 [.ref 131, .int x1, .int x2, .int x3, .int x4, .int x5, .int x6] [.int y0] σ Q ↔ zCall d kX12_sumOf [.ref 131, .int 1, .int x6, .int 1] σ (fun r σ' => zisN r = true ∧ zW (d + 1) kX12_gameOf 74 [.ref 131, .int x1, .int x2, .int x3, .int x4, .int x5, .int x6] (zRstk r ++ [.int y0]) σ' Q) := by
  refine Iff.trans (zw_aload_n (show decode cX12_gameOf 66 = .ok (.aload_n 0, 1) by decide +kernel) rfl) ?_
  refine Iff.trans (zw_iconst (x := 1) (show decode cX12_gameOf 67 = .ok (.iconst 1, 1) by decide +kernel) (by decide)) ?_
  refine Iff.trans (zw_iload (show decode cX12_gameOf 68 = .ok (.iload 6, 2) by decide +kernel) rfl) ?_
  refine Iff.trans (zw_iconst (x := 1) (show decode cX12_gameOf 70 = .ok (.iconst 1, 1) by decide +kernel) (by decide)) ?_
  refine Iff.trans (zw_invV (K' := kX12_sumOf) (as' := [.int 1, .int x6, .int 1]) (rest := [.int y0]) (show decode cX12_gameOf 71 = .ok (.invokevirtual 340, 3) by decide +kernel) (by rfl) rfl rfl rfl (hl.k2 zk_131) (by decide) (hl.n2 zk_131) ⟨Nat.le_of_ble_eq_true rfl, Nat.le_of_ble_eq_true rfl, Nat.le_of_ble_eq_true rfl⟩) ?_
  exact Iff.rfl

theorem bX12_gameOf_74 {d : Nat} {σ : zS} {Q : Option Value → zS → Prop} (hl : zLay σ) {x1 x2 x3 x4 x5 x6 y0 y1 : Int32} : zW (d + 1) kX12_gameOf 74 [.ref 131, .int x1, .int x2, .int x3, .int x4, .int x5, .int x6] [.int y0, .int y1] σ Q ↔ Q (some (.int (y1 - y0))) σ := by
  refine Iff.trans (zw_isub (show decode cX12_gameOf 74 = .ok (.isub, 1) by decide +kernel)) ?_
  exact zw_iret1 (show decode cX12_gameOf 75 = .ok (.ireturn, 1) by decide +kernel) rfl

theorem bX12_areApart_0 {d : Nat} {σ : zS} {Q : Option Value → zS → Prop} (hl : zLay σ) {x0 x1 x2 x3 : Int32} : zCall d kX12_areApart [.int x0, .int x1, .int x2, .int x3] σ Q ↔ (if (x0 + x1) ≤ x2 then Q (some (.int 1)) σ else (if x0 < (x2 + x3) then Q (some (.int 0)) σ else Q (some (.int 1)) σ)) := by
  show zW d kX12_areApart 0 [.int x0, .int x1, .int x2, .int x3] [] σ Q ↔ _
  refine Iff.trans (zw_iload_n (show decode cX12_areApart 0 = .ok (.iload_n 0, 1) by decide +kernel) rfl) ?_
  refine Iff.trans (zw_iload_n (show decode cX12_areApart 1 = .ok (.iload_n 1, 1) by decide +kernel) rfl) ?_
  refine Iff.trans (zw_iadd (show decode cX12_areApart 2 = .ok (.iadd, 1) by decide +kernel)) ?_
  refine Iff.trans (zw_iload_n (show decode cX12_areApart 3 = .ok (.iload_n 2, 1) by decide +kernel) rfl) ?_
  refine Iff.trans (zw_icmp_le (t := 14) (show decode cX12_areApart 4 = .ok (.if_icmp .le 10, 3) by decide +kernel) (by decide)) ?_
  refine zw_ite ?_ ?_
  · refine Iff.trans (zw_iconst (x := 1) (show decode cX12_areApart 14 = .ok (.iconst 1, 1) by decide +kernel) (by decide)) ?_
    refine Iff.trans (zw_goto (t := 19) (show decode cX12_areApart 15 = .ok (.goto 4, 3) by decide +kernel) (by decide)) ?_
    exact zw_iret2c (show decode cX12_areApart 19 = .ok (.ireturn, 1) by decide +kernel) rfl (Or.inr rfl)
  · refine Iff.trans (zw_iload_n (show decode cX12_areApart 7 = .ok (.iload_n 2, 1) by decide +kernel) rfl) ?_
    refine Iff.trans (zw_iload_n (show decode cX12_areApart 8 = .ok (.iload_n 3, 1) by decide +kernel) rfl) ?_
    refine Iff.trans (zw_iadd (show decode cX12_areApart 9 = .ok (.iadd, 1) by decide +kernel)) ?_
    refine Iff.trans (zw_iload_n (show decode cX12_areApart 10 = .ok (.iload_n 0, 1) by decide +kernel) rfl) ?_
    refine Iff.trans (zw_icmp_gt (t := 18) (show decode cX12_areApart 11 = .ok (.if_icmp .gt 7, 3) by decide +kernel) (by decide)) ?_
    refine zw_ite ?_ ?_
    · refine Iff.trans (zw_iconst (x := 0) (show decode cX12_areApart 18 = .ok (.iconst 0, 1) by decide +kernel) (by decide)) ?_
      exact zw_iret2c (show decode cX12_areApart 19 = .ok (.ireturn, 1) by decide +kernel) rfl (Or.inl rfl)
    · refine Iff.trans (zw_iconst (x := 1) (show decode cX12_areApart 14 = .ok (.iconst 1, 1) by decide +kernel) (by decide)) ?_
      refine Iff.trans (zw_goto (t := 19) (show decode cX12_areApart 15 = .ok (.goto 4, 3) by decide +kernel) (by decide)) ?_
      exact zw_iret2c (show decode cX12_areApart 19 = .ok (.ireturn, 1) by decide +kernel) rfl (Or.inr rfl)

theorem bX12_choice_0 {d : Nat} {σ : zS} {Q : Option Value → zS → Prop} (hl : zLay σ) {x1 x2 x3 x4 x5 : Int32} : zCall (d + 1) kX12_choice [.ref 131, .int x1, .int x2, .int x3, .int x4, .int x5] σ Q ↔ zCall d kX12_isBrook [.ref 131, .int x1] (zsI σ 131 (upd (zI σ 131) 0 0)) (fun r σ' => zisN r = true ∧ zW (d + 1) kX12_choice 10 [.ref 131, .int x1, .int x2, .int x3, .int x4, .int x5, .retAddr 0, .retAddr 0, .retAddr 0, .retAddr 0, .retAddr 0, .retAddr 0, .retAddr 0, .retAddr 0] (zRstk r ++ []) σ' Q) := by
  show zW (d + 1) kX12_choice 0 [.ref 131, .int x1, .int x2, .int x3, .int x4, .int x5, .retAddr 0, .retAddr 0, .retAddr 0, .retAddr 0, .retAddr 0, .retAddr 0, .retAddr 0, .retAddr 0] [] σ Q ↔ _
  refine Iff.trans (zw_aload_n (show decode cX12_choice 0 = .ok (.aload_n 0, 1) by decide +kernel) rfl) ?_
  refine Iff.trans (zw_iconst (x := 0) (show decode cX12_choice 1 = .ok (.iconst 0, 1) by decide +kernel) (by decide)) ?_
  refine Iff.trans (zw_putI (show decode cX12_choice 2 = .ok (.putfield 118, 3) by decide +kernel) (by decide +kernel : zfld 12 118 = some (12, 0)) (hl.k2 zk_131) (hl.n2 zk_131) rfl (Or.inl rfl) (σ' := (zsI σ 131 (upd (zI σ 131) 0 0))) rfl) ?_
  refine Iff.trans (zw_aload_n (show decode cX12_choice 5 = .ok (.aload_n 0, 1) by decide +kernel) rfl) ?_
  refine Iff.trans (zw_iload_n (show decode cX12_choice 6 = .ok (.iload_n 1, 1) by decide +kernel) rfl) ?_
  refine Iff.trans (zw_invV (K' := kX12_isBrook) (as' := [.int x1]) (rest := []) (show decode cX12_choice 7 = .ok (.invokevirtual 193, 3) by decide +kernel) (by rfl) rfl rfl rfl (hl.I.k2 zk_131) (by decide) (hl.I.n2 zk_131) ⟨Nat.le_of_ble_eq_true rfl, Nat.le_of_ble_eq_true rfl, Nat.le_of_ble_eq_true rfl⟩) ?_
  exact Iff.rfl

theorem bX12_choice_10 {d : Nat} {σ : zS} {Q : Option Value → zS → Prop} (hl : zLay σ) {x1 x2 x3 x4 x5 y0 : Int32} : zW (d + 1) kX12_choice 10 [.ref 131, .int x1, .int x2, .int x3, .int x4, .int x5, .retAddr 0, .retAddr 0, .retAddr 0, .retAddr 0, .retAddr 0, .retAddr 0, .retAddr 0, .retAddr 0] [.int y0] σ Q ↔ (if y0 = (0 : Int32) then Q (some (.int (-1000))) σ else zCall d kX12_isStick [.ref 131, .int x2] σ (fun r σ' => zisN r = true ∧ zW (d + 1) kX12_choice 18 [.ref 131, .int x1, .int x2, .int x3, .int x4, .int x5, .retAddr 0, .retAddr 0, .retAddr 0, .retAddr 0, .retAddr 0, .retAddr 0, .retAddr 0, .retAddr 0] (zRstk r ++ []) σ' Q)) := by
  refine Iff.trans (zw_if_eq (t := 50) (show decode cX12_choice 10 = .ok (.ifCond .eq 40, 3) by decide +kernel) (by decide)) ?_
  refine zw_ite ?_ ?_
  · refine Iff.trans (zw_sipush (x := (-1000)) (show decode cX12_choice 50 = .ok (.sipush (-1000), 3) by decide +kernel) (by decide)) ?_
    exact zw_iret1 (show decode cX12_choice 53 = .ok (.ireturn, 1) by decide +kernel) rfl
  · refine Iff.trans (zw_aload_n (show decode cX12_choice 13 = .ok (.aload_n 0, 1) by decide +kernel) rfl) ?_
    refine Iff.trans (zw_iload_n (show decode cX12_choice 14 = .ok (.iload_n 2, 1) by decide +kernel) rfl) ?_
    refine Iff.trans (zw_invV (K' := kX12_isStick) (as' := [.int x2]) (rest := []) (show decode cX12_choice 15 = .ok (.invokevirtual 209, 3) by decide +kernel) (by rfl) rfl rfl rfl (hl.k2 zk_131) (by decide) (hl.n2 zk_131) ⟨Nat.le_of_ble_eq_true rfl, Nat.le_of_ble_eq_true rfl, Nat.le_of_ble_eq_true rfl⟩) ?_
    exact Iff.rfl

theorem bX12_choice_18 {d : Nat} {σ : zS} {Q : Option Value → zS → Prop} (hl : zLay σ) {x1 x2 x3 x4 x5 y0 : Int32} : zW (d + 1) kX12_choice 18 [.ref 131, .int x1, .int x2, .int x3, .int x4, .int x5, .retAddr 0, .retAddr 0, .retAddr 0, .retAddr 0, .retAddr 0, .retAddr 0, .retAddr 0, .retAddr 0] [.int y0] σ Q ↔ (if y0 = (0 : Int32) then Q (some (.int (-1000))) σ else zCall d kX12_isStick [.ref 131, .int x3] σ (fun r σ' => zisN r = true ∧ zW (d + 1) kX12_choice 26 [.ref 131, .int x1, .int x2, .int x3, .int x4, .int x5, .retAddr 0, .retAddr 0, .retAddr 0, .retAddr 0, .retAddr 0, .retAddr 0, .retAddr 0, .retAddr 0] (zRstk r ++ []) σ' Q)) := by
  refine Iff.trans (zw_if_eq (t := 50) (show decode cX12_choice 18 = .ok (.ifCond .eq 32, 3) by decide +kernel) (by decide)) ?_
  refine zw_ite ?_ ?_
  · refine Iff.trans (zw_sipush (x := (-1000)) (show decode cX12_choice 50 = .ok (.sipush (-1000), 3) by decide +kernel) (by decide)) ?_
    exact zw_iret1 (show decode cX12_choice 53 = .ok (.ireturn, 1) by decide +kernel) rfl
  · refine Iff.trans (zw_aload_n (show decode cX12_choice 21 = .ok (.aload_n 0, 1) by decide +kernel) rfl) ?_
    refine Iff.trans (zw_iload_n (show decode cX12_choice 22 = .ok (.iload_n 3, 1) by decide +kernel) rfl) ?_
    refine Iff.trans (zw_invV (K' := kX12_isStick) (as' := [.int x3]) (rest := []) (show decode cX12_choice 23 = .ok (.invokevirtual 209, 3) by decide +kernel) (by rfl) rfl rfl rfl (hl.k2 zk_131) (by decide) (hl.n2 zk_131) ⟨Nat.le_of_ble_eq_true rfl, Nat.le_of_ble_eq_true rfl, Nat.le_of_ble_eq_true rfl⟩) ?_
    exact Iff.rfl

theorem bX12_choice_26 {d : Nat} {σ : zS} {Q : Option Value → zS → Prop} (hl : zLay σ) {x1 x2 x3 x4 x5 y0 : Int32} : zW (d + 1) kX12_choice 26 [.ref 131, .int x1, .int x2, .int x3, .int x4, .int x5, .retAddr 0, .retAddr 0, .retAddr 0, .retAddr 0, .retAddr 0, .retAddr 0, .retAddr 0, .retAddr 0] [.int y0] σ Q ↔ (if y0 = (0 : Int32) then Q (some (.int (-1000))) σ else zCall d kX12_isIn [.int x4, .int 1, .int 40] σ (fun r σ' => zisN r = true ∧ zW (d + 1) kX12_choice 37 [.ref 131, .int x1, .int x2, .int x3, .int x4, .int x5, .retAddr 0, .retAddr 0, .retAddr 0, .retAddr 0, .retAddr 0, .retAddr 0, .retAddr 0, .retAddr 0] (zRstk r ++ []) σ' Q)) := by
  refine Iff.trans (zw_if_eq (t := 50) (show decode cX12_choice 26 = .ok (.ifCond .eq 24, 3) by decide +kernel) (by decide)) ?_
  refine zw_ite ?_ ?_
  · refine Iff.trans (zw_sipush (x := (-1000)) (show decode cX12_choice 50 = .ok (.sipush (-1000), 3) by decide +kernel) (by decide)) ?_
    exact zw_iret1 (show decode cX12_choice 53 = .ok (.ireturn, 1) by decide +kernel) rfl
  · refine Iff.trans (zw_iload (show decode cX12_choice 29 = .ok (.iload 4, 2) by decide +kernel) rfl) ?_
    refine Iff.trans (zw_iconst (x := 1) (show decode cX12_choice 31 = .ok (.iconst 1, 1) by decide +kernel) (by decide)) ?_
    refine Iff.trans (zw_bipush (x := 40) (show decode cX12_choice 32 = .ok (.bipush 40, 2) by decide +kernel) (by decide)) ?_
    refine Iff.trans (zw_invS (K' := kX12_isIn) (as := [.int x4, .int 1, .int 40]) (rest := []) (show decode cX12_choice 34 = .ok (.invokestatic 163, 3) by decide +kernel) (by rfl) rfl rfl rfl ⟨Nat.le_of_ble_eq_true rfl, Nat.le_of_ble_eq_true rfl, Nat.le_of_ble_eq_true rfl⟩) ?_
    exact Iff.rfl

theorem bX12_choice_37 {d : Nat} {σ : zS} {Q : Option Value → zS → Prop} (hl : zLay σ) {x1 x2 x3 x4 x5 y0 : Int32} : zW (d + 1) kX12_choice 37 [.ref 131, .int x1, .int x2, .int x3, .int x4, .int x5, .retAddr 0, .retAddr 0, .retAddr 0, .retAddr 0, .retAddr 0, .retAddr 0, .retAddr 0, .retAddr 0] [.int y0] σ Q ↔ (if y0 = (0 : Int32) then Q (some (.int (-1000))) σ else zCall d kX12_isIn [.int x5, .int 0, .int 2] σ (fun r σ' => zisN r = true ∧ zW (d + 1) kX12_choice 47 [.ref 131, .int x1, .int x2, .int x3, .int x4, .int x5, .retAddr 0, .retAddr 0, .retAddr 0, .retAddr 0, .retAddr 0, .retAddr 0, .retAddr 0, .retAddr 0] (zRstk r ++ []) σ' Q)) := by
  refine Iff.trans (zw_if_eq (t := 50) (show decode cX12_choice 37 = .ok (.ifCond .eq 13, 3) by decide +kernel) (by decide)) ?_
  refine zw_ite ?_ ?_
  · refine Iff.trans (zw_sipush (x := (-1000)) (show decode cX12_choice 50 = .ok (.sipush (-1000), 3) by decide +kernel) (by decide)) ?_
    exact zw_iret1 (show decode cX12_choice 53 = .ok (.ireturn, 1) by decide +kernel) rfl
  · refine Iff.trans (zw_iload (show decode cX12_choice 40 = .ok (.iload 5, 2) by decide +kernel) rfl) ?_
    refine Iff.trans (zw_iconst (x := 0) (show decode cX12_choice 42 = .ok (.iconst 0, 1) by decide +kernel) (by decide)) ?_
    refine Iff.trans (zw_iconst (x := 2) (show decode cX12_choice 43 = .ok (.iconst 2, 1) by decide +kernel) (by decide)) ?_
    refine Iff.trans (zw_invS (K' := kX12_isIn) (as := [.int x5, .int 0, .int 2]) (rest := []) (show decode cX12_choice 44 = .ok (.invokestatic 163, 3) by decide +kernel) (by rfl) rfl rfl rfl ⟨Nat.le_of_ble_eq_true rfl, Nat.le_of_ble_eq_true rfl, Nat.le_of_ble_eq_true rfl⟩) ?_
    exact Iff.rfl

theorem bX12_choice_47 {d : Nat} {σ : zS} {Q : Option Value → zS → Prop} (hl : zLay σ) {x1 x2 x3 x4 x5 y0 : Int32} : zW (d + 1) kX12_choice 47 [.ref 131, .int x1, .int x2, .int x3, .int x4, .int x5, .retAddr 0, .retAddr 0, .retAddr 0, .retAddr 0, .retAddr 0, .retAddr 0, .retAddr 0, .retAddr 0] [.int y0] σ Q ↔ (if y0 = (0 : Int32) then Q (some (.int (-1000))) σ else zCall d kX12_keepRace [.ref 131] σ (fun r σ' => zisN r = true ∧ zW (d + 1) kX12_choice 67 [.ref 131, .int x1, .int x2, .int x3, .int x4, .int x5, .int (-1), .int (-1), .int 0, .retAddr 0, .retAddr 0, .retAddr 0, .retAddr 0, .retAddr 0] (zRstk r ++ []) σ' Q)) := by
  refine Iff.trans (zw_if_ne (t := 54) (show decode cX12_choice 47 = .ok (.ifCond .ne 7, 3) by decide +kernel) (by decide)) ?_
  refine zw_ite ?_ ?_
  · refine Iff.trans (zw_sipush (x := (-1000)) (show decode cX12_choice 50 = .ok (.sipush (-1000), 3) by decide +kernel) (by decide)) ?_
    exact zw_iret1 (show decode cX12_choice 53 = .ok (.ireturn, 1) by decide +kernel) rfl
  · refine Iff.trans (zw_iconst (x := (-1)) (show decode cX12_choice 54 = .ok (.iconst (-1), 1) by decide +kernel) (by decide)) ?_
    refine Iff.trans (zw_istore (ls' := [.ref 131, .int x1, .int x2, .int x3, .int x4, .int x5, .int (-1), .retAddr 0, .retAddr 0, .retAddr 0, .retAddr 0, .retAddr 0, .retAddr 0, .retAddr 0]) (show decode cX12_choice 55 = .ok (.istore 6, 2) by decide +kernel) (zset_s (Nat.le_of_ble_eq_true rfl) rfl)) ?_
    refine Iff.trans (zw_iconst (x := (-1)) (show decode cX12_choice 57 = .ok (.iconst (-1), 1) by decide +kernel) (by decide)) ?_
    refine Iff.trans (zw_istore (ls' := [.ref 131, .int x1, .int x2, .int x3, .int x4, .int x5, .int (-1), .int (-1), .retAddr 0, .retAddr 0, .retAddr 0, .retAddr 0, .retAddr 0, .retAddr 0]) (show decode cX12_choice 58 = .ok (.istore 7, 2) by decide +kernel) (zset_s (Nat.le_of_ble_eq_true rfl) rfl)) ?_
    refine Iff.trans (zw_iconst (x := 0) (show decode cX12_choice 60 = .ok (.iconst 0, 1) by decide +kernel) (by decide)) ?_
    refine Iff.trans (zw_istore (ls' := [.ref 131, .int x1, .int x2, .int x3, .int x4, .int x5, .int (-1), .int (-1), .int 0, .retAddr 0, .retAddr 0, .retAddr 0, .retAddr 0, .retAddr 0]) (show decode cX12_choice 61 = .ok (.istore 8, 2) by decide +kernel) (zset_s (Nat.le_of_ble_eq_true rfl) rfl)) ?_
    refine Iff.trans (zw_aload_n (show decode cX12_choice 63 = .ok (.aload_n 0, 1) by decide +kernel) rfl) ?_
    refine Iff.trans (zw_invV (K' := kX12_keepRace) (as' := []) (rest := []) (show decode cX12_choice 64 = .ok (.invokevirtual 337, 3) by decide +kernel) (by rfl) rfl rfl rfl (hl.k2 zk_131) (by decide) (hl.n2 zk_131) ⟨Nat.le_of_ble_eq_true rfl, Nat.le_of_ble_eq_true rfl, Nat.le_of_ble_eq_true rfl⟩) ?_
    exact Iff.rfl

theorem bX12_choice_67 {d : Nat} {σ : zS} {Q : Option Value → zS → Prop} (hl : zLay σ) {x1 x2 x3 x4 x5 x6 x7 x8 : Int32} : zW (d + 1) kX12_choice 67 [.ref 131, .int x1, .int x2, .int x3, .int x4, .int x5, .int x6, .int x7, .int x8, .retAddr 0, .retAddr 0, .retAddr 0, .retAddr 0, .retAddr 0] [] σ Q ↔ zW (d + 1) kX12_choice 70 [.ref 131, .int x1, .int x2, .int x3, .int x4, .int x5, .int x6, .int x7, .int x8, .int 0, .retAddr 0, .retAddr 0, .retAddr 0, .retAddr 0] [] σ Q := by
  refine Iff.trans (zw_iconst (x := 0) (show decode cX12_choice 67 = .ok (.iconst 0, 1) by decide +kernel) (by decide)) ?_
  refine Iff.trans (zw_istore (ls' := [.ref 131, .int x1, .int x2, .int x3, .int x4, .int x5, .int x6, .int x7, .int x8, .int 0, .retAddr 0, .retAddr 0, .retAddr 0, .retAddr 0]) (show decode cX12_choice 68 = .ok (.istore 9, 2) by decide +kernel) (zset_s (Nat.le_of_ble_eq_true rfl) rfl)) ?_
  exact Iff.rfl

theorem bX12_choice_70 {d : Nat} {σ : zS} {Q : Option Value → zS → Prop} (hl : zLay σ) {x1 x2 x3 x4 x5 x6 x7 x8 x9 : Int32} {v10 v11 v12 v13 : Value} (hv10 : v10.category = 1) (hv11 : v11.category = 1) (hv12 : v12.category = 1) (hv13 : v13.category = 1) : zW (d + 1) kX12_choice 70 [.ref 131, .int x1, .int x2, .int x3, .int x4, .int x5, .int x6, .int x7, .int x8, .int x9, v10, v11, v12, v13] [] σ Q ↔ (vp_in x1 7 ∧ (if (zI σ 134 (x1 : Int32).toNatClampNeg) ≤ x9 then zCall d kX12_putBack [.ref 131] σ (fun r σ' => zisN r = true ∧ zW (d + 1) kX12_choice 237 [.ref 131, .int x1, .int x2, .int x3, .int x4, .int x5, .int x6, .int x7, .int x8, .int x9, v10, v11, v12, v13] (zRstk r ++ []) σ' Q) else zW (d + 1) kX12_choice 90 [.ref 131, .int x1, .int x2, .int x3, .int x4, .int x5, .int x6, .int x7, .int x8, .int x9, .int (-1), .int 0, .int 0, v13] [] σ Q)) := by
  refine Iff.trans (zw_iload (show decode cX12_choice 70 = .ok (.iload 9, 2) by decide +kernel) rfl) ?_
  refine Iff.trans (zw_aload_n (show decode cX12_choice 72 = .ok (.aload_n 0, 1) by decide +kernel) rfl) ?_
  refine Iff.trans (zw_get (show decode cX12_choice 73 = .ok (.getfield 17, 3) by decide +kernel) (by decide +kernel : zfld 12 17 = some (12, 6)) (hl.k2 zk_131) (hl.n2 zk_131) (zgetR (v := 134) (hl.r zrt_131_6) rfl)) ?_
  refine Iff.trans (zw_iload_n (show decode cX12_choice 76 = .ok (.iload_n 1, 1) by decide +kernel) rfl) ?_
  refine Iff.trans (zw_iald2 (show decode cX12_choice 77 = .ok (.iaload, 1) by decide +kernel) (hl.k2 zk_134) (hl.n2 zk_134) (hl.l2 zk_134 zl_134) (w := zI σ 134 (x1 : Int32).toNatClampNeg) rfl) ?_
  refine zw_and ?_
  refine Iff.trans (zw_icmp_ge (t := 233) (show decode cX12_choice 78 = .ok (.if_icmp .ge 155, 3) by decide +kernel) (by decide)) ?_
  refine zw_ite ?_ ?_
  · refine Iff.trans (zw_aload_n (show decode cX12_choice 233 = .ok (.aload_n 0, 1) by decide +kernel) rfl) ?_
    refine Iff.trans (zw_invV (K' := kX12_putBack) (as' := []) (rest := []) (show decode cX12_choice 234 = .ok (.invokevirtual 344, 3) by decide +kernel) (by rfl) rfl rfl rfl (hl.k2 zk_131) (by decide) (hl.n2 zk_131) ⟨Nat.le_of_ble_eq_true rfl, Nat.le_of_ble_eq_true rfl, Nat.le_of_ble_eq_true rfl⟩) ?_
    exact Iff.rfl
  · refine Iff.trans (zw_iconst (x := (-1)) (show decode cX12_choice 81 = .ok (.iconst (-1), 1) by decide +kernel) (by decide)) ?_
    refine Iff.trans (zw_istore (ls' := [.ref 131, .int x1, .int x2, .int x3, .int x4, .int x5, .int x6, .int x7, .int x8, .int x9, .int (-1), v11, v12, v13]) (show decode cX12_choice 82 = .ok (.istore 10, 2) by decide +kernel) (zset_s (Nat.le_of_ble_eq_true rfl) rfl)) ?_
    refine Iff.trans (zw_iconst (x := 0) (show decode cX12_choice 84 = .ok (.iconst 0, 1) by decide +kernel) (by decide)) ?_
    refine Iff.trans (zw_istore (ls' := [.ref 131, .int x1, .int x2, .int x3, .int x4, .int x5, .int x6, .int x7, .int x8, .int x9, .int (-1), .int 0, v12, v13]) (show decode cX12_choice 85 = .ok (.istore 11, 2) by decide +kernel) (zset_s (Nat.le_of_ble_eq_true rfl) rfl)) ?_
    refine Iff.trans (zw_iconst (x := 0) (show decode cX12_choice 87 = .ok (.iconst 0, 1) by decide +kernel) (by decide)) ?_
    refine Iff.trans (zw_istore (ls' := [.ref 131, .int x1, .int x2, .int x3, .int x4, .int x5, .int x6, .int x7, .int x8, .int x9, .int (-1), .int 0, .int 0, v13]) (show decode cX12_choice 88 = .ok (.istore 12, 2) by decide +kernel) (zset_s (Nat.le_of_ble_eq_true rfl) rfl)) ?_
    exact Iff.rfl

theorem bX12_choice_90 {d : Nat} {σ : zS} {Q : Option Value → zS → Prop} (hl : zLay σ) {x1 x2 x3 x4 x5 x6 x7 x8 x9 x10 x11 x12 : Int32} {v13 : Value} (hv13 : v13.category = 1) : zW (d + 1) kX12_choice 90 [.ref 131, .int x1, .int x2, .int x3, .int x4, .int x5, .int x6, .int x7, .int x8, .int x9, .int x10, .int x11, .int x12, v13] [] σ Q ↔ (vp_in x1 7 ∧ (if (zI σ 134 (x1 : Int32).toNatClampNeg) ≤ x12 then (if x10 = (-1) then zW (d + 1) kX12_choice 70 [.ref 131, .int x1, .int x2, .int x3, .int x4, .int x5, .int x6, .int x7, .int x8, .int (x9 + 1), .int x10, .int x11, .int x12, v13] [] σ Q else (if x6 = (-1) then zW (d + 1) kX12_choice 215 [.ref 131, .int x1, .int x2, .int x3, .int x4, .int x5, .int x6, .int x7, .int x8, .int x9, .int x10, .int x11, .int x12, v13] [] σ Q else (if x8 < x11 then zW (d + 1) kX12_choice 215 [.ref 131, .int x1, .int x2, .int x3, .int x4, .int x5, .int x6, .int x7, .int x8, .int x9, .int x10, .int x11, .int x12, v13] [] σ Q else zW (d + 1) kX12_choice 70 [.ref 131, .int x1, .int x2, .int x3, .int x4, .int x5, .int x6, .int x7, .int x8, .int (x9 + 1), .int x10, .int x11, .int x12, v13] [] σ Q))) else zCall d kX12_canBegin [.ref 131, .int x1, .int x2, .int x9] σ (fun r σ' => zisN r = true ∧ zW (d + 1) kX12_choice 109 [.ref 131, .int x1, .int x2, .int x3, .int x4, .int x5, .int x6, .int x7, .int x8, .int x9, .int x10, .int x11, .int x12, v13] (zRstk r ++ []) σ' Q))) := by
  refine Iff.trans (zw_iload (show decode cX12_choice 90 = .ok (.iload 12, 2) by decide +kernel) rfl) ?_
  refine Iff.trans (zw_aload_n (show decode cX12_choice 92 = .ok (.aload_n 0, 1) by decide +kernel) rfl) ?_
  refine Iff.trans (zw_get (show decode cX12_choice 93 = .ok (.getfield 17, 3) by decide +kernel) (by decide +kernel : zfld 12 17 = some (12, 6)) (hl.k2 zk_131) (hl.n2 zk_131) (zgetR (v := 134) (hl.r zrt_131_6) rfl)) ?_
  refine Iff.trans (zw_iload_n (show decode cX12_choice 96 = .ok (.iload_n 1, 1) by decide +kernel) rfl) ?_
  refine Iff.trans (zw_iald2 (show decode cX12_choice 97 = .ok (.iaload, 1) by decide +kernel) (hl.k2 zk_134) (hl.n2 zk_134) (hl.l2 zk_134 zl_134) (w := zI σ 134 (x1 : Int32).toNatClampNeg) rfl) ?_
  refine zw_and ?_
  refine Iff.trans (zw_icmp_ge (t := 193) (show decode cX12_choice 98 = .ok (.if_icmp .ge 95, 3) by decide +kernel) (by decide)) ?_
  refine zw_ite ?_ ?_
  · refine Iff.trans (zw_iload (show decode cX12_choice 193 = .ok (.iload 10, 2) by decide +kernel) rfl) ?_
    refine Iff.trans (zw_iconst (x := (-1)) (show decode cX12_choice 195 = .ok (.iconst (-1), 1) by decide +kernel) (by decide)) ?_
    refine Iff.trans (zw_icmp_eq (t := 227) (show decode cX12_choice 196 = .ok (.if_icmp .eq 31, 3) by decide +kernel) (by decide)) ?_
    refine zw_ite ?_ ?_
    · refine Iff.trans (zw_iinc (w := 1) (ls' := [.ref 131, .int x1, .int x2, .int x3, .int x4, .int x5, .int x6, .int x7, .int x8, .int (x9 + 1), .int x10, .int x11, .int x12, v13]) (show decode cX12_choice 227 = .ok (.iinc 9 1, 3) by decide +kernel) rfl (by decide) (zset_s (Nat.le_of_ble_eq_true rfl) rfl)) ?_
      refine Iff.trans (zw_goto (t := 70) (show decode cX12_choice 230 = .ok (.goto (-160), 3) by decide +kernel) (by decide)) ?_
      exact Iff.rfl
    · refine Iff.trans (zw_iload (show decode cX12_choice 199 = .ok (.iload 6, 2) by decide +kernel) rfl) ?_
      refine Iff.trans (zw_iconst (x := (-1)) (show decode cX12_choice 201 = .ok (.iconst (-1), 1) by decide +kernel) (by decide)) ?_
      refine Iff.trans (zw_icmp_eq (t := 215) (show decode cX12_choice 202 = .ok (.if_icmp .eq 13, 3) by decide +kernel) (by decide)) ?_
      refine zw_ite ?_ ?_
      · exact Iff.rfl
      · refine Iff.trans (zw_iload (show decode cX12_choice 205 = .ok (.iload 11, 2) by decide +kernel) rfl) ?_
        refine Iff.trans (zw_iload (show decode cX12_choice 207 = .ok (.iload 8, 2) by decide +kernel) rfl) ?_
        refine Iff.trans (zw_icmp_gt (t := 215) (show decode cX12_choice 209 = .ok (.if_icmp .gt 6, 3) by decide +kernel) (by decide)) ?_
        refine zw_ite ?_ ?_
        · exact Iff.rfl
        · refine Iff.trans (zw_goto (t := 227) (show decode cX12_choice 212 = .ok (.goto 15, 3) by decide +kernel) (by decide)) ?_
          refine Iff.trans (zw_iinc (w := 1) (ls' := [.ref 131, .int x1, .int x2, .int x3, .int x4, .int x5, .int x6, .int x7, .int x8, .int (x9 + 1), .int x10, .int x11, .int x12, v13]) (show decode cX12_choice 227 = .ok (.iinc 9 1, 3) by decide +kernel) rfl (by decide) (zset_s (Nat.le_of_ble_eq_true rfl) rfl)) ?_
          refine Iff.trans (zw_goto (t := 70) (show decode cX12_choice 230 = .ok (.goto (-160), 3) by decide +kernel) (by decide)) ?_
          exact Iff.rfl
  · refine Iff.trans (zw_aload_n (show decode cX12_choice 101 = .ok (.aload_n 0, 1) by decide +kernel) rfl) ?_
    refine Iff.trans (zw_iload_n (show decode cX12_choice 102 = .ok (.iload_n 1, 1) by decide +kernel) rfl) ?_
    refine Iff.trans (zw_iload_n (show decode cX12_choice 103 = .ok (.iload_n 2, 1) by decide +kernel) rfl) ?_
    refine Iff.trans (zw_iload (show decode cX12_choice 104 = .ok (.iload 9, 2) by decide +kernel) rfl) ?_
    refine Iff.trans (zw_invV (K' := kX12_canBegin) (as' := [.int x1, .int x2, .int x9]) (rest := []) (show decode cX12_choice 106 = .ok (.invokevirtual 357, 3) by decide +kernel) (by rfl) rfl rfl rfl (hl.k2 zk_131) (by decide) (hl.n2 zk_131) ⟨Nat.le_of_ble_eq_true rfl, Nat.le_of_ble_eq_true rfl, Nat.le_of_ble_eq_true rfl⟩) ?_
    exact Iff.rfl

theorem bX12_choice_109 {d : Nat} {σ : zS} {Q : Option Value → zS → Prop} (hl : zLay σ) {x1 x2 x3 x4 x5 x6 x7 x8 x9 x10 x11 x12 y0 : Int32} {v13 : Value} (hv13 : v13.category = 1) : zW (d + 1) kX12_choice 109 [.ref 131, .int x1, .int x2, .int x3, .int x4, .int x5, .int x6, .int x7, .int x8, .int x9, .int x10, .int x11, .int x12, v13] [.int y0] σ Q ↔ (if y0 = (0 : Int32) then zW (d + 1) kX12_choice 90 [.ref 131, .int x1, .int x2, .int x3, .int x4, .int x5, .int x6, .int x7, .int x8, .int x9, .int x10, .int x11, .int (x12 + 1), v13] [] σ Q else zCall d kX12_canBegin [.ref 131, .int x1, .int x3, .int x12] σ (fun r σ' => zisN r = true ∧ zW (d + 1) kX12_choice 120 [.ref 131, .int x1, .int x2, .int x3, .int x4, .int x5, .int x6, .int x7, .int x8, .int x9, .int x10, .int x11, .int x12, v13] (zRstk r ++ []) σ' Q)) := by
  refine Iff.trans (zw_if_eq (t := 187) (show decode cX12_choice 109 = .ok (.ifCond .eq 78, 3) by decide +kernel) (by decide)) ?_
  refine zw_ite ?_ ?_
  · refine Iff.trans (zw_iinc (w := 1) (ls' := [.ref 131, .int x1, .int x2, .int x3, .int x4, .int x5, .int x6, .int x7, .int x8, .int x9, .int x10, .int x11, .int (x12 + 1), v13]) (show decode cX12_choice 187 = .ok (.iinc 12 1, 3) by decide +kernel) rfl (by decide) (zset_s (Nat.le_of_ble_eq_true rfl) rfl)) ?_
    refine Iff.trans (zw_goto (t := 90) (show decode cX12_choice 190 = .ok (.goto (-100), 3) by decide +kernel) (by decide)) ?_
    exact Iff.rfl
  · refine Iff.trans (zw_aload_n (show decode cX12_choice 112 = .ok (.aload_n 0, 1) by decide +kernel) rfl) ?_
    refine Iff.trans (zw_iload_n (show decode cX12_choice 113 = .ok (.iload_n 1, 1) by decide +kernel) rfl) ?_
    refine Iff.trans (zw_iload_n (show decode cX12_choice 114 = .ok (.iload_n 3, 1) by decide +kernel) rfl) ?_
    refine Iff.trans (zw_iload (show decode cX12_choice 115 = .ok (.iload 12, 2) by decide +kernel) rfl) ?_
    refine Iff.trans (zw_invV (K' := kX12_canBegin) (as' := [.int x1, .int x3, .int x12]) (rest := []) (show decode cX12_choice 117 = .ok (.invokevirtual 357, 3) by decide +kernel) (by rfl) rfl rfl rfl (hl.k2 zk_131) (by decide) (hl.n2 zk_131) ⟨Nat.le_of_ble_eq_true rfl, Nat.le_of_ble_eq_true rfl, Nat.le_of_ble_eq_true rfl⟩) ?_
    exact Iff.rfl

theorem bX12_choice_120 {d : Nat} {σ : zS} {Q : Option Value → zS → Prop} (hl : zLay σ) {x1 x2 x3 x4 x5 x6 x7 x8 x9 x10 x11 x12 y0 : Int32} {v13 : Value} (hv13 : v13.category = 1) : zW (d + 1) kX12_choice 120 [.ref 131, .int x1, .int x2, .int x3, .int x4, .int x5, .int x6, .int x7, .int x8, .int x9, .int x10, .int x11, .int x12, v13] [.int y0] σ Q ↔ (if y0 = (0 : Int32) then zW (d + 1) kX12_choice 90 [.ref 131, .int x1, .int x2, .int x3, .int x4, .int x5, .int x6, .int x7, .int x8, .int x9, .int x10, .int x11, .int (x12 + 1), v13] [] σ Q else (vp_in x2 11 ∧ (vp_in x3 11 ∧ zCall d kX12_areApart [.int x9, .int (zI σ 136 (x2 : Int32).toNatClampNeg), .int x12, .int (zI σ 136 (x3 : Int32).toNatClampNeg)] σ (fun r σ' => zisN r = true ∧ zW (d + 1) kX12_choice 142 [.ref 131, .int x1, .int x2, .int x3, .int x4, .int x5, .int x6, .int x7, .int x8, .int x9, .int x10, .int x11, .int x12, v13] (zRstk r ++ []) σ' Q)))) := by
  refine Iff.trans (zw_if_eq (t := 187) (show decode cX12_choice 120 = .ok (.ifCond .eq 67, 3) by decide +kernel) (by decide)) ?_
  refine zw_ite ?_ ?_
  · refine Iff.trans (zw_iinc (w := 1) (ls' := [.ref 131, .int x1, .int x2, .int x3, .int x4, .int x5, .int x6, .int x7, .int x8, .int x9, .int x10, .int x11, .int (x12 + 1), v13]) (show decode cX12_choice 187 = .ok (.iinc 12 1, 3) by decide +kernel) rfl (by decide) (zset_s (Nat.le_of_ble_eq_true rfl) rfl)) ?_
    refine Iff.trans (zw_goto (t := 90) (show decode cX12_choice 190 = .ok (.goto (-100), 3) by decide +kernel) (by decide)) ?_
    exact Iff.rfl
  · refine Iff.trans (zw_iload (show decode cX12_choice 123 = .ok (.iload 9, 2) by decide +kernel) rfl) ?_
    refine Iff.trans (zw_aload_n (show decode cX12_choice 125 = .ok (.aload_n 0, 1) by decide +kernel) rfl) ?_
    refine Iff.trans (zw_get (show decode cX12_choice 126 = .ok (.getfield 23, 3) by decide +kernel) (by decide +kernel : zfld 12 23 = some (12, 8)) (hl.k2 zk_131) (hl.n2 zk_131) (zgetR (v := 136) (hl.r zrt_131_8) rfl)) ?_
    refine Iff.trans (zw_iload_n (show decode cX12_choice 129 = .ok (.iload_n 2, 1) by decide +kernel) rfl) ?_
    refine Iff.trans (zw_iald2 (show decode cX12_choice 130 = .ok (.iaload, 1) by decide +kernel) (hl.k2 zk_136) (hl.n2 zk_136) (hl.l2 zk_136 zl_136) (w := zI σ 136 (x2 : Int32).toNatClampNeg) rfl) ?_
    refine zw_and ?_
    refine Iff.trans (zw_iload (show decode cX12_choice 131 = .ok (.iload 12, 2) by decide +kernel) rfl) ?_
    refine Iff.trans (zw_aload_n (show decode cX12_choice 133 = .ok (.aload_n 0, 1) by decide +kernel) rfl) ?_
    refine Iff.trans (zw_get (show decode cX12_choice 134 = .ok (.getfield 23, 3) by decide +kernel) (by decide +kernel : zfld 12 23 = some (12, 8)) (hl.k2 zk_131) (hl.n2 zk_131) (zgetR (v := 136) (hl.r zrt_131_8) rfl)) ?_
    refine Iff.trans (zw_iload_n (show decode cX12_choice 137 = .ok (.iload_n 3, 1) by decide +kernel) rfl) ?_
    refine Iff.trans (zw_iald2 (show decode cX12_choice 138 = .ok (.iaload, 1) by decide +kernel) (hl.k2 zk_136) (hl.n2 zk_136) (hl.l2 zk_136 zl_136) (w := zI σ 136 (x3 : Int32).toNatClampNeg) rfl) ?_
    refine zw_and ?_
    refine Iff.trans (zw_invS (K' := kX12_areApart) (as := [.int x9, .int (zI σ 136 (x2 : Int32).toNatClampNeg), .int x12, .int (zI σ 136 (x3 : Int32).toNatClampNeg)]) (rest := []) (show decode cX12_choice 139 = .ok (.invokestatic 368, 3) by decide +kernel) (by rfl) rfl rfl rfl ⟨Nat.le_of_ble_eq_true rfl, Nat.le_of_ble_eq_true rfl, Nat.le_of_ble_eq_true rfl⟩) ?_
    exact Iff.rfl

theorem bX12_choice_142 {d : Nat} {σ : zS} {Q : Option Value → zS → Prop} (hl : zLay σ) {x1 x2 x3 x4 x5 x6 x7 x8 x9 x10 x11 x12 y0 : Int32} {v13 : Value} (hv13 : v13.category = 1) : zW (d + 1) kX12_choice 142 [.ref 131, .int x1, .int x2, .int x3, .int x4, .int x5, .int x6, .int x7, .int x8, .int x9, .int x10, .int x11, .int x12, v13] [.int y0] σ Q ↔ (if y0 = (0 : Int32) then zW (d + 1) kX12_choice 90 [.ref 131, .int x1, .int x2, .int x3, .int x4, .int x5, .int x6, .int x7, .int x8, .int x9, .int x10, .int x11, .int (x12 + 1), v13] [] σ Q else zCall d kX12_gameOf [.ref 131, .int x1, .int x2, .int x3, .int x9, .int x12, .int x4] σ (fun r σ' => zisN r = true ∧ zW (d + 1) kX12_choice 161 [.ref 131, .int x1, .int x2, .int x3, .int x4, .int x5, .int x6, .int x7, .int x8, .int x9, .int x10, .int x11, .int x12, v13] (zRstk r ++ []) σ' Q)) := by
  refine Iff.trans (zw_if_ne (t := 148) (show decode cX12_choice 142 = .ok (.ifCond .ne 6, 3) by decide +kernel) (by decide)) ?_
  refine zw_ite ?_ ?_
  · refine Iff.trans (zw_goto (t := 187) (show decode cX12_choice 145 = .ok (.goto 42, 3) by decide +kernel) (by decide)) ?_
    refine Iff.trans (zw_iinc (w := 1) (ls' := [.ref 131, .int x1, .int x2, .int x3, .int x4, .int x5, .int x6, .int x7, .int x8, .int x9, .int x10, .int x11, .int (x12 + 1), v13]) (show decode cX12_choice 187 = .ok (.iinc 12 1, 3) by decide +kernel) rfl (by decide) (zset_s (Nat.le_of_ble_eq_true rfl) rfl)) ?_
    refine Iff.trans (zw_goto (t := 90) (show decode cX12_choice 190 = .ok (.goto (-100), 3) by decide +kernel) (by decide)) ?_
    exact Iff.rfl
  · refine Iff.trans (zw_aload_n (show decode cX12_choice 148 = .ok (.aload_n 0, 1) by decide +kernel) rfl) ?_
    refine Iff.trans (zw_iload_n (show decode cX12_choice 149 = .ok (.iload_n 1, 1) by decide +kernel) rfl) ?_
    refine Iff.trans (zw_iload_n (show decode cX12_choice 150 = .ok (.iload_n 2, 1) by decide +kernel) rfl) ?_
    refine Iff.trans (zw_iload_n (show decode cX12_choice 151 = .ok (.iload_n 3, 1) by decide +kernel) rfl) ?_
    refine Iff.trans (zw_iload (show decode cX12_choice 152 = .ok (.iload 9, 2) by decide +kernel) rfl) ?_
    refine Iff.trans (zw_iload (show decode cX12_choice 154 = .ok (.iload 12, 2) by decide +kernel) rfl) ?_
    refine Iff.trans (zw_iload (show decode cX12_choice 156 = .ok (.iload 4, 2) by decide +kernel) rfl) ?_
    refine Iff.trans (zw_invV (K' := kX12_gameOf) (as' := [.int x1, .int x2, .int x3, .int x9, .int x12, .int x4]) (rest := []) (show decode cX12_choice 158 = .ok (.invokevirtual 371, 3) by decide +kernel) (by rfl) rfl rfl rfl (hl.k2 zk_131) (by decide) (hl.n2 zk_131) ⟨Nat.le_of_ble_eq_true rfl, Nat.le_of_ble_eq_true rfl, Nat.le_of_ble_eq_true rfl⟩) ?_
    exact Iff.rfl

theorem bX12_choice_161 {d : Nat} {σ : zS} {Q : Option Value → zS → Prop} (hl : zLay σ) {x1 x2 x3 x4 x5 x6 x7 x8 x9 x10 x11 x12 y0 : Int32} {v13 : Value} (hv13 : v13.category = 1) : zW (d + 1) kX12_choice 161 [.ref 131, .int x1, .int x2, .int x3, .int x4, .int x5, .int x6, .int x7, .int x8, .int x9, .int x10, .int x11, .int x12, v13] [.int y0] σ Q ↔ (if x10 = (-1) then zW (d + 1) kX12_choice 90 [.ref 131, .int x1, .int x2, .int x3, .int x4, .int x5, .int x6, .int x7, .int x8, .int x9, .int x12, .int y0, .int (x12 + 1), .int y0] [] σ Q else (if y0 < x11 then zW (d + 1) kX12_choice 90 [.ref 131, .int x1, .int x2, .int x3, .int x4, .int x5, .int x6, .int x7, .int x8, .int x9, .int x12, .int y0, .int (x12 + 1), .int y0] [] σ Q else zW (d + 1) kX12_choice 90 [.ref 131, .int x1, .int x2, .int x3, .int x4, .int x5, .int x6, .int x7, .int x8, .int x9, .int x10, .int x11, .int (x12 + 1), .int y0] [] σ Q)) := by
  refine Iff.trans (zw_istore (ls' := [.ref 131, .int x1, .int x2, .int x3, .int x4, .int x5, .int x6, .int x7, .int x8, .int x9, .int x10, .int x11, .int x12, .int y0]) (show decode cX12_choice 161 = .ok (.istore 13, 2) by decide +kernel) (zset_s (Nat.le_of_ble_eq_true rfl) rfl)) ?_
  refine Iff.trans (zw_iload (show decode cX12_choice 163 = .ok (.iload 10, 2) by decide +kernel) rfl) ?_
  refine Iff.trans (zw_iconst (x := (-1)) (show decode cX12_choice 165 = .ok (.iconst (-1), 1) by decide +kernel) (by decide)) ?_
  refine Iff.trans (zw_icmp_eq (t := 179) (show decode cX12_choice 166 = .ok (.if_icmp .eq 13, 3) by decide +kernel) (by decide)) ?_
  refine zw_ite ?_ ?_
  · refine Iff.trans (zw_iload (show decode cX12_choice 179 = .ok (.iload 12, 2) by decide +kernel) rfl) ?_
    refine Iff.trans (zw_istore (ls' := [.ref 131, .int x1, .int x2, .int x3, .int x4, .int x5, .int x6, .int x7, .int x8, .int x9, .int x12, .int x11, .int x12, .int y0]) (show decode cX12_choice 181 = .ok (.istore 10, 2) by decide +kernel) (zset_s (Nat.le_of_ble_eq_true rfl) rfl)) ?_
    refine Iff.trans (zw_iload (show decode cX12_choice 183 = .ok (.iload 13, 2) by decide +kernel) rfl) ?_
    refine Iff.trans (zw_istore (ls' := [.ref 131, .int x1, .int x2, .int x3, .int x4, .int x5, .int x6, .int x7, .int x8, .int x9, .int x12, .int y0, .int x12, .int y0]) (show decode cX12_choice 185 = .ok (.istore 11, 2) by decide +kernel) (zset_s (Nat.le_of_ble_eq_true rfl) rfl)) ?_
    refine Iff.trans (zw_iinc (w := 1) (ls' := [.ref 131, .int x1, .int x2, .int x3, .int x4, .int x5, .int x6, .int x7, .int x8, .int x9, .int x12, .int y0, .int (x12 + 1), .int y0]) (show decode cX12_choice 187 = .ok (.iinc 12 1, 3) by decide +kernel) rfl (by decide) (zset_s (Nat.le_of_ble_eq_true rfl) rfl)) ?_
    refine Iff.trans (zw_goto (t := 90) (show decode cX12_choice 190 = .ok (.goto (-100), 3) by decide +kernel) (by decide)) ?_
    exact Iff.rfl
  · refine Iff.trans (zw_iload (show decode cX12_choice 169 = .ok (.iload 13, 2) by decide +kernel) rfl) ?_
    refine Iff.trans (zw_iload (show decode cX12_choice 171 = .ok (.iload 11, 2) by decide +kernel) rfl) ?_
    refine Iff.trans (zw_icmp_lt (t := 179) (show decode cX12_choice 173 = .ok (.if_icmp .lt 6, 3) by decide +kernel) (by decide)) ?_
    refine zw_ite ?_ ?_
    · refine Iff.trans (zw_iload (show decode cX12_choice 179 = .ok (.iload 12, 2) by decide +kernel) rfl) ?_
      refine Iff.trans (zw_istore (ls' := [.ref 131, .int x1, .int x2, .int x3, .int x4, .int x5, .int x6, .int x7, .int x8, .int x9, .int x12, .int x11, .int x12, .int y0]) (show decode cX12_choice 181 = .ok (.istore 10, 2) by decide +kernel) (zset_s (Nat.le_of_ble_eq_true rfl) rfl)) ?_
      refine Iff.trans (zw_iload (show decode cX12_choice 183 = .ok (.iload 13, 2) by decide +kernel) rfl) ?_
      refine Iff.trans (zw_istore (ls' := [.ref 131, .int x1, .int x2, .int x3, .int x4, .int x5, .int x6, .int x7, .int x8, .int x9, .int x12, .int y0, .int x12, .int y0]) (show decode cX12_choice 185 = .ok (.istore 11, 2) by decide +kernel) (zset_s (Nat.le_of_ble_eq_true rfl) rfl)) ?_
      refine Iff.trans (zw_iinc (w := 1) (ls' := [.ref 131, .int x1, .int x2, .int x3, .int x4, .int x5, .int x6, .int x7, .int x8, .int x9, .int x12, .int y0, .int (x12 + 1), .int y0]) (show decode cX12_choice 187 = .ok (.iinc 12 1, 3) by decide +kernel) rfl (by decide) (zset_s (Nat.le_of_ble_eq_true rfl) rfl)) ?_
      refine Iff.trans (zw_goto (t := 90) (show decode cX12_choice 190 = .ok (.goto (-100), 3) by decide +kernel) (by decide)) ?_
      exact Iff.rfl
    · refine Iff.trans (zw_goto (t := 187) (show decode cX12_choice 176 = .ok (.goto 11, 3) by decide +kernel) (by decide)) ?_
      refine Iff.trans (zw_iinc (w := 1) (ls' := [.ref 131, .int x1, .int x2, .int x3, .int x4, .int x5, .int x6, .int x7, .int x8, .int x9, .int x10, .int x11, .int (x12 + 1), .int y0]) (show decode cX12_choice 187 = .ok (.iinc 12 1, 3) by decide +kernel) rfl (by decide) (zset_s (Nat.le_of_ble_eq_true rfl) rfl)) ?_
      refine Iff.trans (zw_goto (t := 90) (show decode cX12_choice 190 = .ok (.goto (-100), 3) by decide +kernel) (by decide)) ?_
      exact Iff.rfl

theorem bX12_choice_215 {d : Nat} {σ : zS} {Q : Option Value → zS → Prop} (hl : zLay σ) {x1 x2 x3 x4 x5 x6 x7 x8 x9 x10 x11 x12 : Int32} {v13 : Value} (hv13 : v13.category = 1) : zW (d + 1) kX12_choice 215 [.ref 131, .int x1, .int x2, .int x3, .int x4, .int x5, .int x6, .int x7, .int x8, .int x9, .int x10, .int x11, .int x12, v13] [] σ Q ↔ zW (d + 1) kX12_choice 70 [.ref 131, .int x1, .int x2, .int x3, .int x4, .int x5, .int x9, .int x10, .int x11, .int (x9 + 1), .int x10, .int x11, .int x12, v13] [] σ Q := by
  refine Iff.trans (zw_iload (show decode cX12_choice 215 = .ok (.iload 9, 2) by decide +kernel) rfl) ?_
  refine Iff.trans (zw_istore (ls' := [.ref 131, .int x1, .int x2, .int x3, .int x4, .int x5, .int x9, .int x7, .int x8, .int x9, .int x10, .int x11, .int x12, v13]) (show decode cX12_choice 217 = .ok (.istore 6, 2) by decide +kernel) (zset_s (Nat.le_of_ble_eq_true rfl) rfl)) ?_
  refine Iff.trans (zw_iload (show decode cX12_choice 219 = .ok (.iload 10, 2) by decide +kernel) rfl) ?_
  refine Iff.trans (zw_istore (ls' := [.ref 131, .int x1, .int x2, .int x3, .int x4, .int x5, .int x9, .int x10, .int x8, .int x9, .int x10, .int x11, .int x12, v13]) (show decode cX12_choice 221 = .ok (.istore 7, 2) by decide +kernel) (zset_s (Nat.le_of_ble_eq_true rfl) rfl)) ?_
  refine Iff.trans (zw_iload (show decode cX12_choice 223 = .ok (.iload 11, 2) by decide +kernel) rfl) ?_
  refine Iff.trans (zw_istore (ls' := [.ref 131, .int x1, .int x2, .int x3, .int x4, .int x5, .int x9, .int x10, .int x11, .int x9, .int x10, .int x11, .int x12, v13]) (show decode cX12_choice 225 = .ok (.istore 8, 2) by decide +kernel) (zset_s (Nat.le_of_ble_eq_true rfl) rfl)) ?_
  refine Iff.trans (zw_iinc (w := 1) (ls' := [.ref 131, .int x1, .int x2, .int x3, .int x4, .int x5, .int x9, .int x10, .int x11, .int (x9 + 1), .int x10, .int x11, .int x12, v13]) (show decode cX12_choice 227 = .ok (.iinc 9 1, 3) by decide +kernel) rfl (by decide) (zset_s (Nat.le_of_ble_eq_true rfl) rfl)) ?_
  refine Iff.trans (zw_goto (t := 70) (show decode cX12_choice 230 = .ok (.goto (-160), 3) by decide +kernel) (by decide)) ?_
  exact Iff.rfl

theorem bX12_choice_237 {d : Nat} {σ : zS} {Q : Option Value → zS → Prop} (hl : zLay σ) {x1 x2 x3 x4 x5 x6 x7 x8 x9 : Int32} {v10 v11 v12 v13 : Value} (hv10 : v10.category = 1) (hv11 : v11.category = 1) (hv12 : v12.category = 1) (hv13 : v13.category = 1) : zW (d + 1) kX12_choice 237 [.ref 131, .int x1, .int x2, .int x3, .int x4, .int x5, .int x6, .int x7, .int x8, .int x9, v10, v11, v12, v13] [] σ Q ↔ (if x6 = (-1) then Q (some (.int (-1000))) σ else (if x5 = (0 : Int32) then Q (some (.int x6)) σ else (if x5 = 1 then Q (some (.int x7)) σ else Q (some (.int x8)) σ))) := by
  refine Iff.trans (zw_iload (show decode cX12_choice 237 = .ok (.iload 6, 2) by decide +kernel) rfl) ?_
  refine Iff.trans (zw_iconst (x := (-1)) (show decode cX12_choice 239 = .ok (.iconst (-1), 1) by decide +kernel) (by decide)) ?_
  refine Iff.trans (zw_icmp_ne (t := 249) (show decode cX12_choice 240 = .ok (.if_icmp .ne 9, 3) by decide +kernel) (by decide)) ?_
  refine zw_ite ?_ ?_
  · refine Iff.trans (zw_sipush (x := (-1000)) (show decode cX12_choice 243 = .ok (.sipush (-1000), 3) by decide +kernel) (by decide)) ?_
    refine Iff.trans (zw_goto (t := 272) (show decode cX12_choice 246 = .ok (.goto 26, 3) by decide +kernel) (by decide)) ?_
    exact zw_iret1 (show decode cX12_choice 272 = .ok (.ireturn, 1) by decide +kernel) rfl
  · refine Iff.trans (zw_iload (show decode cX12_choice 249 = .ok (.iload 5, 2) by decide +kernel) rfl) ?_
    refine Iff.trans (zw_if_ne (t := 259) (show decode cX12_choice 251 = .ok (.ifCond .ne 8, 3) by decide +kernel) (by decide)) ?_
    refine zw_ite ?_ ?_
    · refine Iff.trans (zw_iload (show decode cX12_choice 254 = .ok (.iload 6, 2) by decide +kernel) rfl) ?_
      refine Iff.trans (zw_goto (t := 272) (show decode cX12_choice 256 = .ok (.goto 16, 3) by decide +kernel) (by decide)) ?_
      exact zw_iret1 (show decode cX12_choice 272 = .ok (.ireturn, 1) by decide +kernel) rfl
    · refine Iff.trans (zw_iload (show decode cX12_choice 259 = .ok (.iload 5, 2) by decide +kernel) rfl) ?_
      refine Iff.trans (zw_iconst (x := 1) (show decode cX12_choice 261 = .ok (.iconst 1, 1) by decide +kernel) (by decide)) ?_
      refine Iff.trans (zw_icmp_ne (t := 270) (show decode cX12_choice 262 = .ok (.if_icmp .ne 8, 3) by decide +kernel) (by decide)) ?_
      refine zw_ite ?_ ?_
      · refine Iff.trans (zw_iload (show decode cX12_choice 265 = .ok (.iload 7, 2) by decide +kernel) rfl) ?_
        refine Iff.trans (zw_goto (t := 272) (show decode cX12_choice 267 = .ok (.goto 5, 3) by decide +kernel) (by decide)) ?_
        exact zw_iret1 (show decode cX12_choice 272 = .ok (.ireturn, 1) by decide +kernel) rfl
      · refine Iff.trans (zw_iload (show decode cX12_choice 270 = .ok (.iload 8, 2) by decide +kernel) rfl) ?_
        exact zw_iret1 (show decode cX12_choice 272 = .ok (.ireturn, 1) by decide +kernel) rfl

theorem bX12_canStartWith_0 {d : Nat} {σ : zS} {Q : Option Value → zS → Prop} (hl : zLay σ) {x1 : Int32} : zCall (d + 1) kX12_canStartWith [.ref 131, .int x1] σ Q ↔ zCall d kX12_canStart [.ref 131] (zsI σ 131 (upd (zI σ 131) 14 x1)) (fun r σ' => zisN r = true ∧ zW (d + 1) kX12_canStartWith 14 [.ref 131, .int x1, .int (zI σ 131 14), .retAddr 0] (zRstk r ++ []) σ' Q) := by
  show zW (d + 1) kX12_canStartWith 0 [.ref 131, .int x1, .retAddr 0, .retAddr 0] [] σ Q ↔ _
  refine Iff.trans (zw_aload_n (show decode cX12_canStartWith 0 = .ok (.aload_n 0, 1) by decide +kernel) rfl) ?_
  refine Iff.trans (zw_getI (show decode cX12_canStartWith 1 = .ok (.getfield 200, 3) by decide +kernel) (by decide +kernel : zfld 12 200 = some (12, 14)) (hl.k2 zk_131) (hl.n2 zk_131) (Or.inl rfl) (w := zI σ 131 14) rfl) ?_
  refine Iff.trans (zw_istore_n (ls' := [.ref 131, .int x1, .int (zI σ 131 14), .retAddr 0]) (show decode cX12_canStartWith 4 = .ok (.istore_n 2, 1) by decide +kernel) (zset_s (Nat.le_of_ble_eq_true rfl) rfl)) ?_
  refine Iff.trans (zw_aload_n (show decode cX12_canStartWith 5 = .ok (.aload_n 0, 1) by decide +kernel) rfl) ?_
  refine Iff.trans (zw_iload_n (show decode cX12_canStartWith 6 = .ok (.iload_n 1, 1) by decide +kernel) rfl) ?_
  refine Iff.trans (zw_putI (show decode cX12_canStartWith 7 = .ok (.putfield 200, 3) by decide +kernel) (by decide +kernel : zfld 12 200 = some (12, 14)) (hl.k2 zk_131) (hl.n2 zk_131) rfl (Or.inl rfl) (σ' := (zsI σ 131 (upd (zI σ 131) 14 x1))) rfl) ?_
  refine Iff.trans (zw_aload_n (show decode cX12_canStartWith 10 = .ok (.aload_n 0, 1) by decide +kernel) rfl) ?_
  refine Iff.trans (zw_invV (K' := kX12_canStart) (as' := []) (rest := []) (show decode cX12_canStartWith 11 = .ok (.invokevirtual 255, 3) by decide +kernel) (by rfl) rfl rfl rfl (hl.I.k2 zk_131) (by decide) (hl.I.n2 zk_131) ⟨Nat.le_of_ble_eq_true rfl, Nat.le_of_ble_eq_true rfl, Nat.le_of_ble_eq_true rfl⟩) ?_
  exact Iff.rfl

theorem bX12_canStartWith_14 {d : Nat} {σ : zS} {Q : Option Value → zS → Prop} (hl : zLay σ) {x1 x2 y0 : Int32} : zW (d + 1) kX12_canStartWith 14 [.ref 131, .int x1, .int x2, .retAddr 0] [.int y0] σ Q ↔ ((y0 = (0 : Int32) ∨ y0 = 1) ∧ Q (some (.int y0)) (zsI σ 131 (upd (zI σ 131) 14 x2))) := by
  refine Iff.trans (zw_istore_n (ls' := [.ref 131, .int x1, .int x2, .int y0]) (show decode cX12_canStartWith 14 = .ok (.istore_n 3, 1) by decide +kernel) (zset_s (Nat.le_of_ble_eq_true rfl) rfl)) ?_
  refine Iff.trans (zw_aload_n (show decode cX12_canStartWith 15 = .ok (.aload_n 0, 1) by decide +kernel) rfl) ?_
  refine Iff.trans (zw_iload_n (show decode cX12_canStartWith 16 = .ok (.iload_n 2, 1) by decide +kernel) rfl) ?_
  refine Iff.trans (zw_putI (show decode cX12_canStartWith 17 = .ok (.putfield 200, 3) by decide +kernel) (by decide +kernel : zfld 12 200 = some (12, 14)) (hl.k2 zk_131) (hl.n2 zk_131) rfl (Or.inl rfl) (σ' := (zsI σ 131 (upd (zI σ 131) 14 x2))) rfl) ?_
  refine Iff.trans (zw_iload_n (show decode cX12_canStartWith 20 = .ok (.iload_n 3, 1) by decide +kernel) rfl) ?_
  exact zw_iret2 (show decode cX12_canStartWith 21 = .ok (.ireturn, 1) by decide +kernel) rfl

theorem bX12_raceWith_0 {d : Nat} {σ : zS} {Q : Option Value → zS → Prop} (hl : zLay σ) {x1 x2 : Int32} : zCall (d + 1) kX12_raceWith [.ref 131, .int x1, .int x2] σ Q ↔ zCall d kX12_goRace [.ref 131, .long ((x2 : Int32).toInt64)] (zsI σ 131 (upd (zI σ 131) 14 x1)) (fun r σ' => zisN r = true ∧ zW (d + 1) kX12_raceWith 16 [.ref 131, .int x1, .int x2, .int (zI σ 131 14)] (zRstk r ++ []) σ' Q) := by
  show zW (d + 1) kX12_raceWith 0 [.ref 131, .int x1, .int x2, .retAddr 0] [] σ Q ↔ _
  refine Iff.trans (zw_aload_n (show decode cX12_raceWith 0 = .ok (.aload_n 0, 1) by decide +kernel) rfl) ?_
  refine Iff.trans (zw_getI (show decode cX12_raceWith 1 = .ok (.getfield 200, 3) by decide +kernel) (by decide +kernel : zfld 12 200 = some (12, 14)) (hl.k2 zk_131) (hl.n2 zk_131) (Or.inl rfl) (w := zI σ 131 14) rfl) ?_
  refine Iff.trans (zw_istore_n (ls' := [.ref 131, .int x1, .int x2, .int (zI σ 131 14)]) (show decode cX12_raceWith 4 = .ok (.istore_n 3, 1) by decide +kernel) (zset_s (Nat.le_of_ble_eq_true rfl) rfl)) ?_
  refine Iff.trans (zw_aload_n (show decode cX12_raceWith 5 = .ok (.aload_n 0, 1) by decide +kernel) rfl) ?_
  refine Iff.trans (zw_iload_n (show decode cX12_raceWith 6 = .ok (.iload_n 1, 1) by decide +kernel) rfl) ?_
  refine Iff.trans (zw_putI (show decode cX12_raceWith 7 = .ok (.putfield 200, 3) by decide +kernel) (by decide +kernel : zfld 12 200 = some (12, 14)) (hl.k2 zk_131) (hl.n2 zk_131) rfl (Or.inl rfl) (σ' := (zsI σ 131 (upd (zI σ 131) 14 x1))) rfl) ?_
  refine Iff.trans (zw_aload_n (show decode cX12_raceWith 10 = .ok (.aload_n 0, 1) by decide +kernel) rfl) ?_
  refine Iff.trans (zw_iload_n (show decode cX12_raceWith 11 = .ok (.iload_n 2, 1) by decide +kernel) rfl) ?_
  refine Iff.trans (zw_i2l (show decode cX12_raceWith 12 = .ok (.i2l, 1) by decide +kernel)) ?_
  refine Iff.trans (zw_invV (K' := kX12_goRace) (as' := [.long ((x2 : Int32).toInt64)]) (rest := []) (show decode cX12_raceWith 13 = .ok (.invokevirtual 334, 3) by decide +kernel) (by rfl) rfl rfl rfl (hl.I.k2 zk_131) (by decide) (hl.I.n2 zk_131) ⟨Nat.le_of_ble_eq_true rfl, Nat.le_of_ble_eq_true rfl, Nat.le_of_ble_eq_true rfl⟩) ?_
  exact Iff.rfl

theorem bX12_raceWith_16 {d : Nat} {σ : zS} {Q : Option Value → zS → Prop} (hl : zLay σ) {x1 x2 x3 : Int32} : zW (d + 1) kX12_raceWith 16 [.ref 131, .int x1, .int x2, .int x3] [] σ Q ↔ Q none (zsI σ 131 (upd (zI σ 131) 14 x3)) := by
  refine Iff.trans (zw_aload_n (show decode cX12_raceWith 16 = .ok (.aload_n 0, 1) by decide +kernel) rfl) ?_
  refine Iff.trans (zw_iload_n (show decode cX12_raceWith 17 = .ok (.iload_n 3, 1) by decide +kernel) rfl) ?_
  refine Iff.trans (zw_putI (show decode cX12_raceWith 18 = .ok (.putfield 200, 3) by decide +kernel) (by decide +kernel : zfld 12 200 = some (12, 14)) (hl.k2 zk_131) (hl.n2 zk_131) rfl (Or.inl rfl) (σ' := (zsI σ 131 (upd (zI σ 131) 14 x3))) rfl) ?_
  exact zw_ret (show decode cX12_raceWith 21 = .ok (.return_, 1) by decide +kernel) rfl

theorem bX12_same_0 {d : Nat} {σ : zS} {Q : Option Value → zS → Prop} (hl : zLay σ) {x1 x2 x3 : Int32} : zCall (d + 1) kX12_same [.ref 131, .int x1, .int x2, .int x3] σ Q ↔ zCall d kX12_isIn [.int x1, .int 0, .int 3] (zsI σ 131 (upd (zI σ 131) 0 0)) (fun r σ' => zisN r = true ∧ zW (d + 1) kX12_same 11 [.ref 131, .int x1, .int x2, .int x3, .retAddr 0, .retAddr 0, .retAddr 0, .retAddr 0] (zRstk r ++ []) σ' Q) := by
  show zW (d + 1) kX12_same 0 [.ref 131, .int x1, .int x2, .int x3, .retAddr 0, .retAddr 0, .retAddr 0, .retAddr 0] [] σ Q ↔ _
  refine Iff.trans (zw_aload_n (show decode cX12_same 0 = .ok (.aload_n 0, 1) by decide +kernel) rfl) ?_
  refine Iff.trans (zw_iconst (x := 0) (show decode cX12_same 1 = .ok (.iconst 0, 1) by decide +kernel) (by decide)) ?_
  refine Iff.trans (zw_putI (show decode cX12_same 2 = .ok (.putfield 118, 3) by decide +kernel) (by decide +kernel : zfld 12 118 = some (12, 0)) (hl.k2 zk_131) (hl.n2 zk_131) rfl (Or.inl rfl) (σ' := (zsI σ 131 (upd (zI σ 131) 0 0))) rfl) ?_
  refine Iff.trans (zw_iload_n (show decode cX12_same 5 = .ok (.iload_n 1, 1) by decide +kernel) rfl) ?_
  refine Iff.trans (zw_iconst (x := 0) (show decode cX12_same 6 = .ok (.iconst 0, 1) by decide +kernel) (by decide)) ?_
  refine Iff.trans (zw_iconst (x := 3) (show decode cX12_same 7 = .ok (.iconst 3, 1) by decide +kernel) (by decide)) ?_
  refine Iff.trans (zw_invS (K' := kX12_isIn) (as := [.int x1, .int 0, .int 3]) (rest := []) (show decode cX12_same 8 = .ok (.invokestatic 163, 3) by decide +kernel) (by rfl) rfl rfl rfl ⟨Nat.le_of_ble_eq_true rfl, Nat.le_of_ble_eq_true rfl, Nat.le_of_ble_eq_true rfl⟩) ?_
  exact Iff.rfl

theorem bX12_same_11 {d : Nat} {σ : zS} {Q : Option Value → zS → Prop} (hl : zLay σ) {x1 x2 x3 y0 : Int32} : zW (d + 1) kX12_same 11 [.ref 131, .int x1, .int x2, .int x3, .retAddr 0, .retAddr 0, .retAddr 0, .retAddr 0] [.int y0] σ Q ↔ (if y0 = (0 : Int32) then Q (some (.int (-1))) σ else zCall d kX12_isIn [.int x2, .int 0, .int 3] σ (fun r σ' => zisN r = true ∧ zW (d + 1) kX12_same 20 [.ref 131, .int x1, .int x2, .int x3, .retAddr 0, .retAddr 0, .retAddr 0, .retAddr 0] (zRstk r ++ []) σ' Q)) := by
  refine Iff.trans (zw_if_eq (t := 57) (show decode cX12_same 11 = .ok (.ifCond .eq 46, 3) by decide +kernel) (by decide)) ?_
  refine zw_ite ?_ ?_
  · refine Iff.trans (zw_iconst (x := (-1)) (show decode cX12_same 57 = .ok (.iconst (-1), 1) by decide +kernel) (by decide)) ?_
    exact zw_iret1 (show decode cX12_same 58 = .ok (.ireturn, 1) by decide +kernel) rfl
  · refine Iff.trans (zw_iload_n (show decode cX12_same 14 = .ok (.iload_n 2, 1) by decide +kernel) rfl) ?_
    refine Iff.trans (zw_iconst (x := 0) (show decode cX12_same 15 = .ok (.iconst 0, 1) by decide +kernel) (by decide)) ?_
    refine Iff.trans (zw_iconst (x := 3) (show decode cX12_same 16 = .ok (.iconst 3, 1) by decide +kernel) (by decide)) ?_
    refine Iff.trans (zw_invS (K' := kX12_isIn) (as := [.int x2, .int 0, .int 3]) (rest := []) (show decode cX12_same 17 = .ok (.invokestatic 163, 3) by decide +kernel) (by rfl) rfl rfl rfl ⟨Nat.le_of_ble_eq_true rfl, Nat.le_of_ble_eq_true rfl, Nat.le_of_ble_eq_true rfl⟩) ?_
    exact Iff.rfl

theorem bX12_same_20 {d : Nat} {σ : zS} {Q : Option Value → zS → Prop} (hl : zLay σ) {x1 x2 x3 y0 : Int32} : zW (d + 1) kX12_same 20 [.ref 131, .int x1, .int x2, .int x3, .retAddr 0, .retAddr 0, .retAddr 0, .retAddr 0] [.int y0] σ Q ↔ (if y0 = (0 : Int32) then Q (some (.int (-1))) σ else zCall d kX12_isIn [.int x3, .int 1, .int 40] σ (fun r σ' => zisN r = true ∧ zW (d + 1) kX12_same 30 [.ref 131, .int x1, .int x2, .int x3, .retAddr 0, .retAddr 0, .retAddr 0, .retAddr 0] (zRstk r ++ []) σ' Q)) := by
  refine Iff.trans (zw_if_eq (t := 57) (show decode cX12_same 20 = .ok (.ifCond .eq 37, 3) by decide +kernel) (by decide)) ?_
  refine zw_ite ?_ ?_
  · refine Iff.trans (zw_iconst (x := (-1)) (show decode cX12_same 57 = .ok (.iconst (-1), 1) by decide +kernel) (by decide)) ?_
    exact zw_iret1 (show decode cX12_same 58 = .ok (.ireturn, 1) by decide +kernel) rfl
  · refine Iff.trans (zw_iload_n (show decode cX12_same 23 = .ok (.iload_n 3, 1) by decide +kernel) rfl) ?_
    refine Iff.trans (zw_iconst (x := 1) (show decode cX12_same 24 = .ok (.iconst 1, 1) by decide +kernel) (by decide)) ?_
    refine Iff.trans (zw_bipush (x := 40) (show decode cX12_same 25 = .ok (.bipush 40, 2) by decide +kernel) (by decide)) ?_
    refine Iff.trans (zw_invS (K' := kX12_isIn) (as := [.int x3, .int 1, .int 40]) (rest := []) (show decode cX12_same 27 = .ok (.invokestatic 163, 3) by decide +kernel) (by rfl) rfl rfl rfl ⟨Nat.le_of_ble_eq_true rfl, Nat.le_of_ble_eq_true rfl, Nat.le_of_ble_eq_true rfl⟩) ?_
    exact Iff.rfl

theorem bX12_same_30 {d : Nat} {σ : zS} {Q : Option Value → zS → Prop} (hl : zLay σ) {x1 x2 x3 y0 : Int32} : zW (d + 1) kX12_same 30 [.ref 131, .int x1, .int x2, .int x3, .retAddr 0, .retAddr 0, .retAddr 0, .retAddr 0] [.int y0] σ Q ↔ (if y0 = (0 : Int32) then Q (some (.int (-1))) σ else (if (zI σ 131 19) = (-1) then Q (some (.int (-1))) σ else zCall d kX12_canStartWith [.ref 131, .int x1] σ (fun r σ' => zisN r = true ∧ zW (d + 1) kX12_same 46 [.ref 131, .int x1, .int x2, .int x3, .retAddr 0, .retAddr 0, .retAddr 0, .retAddr 0] (zRstk r ++ []) σ' Q))) := by
  refine Iff.trans (zw_if_eq (t := 57) (show decode cX12_same 30 = .ok (.ifCond .eq 27, 3) by decide +kernel) (by decide)) ?_
  refine zw_ite ?_ ?_
  · refine Iff.trans (zw_iconst (x := (-1)) (show decode cX12_same 57 = .ok (.iconst (-1), 1) by decide +kernel) (by decide)) ?_
    exact zw_iret1 (show decode cX12_same 58 = .ok (.ireturn, 1) by decide +kernel) rfl
  · refine Iff.trans (zw_aload_n (show decode cX12_same 33 = .ok (.aload_n 0, 1) by decide +kernel) rfl) ?_
    refine Iff.trans (zw_getI (show decode cX12_same 34 = .ok (.getfield 45, 3) by decide +kernel) (by decide +kernel : zfld 12 45 = some (12, 19)) (hl.k2 zk_131) (hl.n2 zk_131) (Or.inl rfl) (w := zI σ 131 19) rfl) ?_
    refine Iff.trans (zw_iconst (x := (-1)) (show decode cX12_same 37 = .ok (.iconst (-1), 1) by decide +kernel) (by decide)) ?_
    refine Iff.trans (zw_icmp_eq (t := 57) (show decode cX12_same 38 = .ok (.if_icmp .eq 19, 3) by decide +kernel) (by decide)) ?_
    refine zw_ite ?_ ?_
    · refine Iff.trans (zw_iconst (x := (-1)) (show decode cX12_same 57 = .ok (.iconst (-1), 1) by decide +kernel) (by decide)) ?_
      exact zw_iret1 (show decode cX12_same 58 = .ok (.ireturn, 1) by decide +kernel) rfl
    · refine Iff.trans (zw_aload_n (show decode cX12_same 41 = .ok (.aload_n 0, 1) by decide +kernel) rfl) ?_
      refine Iff.trans (zw_iload_n (show decode cX12_same 42 = .ok (.iload_n 1, 1) by decide +kernel) rfl) ?_
      refine Iff.trans (zw_invV (K' := kX12_canStartWith) (as' := [.int x1]) (rest := []) (show decode cX12_same 43 = .ok (.invokevirtual 375, 3) by decide +kernel) (by rfl) rfl rfl rfl (hl.k2 zk_131) (by decide) (hl.n2 zk_131) ⟨Nat.le_of_ble_eq_true rfl, Nat.le_of_ble_eq_true rfl, Nat.le_of_ble_eq_true rfl⟩) ?_
      exact Iff.rfl

theorem bX12_same_46 {d : Nat} {σ : zS} {Q : Option Value → zS → Prop} (hl : zLay σ) {x1 x2 x3 y0 : Int32} : zW (d + 1) kX12_same 46 [.ref 131, .int x1, .int x2, .int x3, .retAddr 0, .retAddr 0, .retAddr 0, .retAddr 0] [.int y0] σ Q ↔ (if y0 = (0 : Int32) then Q (some (.int (-1))) σ else zCall d kX12_canStartWith [.ref 131, .int x2] σ (fun r σ' => zisN r = true ∧ zW (d + 1) kX12_same 54 [.ref 131, .int x1, .int x2, .int x3, .retAddr 0, .retAddr 0, .retAddr 0, .retAddr 0] (zRstk r ++ []) σ' Q)) := by
  refine Iff.trans (zw_if_eq (t := 57) (show decode cX12_same 46 = .ok (.ifCond .eq 11, 3) by decide +kernel) (by decide)) ?_
  refine zw_ite ?_ ?_
  · refine Iff.trans (zw_iconst (x := (-1)) (show decode cX12_same 57 = .ok (.iconst (-1), 1) by decide +kernel) (by decide)) ?_
    exact zw_iret1 (show decode cX12_same 58 = .ok (.ireturn, 1) by decide +kernel) rfl
  · refine Iff.trans (zw_aload_n (show decode cX12_same 49 = .ok (.aload_n 0, 1) by decide +kernel) rfl) ?_
    refine Iff.trans (zw_iload_n (show decode cX12_same 50 = .ok (.iload_n 2, 1) by decide +kernel) rfl) ?_
    refine Iff.trans (zw_invV (K' := kX12_canStartWith) (as' := [.int x2]) (rest := []) (show decode cX12_same 51 = .ok (.invokevirtual 375, 3) by decide +kernel) (by rfl) rfl rfl rfl (hl.k2 zk_131) (by decide) (hl.n2 zk_131) ⟨Nat.le_of_ble_eq_true rfl, Nat.le_of_ble_eq_true rfl, Nat.le_of_ble_eq_true rfl⟩) ?_
    exact Iff.rfl

theorem bX12_same_54 {d : Nat} {σ : zS} {Q : Option Value → zS → Prop} (hl : zLay σ) {x1 x2 x3 y0 : Int32} : zW (d + 1) kX12_same 54 [.ref 131, .int x1, .int x2, .int x3, .retAddr 0, .retAddr 0, .retAddr 0, .retAddr 0] [.int y0] σ Q ↔ (if y0 = (0 : Int32) then Q (some (.int (-1))) σ else zCall d kX12_keepRace [.ref 131] σ (fun r σ' => zisN r = true ∧ zW (d + 1) kX12_same 63 [.ref 131, .int x1, .int x2, .int x3, .retAddr 0, .retAddr 0, .retAddr 0, .retAddr 0] (zRstk r ++ []) σ' Q)) := by
  refine Iff.trans (zw_if_ne (t := 59) (show decode cX12_same 54 = .ok (.ifCond .ne 5, 3) by decide +kernel) (by decide)) ?_
  refine zw_ite ?_ ?_
  · refine Iff.trans (zw_iconst (x := (-1)) (show decode cX12_same 57 = .ok (.iconst (-1), 1) by decide +kernel) (by decide)) ?_
    exact zw_iret1 (show decode cX12_same 58 = .ok (.ireturn, 1) by decide +kernel) rfl
  · refine Iff.trans (zw_aload_n (show decode cX12_same 59 = .ok (.aload_n 0, 1) by decide +kernel) rfl) ?_
    refine Iff.trans (zw_invV (K' := kX12_keepRace) (as' := []) (rest := []) (show decode cX12_same 60 = .ok (.invokevirtual 337, 3) by decide +kernel) (by rfl) rfl rfl rfl (hl.k2 zk_131) (by decide) (hl.n2 zk_131) ⟨Nat.le_of_ble_eq_true rfl, Nat.le_of_ble_eq_true rfl, Nat.le_of_ble_eq_true rfl⟩) ?_
    exact Iff.rfl

theorem bX12_same_63 {d : Nat} {σ : zS} {Q : Option Value → zS → Prop} (hl : zLay σ) {x1 x2 x3 : Int32} : zW (d + 1) kX12_same 63 [.ref 131, .int x1, .int x2, .int x3, .retAddr 0, .retAddr 0, .retAddr 0, .retAddr 0] [] σ Q ↔ zW (d + 1) kX12_same 69 [.ref 131, .int x1, .int x2, .int x3, .int 0, .int 0, .retAddr 0, .retAddr 0] [] σ Q := by
  refine Iff.trans (zw_iconst (x := 0) (show decode cX12_same 63 = .ok (.iconst 0, 1) by decide +kernel) (by decide)) ?_
  refine Iff.trans (zw_istore (ls' := [.ref 131, .int x1, .int x2, .int x3, .int 0, .retAddr 0, .retAddr 0, .retAddr 0]) (show decode cX12_same 64 = .ok (.istore 4, 2) by decide +kernel) (zset_s (Nat.le_of_ble_eq_true rfl) rfl)) ?_
  refine Iff.trans (zw_iconst (x := 0) (show decode cX12_same 66 = .ok (.iconst 0, 1) by decide +kernel) (by decide)) ?_
  refine Iff.trans (zw_istore (ls' := [.ref 131, .int x1, .int x2, .int x3, .int 0, .int 0, .retAddr 0, .retAddr 0]) (show decode cX12_same 67 = .ok (.istore 5, 2) by decide +kernel) (zset_s (Nat.le_of_ble_eq_true rfl) rfl)) ?_
  exact Iff.rfl

theorem bX12_same_69 {d : Nat} {σ : zS} {Q : Option Value → zS → Prop} (hl : zLay σ) {x1 x2 x3 x4 x5 : Int32} {v6 v7 : Value} (hv6 : v6.category = 1) (hv7 : v7.category = 1) : zW (d + 1) kX12_same 69 [.ref 131, .int x1, .int x2, .int x3, .int x4, .int x5, v6, v7] [] σ Q ↔ (if x3 ≤ x5 then zCall d kX12_putBack [.ref 131] σ (fun r σ' => zisN r = true ∧ zW (d + 1) kX12_same 194 [.ref 131, .int x1, .int x2, .int x3, .int x4, .int x5, v6, v7] (zRstk r ++ []) σ' Q) else zCall d kX12_raceWith [.ref 131, .int x1, .int x5] σ (fun r σ' => zisN r = true ∧ zW (d + 1) kX12_same 82 [.ref 131, .int x1, .int x2, .int x3, .int x4, .int x5, v6, v7] (zRstk r ++ []) σ' Q)) := by
  refine Iff.trans (zw_iload (show decode cX12_same 69 = .ok (.iload 5, 2) by decide +kernel) rfl) ?_
  refine Iff.trans (zw_iload_n (show decode cX12_same 71 = .ok (.iload_n 3, 1) by decide +kernel) rfl) ?_
  refine Iff.trans (zw_icmp_ge (t := 190) (show decode cX12_same 72 = .ok (.if_icmp .ge 118, 3) by decide +kernel) (by decide)) ?_
  refine zw_ite ?_ ?_
  · refine Iff.trans (zw_aload_n (show decode cX12_same 190 = .ok (.aload_n 0, 1) by decide +kernel) rfl) ?_
    refine Iff.trans (zw_invV (K' := kX12_putBack) (as' := []) (rest := []) (show decode cX12_same 191 = .ok (.invokevirtual 344, 3) by decide +kernel) (by rfl) rfl rfl rfl (hl.k2 zk_131) (by decide) (hl.n2 zk_131) ⟨Nat.le_of_ble_eq_true rfl, Nat.le_of_ble_eq_true rfl, Nat.le_of_ble_eq_true rfl⟩) ?_
    exact Iff.rfl
  · refine Iff.trans (zw_aload_n (show decode cX12_same 75 = .ok (.aload_n 0, 1) by decide +kernel) rfl) ?_
    refine Iff.trans (zw_iload_n (show decode cX12_same 76 = .ok (.iload_n 1, 1) by decide +kernel) rfl) ?_
    refine Iff.trans (zw_iload (show decode cX12_same 77 = .ok (.iload 5, 2) by decide +kernel) rfl) ?_
    refine Iff.trans (zw_invV (K' := kX12_raceWith) (as' := [.int x1, .int x5]) (rest := []) (show decode cX12_same 79 = .ok (.invokevirtual 378, 3) by decide +kernel) (by rfl) rfl rfl rfl (hl.k2 zk_131) (by decide) (hl.n2 zk_131) ⟨Nat.le_of_ble_eq_true rfl, Nat.le_of_ble_eq_true rfl, Nat.le_of_ble_eq_true rfl⟩) ?_
    exact Iff.rfl

theorem bX12_same_82 {d : Nat} {σ : zS} {Q : Option Value → zS → Prop} (hl : zLay σ) {x1 x2 x3 x4 x5 : Int32} {v6 v7 : Value} (hv6 : v6.category = 1) (hv7 : v7.category = 1) : zW (d + 1) kX12_same 82 [.ref 131, .int x1, .int x2, .int x3, .int x4, .int x5, v6, v7] [] σ Q ↔ zW (d + 1) kX12_same 85 [.ref 131, .int x1, .int x2, .int x3, .int x4, .int x5, .int 0, v7] [] σ Q := by
  refine Iff.trans (zw_iconst (x := 0) (show decode cX12_same 82 = .ok (.iconst 0, 1) by decide +kernel) (by decide)) ?_
  refine Iff.trans (zw_istore (ls' := [.ref 131, .int x1, .int x2, .int x3, .int x4, .int x5, .int 0, v7]) (show decode cX12_same 83 = .ok (.istore 6, 2) by decide +kernel) (zset_s (Nat.le_of_ble_eq_true rfl) rfl)) ?_
  exact Iff.rfl

theorem bX12_same_85 {d : Nat} {σ : zS} {Q : Option Value → zS → Prop} (hl : zLay σ) {x1 x2 x3 x4 x5 x6 : Int32} {v7 : Value} (hv7 : v7.category = 1) : zW (d + 1) kX12_same 85 [.ref 131, .int x1, .int x2, .int x3, .int x4, .int x5, .int x6, v7] [] σ Q ↔ (if (zI σ 131 20) ≤ x6 then zCall d kX12_raceWith [.ref 131, .int x2, .int x5] σ (fun r σ' => zisN r = true ∧ zW (d + 1) kX12_same 120 [.ref 131, .int x1, .int x2, .int x3, .int x4, .int x5, .int x6, v7] (zRstk r ++ []) σ' Q) else zCall d kX12_placeOf [.ref 131, .int x6] σ (fun r σ' => zisN r = true ∧ zW (d + 1) kX12_same 106 [.ref 131, .int x1, .int x2, .int x3, .int x4, .int x5, .int x6, v7] (zRstk r ++ [.int x6, .ref 153]) σ' Q)) := by
  refine Iff.trans (zw_iload (show decode cX12_same 85 = .ok (.iload 6, 2) by decide +kernel) rfl) ?_
  refine Iff.trans (zw_aload_n (show decode cX12_same 87 = .ok (.aload_n 0, 1) by decide +kernel) rfl) ?_
  refine Iff.trans (zw_getI (show decode cX12_same 88 = .ok (.getfield 222, 3) by decide +kernel) (by decide +kernel : zfld 12 222 = some (12, 20)) (hl.k2 zk_131) (hl.n2 zk_131) (Or.inl rfl) (w := zI σ 131 20) rfl) ?_
  refine Iff.trans (zw_icmp_ge (t := 113) (show decode cX12_same 91 = .ok (.if_icmp .ge 22, 3) by decide +kernel) (by decide)) ?_
  refine zw_ite ?_ ?_
  · refine Iff.trans (zw_aload_n (show decode cX12_same 113 = .ok (.aload_n 0, 1) by decide +kernel) rfl) ?_
    refine Iff.trans (zw_iload_n (show decode cX12_same 114 = .ok (.iload_n 2, 1) by decide +kernel) rfl) ?_
    refine Iff.trans (zw_iload (show decode cX12_same 115 = .ok (.iload 5, 2) by decide +kernel) rfl) ?_
    refine Iff.trans (zw_invV (K' := kX12_raceWith) (as' := [.int x2, .int x5]) (rest := []) (show decode cX12_same 117 = .ok (.invokevirtual 378, 3) by decide +kernel) (by rfl) rfl rfl rfl (hl.k2 zk_131) (by decide) (hl.n2 zk_131) ⟨Nat.le_of_ble_eq_true rfl, Nat.le_of_ble_eq_true rfl, Nat.le_of_ble_eq_true rfl⟩) ?_
    exact Iff.rfl
  · refine Iff.trans (zw_aload_n (show decode cX12_same 94 = .ok (.aload_n 0, 1) by decide +kernel) rfl) ?_
    refine Iff.trans (zw_get (show decode cX12_same 95 = .ok (.getfield 85, 3) by decide +kernel) (by decide +kernel : zfld 12 85 = some (12, 47)) (hl.k2 zk_131) (hl.n2 zk_131) (zgetR (v := 153) (hl.r zrt_131_47) rfl)) ?_
    refine Iff.trans (zw_iload (show decode cX12_same 98 = .ok (.iload 6, 2) by decide +kernel) rfl) ?_
    refine Iff.trans (zw_aload_n (show decode cX12_same 100 = .ok (.aload_n 0, 1) by decide +kernel) rfl) ?_
    refine Iff.trans (zw_iload (show decode cX12_same 101 = .ok (.iload 6, 2) by decide +kernel) rfl) ?_
    refine Iff.trans (zw_invV (K' := kX12_placeOf) (as' := [.int x6]) (rest := [.int x6, .ref 153]) (show decode cX12_same 103 = .ok (.invokevirtual 316, 3) by decide +kernel) (by rfl) rfl rfl rfl (hl.k2 zk_131) (by decide) (hl.n2 zk_131) ⟨Nat.le_of_ble_eq_true rfl, Nat.le_of_ble_eq_true rfl, Nat.le_of_ble_eq_true rfl⟩) ?_
    exact Iff.rfl

theorem bX12_same_106 {d : Nat} {σ : zS} {Q : Option Value → zS → Prop} (hl : zLay σ) {x1 x2 x3 x4 x5 x6 y0 y1 : Int32} {v7 : Value} (hv7 : v7.category = 1) : zW (d + 1) kX12_same 106 [.ref 131, .int x1, .int x2, .int x3, .int x4, .int x5, .int x6, v7] [.int y0, .int y1, .ref 153] σ Q ↔ (vp_in y1 6 ∧ zW (d + 1) kX12_same 85 [.ref 131, .int x1, .int x2, .int x3, .int x4, .int x5, .int (x6 + 1), v7] [] (zsI σ 153 (upd (zI σ 153) (y1 : Int32).toNatClampNeg y0)) Q) := by
  refine Iff.trans (zw_iast2 (show decode cX12_same 106 = .ok (.iastore, 1) by decide +kernel) (hl.k2 zk_153) (hl.n2 zk_153) (hl.l2 zk_153 zl_153) (σ' := (zsI σ 153 (upd (zI σ 153) (y1 : Int32).toNatClampNeg y0))) rfl) ?_
  refine zw_and ?_
  refine Iff.trans (zw_iinc (w := 1) (ls' := [.ref 131, .int x1, .int x2, .int x3, .int x4, .int x5, .int (x6 + 1), v7]) (show decode cX12_same 107 = .ok (.iinc 6 1, 3) by decide +kernel) rfl (by decide) (zset_s (Nat.le_of_ble_eq_true rfl) rfl)) ?_
  refine Iff.trans (zw_goto (t := 85) (show decode cX12_same 110 = .ok (.goto (-25), 3) by decide +kernel) (by decide)) ?_
  exact Iff.rfl

theorem bX12_same_120 {d : Nat} {σ : zS} {Q : Option Value → zS → Prop} (hl : zLay σ) {x1 x2 x3 x4 x5 x6 : Int32} {v7 : Value} (hv7 : v7.category = 1) : zW (d + 1) kX12_same 120 [.ref 131, .int x1, .int x2, .int x3, .int x4, .int x5, .int x6, v7] [] σ Q ↔ zW (d + 1) kX12_same 126 [.ref 131, .int x1, .int x2, .int x3, .int x4, .int x5, .int 1, .int 0] [] σ Q := by
  refine Iff.trans (zw_iconst (x := 1) (show decode cX12_same 120 = .ok (.iconst 1, 1) by decide +kernel) (by decide)) ?_
  refine Iff.trans (zw_istore (ls' := [.ref 131, .int x1, .int x2, .int x3, .int x4, .int x5, .int 1, v7]) (show decode cX12_same 121 = .ok (.istore 6, 2) by decide +kernel) (zset_s (Nat.le_of_ble_eq_true rfl) rfl)) ?_
  refine Iff.trans (zw_iconst (x := 0) (show decode cX12_same 123 = .ok (.iconst 0, 1) by decide +kernel) (by decide)) ?_
  refine Iff.trans (zw_istore (ls' := [.ref 131, .int x1, .int x2, .int x3, .int x4, .int x5, .int 1, .int 0]) (show decode cX12_same 124 = .ok (.istore 7, 2) by decide +kernel) (zset_s (Nat.le_of_ble_eq_true rfl) rfl)) ?_
  exact Iff.rfl

theorem bX12_same_126 {d : Nat} {σ : zS} {Q : Option Value → zS → Prop} (hl : zLay σ) {x1 x2 x3 x4 x5 x6 x7 : Int32} : zW (d + 1) kX12_same 126 [.ref 131, .int x1, .int x2, .int x3, .int x4, .int x5, .int x6, .int x7] [] σ Q ↔ (if (zI σ 131 20) ≤ x7 then (if x6 = (0 : Int32) then zW (d + 1) kX12_same 69 [.ref 131, .int x1, .int x2, .int x3, .int (x4 + 0), .int (x5 + 1), .int x6, .int x7] [] σ Q else zW (d + 1) kX12_same 69 [.ref 131, .int x1, .int x2, .int x3, .int (x4 + 1), .int (x5 + 1), .int x6, .int x7] [] σ Q) else (if x6 = (0 : Int32) then zW (d + 1) kX12_same 126 [.ref 131, .int x1, .int x2, .int x3, .int x4, .int x5, .int 0, .int (x7 + 1)] [] σ Q else (vp_in x7 6 ∧ zCall d kX12_placeOf [.ref 131, .int x7] σ (fun r σ' => zisN r = true ∧ zW (d + 1) kX12_same 153 [.ref 131, .int x1, .int x2, .int x3, .int x4, .int x5, .int x6, .int x7] (zRstk r ++ [.int (zI σ 153 (x7 : Int32).toNatClampNeg)]) σ' Q)))) := by
  refine Iff.trans (zw_iload (show decode cX12_same 126 = .ok (.iload 7, 2) by decide +kernel) rfl) ?_
  refine Iff.trans (zw_aload_n (show decode cX12_same 128 = .ok (.aload_n 0, 1) by decide +kernel) rfl) ?_
  refine Iff.trans (zw_getI (show decode cX12_same 129 = .ok (.getfield 222, 3) by decide +kernel) (by decide +kernel : zfld 12 222 = some (12, 20)) (hl.k2 zk_131) (hl.n2 zk_131) (Or.inl rfl) (w := zI σ 131 20) rfl) ?_
  refine Iff.trans (zw_icmp_ge (t := 169) (show decode cX12_same 132 = .ok (.if_icmp .ge 37, 3) by decide +kernel) (by decide)) ?_
  refine zw_ite ?_ ?_
  · refine Iff.trans (zw_iload (show decode cX12_same 169 = .ok (.iload 4, 2) by decide +kernel) rfl) ?_
    refine Iff.trans (zw_iload (show decode cX12_same 171 = .ok (.iload 6, 2) by decide +kernel) rfl) ?_
    refine Iff.trans (zw_if_eq (t := 180) (show decode cX12_same 173 = .ok (.ifCond .eq 7, 3) by decide +kernel) (by decide)) ?_
    refine zw_ite ?_ ?_
    · refine Iff.trans (zw_iconst (x := 0) (show decode cX12_same 180 = .ok (.iconst 0, 1) by decide +kernel) (by decide)) ?_
      refine Iff.trans (zw_iadd (show decode cX12_same 181 = .ok (.iadd, 1) by decide +kernel)) ?_
      refine Iff.trans (zw_istore (ls' := [.ref 131, .int x1, .int x2, .int x3, .int (x4 + 0), .int x5, .int x6, .int x7]) (show decode cX12_same 182 = .ok (.istore 4, 2) by decide +kernel) (zset_s (Nat.le_of_ble_eq_true rfl) rfl)) ?_
      refine Iff.trans (zw_iinc (w := 1) (ls' := [.ref 131, .int x1, .int x2, .int x3, .int (x4 + 0), .int (x5 + 1), .int x6, .int x7]) (show decode cX12_same 184 = .ok (.iinc 5 1, 3) by decide +kernel) rfl (by decide) (zset_s (Nat.le_of_ble_eq_true rfl) rfl)) ?_
      refine Iff.trans (zw_goto (t := 69) (show decode cX12_same 187 = .ok (.goto (-118), 3) by decide +kernel) (by decide)) ?_
      exact Iff.rfl
    · refine Iff.trans (zw_iconst (x := 1) (show decode cX12_same 176 = .ok (.iconst 1, 1) by decide +kernel) (by decide)) ?_
      refine Iff.trans (zw_goto (t := 181) (show decode cX12_same 177 = .ok (.goto 4, 3) by decide +kernel) (by decide)) ?_
      refine Iff.trans (zw_iadd (show decode cX12_same 181 = .ok (.iadd, 1) by decide +kernel)) ?_
      refine Iff.trans (zw_istore (ls' := [.ref 131, .int x1, .int x2, .int x3, .int (x4 + 1), .int x5, .int x6, .int x7]) (show decode cX12_same 182 = .ok (.istore 4, 2) by decide +kernel) (zset_s (Nat.le_of_ble_eq_true rfl) rfl)) ?_
      refine Iff.trans (zw_iinc (w := 1) (ls' := [.ref 131, .int x1, .int x2, .int x3, .int (x4 + 1), .int (x5 + 1), .int x6, .int x7]) (show decode cX12_same 184 = .ok (.iinc 5 1, 3) by decide +kernel) rfl (by decide) (zset_s (Nat.le_of_ble_eq_true rfl) rfl)) ?_
      refine Iff.trans (zw_goto (t := 69) (show decode cX12_same 187 = .ok (.goto (-118), 3) by decide +kernel) (by decide)) ?_
      exact Iff.rfl
  · refine Iff.trans (zw_iload (show decode cX12_same 135 = .ok (.iload 6, 2) by decide +kernel) rfl) ?_
    refine Iff.trans (zw_if_eq (t := 160) (show decode cX12_same 137 = .ok (.ifCond .eq 23, 3) by decide +kernel) (by decide)) ?_
    refine zw_ite ?_ ?_
    · refine Iff.trans (zw_iconst (x := 0) (show decode cX12_same 160 = .ok (.iconst 0, 1) by decide +kernel) (by decide)) ?_
      refine Iff.trans (zw_istore (ls' := [.ref 131, .int x1, .int x2, .int x3, .int x4, .int x5, .int 0, .int x7]) (show decode cX12_same 161 = .ok (.istore 6, 2) by decide +kernel) (zset_s (Nat.le_of_ble_eq_true rfl) rfl)) ?_
      refine Iff.trans (zw_iinc (w := 1) (ls' := [.ref 131, .int x1, .int x2, .int x3, .int x4, .int x5, .int 0, .int (x7 + 1)]) (show decode cX12_same 163 = .ok (.iinc 7 1, 3) by decide +kernel) rfl (by decide) (zset_s (Nat.le_of_ble_eq_true rfl) rfl)) ?_
      refine Iff.trans (zw_goto (t := 126) (show decode cX12_same 166 = .ok (.goto (-40), 3) by decide +kernel) (by decide)) ?_
      exact Iff.rfl
    · refine Iff.trans (zw_aload_n (show decode cX12_same 140 = .ok (.aload_n 0, 1) by decide +kernel) rfl) ?_
      refine Iff.trans (zw_get (show decode cX12_same 141 = .ok (.getfield 85, 3) by decide +kernel) (by decide +kernel : zfld 12 85 = some (12, 47)) (hl.k2 zk_131) (hl.n2 zk_131) (zgetR (v := 153) (hl.r zrt_131_47) rfl)) ?_
      refine Iff.trans (zw_iload (show decode cX12_same 144 = .ok (.iload 7, 2) by decide +kernel) rfl) ?_
      refine Iff.trans (zw_iald2 (show decode cX12_same 146 = .ok (.iaload, 1) by decide +kernel) (hl.k2 zk_153) (hl.n2 zk_153) (hl.l2 zk_153 zl_153) (w := zI σ 153 (x7 : Int32).toNatClampNeg) rfl) ?_
      refine zw_and ?_
      refine Iff.trans (zw_aload_n (show decode cX12_same 147 = .ok (.aload_n 0, 1) by decide +kernel) rfl) ?_
      refine Iff.trans (zw_iload (show decode cX12_same 148 = .ok (.iload 7, 2) by decide +kernel) rfl) ?_
      refine Iff.trans (zw_invV (K' := kX12_placeOf) (as' := [.int x7]) (rest := [.int (zI σ 153 (x7 : Int32).toNatClampNeg)]) (show decode cX12_same 150 = .ok (.invokevirtual 316, 3) by decide +kernel) (by rfl) rfl rfl rfl (hl.k2 zk_131) (by decide) (hl.n2 zk_131) ⟨Nat.le_of_ble_eq_true rfl, Nat.le_of_ble_eq_true rfl, Nat.le_of_ble_eq_true rfl⟩) ?_
      exact Iff.rfl

theorem bX12_same_153 {d : Nat} {σ : zS} {Q : Option Value → zS → Prop} (hl : zLay σ) {x1 x2 x3 x4 x5 x6 x7 y0 y1 : Int32} : zW (d + 1) kX12_same 153 [.ref 131, .int x1, .int x2, .int x3, .int x4, .int x5, .int x6, .int x7] [.int y0, .int y1] σ Q ↔ (if y1 = y0 then zW (d + 1) kX12_same 126 [.ref 131, .int x1, .int x2, .int x3, .int x4, .int x5, .int 1, .int (x7 + 1)] [] σ Q else zW (d + 1) kX12_same 126 [.ref 131, .int x1, .int x2, .int x3, .int x4, .int x5, .int 0, .int (x7 + 1)] [] σ Q) := by
  refine Iff.trans (zw_icmp_ne (t := 160) (show decode cX12_same 153 = .ok (.if_icmp .ne 7, 3) by decide +kernel) (by decide)) ?_
  refine zw_ite ?_ ?_
  · refine Iff.trans (zw_iconst (x := 1) (show decode cX12_same 156 = .ok (.iconst 1, 1) by decide +kernel) (by decide)) ?_
    refine Iff.trans (zw_goto (t := 161) (show decode cX12_same 157 = .ok (.goto 4, 3) by decide +kernel) (by decide)) ?_
    refine Iff.trans (zw_istore (ls' := [.ref 131, .int x1, .int x2, .int x3, .int x4, .int x5, .int 1, .int x7]) (show decode cX12_same 161 = .ok (.istore 6, 2) by decide +kernel) (zset_s (Nat.le_of_ble_eq_true rfl) rfl)) ?_
    refine Iff.trans (zw_iinc (w := 1) (ls' := [.ref 131, .int x1, .int x2, .int x3, .int x4, .int x5, .int 1, .int (x7 + 1)]) (show decode cX12_same 163 = .ok (.iinc 7 1, 3) by decide +kernel) rfl (by decide) (zset_s (Nat.le_of_ble_eq_true rfl) rfl)) ?_
    refine Iff.trans (zw_goto (t := 126) (show decode cX12_same 166 = .ok (.goto (-40), 3) by decide +kernel) (by decide)) ?_
    exact Iff.rfl
  · refine Iff.trans (zw_iconst (x := 0) (show decode cX12_same 160 = .ok (.iconst 0, 1) by decide +kernel) (by decide)) ?_
    refine Iff.trans (zw_istore (ls' := [.ref 131, .int x1, .int x2, .int x3, .int x4, .int x5, .int 0, .int x7]) (show decode cX12_same 161 = .ok (.istore 6, 2) by decide +kernel) (zset_s (Nat.le_of_ble_eq_true rfl) rfl)) ?_
    refine Iff.trans (zw_iinc (w := 1) (ls' := [.ref 131, .int x1, .int x2, .int x3, .int x4, .int x5, .int 0, .int (x7 + 1)]) (show decode cX12_same 163 = .ok (.iinc 7 1, 3) by decide +kernel) rfl (by decide) (zset_s (Nat.le_of_ble_eq_true rfl) rfl)) ?_
    refine Iff.trans (zw_goto (t := 126) (show decode cX12_same 166 = .ok (.goto (-40), 3) by decide +kernel) (by decide)) ?_
    exact Iff.rfl

theorem bX12_same_194 {d : Nat} {σ : zS} {Q : Option Value → zS → Prop} (hl : zLay σ) {x1 x2 x3 x4 x5 : Int32} {v6 v7 : Value} (hv6 : v6.category = 1) (hv7 : v7.category = 1) : zW (d + 1) kX12_same 194 [.ref 131, .int x1, .int x2, .int x3, .int x4, .int x5, v6, v7] [] σ Q ↔ Q (some (.int x4)) σ := by
  refine Iff.trans (zw_iload (show decode cX12_same 194 = .ok (.iload 4, 2) by decide +kernel) rfl) ?_
  exact zw_iret1 (show decode cX12_same 196 = .ok (.ireturn, 1) by decide +kernel) rfl

theorem bX12_carved_0 {d : Nat} {σ : zS} {Q : Option Value → zS → Prop} (hl : zLay σ) {x1 x2 x3 x4 : Int32} : zCall (d + 1) kX12_carved [.ref 131, .int x1, .int x2, .int x3, .int x4] σ Q ↔ zCall d kX12_isBrook [.ref 131, .int x1] (zsI σ 131 (upd (zI σ 131) 0 0)) (fun r σ' => zisN r = true ∧ zW (d + 1) kX12_carved 10 [.ref 131, .int x1, .int x2, .int x3, .int x4, .retAddr 0, .retAddr 0, .retAddr 0, .retAddr 0, .retAddr 0, .retAddr 0, .retAddr 0, .retAddr 0] (zRstk r ++ []) σ' Q) := by
  show zW (d + 1) kX12_carved 0 [.ref 131, .int x1, .int x2, .int x3, .int x4, .retAddr 0, .retAddr 0, .retAddr 0, .retAddr 0, .retAddr 0, .retAddr 0, .retAddr 0, .retAddr 0] [] σ Q ↔ _
  refine Iff.trans (zw_aload_n (show decode cX12_carved 0 = .ok (.aload_n 0, 1) by decide +kernel) rfl) ?_
  refine Iff.trans (zw_iconst (x := 0) (show decode cX12_carved 1 = .ok (.iconst 0, 1) by decide +kernel) (by decide)) ?_
  refine Iff.trans (zw_putI (show decode cX12_carved 2 = .ok (.putfield 118, 3) by decide +kernel) (by decide +kernel : zfld 12 118 = some (12, 0)) (hl.k2 zk_131) (hl.n2 zk_131) rfl (Or.inl rfl) (σ' := (zsI σ 131 (upd (zI σ 131) 0 0))) rfl) ?_
  refine Iff.trans (zw_aload_n (show decode cX12_carved 5 = .ok (.aload_n 0, 1) by decide +kernel) rfl) ?_
  refine Iff.trans (zw_iload_n (show decode cX12_carved 6 = .ok (.iload_n 1, 1) by decide +kernel) rfl) ?_
  refine Iff.trans (zw_invV (K' := kX12_isBrook) (as' := [.int x1]) (rest := []) (show decode cX12_carved 7 = .ok (.invokevirtual 193, 3) by decide +kernel) (by rfl) rfl rfl rfl (hl.I.k2 zk_131) (by decide) (hl.I.n2 zk_131) ⟨Nat.le_of_ble_eq_true rfl, Nat.le_of_ble_eq_true rfl, Nat.le_of_ble_eq_true rfl⟩) ?_
  exact Iff.rfl

theorem bX12_carved_10 {d : Nat} {σ : zS} {Q : Option Value → zS → Prop} (hl : zLay σ) {x1 x2 x3 x4 y0 : Int32} : zW (d + 1) kX12_carved 10 [.ref 131, .int x1, .int x2, .int x3, .int x4, .retAddr 0, .retAddr 0, .retAddr 0, .retAddr 0, .retAddr 0, .retAddr 0, .retAddr 0, .retAddr 0] [.int y0] σ Q ↔ (if y0 = (0 : Int32) then Q (some (.int (-1))) σ else (vp_in x1 7 ∧ zCall d kX12_isIn [.int x2, .int 0, .int ((zI σ 134 (x1 : Int32).toNatClampNeg) - 1)] σ (fun r σ' => zisN r = true ∧ zW (d + 1) kX12_carved 26 [.ref 131, .int x1, .int x2, .int x3, .int x4, .retAddr 0, .retAddr 0, .retAddr 0, .retAddr 0, .retAddr 0, .retAddr 0, .retAddr 0, .retAddr 0] (zRstk r ++ []) σ' Q))) := by
  refine Iff.trans (zw_if_eq (t := 49) (show decode cX12_carved 10 = .ok (.ifCond .eq 39, 3) by decide +kernel) (by decide)) ?_
  refine zw_ite ?_ ?_
  · refine Iff.trans (zw_iconst (x := (-1)) (show decode cX12_carved 49 = .ok (.iconst (-1), 1) by decide +kernel) (by decide)) ?_
    exact zw_iret1 (show decode cX12_carved 50 = .ok (.ireturn, 1) by decide +kernel) rfl
  · refine Iff.trans (zw_iload_n (show decode cX12_carved 13 = .ok (.iload_n 2, 1) by decide +kernel) rfl) ?_
    refine Iff.trans (zw_iconst (x := 0) (show decode cX12_carved 14 = .ok (.iconst 0, 1) by decide +kernel) (by decide)) ?_
    refine Iff.trans (zw_aload_n (show decode cX12_carved 15 = .ok (.aload_n 0, 1) by decide +kernel) rfl) ?_
    refine Iff.trans (zw_get (show decode cX12_carved 16 = .ok (.getfield 17, 3) by decide +kernel) (by decide +kernel : zfld 12 17 = some (12, 6)) (hl.k2 zk_131) (hl.n2 zk_131) (zgetR (v := 134) (hl.r zrt_131_6) rfl)) ?_
    refine Iff.trans (zw_iload_n (show decode cX12_carved 19 = .ok (.iload_n 1, 1) by decide +kernel) rfl) ?_
    refine Iff.trans (zw_iald2 (show decode cX12_carved 20 = .ok (.iaload, 1) by decide +kernel) (hl.k2 zk_134) (hl.n2 zk_134) (hl.l2 zk_134 zl_134) (w := zI σ 134 (x1 : Int32).toNatClampNeg) rfl) ?_
    refine zw_and ?_
    refine Iff.trans (zw_iconst (x := 1) (show decode cX12_carved 21 = .ok (.iconst 1, 1) by decide +kernel) (by decide)) ?_
    refine Iff.trans (zw_isub (show decode cX12_carved 22 = .ok (.isub, 1) by decide +kernel)) ?_
    refine Iff.trans (zw_invS (K' := kX12_isIn) (as := [.int x2, .int 0, .int ((zI σ 134 (x1 : Int32).toNatClampNeg) - 1)]) (rest := []) (show decode cX12_carved 23 = .ok (.invokestatic 163, 3) by decide +kernel) (by rfl) rfl rfl rfl ⟨Nat.le_of_ble_eq_true rfl, Nat.le_of_ble_eq_true rfl, Nat.le_of_ble_eq_true rfl⟩) ?_
    exact Iff.rfl

theorem bX12_carved_26 {d : Nat} {σ : zS} {Q : Option Value → zS → Prop} (hl : zLay σ) {x1 x2 x3 x4 y0 : Int32} : zW (d + 1) kX12_carved 26 [.ref 131, .int x1, .int x2, .int x3, .int x4, .retAddr 0, .retAddr 0, .retAddr 0, .retAddr 0, .retAddr 0, .retAddr 0, .retAddr 0, .retAddr 0] [.int y0] σ Q ↔ (if y0 = (0 : Int32) then Q (some (.int (-1))) σ else zCall d kX12_isIn [.int x3, .int 0, .int 30] σ (fun r σ' => zisN r = true ∧ zW (d + 1) kX12_carved 36 [.ref 131, .int x1, .int x2, .int x3, .int x4, .retAddr 0, .retAddr 0, .retAddr 0, .retAddr 0, .retAddr 0, .retAddr 0, .retAddr 0, .retAddr 0] (zRstk r ++ []) σ' Q)) := by
  refine Iff.trans (zw_if_eq (t := 49) (show decode cX12_carved 26 = .ok (.ifCond .eq 23, 3) by decide +kernel) (by decide)) ?_
  refine zw_ite ?_ ?_
  · refine Iff.trans (zw_iconst (x := (-1)) (show decode cX12_carved 49 = .ok (.iconst (-1), 1) by decide +kernel) (by decide)) ?_
    exact zw_iret1 (show decode cX12_carved 50 = .ok (.ireturn, 1) by decide +kernel) rfl
  · refine Iff.trans (zw_iload_n (show decode cX12_carved 29 = .ok (.iload_n 3, 1) by decide +kernel) rfl) ?_
    refine Iff.trans (zw_iconst (x := 0) (show decode cX12_carved 30 = .ok (.iconst 0, 1) by decide +kernel) (by decide)) ?_
    refine Iff.trans (zw_bipush (x := 30) (show decode cX12_carved 31 = .ok (.bipush 30, 2) by decide +kernel) (by decide)) ?_
    refine Iff.trans (zw_invS (K' := kX12_isIn) (as := [.int x3, .int 0, .int 30]) (rest := []) (show decode cX12_carved 33 = .ok (.invokestatic 163, 3) by decide +kernel) (by rfl) rfl rfl rfl ⟨Nat.le_of_ble_eq_true rfl, Nat.le_of_ble_eq_true rfl, Nat.le_of_ble_eq_true rfl⟩) ?_
    exact Iff.rfl

theorem bX12_carved_36 {d : Nat} {σ : zS} {Q : Option Value → zS → Prop} (hl : zLay σ) {x1 x2 x3 x4 y0 : Int32} : zW (d + 1) kX12_carved 36 [.ref 131, .int x1, .int x2, .int x3, .int x4, .retAddr 0, .retAddr 0, .retAddr 0, .retAddr 0, .retAddr 0, .retAddr 0, .retAddr 0, .retAddr 0] [.int y0] σ Q ↔ (if y0 = (0 : Int32) then Q (some (.int (-1))) σ else zCall d kX12_isIn [.int x4, .int 0, .int 3] σ (fun r σ' => zisN r = true ∧ zW (d + 1) kX12_carved 46 [.ref 131, .int x1, .int x2, .int x3, .int x4, .retAddr 0, .retAddr 0, .retAddr 0, .retAddr 0, .retAddr 0, .retAddr 0, .retAddr 0, .retAddr 0] (zRstk r ++ []) σ' Q)) := by
  refine Iff.trans (zw_if_eq (t := 49) (show decode cX12_carved 36 = .ok (.ifCond .eq 13, 3) by decide +kernel) (by decide)) ?_
  refine zw_ite ?_ ?_
  · refine Iff.trans (zw_iconst (x := (-1)) (show decode cX12_carved 49 = .ok (.iconst (-1), 1) by decide +kernel) (by decide)) ?_
    exact zw_iret1 (show decode cX12_carved 50 = .ok (.ireturn, 1) by decide +kernel) rfl
  · refine Iff.trans (zw_iload (show decode cX12_carved 39 = .ok (.iload 4, 2) by decide +kernel) rfl) ?_
    refine Iff.trans (zw_iconst (x := 0) (show decode cX12_carved 41 = .ok (.iconst 0, 1) by decide +kernel) (by decide)) ?_
    refine Iff.trans (zw_iconst (x := 3) (show decode cX12_carved 42 = .ok (.iconst 3, 1) by decide +kernel) (by decide)) ?_
    refine Iff.trans (zw_invS (K' := kX12_isIn) (as := [.int x4, .int 0, .int 3]) (rest := []) (show decode cX12_carved 43 = .ok (.invokestatic 163, 3) by decide +kernel) (by rfl) rfl rfl rfl ⟨Nat.le_of_ble_eq_true rfl, Nat.le_of_ble_eq_true rfl, Nat.le_of_ble_eq_true rfl⟩) ?_
    exact Iff.rfl

theorem bX12_carved_46 {d : Nat} {σ : zS} {Q : Option Value → zS → Prop} (hl : zLay σ) {x1 x2 x3 x4 y0 : Int32} : zW (d + 1) kX12_carved 46 [.ref 131, .int x1, .int x2, .int x3, .int x4, .retAddr 0, .retAddr 0, .retAddr 0, .retAddr 0, .retAddr 0, .retAddr 0, .retAddr 0, .retAddr 0] [.int y0] σ Q ↔ (if y0 = (0 : Int32) then Q (some (.int (-1))) σ else zW (d + 1) kX12_carved 66 [.ref 131, .int x1, .int x2, .int x3, .int x4, .int (-1), .int (-1), .int (-1), .int (-1), .int 1, .retAddr 0, .retAddr 0, .retAddr 0] [] σ Q) := by
  refine Iff.trans (zw_if_ne (t := 51) (show decode cX12_carved 46 = .ok (.ifCond .ne 5, 3) by decide +kernel) (by decide)) ?_
  refine zw_ite ?_ ?_
  · refine Iff.trans (zw_iconst (x := (-1)) (show decode cX12_carved 49 = .ok (.iconst (-1), 1) by decide +kernel) (by decide)) ?_
    exact zw_iret1 (show decode cX12_carved 50 = .ok (.ireturn, 1) by decide +kernel) rfl
  · refine Iff.trans (zw_iconst (x := (-1)) (show decode cX12_carved 51 = .ok (.iconst (-1), 1) by decide +kernel) (by decide)) ?_
    refine Iff.trans (zw_istore (ls' := [.ref 131, .int x1, .int x2, .int x3, .int x4, .int (-1), .retAddr 0, .retAddr 0, .retAddr 0, .retAddr 0, .retAddr 0, .retAddr 0, .retAddr 0]) (show decode cX12_carved 52 = .ok (.istore 5, 2) by decide +kernel) (zset_s (Nat.le_of_ble_eq_true rfl) rfl)) ?_
    refine Iff.trans (zw_iconst (x := (-1)) (show decode cX12_carved 54 = .ok (.iconst (-1), 1) by decide +kernel) (by decide)) ?_
    refine Iff.trans (zw_istore (ls' := [.ref 131, .int x1, .int x2, .int x3, .int x4, .int (-1), .int (-1), .retAddr 0, .retAddr 0, .retAddr 0, .retAddr 0, .retAddr 0, .retAddr 0]) (show decode cX12_carved 55 = .ok (.istore 6, 2) by decide +kernel) (zset_s (Nat.le_of_ble_eq_true rfl) rfl)) ?_
    refine Iff.trans (zw_iconst (x := (-1)) (show decode cX12_carved 57 = .ok (.iconst (-1), 1) by decide +kernel) (by decide)) ?_
    refine Iff.trans (zw_istore (ls' := [.ref 131, .int x1, .int x2, .int x3, .int x4, .int (-1), .int (-1), .int (-1), .retAddr 0, .retAddr 0, .retAddr 0, .retAddr 0, .retAddr 0]) (show decode cX12_carved 58 = .ok (.istore 7, 2) by decide +kernel) (zset_s (Nat.le_of_ble_eq_true rfl) rfl)) ?_
    refine Iff.trans (zw_iconst (x := (-1)) (show decode cX12_carved 60 = .ok (.iconst (-1), 1) by decide +kernel) (by decide)) ?_
    refine Iff.trans (zw_istore (ls' := [.ref 131, .int x1, .int x2, .int x3, .int x4, .int (-1), .int (-1), .int (-1), .int (-1), .retAddr 0, .retAddr 0, .retAddr 0, .retAddr 0]) (show decode cX12_carved 61 = .ok (.istore 8, 2) by decide +kernel) (zset_s (Nat.le_of_ble_eq_true rfl) rfl)) ?_
    refine Iff.trans (zw_iconst (x := 1) (show decode cX12_carved 63 = .ok (.iconst 1, 1) by decide +kernel) (by decide)) ?_
    refine Iff.trans (zw_istore (ls' := [.ref 131, .int x1, .int x2, .int x3, .int x4, .int (-1), .int (-1), .int (-1), .int (-1), .int 1, .retAddr 0, .retAddr 0, .retAddr 0]) (show decode cX12_carved 64 = .ok (.istore 9, 2) by decide +kernel) (zset_s (Nat.le_of_ble_eq_true rfl) rfl)) ?_
    exact Iff.rfl

theorem bX12_carved_66 {d : Nat} {σ : zS} {Q : Option Value → zS → Prop} (hl : zLay σ) {x1 x2 x3 x4 x5 x6 x7 x8 x9 : Int32} {v10 v11 v12 : Value} (hv10 : v10.category = 1) (hv11 : v11.category = 1) (hv12 : v12.category = 1) : zW (d + 1) kX12_carved 66 [.ref 131, .int x1, .int x2, .int x3, .int x4, .int x5, .int x6, .int x7, .int x8, .int x9, v10, v11, v12] [] σ Q ↔ (if 6 ≤ x9 then (if x4 = (0 : Int32) then Q (some (.int x5)) σ else (if x4 = 1 then Q (some (.int x6)) σ else (if x4 = 2 then Q (some (.int x7)) σ else Q (some (.int x8)) σ))) else zW (d + 1) kX12_carved 76 [.ref 131, .int x1, .int x2, .int x3, .int x4, .int x5, .int x6, .int x7, .int x8, .int x9, .int 0, v11, v12] [] σ Q) := by
  refine Iff.trans (zw_iload (show decode cX12_carved 66 = .ok (.iload 9, 2) by decide +kernel) rfl) ?_
  refine Iff.trans (zw_bipush (x := 6) (show decode cX12_carved 68 = .ok (.bipush 6, 2) by decide +kernel) (by decide)) ?_
  refine Iff.trans (zw_icmp_ge (t := 187) (show decode cX12_carved 70 = .ok (.if_icmp .ge 117, 3) by decide +kernel) (by decide)) ?_
  refine zw_ite ?_ ?_
  · refine Iff.trans (zw_iload (show decode cX12_carved 187 = .ok (.iload 4, 2) by decide +kernel) rfl) ?_
    refine Iff.trans (zw_if_ne (t := 197) (show decode cX12_carved 189 = .ok (.ifCond .ne 8, 3) by decide +kernel) (by decide)) ?_
    refine zw_ite ?_ ?_
    · refine Iff.trans (zw_iload (show decode cX12_carved 192 = .ok (.iload 5, 2) by decide +kernel) rfl) ?_
      refine Iff.trans (zw_goto (t := 221) (show decode cX12_carved 194 = .ok (.goto 27, 3) by decide +kernel) (by decide)) ?_
      exact zw_iret1 (show decode cX12_carved 221 = .ok (.ireturn, 1) by decide +kernel) rfl
    · refine Iff.trans (zw_iload (show decode cX12_carved 197 = .ok (.iload 4, 2) by decide +kernel) rfl) ?_
      refine Iff.trans (zw_iconst (x := 1) (show decode cX12_carved 199 = .ok (.iconst 1, 1) by decide +kernel) (by decide)) ?_
      refine Iff.trans (zw_icmp_ne (t := 208) (show decode cX12_carved 200 = .ok (.if_icmp .ne 8, 3) by decide +kernel) (by decide)) ?_
      refine zw_ite ?_ ?_
      · refine Iff.trans (zw_iload (show decode cX12_carved 203 = .ok (.iload 6, 2) by decide +kernel) rfl) ?_
        refine Iff.trans (zw_goto (t := 221) (show decode cX12_carved 205 = .ok (.goto 16, 3) by decide +kernel) (by decide)) ?_
        exact zw_iret1 (show decode cX12_carved 221 = .ok (.ireturn, 1) by decide +kernel) rfl
      · refine Iff.trans (zw_iload (show decode cX12_carved 208 = .ok (.iload 4, 2) by decide +kernel) rfl) ?_
        refine Iff.trans (zw_iconst (x := 2) (show decode cX12_carved 210 = .ok (.iconst 2, 1) by decide +kernel) (by decide)) ?_
        refine Iff.trans (zw_icmp_ne (t := 219) (show decode cX12_carved 211 = .ok (.if_icmp .ne 8, 3) by decide +kernel) (by decide)) ?_
        refine zw_ite ?_ ?_
        · refine Iff.trans (zw_iload (show decode cX12_carved 214 = .ok (.iload 7, 2) by decide +kernel) rfl) ?_
          refine Iff.trans (zw_goto (t := 221) (show decode cX12_carved 216 = .ok (.goto 5, 3) by decide +kernel) (by decide)) ?_
          exact zw_iret1 (show decode cX12_carved 221 = .ok (.ireturn, 1) by decide +kernel) rfl
        · refine Iff.trans (zw_iload (show decode cX12_carved 219 = .ok (.iload 8, 2) by decide +kernel) rfl) ?_
          exact zw_iret1 (show decode cX12_carved 221 = .ok (.ireturn, 1) by decide +kernel) rfl
  · refine Iff.trans (zw_iconst (x := 0) (show decode cX12_carved 73 = .ok (.iconst 0, 1) by decide +kernel) (by decide)) ?_
    refine Iff.trans (zw_istore (ls' := [.ref 131, .int x1, .int x2, .int x3, .int x4, .int x5, .int x6, .int x7, .int x8, .int x9, .int 0, v11, v12]) (show decode cX12_carved 74 = .ok (.istore 10, 2) by decide +kernel) (zset_s (Nat.le_of_ble_eq_true rfl) rfl)) ?_
    exact Iff.rfl

theorem bX12_carved_76 {d : Nat} {σ : zS} {Q : Option Value → zS → Prop} (hl : zLay σ) {x1 x2 x3 x4 x5 x6 x7 x8 x9 x10 : Int32} {v11 v12 : Value} (hv11 : v11.category = 1) (hv12 : v12.category = 1) : zW (d + 1) kX12_carved 76 [.ref 131, .int x1, .int x2, .int x3, .int x4, .int x5, .int x6, .int x7, .int x8, .int x9, .int x10, v11, v12] [] σ Q ↔ (if 10 ≤ x10 then zW (d + 1) kX12_carved 66 [.ref 131, .int x1, .int x2, .int x3, .int x4, .int x5, .int x6, .int x7, .int x8, .int (x9 + 1), .int x10, v11, v12] [] σ Q else zW (d + 1) kX12_carved 86 [.ref 131, .int x1, .int x2, .int x3, .int x4, .int x5, .int x6, .int x7, .int x8, .int x9, .int x10, .int 0, v12] [] σ Q) := by
  refine Iff.trans (zw_iload (show decode cX12_carved 76 = .ok (.iload 10, 2) by decide +kernel) rfl) ?_
  refine Iff.trans (zw_bipush (x := 10) (show decode cX12_carved 78 = .ok (.bipush 10, 2) by decide +kernel) (by decide)) ?_
  refine Iff.trans (zw_icmp_ge (t := 181) (show decode cX12_carved 80 = .ok (.if_icmp .ge 101, 3) by decide +kernel) (by decide)) ?_
  refine zw_ite ?_ ?_
  · refine Iff.trans (zw_iinc (w := 1) (ls' := [.ref 131, .int x1, .int x2, .int x3, .int x4, .int x5, .int x6, .int x7, .int x8, .int (x9 + 1), .int x10, v11, v12]) (show decode cX12_carved 181 = .ok (.iinc 9 1, 3) by decide +kernel) rfl (by decide) (zset_s (Nat.le_of_ble_eq_true rfl) rfl)) ?_
    refine Iff.trans (zw_goto (t := 66) (show decode cX12_carved 184 = .ok (.goto (-118), 3) by decide +kernel) (by decide)) ?_
    exact Iff.rfl
  · refine Iff.trans (zw_iconst (x := 0) (show decode cX12_carved 83 = .ok (.iconst 0, 1) by decide +kernel) (by decide)) ?_
    refine Iff.trans (zw_istore (ls' := [.ref 131, .int x1, .int x2, .int x3, .int x4, .int x5, .int x6, .int x7, .int x8, .int x9, .int x10, .int 0, v12]) (show decode cX12_carved 84 = .ok (.istore 11, 2) by decide +kernel) (zset_s (Nat.le_of_ble_eq_true rfl) rfl)) ?_
    exact Iff.rfl

theorem bX12_carved_86 {d : Nat} {σ : zS} {Q : Option Value → zS → Prop} (hl : zLay σ) {x1 x2 x3 x4 x5 x6 x7 x8 x9 x10 x11 : Int32} {v12 : Value} (hv12 : v12.category = 1) : zW (d + 1) kX12_carved 86 [.ref 131, .int x1, .int x2, .int x3, .int x4, .int x5, .int x6, .int x7, .int x8, .int x9, .int x10, .int x11, v12] [] σ Q ↔ (if 10 ≤ x11 then zW (d + 1) kX12_carved 76 [.ref 131, .int x1, .int x2, .int x3, .int x4, .int x5, .int x6, .int x7, .int x8, .int x9, .int (x10 + 1), .int x11, v12] [] σ Q else (if x3 < (((2 * x9) + x10) + x11) then zW (d + 1) kX12_carved 86 [.ref 131, .int x1, .int x2, .int x3, .int x4, .int x5, .int x6, .int x7, .int x8, .int x9, .int x10, .int (x11 + 1), v12] [] σ Q else zCall d kX12_canLie [.ref 131, .int x1, .int x9, .int 0, .int x2] σ (fun r σ' => zisN r = true ∧ zW (d + 1) kX12_carved 116 [.ref 131, .int x1, .int x2, .int x3, .int x4, .int x5, .int x6, .int x7, .int x8, .int x9, .int x10, .int x11, v12] (zRstk r ++ []) σ' Q))) := by
  refine Iff.trans (zw_iload (show decode cX12_carved 86 = .ok (.iload 11, 2) by decide +kernel) rfl) ?_
  refine Iff.trans (zw_bipush (x := 10) (show decode cX12_carved 88 = .ok (.bipush 10, 2) by decide +kernel) (by decide)) ?_
  refine Iff.trans (zw_icmp_ge (t := 175) (show decode cX12_carved 90 = .ok (.if_icmp .ge 85, 3) by decide +kernel) (by decide)) ?_
  refine zw_ite ?_ ?_
  · refine Iff.trans (zw_iinc (w := 1) (ls' := [.ref 131, .int x1, .int x2, .int x3, .int x4, .int x5, .int x6, .int x7, .int x8, .int x9, .int (x10 + 1), .int x11, v12]) (show decode cX12_carved 175 = .ok (.iinc 10 1, 3) by decide +kernel) rfl (by decide) (zset_s (Nat.le_of_ble_eq_true rfl) rfl)) ?_
    refine Iff.trans (zw_goto (t := 76) (show decode cX12_carved 178 = .ok (.goto (-102), 3) by decide +kernel) (by decide)) ?_
    exact Iff.rfl
  · refine Iff.trans (zw_iconst (x := 2) (show decode cX12_carved 93 = .ok (.iconst 2, 1) by decide +kernel) (by decide)) ?_
    refine Iff.trans (zw_iload (show decode cX12_carved 94 = .ok (.iload 9, 2) by decide +kernel) rfl) ?_
    refine Iff.trans (zw_imul (show decode cX12_carved 96 = .ok (.imul, 1) by decide +kernel)) ?_
    refine Iff.trans (zw_iload (show decode cX12_carved 97 = .ok (.iload 10, 2) by decide +kernel) rfl) ?_
    refine Iff.trans (zw_iadd (show decode cX12_carved 99 = .ok (.iadd, 1) by decide +kernel)) ?_
    refine Iff.trans (zw_iload (show decode cX12_carved 100 = .ok (.iload 11, 2) by decide +kernel) rfl) ?_
    refine Iff.trans (zw_iadd (show decode cX12_carved 102 = .ok (.iadd, 1) by decide +kernel)) ?_
    refine Iff.trans (zw_iload_n (show decode cX12_carved 103 = .ok (.iload_n 3, 1) by decide +kernel) rfl) ?_
    refine Iff.trans (zw_icmp_gt (t := 169) (show decode cX12_carved 104 = .ok (.if_icmp .gt 65, 3) by decide +kernel) (by decide)) ?_
    refine zw_ite ?_ ?_
    · refine Iff.trans (zw_iinc (w := 1) (ls' := [.ref 131, .int x1, .int x2, .int x3, .int x4, .int x5, .int x6, .int x7, .int x8, .int x9, .int x10, .int (x11 + 1), v12]) (show decode cX12_carved 169 = .ok (.iinc 11 1, 3) by decide +kernel) rfl (by decide) (zset_s (Nat.le_of_ble_eq_true rfl) rfl)) ?_
      refine Iff.trans (zw_goto (t := 86) (show decode cX12_carved 172 = .ok (.goto (-86), 3) by decide +kernel) (by decide)) ?_
      exact Iff.rfl
    · refine Iff.trans (zw_aload_n (show decode cX12_carved 107 = .ok (.aload_n 0, 1) by decide +kernel) rfl) ?_
      refine Iff.trans (zw_iload_n (show decode cX12_carved 108 = .ok (.iload_n 1, 1) by decide +kernel) rfl) ?_
      refine Iff.trans (zw_iload (show decode cX12_carved 109 = .ok (.iload 9, 2) by decide +kernel) rfl) ?_
      refine Iff.trans (zw_iconst (x := 0) (show decode cX12_carved 111 = .ok (.iconst 0, 1) by decide +kernel) (by decide)) ?_
      refine Iff.trans (zw_iload_n (show decode cX12_carved 112 = .ok (.iload_n 2, 1) by decide +kernel) rfl) ?_
      refine Iff.trans (zw_invV (K' := kX12_canLie) (as' := [.int x1, .int x9, .int 0, .int x2]) (rest := []) (show decode cX12_carved 113 = .ok (.invokevirtual 218, 3) by decide +kernel) (by rfl) rfl rfl rfl (hl.k2 zk_131) (by decide) (hl.n2 zk_131) ⟨Nat.le_of_ble_eq_true rfl, Nat.le_of_ble_eq_true rfl, Nat.le_of_ble_eq_true rfl⟩) ?_
      exact Iff.rfl

theorem bX12_carved_116 {d : Nat} {σ : zS} {Q : Option Value → zS → Prop} (hl : zLay σ) {x1 x2 x3 x4 x5 x6 x7 x8 x9 x10 x11 y0 : Int32} {v12 : Value} (hv12 : v12.category = 1) : zW (d + 1) kX12_carved 116 [.ref 131, .int x1, .int x2, .int x3, .int x4, .int x5, .int x6, .int x7, .int x8, .int x9, .int x10, .int x11, v12] [.int y0] σ Q ↔ (if y0 = (0 : Int32) then zW (d + 1) kX12_carved 86 [.ref 131, .int x1, .int x2, .int x3, .int x4, .int x5, .int x6, .int x7, .int x8, .int x9, .int x10, .int (x11 + 1), v12] [] σ Q else zCall d kX12_aloneOf [.ref 131, .int x1, .int x9, .int x10, .int x11, .int x2, .long 0] σ (fun r σ' => zisN r = true ∧ zW (d + 1) kX12_carved 135 [.ref 131, .int x1, .int x2, .int x3, .int x4, .int x5, .int x6, .int x7, .int x8, .int x9, .int x10, .int x11, v12] (zRstk r ++ []) σ' Q)) := by
  refine Iff.trans (zw_if_ne (t := 122) (show decode cX12_carved 116 = .ok (.ifCond .ne 6, 3) by decide +kernel) (by decide)) ?_
  refine zw_ite ?_ ?_
  · refine Iff.trans (zw_goto (t := 169) (show decode cX12_carved 119 = .ok (.goto 50, 3) by decide +kernel) (by decide)) ?_
    refine Iff.trans (zw_iinc (w := 1) (ls' := [.ref 131, .int x1, .int x2, .int x3, .int x4, .int x5, .int x6, .int x7, .int x8, .int x9, .int x10, .int (x11 + 1), v12]) (show decode cX12_carved 169 = .ok (.iinc 11 1, 3) by decide +kernel) rfl (by decide) (zset_s (Nat.le_of_ble_eq_true rfl) rfl)) ?_
    refine Iff.trans (zw_goto (t := 86) (show decode cX12_carved 172 = .ok (.goto (-86), 3) by decide +kernel) (by decide)) ?_
    exact Iff.rfl
  · refine Iff.trans (zw_aload_n (show decode cX12_carved 122 = .ok (.aload_n 0, 1) by decide +kernel) rfl) ?_
    refine Iff.trans (zw_iload_n (show decode cX12_carved 123 = .ok (.iload_n 1, 1) by decide +kernel) rfl) ?_
    refine Iff.trans (zw_iload (show decode cX12_carved 124 = .ok (.iload 9, 2) by decide +kernel) rfl) ?_
    refine Iff.trans (zw_iload (show decode cX12_carved 126 = .ok (.iload 10, 2) by decide +kernel) rfl) ?_
    refine Iff.trans (zw_iload (show decode cX12_carved 128 = .ok (.iload 11, 2) by decide +kernel) rfl) ?_
    refine Iff.trans (zw_iload_n (show decode cX12_carved 130 = .ok (.iload_n 2, 1) by decide +kernel) rfl) ?_
    refine Iff.trans (zw_lconst (x := 0) (show decode cX12_carved 131 = .ok (.lconst 0, 1) by decide +kernel) (by decide)) ?_
    refine Iff.trans (zw_invV (K' := kX12_aloneOf) (as' := [.int x1, .int x9, .int x10, .int x11, .int x2, .long 0]) (rest := []) (show decode cX12_carved 132 = .ok (.invokevirtual 353, 3) by decide +kernel) (by rfl) rfl rfl rfl (hl.k2 zk_131) (by decide) (hl.n2 zk_131) ⟨Nat.le_of_ble_eq_true rfl, Nat.le_of_ble_eq_true rfl, Nat.le_of_ble_eq_true rfl⟩) ?_
    exact Iff.rfl

theorem bX12_carved_135 {d : Nat} {σ : zS} {Q : Option Value → zS → Prop} (hl : zLay σ) {x1 x2 x3 x4 x5 x6 x7 x8 x9 x10 x11 y0 : Int32} {v12 : Value} (hv12 : v12.category = 1) : zW (d + 1) kX12_carved 135 [.ref 131, .int x1, .int x2, .int x3, .int x4, .int x5, .int x6, .int x7, .int x8, .int x9, .int x10, .int x11, v12] [.int y0] σ Q ↔ (if x8 = (-1) then zW (d + 1) kX12_carved 153 [.ref 131, .int x1, .int x2, .int x3, .int x4, .int x5, .int x6, .int x7, .int x8, .int x9, .int x10, .int x11, .int y0] [] σ Q else (if y0 < x8 then zW (d + 1) kX12_carved 153 [.ref 131, .int x1, .int x2, .int x3, .int x4, .int x5, .int x6, .int x7, .int x8, .int x9, .int x10, .int x11, .int y0] [] σ Q else zW (d + 1) kX12_carved 86 [.ref 131, .int x1, .int x2, .int x3, .int x4, .int x5, .int x6, .int x7, .int x8, .int x9, .int x10, .int (x11 + 1), .int y0] [] σ Q)) := by
  refine Iff.trans (zw_istore (ls' := [.ref 131, .int x1, .int x2, .int x3, .int x4, .int x5, .int x6, .int x7, .int x8, .int x9, .int x10, .int x11, .int y0]) (show decode cX12_carved 135 = .ok (.istore 12, 2) by decide +kernel) (zset_s (Nat.le_of_ble_eq_true rfl) rfl)) ?_
  refine Iff.trans (zw_iload (show decode cX12_carved 137 = .ok (.iload 8, 2) by decide +kernel) rfl) ?_
  refine Iff.trans (zw_iconst (x := (-1)) (show decode cX12_carved 139 = .ok (.iconst (-1), 1) by decide +kernel) (by decide)) ?_
  refine Iff.trans (zw_icmp_eq (t := 153) (show decode cX12_carved 140 = .ok (.if_icmp .eq 13, 3) by decide +kernel) (by decide)) ?_
  refine zw_ite ?_ ?_
  · exact Iff.rfl
  · refine Iff.trans (zw_iload (show decode cX12_carved 143 = .ok (.iload 12, 2) by decide +kernel) rfl) ?_
    refine Iff.trans (zw_iload (show decode cX12_carved 145 = .ok (.iload 8, 2) by decide +kernel) rfl) ?_
    refine Iff.trans (zw_icmp_lt (t := 153) (show decode cX12_carved 147 = .ok (.if_icmp .lt 6, 3) by decide +kernel) (by decide)) ?_
    refine zw_ite ?_ ?_
    · exact Iff.rfl
    · refine Iff.trans (zw_goto (t := 169) (show decode cX12_carved 150 = .ok (.goto 19, 3) by decide +kernel) (by decide)) ?_
      refine Iff.trans (zw_iinc (w := 1) (ls' := [.ref 131, .int x1, .int x2, .int x3, .int x4, .int x5, .int x6, .int x7, .int x8, .int x9, .int x10, .int (x11 + 1), .int y0]) (show decode cX12_carved 169 = .ok (.iinc 11 1, 3) by decide +kernel) rfl (by decide) (zset_s (Nat.le_of_ble_eq_true rfl) rfl)) ?_
      refine Iff.trans (zw_goto (t := 86) (show decode cX12_carved 172 = .ok (.goto (-86), 3) by decide +kernel) (by decide)) ?_
      exact Iff.rfl

theorem bX12_carved_153 {d : Nat} {σ : zS} {Q : Option Value → zS → Prop} (hl : zLay σ) {x1 x2 x3 x4 x5 x6 x7 x8 x9 x10 x11 x12 : Int32} : zW (d + 1) kX12_carved 153 [.ref 131, .int x1, .int x2, .int x3, .int x4, .int x5, .int x6, .int x7, .int x8, .int x9, .int x10, .int x11, .int x12] [] σ Q ↔ zW (d + 1) kX12_carved 86 [.ref 131, .int x1, .int x2, .int x3, .int x4, .int x9, .int x10, .int x11, .int x12, .int x9, .int x10, .int (x11 + 1), .int x12] [] σ Q := by
  refine Iff.trans (zw_iload (show decode cX12_carved 153 = .ok (.iload 12, 2) by decide +kernel) rfl) ?_
  refine Iff.trans (zw_istore (ls' := [.ref 131, .int x1, .int x2, .int x3, .int x4, .int x5, .int x6, .int x7, .int x12, .int x9, .int x10, .int x11, .int x12]) (show decode cX12_carved 155 = .ok (.istore 8, 2) by decide +kernel) (zset_s (Nat.le_of_ble_eq_true rfl) rfl)) ?_
  refine Iff.trans (zw_iload (show decode cX12_carved 157 = .ok (.iload 9, 2) by decide +kernel) rfl) ?_
  refine Iff.trans (zw_istore (ls' := [.ref 131, .int x1, .int x2, .int x3, .int x4, .int x9, .int x6, .int x7, .int x12, .int x9, .int x10, .int x11, .int x12]) (show decode cX12_carved 159 = .ok (.istore 5, 2) by decide +kernel) (zset_s (Nat.le_of_ble_eq_true rfl) rfl)) ?_
  refine Iff.trans (zw_iload (show decode cX12_carved 161 = .ok (.iload 10, 2) by decide +kernel) rfl) ?_
  refine Iff.trans (zw_istore (ls' := [.ref 131, .int x1, .int x2, .int x3, .int x4, .int x9, .int x10, .int x7, .int x12, .int x9, .int x10, .int x11, .int x12]) (show decode cX12_carved 163 = .ok (.istore 6, 2) by decide +kernel) (zset_s (Nat.le_of_ble_eq_true rfl) rfl)) ?_
  refine Iff.trans (zw_iload (show decode cX12_carved 165 = .ok (.iload 11, 2) by decide +kernel) rfl) ?_
  refine Iff.trans (zw_istore (ls' := [.ref 131, .int x1, .int x2, .int x3, .int x4, .int x9, .int x10, .int x11, .int x12, .int x9, .int x10, .int x11, .int x12]) (show decode cX12_carved 167 = .ok (.istore 7, 2) by decide +kernel) (zset_s (Nat.le_of_ble_eq_true rfl) rfl)) ?_
  refine Iff.trans (zw_iinc (w := 1) (ls' := [.ref 131, .int x1, .int x2, .int x3, .int x4, .int x9, .int x10, .int x11, .int x12, .int x9, .int x10, .int (x11 + 1), .int x12]) (show decode cX12_carved 169 = .ok (.iinc 11 1, 3) by decide +kernel) rfl (by decide) (zset_s (Nat.le_of_ble_eq_true rfl) rfl)) ?_
  refine Iff.trans (zw_goto (t := 86) (show decode cX12_carved 172 = .ok (.goto (-86), 3) by decide +kernel) (by decide)) ?_
  exact Iff.rfl

theorem bX12_layTrials_0 {d : Nat} {σ : zS} {Q : Option Value → zS → Prop} (hl : zLay σ) {x1 x2 : Int32} : zCall (d + 1) kX12_layTrials [.ref 131, .int x1, .int x2] σ Q ↔ zW (d + 1) kX12_layTrials 7 [.ref 131, .int x1, .int x2, .int 0, .retAddr 0, .retAddr 0, .retAddr 0] [] (zsI σ 131 (upd (zI σ 131) 50 0)) Q := by
  show zW (d + 1) kX12_layTrials 0 [.ref 131, .int x1, .int x2, .retAddr 0, .retAddr 0, .retAddr 0, .retAddr 0] [] σ Q ↔ _
  refine Iff.trans (zw_aload_n (show decode cX12_layTrials 0 = .ok (.aload_n 0, 1) by decide +kernel) rfl) ?_
  refine Iff.trans (zw_iconst (x := 0) (show decode cX12_layTrials 1 = .ok (.iconst 0, 1) by decide +kernel) (by decide)) ?_
  refine Iff.trans (zw_putI (show decode cX12_layTrials 2 = .ok (.putfield 381, 3) by decide +kernel) (by decide +kernel : zfld 12 381 = some (12, 50)) (hl.k2 zk_131) (hl.n2 zk_131) rfl (Or.inl rfl) (σ' := (zsI σ 131 (upd (zI σ 131) 50 0))) rfl) ?_
  refine Iff.trans (zw_iconst (x := 0) (show decode cX12_layTrials 5 = .ok (.iconst 0, 1) by decide +kernel) (by decide)) ?_
  refine Iff.trans (zw_istore_n (ls' := [.ref 131, .int x1, .int x2, .int 0, .retAddr 0, .retAddr 0, .retAddr 0]) (show decode cX12_layTrials 6 = .ok (.istore_n 3, 1) by decide +kernel) (zset_s (Nat.le_of_ble_eq_true rfl) rfl)) ?_
  exact Iff.rfl

theorem bX12_layTrials_7 {d : Nat} {σ : zS} {Q : Option Value → zS → Prop} (hl : zLay σ) {x1 x2 x3 : Int32} {v4 v5 v6 : Value} (hv4 : v4.category = 1) (hv5 : v5.category = 1) (hv6 : v6.category = 1) : zW (d + 1) kX12_layTrials 7 [.ref 131, .int x1, .int x2, .int x3, v4, v5, v6] [] σ Q ↔ (if (zI σ 131 12) ≤ x3 then Q (some (.int 1)) σ else zW (d + 1) kX12_layTrials 18 [.ref 131, .int x1, .int x2, .int x3, .int 0, v5, v6] [] σ Q) := by
  refine Iff.trans (zw_iload_n (show decode cX12_layTrials 7 = .ok (.iload_n 3, 1) by decide +kernel) rfl) ?_
  refine Iff.trans (zw_aload_n (show decode cX12_layTrials 8 = .ok (.aload_n 0, 1) by decide +kernel) rfl) ?_
  refine Iff.trans (zw_getI (show decode cX12_layTrials 9 = .ok (.getfield 184, 3) by decide +kernel) (by decide +kernel : zfld 12 184 = some (12, 12)) (hl.k2 zk_131) (hl.n2 zk_131) (Or.inl rfl) (w := zI σ 131 12) rfl) ?_
  refine Iff.trans (zw_icmp_ge (t := 200) (show decode cX12_layTrials 12 = .ok (.if_icmp .ge 188, 3) by decide +kernel) (by decide)) ?_
  refine zw_ite ?_ ?_
  · refine Iff.trans (zw_iconst (x := 1) (show decode cX12_layTrials 200 = .ok (.iconst 1, 1) by decide +kernel) (by decide)) ?_
    exact zw_iret2c (show decode cX12_layTrials 201 = .ok (.ireturn, 1) by decide +kernel) rfl (Or.inr rfl)
  · refine Iff.trans (zw_iconst (x := 0) (show decode cX12_layTrials 15 = .ok (.iconst 0, 1) by decide +kernel) (by decide)) ?_
    refine Iff.trans (zw_istore (ls' := [.ref 131, .int x1, .int x2, .int x3, .int 0, v5, v6]) (show decode cX12_layTrials 16 = .ok (.istore 4, 2) by decide +kernel) (zset_s (Nat.le_of_ble_eq_true rfl) rfl)) ?_
    exact Iff.rfl

theorem bX12_layTrials_18 {d : Nat} {σ : zS} {Q : Option Value → zS → Prop} (hl : zLay σ) {x1 x2 x3 x4 : Int32} {v5 v6 : Value} (hv5 : v5.category = 1) (hv6 : v6.category = 1) : zW (d + 1) kX12_layTrials 18 [.ref 131, .int x1, .int x2, .int x3, .int x4, v5, v6] [] σ Q ↔ (if 6 ≤ x4 then zW (d + 1) kX12_layTrials 7 [.ref 131, .int x1, .int x2, .int (x3 + 1), .int x4, v5, v6] [] σ Q else zCall d kX12_has [.int x2, .int x3] σ (fun r σ' => zisN r = true ∧ zW (d + 1) kX12_layTrials 30 [.ref 131, .int x1, .int x2, .int x3, .int x4, v5, v6] (zRstk r ++ []) σ' Q)) := by
  refine Iff.trans (zw_iload (show decode cX12_layTrials 18 = .ok (.iload 4, 2) by decide +kernel) rfl) ?_
  refine Iff.trans (zw_bipush (x := 6) (show decode cX12_layTrials 20 = .ok (.bipush 6, 2) by decide +kernel) (by decide)) ?_
  refine Iff.trans (zw_icmp_ge (t := 194) (show decode cX12_layTrials 22 = .ok (.if_icmp .ge 172, 3) by decide +kernel) (by decide)) ?_
  refine zw_ite ?_ ?_
  · refine Iff.trans (zw_iinc (w := 1) (ls' := [.ref 131, .int x1, .int x2, .int (x3 + 1), .int x4, v5, v6]) (show decode cX12_layTrials 194 = .ok (.iinc 3 1, 3) by decide +kernel) rfl (by decide) (zset_s (Nat.le_of_ble_eq_true rfl) rfl)) ?_
    refine Iff.trans (zw_goto (t := 7) (show decode cX12_layTrials 197 = .ok (.goto (-190), 3) by decide +kernel) (by decide)) ?_
    exact Iff.rfl
  · refine Iff.trans (zw_iload_n (show decode cX12_layTrials 25 = .ok (.iload_n 2, 1) by decide +kernel) rfl) ?_
    refine Iff.trans (zw_iload_n (show decode cX12_layTrials 26 = .ok (.iload_n 3, 1) by decide +kernel) rfl) ?_
    refine Iff.trans (zw_invS (K' := kX12_has) (as := [.int x2, .int x3]) (rest := []) (show decode cX12_layTrials 27 = .ok (.invokestatic 167, 3) by decide +kernel) (by rfl) rfl rfl rfl ⟨Nat.le_of_ble_eq_true rfl, Nat.le_of_ble_eq_true rfl, Nat.le_of_ble_eq_true rfl⟩) ?_
    exact Iff.rfl

theorem bX12_layTrials_30 {d : Nat} {σ : zS} {Q : Option Value → zS → Prop} (hl : zLay σ) {x1 x2 x3 x4 y0 : Int32} {v5 v6 : Value} (hv5 : v5.category = 1) (hv6 : v6.category = 1) : zW (d + 1) kX12_layTrials 30 [.ref 131, .int x1, .int x2, .int x3, .int x4, v5, v6] [.int y0] σ Q ↔ (if y0 = (0 : Int32) then zW (d + 1) kX12_layTrials 7 [.ref 131, .int x1, .int x2, .int (x3 + 1), .int x4, v5, v6] [] σ Q else zW (d + 1) kX12_layTrials 39 [.ref 131, .int x1, .int x2, .int x3, .int x4, .int 1, .int 0] [] σ Q) := by
  refine Iff.trans (zw_if_eq (t := 194) (show decode cX12_layTrials 30 = .ok (.ifCond .eq 164, 3) by decide +kernel) (by decide)) ?_
  refine zw_ite ?_ ?_
  · refine Iff.trans (zw_iinc (w := 1) (ls' := [.ref 131, .int x1, .int x2, .int (x3 + 1), .int x4, v5, v6]) (show decode cX12_layTrials 194 = .ok (.iinc 3 1, 3) by decide +kernel) rfl (by decide) (zset_s (Nat.le_of_ble_eq_true rfl) rfl)) ?_
    refine Iff.trans (zw_goto (t := 7) (show decode cX12_layTrials 197 = .ok (.goto (-190), 3) by decide +kernel) (by decide)) ?_
    exact Iff.rfl
  · refine Iff.trans (zw_iconst (x := 1) (show decode cX12_layTrials 33 = .ok (.iconst 1, 1) by decide +kernel) (by decide)) ?_
    refine Iff.trans (zw_istore (ls' := [.ref 131, .int x1, .int x2, .int x3, .int x4, .int 1, v6]) (show decode cX12_layTrials 34 = .ok (.istore 5, 2) by decide +kernel) (zset_s (Nat.le_of_ble_eq_true rfl) rfl)) ?_
    refine Iff.trans (zw_iconst (x := 0) (show decode cX12_layTrials 36 = .ok (.iconst 0, 1) by decide +kernel) (by decide)) ?_
    refine Iff.trans (zw_istore (ls' := [.ref 131, .int x1, .int x2, .int x3, .int x4, .int 1, .int 0]) (show decode cX12_layTrials 37 = .ok (.istore 6, 2) by decide +kernel) (zset_s (Nat.le_of_ble_eq_true rfl) rfl)) ?_
    exact Iff.rfl

theorem bX12_layTrials_39 {d : Nat} {σ : zS} {Q : Option Value → zS → Prop} (hl : zLay σ) {x1 x2 x3 x4 x5 x6 : Int32} : zW (d + 1) kX12_layTrials 39 [.ref 131, .int x1, .int x2, .int x3, .int x4, .int x5, .int x6] [] σ Q ↔ (if (zI σ 131 11) ≤ x6 then (if x5 = (0 : Int32) then zW (d + 1) kX12_layTrials 18 [.ref 131, .int x1, .int x2, .int x3, .int (x4 + 1), .int x5, .int x6] [] σ Q else (if (zI σ 131 50) = 12 then Q (some (.int 0)) σ else (vp_in (zI σ 131 50) 12 ∧ zW (d + 1) kX12_layTrials 125 [.ref 131, .int x1, .int x2, .int x3, .int x4, .int x5, .int 0] [] (zsI σ 154 (upd (zI σ 154) (zI σ 131 50 : Int32).toNatClampNeg ((16 * x3) + x4))) Q))) else (if x5 = (0 : Int32) then zW (d + 1) kX12_layTrials 39 [.ref 131, .int x1, .int x2, .int x3, .int x4, .int 0, .int (x6 + 1)] [] σ Q else zCall d kX12_has [.int x1, .int x6] σ (fun r σ' => zisN r = true ∧ zW (d + 1) kX12_layTrials 59 [.ref 131, .int x1, .int x2, .int x3, .int x4, .int x5, .int x6] (zRstk r ++ []) σ' Q))) := by
  refine Iff.trans (zw_iload (show decode cX12_layTrials 39 = .ok (.iload 6, 2) by decide +kernel) rfl) ?_
  refine Iff.trans (zw_aload_n (show decode cX12_layTrials 41 = .ok (.aload_n 0, 1) by decide +kernel) rfl) ?_
  refine Iff.trans (zw_getI (show decode cX12_layTrials 42 = .ok (.getfield 181, 3) by decide +kernel) (by decide +kernel : zfld 12 181 = some (12, 11)) (hl.k2 zk_131) (hl.n2 zk_131) (Or.inl rfl) (w := zI σ 131 11) rfl) ?_
  refine Iff.trans (zw_icmp_ge (t := 87) (show decode cX12_layTrials 45 = .ok (.if_icmp .ge 42, 3) by decide +kernel) (by decide)) ?_
  refine zw_ite ?_ ?_
  · refine Iff.trans (zw_iload (show decode cX12_layTrials 87 = .ok (.iload 5, 2) by decide +kernel) rfl) ?_
    refine Iff.trans (zw_if_ne (t := 95) (show decode cX12_layTrials 89 = .ok (.ifCond .ne 6, 3) by decide +kernel) (by decide)) ?_
    refine zw_ite ?_ ?_
    · refine Iff.trans (zw_goto (t := 188) (show decode cX12_layTrials 92 = .ok (.goto 96, 3) by decide +kernel) (by decide)) ?_
      refine Iff.trans (zw_iinc (w := 1) (ls' := [.ref 131, .int x1, .int x2, .int x3, .int (x4 + 1), .int x5, .int x6]) (show decode cX12_layTrials 188 = .ok (.iinc 4 1, 3) by decide +kernel) rfl (by decide) (zset_s (Nat.le_of_ble_eq_true rfl) rfl)) ?_
      refine Iff.trans (zw_goto (t := 18) (show decode cX12_layTrials 191 = .ok (.goto (-173), 3) by decide +kernel) (by decide)) ?_
      exact Iff.rfl
    · refine Iff.trans (zw_aload_n (show decode cX12_layTrials 95 = .ok (.aload_n 0, 1) by decide +kernel) rfl) ?_
      refine Iff.trans (zw_getI (show decode cX12_layTrials 96 = .ok (.getfield 381, 3) by decide +kernel) (by decide +kernel : zfld 12 381 = some (12, 50)) (hl.k2 zk_131) (hl.n2 zk_131) (Or.inl rfl) (w := zI σ 131 50) rfl) ?_
      refine Iff.trans (zw_bipush (x := 12) (show decode cX12_layTrials 99 = .ok (.bipush 12, 2) by decide +kernel) (by decide)) ?_
      refine Iff.trans (zw_icmp_ne (t := 106) (show decode cX12_layTrials 101 = .ok (.if_icmp .ne 5, 3) by decide +kernel) (by decide)) ?_
      refine zw_ite ?_ ?_
      · refine Iff.trans (zw_iconst (x := 0) (show decode cX12_layTrials 104 = .ok (.iconst 0, 1) by decide +kernel) (by decide)) ?_
        exact zw_iret2c (show decode cX12_layTrials 105 = .ok (.ireturn, 1) by decide +kernel) rfl (Or.inl rfl)
      · refine Iff.trans (zw_aload_n (show decode cX12_layTrials 106 = .ok (.aload_n 0, 1) by decide +kernel) rfl) ?_
        refine Iff.trans (zw_get (show decode cX12_layTrials 107 = .ok (.getfield 88, 3) by decide +kernel) (by decide +kernel : zfld 12 88 = some (12, 48)) (hl.k2 zk_131) (hl.n2 zk_131) (zgetR (v := 154) (hl.r zrt_131_48) rfl)) ?_
        refine Iff.trans (zw_aload_n (show decode cX12_layTrials 110 = .ok (.aload_n 0, 1) by decide +kernel) rfl) ?_
        refine Iff.trans (zw_getI (show decode cX12_layTrials 111 = .ok (.getfield 381, 3) by decide +kernel) (by decide +kernel : zfld 12 381 = some (12, 50)) (hl.k2 zk_131) (hl.n2 zk_131) (Or.inl rfl) (w := zI σ 131 50) rfl) ?_
        refine Iff.trans (zw_bipush (x := 16) (show decode cX12_layTrials 114 = .ok (.bipush 16, 2) by decide +kernel) (by decide)) ?_
        refine Iff.trans (zw_iload_n (show decode cX12_layTrials 116 = .ok (.iload_n 3, 1) by decide +kernel) rfl) ?_
        refine Iff.trans (zw_imul (show decode cX12_layTrials 117 = .ok (.imul, 1) by decide +kernel)) ?_
        refine Iff.trans (zw_iload (show decode cX12_layTrials 118 = .ok (.iload 4, 2) by decide +kernel) rfl) ?_
        refine Iff.trans (zw_iadd (show decode cX12_layTrials 120 = .ok (.iadd, 1) by decide +kernel)) ?_
        refine Iff.trans (zw_iast2 (show decode cX12_layTrials 121 = .ok (.iastore, 1) by decide +kernel) (hl.k2 zk_154) (hl.n2 zk_154) (hl.l2 zk_154 zl_154) (σ' := (zsI σ 154 (upd (zI σ 154) (zI σ 131 50 : Int32).toNatClampNeg ((16 * x3) + x4)))) rfl) ?_
        refine zw_and ?_
        refine Iff.trans (zw_iconst (x := 0) (show decode cX12_layTrials 122 = .ok (.iconst 0, 1) by decide +kernel) (by decide)) ?_
        refine Iff.trans (zw_istore (ls' := [.ref 131, .int x1, .int x2, .int x3, .int x4, .int x5, .int 0]) (show decode cX12_layTrials 123 = .ok (.istore 6, 2) by decide +kernel) (zset_s (Nat.le_of_ble_eq_true rfl) rfl)) ?_
        exact Iff.rfl
  · refine Iff.trans (zw_iload (show decode cX12_layTrials 48 = .ok (.iload 5, 2) by decide +kernel) rfl) ?_
    refine Iff.trans (zw_if_eq (t := 78) (show decode cX12_layTrials 50 = .ok (.ifCond .eq 28, 3) by decide +kernel) (by decide)) ?_
    refine zw_ite ?_ ?_
    · refine Iff.trans (zw_iconst (x := 0) (show decode cX12_layTrials 78 = .ok (.iconst 0, 1) by decide +kernel) (by decide)) ?_
      refine Iff.trans (zw_istore (ls' := [.ref 131, .int x1, .int x2, .int x3, .int x4, .int 0, .int x6]) (show decode cX12_layTrials 79 = .ok (.istore 5, 2) by decide +kernel) (zset_s (Nat.le_of_ble_eq_true rfl) rfl)) ?_
      refine Iff.trans (zw_iinc (w := 1) (ls' := [.ref 131, .int x1, .int x2, .int x3, .int x4, .int 0, .int (x6 + 1)]) (show decode cX12_layTrials 81 = .ok (.iinc 6 1, 3) by decide +kernel) rfl (by decide) (zset_s (Nat.le_of_ble_eq_true rfl) rfl)) ?_
      refine Iff.trans (zw_goto (t := 39) (show decode cX12_layTrials 84 = .ok (.goto (-45), 3) by decide +kernel) (by decide)) ?_
      exact Iff.rfl
    · refine Iff.trans (zw_iload_n (show decode cX12_layTrials 53 = .ok (.iload_n 1, 1) by decide +kernel) rfl) ?_
      refine Iff.trans (zw_iload (show decode cX12_layTrials 54 = .ok (.iload 6, 2) by decide +kernel) rfl) ?_
      refine Iff.trans (zw_invS (K' := kX12_has) (as := [.int x1, .int x6]) (rest := []) (show decode cX12_layTrials 56 = .ok (.invokestatic 167, 3) by decide +kernel) (by rfl) rfl rfl rfl ⟨Nat.le_of_ble_eq_true rfl, Nat.le_of_ble_eq_true rfl, Nat.le_of_ble_eq_true rfl⟩) ?_
      exact Iff.rfl

theorem bX12_layTrials_59 {d : Nat} {σ : zS} {Q : Option Value → zS → Prop} (hl : zLay σ) {x1 x2 x3 x4 x5 x6 y0 : Int32} : zW (d + 1) kX12_layTrials 59 [.ref 131, .int x1, .int x2, .int x3, .int x4, .int x5, .int x6] [.int y0] σ Q ↔ (if y0 = (0 : Int32) then zW (d + 1) kX12_layTrials 39 [.ref 131, .int x1, .int x2, .int x3, .int x4, .int 1, .int (x6 + 1)] [] σ Q else zCall d kX12_canBegin [.ref 131, .int x6, .int x3, .int x4] σ (fun r σ' => zisN r = true ∧ zW (d + 1) kX12_layTrials 71 [.ref 131, .int x1, .int x2, .int x3, .int x4, .int x5, .int x6] (zRstk r ++ []) σ' Q)) := by
  refine Iff.trans (zw_if_eq (t := 74) (show decode cX12_layTrials 59 = .ok (.ifCond .eq 15, 3) by decide +kernel) (by decide)) ?_
  refine zw_ite ?_ ?_
  · refine Iff.trans (zw_iconst (x := 1) (show decode cX12_layTrials 74 = .ok (.iconst 1, 1) by decide +kernel) (by decide)) ?_
    refine Iff.trans (zw_goto (t := 79) (show decode cX12_layTrials 75 = .ok (.goto 4, 3) by decide +kernel) (by decide)) ?_
    refine Iff.trans (zw_istore (ls' := [.ref 131, .int x1, .int x2, .int x3, .int x4, .int 1, .int x6]) (show decode cX12_layTrials 79 = .ok (.istore 5, 2) by decide +kernel) (zset_s (Nat.le_of_ble_eq_true rfl) rfl)) ?_
    refine Iff.trans (zw_iinc (w := 1) (ls' := [.ref 131, .int x1, .int x2, .int x3, .int x4, .int 1, .int (x6 + 1)]) (show decode cX12_layTrials 81 = .ok (.iinc 6 1, 3) by decide +kernel) rfl (by decide) (zset_s (Nat.le_of_ble_eq_true rfl) rfl)) ?_
    refine Iff.trans (zw_goto (t := 39) (show decode cX12_layTrials 84 = .ok (.goto (-45), 3) by decide +kernel) (by decide)) ?_
    exact Iff.rfl
  · refine Iff.trans (zw_aload_n (show decode cX12_layTrials 62 = .ok (.aload_n 0, 1) by decide +kernel) rfl) ?_
    refine Iff.trans (zw_iload (show decode cX12_layTrials 63 = .ok (.iload 6, 2) by decide +kernel) rfl) ?_
    refine Iff.trans (zw_iload_n (show decode cX12_layTrials 65 = .ok (.iload_n 3, 1) by decide +kernel) rfl) ?_
    refine Iff.trans (zw_iload (show decode cX12_layTrials 66 = .ok (.iload 4, 2) by decide +kernel) rfl) ?_
    refine Iff.trans (zw_invV (K' := kX12_canBegin) (as' := [.int x6, .int x3, .int x4]) (rest := []) (show decode cX12_layTrials 68 = .ok (.invokevirtual 357, 3) by decide +kernel) (by rfl) rfl rfl rfl (hl.k2 zk_131) (by decide) (hl.n2 zk_131) ⟨Nat.le_of_ble_eq_true rfl, Nat.le_of_ble_eq_true rfl, Nat.le_of_ble_eq_true rfl⟩) ?_
    exact Iff.rfl

theorem bX12_layTrials_71 {d : Nat} {σ : zS} {Q : Option Value → zS → Prop} (hl : zLay σ) {x1 x2 x3 x4 x5 x6 y0 : Int32} : zW (d + 1) kX12_layTrials 71 [.ref 131, .int x1, .int x2, .int x3, .int x4, .int x5, .int x6] [.int y0] σ Q ↔ (if y0 = (0 : Int32) then zW (d + 1) kX12_layTrials 39 [.ref 131, .int x1, .int x2, .int x3, .int x4, .int 0, .int (x6 + 1)] [] σ Q else zW (d + 1) kX12_layTrials 39 [.ref 131, .int x1, .int x2, .int x3, .int x4, .int 1, .int (x6 + 1)] [] σ Q) := by
  refine Iff.trans (zw_if_eq (t := 78) (show decode cX12_layTrials 71 = .ok (.ifCond .eq 7, 3) by decide +kernel) (by decide)) ?_
  refine zw_ite ?_ ?_
  · refine Iff.trans (zw_iconst (x := 0) (show decode cX12_layTrials 78 = .ok (.iconst 0, 1) by decide +kernel) (by decide)) ?_
    refine Iff.trans (zw_istore (ls' := [.ref 131, .int x1, .int x2, .int x3, .int x4, .int 0, .int x6]) (show decode cX12_layTrials 79 = .ok (.istore 5, 2) by decide +kernel) (zset_s (Nat.le_of_ble_eq_true rfl) rfl)) ?_
    refine Iff.trans (zw_iinc (w := 1) (ls' := [.ref 131, .int x1, .int x2, .int x3, .int x4, .int 0, .int (x6 + 1)]) (show decode cX12_layTrials 81 = .ok (.iinc 6 1, 3) by decide +kernel) rfl (by decide) (zset_s (Nat.le_of_ble_eq_true rfl) rfl)) ?_
    refine Iff.trans (zw_goto (t := 39) (show decode cX12_layTrials 84 = .ok (.goto (-45), 3) by decide +kernel) (by decide)) ?_
    exact Iff.rfl
  · refine Iff.trans (zw_iconst (x := 1) (show decode cX12_layTrials 74 = .ok (.iconst 1, 1) by decide +kernel) (by decide)) ?_
    refine Iff.trans (zw_goto (t := 79) (show decode cX12_layTrials 75 = .ok (.goto 4, 3) by decide +kernel) (by decide)) ?_
    refine Iff.trans (zw_istore (ls' := [.ref 131, .int x1, .int x2, .int x3, .int x4, .int 1, .int x6]) (show decode cX12_layTrials 79 = .ok (.istore 5, 2) by decide +kernel) (zset_s (Nat.le_of_ble_eq_true rfl) rfl)) ?_
    refine Iff.trans (zw_iinc (w := 1) (ls' := [.ref 131, .int x1, .int x2, .int x3, .int x4, .int 1, .int (x6 + 1)]) (show decode cX12_layTrials 81 = .ok (.iinc 6 1, 3) by decide +kernel) rfl (by decide) (zset_s (Nat.le_of_ble_eq_true rfl) rfl)) ?_
    refine Iff.trans (zw_goto (t := 39) (show decode cX12_layTrials 84 = .ok (.goto (-45), 3) by decide +kernel) (by decide)) ?_
    exact Iff.rfl

theorem bX12_layTrials_125 {d : Nat} {σ : zS} {Q : Option Value → zS → Prop} (hl : zLay σ) {x1 x2 x3 x4 x5 x6 : Int32} : zW (d + 1) kX12_layTrials 125 [.ref 131, .int x1, .int x2, .int x3, .int x4, .int x5, .int x6] [] σ Q ↔ (if (zI σ 131 11) ≤ x6 then zW (d + 1) kX12_layTrials 18 [.ref 131, .int x1, .int x2, .int x3, .int (x4 + 1), .int x5, .int x6] [] (zsI σ 131 (upd (zI σ 131) 50 ((zI σ 131 50) + 1))) Q else zCall d kX12_has [.int x1, .int x6] σ (fun r σ' => zisN r = true ∧ zW (d + 1) kX12_layTrials 154 [.ref 131, .int x1, .int x2, .int x3, .int x4, .int x5, .int x6] (zRstk r ++ [.int ((6 * (zI σ 131 50)) + x6), .ref 155]) σ' Q)) := by
  refine Iff.trans (zw_iload (show decode cX12_layTrials 125 = .ok (.iload 6, 2) by decide +kernel) rfl) ?_
  refine Iff.trans (zw_aload_n (show decode cX12_layTrials 127 = .ok (.aload_n 0, 1) by decide +kernel) rfl) ?_
  refine Iff.trans (zw_getI (show decode cX12_layTrials 128 = .ok (.getfield 181, 3) by decide +kernel) (by decide +kernel : zfld 12 181 = some (12, 11)) (hl.k2 zk_131) (hl.n2 zk_131) (Or.inl rfl) (w := zI σ 131 11) rfl) ?_
  refine Iff.trans (zw_icmp_ge (t := 178) (show decode cX12_layTrials 131 = .ok (.if_icmp .ge 47, 3) by decide +kernel) (by decide)) ?_
  refine zw_ite ?_ ?_
  · refine Iff.trans (zw_aload_n (show decode cX12_layTrials 178 = .ok (.aload_n 0, 1) by decide +kernel) rfl) ?_
    refine Iff.trans (zw_dup (show decode cX12_layTrials 179 = .ok (.dup, 1) by decide +kernel) rfl) ?_
    refine Iff.trans (zw_getI (show decode cX12_layTrials 180 = .ok (.getfield 381, 3) by decide +kernel) (by decide +kernel : zfld 12 381 = some (12, 50)) (hl.k2 zk_131) (hl.n2 zk_131) (Or.inl rfl) (w := zI σ 131 50) rfl) ?_
    refine Iff.trans (zw_iconst (x := 1) (show decode cX12_layTrials 183 = .ok (.iconst 1, 1) by decide +kernel) (by decide)) ?_
    refine Iff.trans (zw_iadd (show decode cX12_layTrials 184 = .ok (.iadd, 1) by decide +kernel)) ?_
    refine Iff.trans (zw_putI (show decode cX12_layTrials 185 = .ok (.putfield 381, 3) by decide +kernel) (by decide +kernel : zfld 12 381 = some (12, 50)) (hl.k2 zk_131) (hl.n2 zk_131) rfl (Or.inl rfl) (σ' := (zsI σ 131 (upd (zI σ 131) 50 ((zI σ 131 50) + 1)))) rfl) ?_
    refine Iff.trans (zw_iinc (w := 1) (ls' := [.ref 131, .int x1, .int x2, .int x3, .int (x4 + 1), .int x5, .int x6]) (show decode cX12_layTrials 188 = .ok (.iinc 4 1, 3) by decide +kernel) rfl (by decide) (zset_s (Nat.le_of_ble_eq_true rfl) rfl)) ?_
    refine Iff.trans (zw_goto (t := 18) (show decode cX12_layTrials 191 = .ok (.goto (-173), 3) by decide +kernel) (by decide)) ?_
    exact Iff.rfl
  · refine Iff.trans (zw_aload_n (show decode cX12_layTrials 134 = .ok (.aload_n 0, 1) by decide +kernel) rfl) ?_
    refine Iff.trans (zw_get (show decode cX12_layTrials 135 = .ok (.getfield 91, 3) by decide +kernel) (by decide +kernel : zfld 12 91 = some (12, 49)) (hl.k2 zk_131) (hl.n2 zk_131) (zgetR (v := 155) (hl.r zrt_131_49) rfl)) ?_
    refine Iff.trans (zw_bipush (x := 6) (show decode cX12_layTrials 138 = .ok (.bipush 6, 2) by decide +kernel) (by decide)) ?_
    refine Iff.trans (zw_aload_n (show decode cX12_layTrials 140 = .ok (.aload_n 0, 1) by decide +kernel) rfl) ?_
    refine Iff.trans (zw_getI (show decode cX12_layTrials 141 = .ok (.getfield 381, 3) by decide +kernel) (by decide +kernel : zfld 12 381 = some (12, 50)) (hl.k2 zk_131) (hl.n2 zk_131) (Or.inl rfl) (w := zI σ 131 50) rfl) ?_
    refine Iff.trans (zw_imul (show decode cX12_layTrials 144 = .ok (.imul, 1) by decide +kernel)) ?_
    refine Iff.trans (zw_iload (show decode cX12_layTrials 145 = .ok (.iload 6, 2) by decide +kernel) rfl) ?_
    refine Iff.trans (zw_iadd (show decode cX12_layTrials 147 = .ok (.iadd, 1) by decide +kernel)) ?_
    refine Iff.trans (zw_iload_n (show decode cX12_layTrials 148 = .ok (.iload_n 1, 1) by decide +kernel) rfl) ?_
    refine Iff.trans (zw_iload (show decode cX12_layTrials 149 = .ok (.iload 6, 2) by decide +kernel) rfl) ?_
    refine Iff.trans (zw_invS (K' := kX12_has) (as := [.int x1, .int x6]) (rest := [.int ((6 * (zI σ 131 50)) + x6), .ref 155]) (show decode cX12_layTrials 151 = .ok (.invokestatic 167, 3) by decide +kernel) (by rfl) rfl rfl rfl ⟨Nat.le_of_ble_eq_true rfl, Nat.le_of_ble_eq_true rfl, Nat.le_of_ble_eq_true rfl⟩) ?_
    exact Iff.rfl

theorem bX12_layTrials_154 {d : Nat} {σ : zS} {Q : Option Value → zS → Prop} (hl : zLay σ) {x1 x2 x3 x4 x5 x6 y0 y1 : Int32} : zW (d + 1) kX12_layTrials 154 [.ref 131, .int x1, .int x2, .int x3, .int x4, .int x5, .int x6] [.int y0, .int y1, .ref 155] σ Q ↔ (if y0 = (0 : Int32) then (vp_in y1 72 ∧ zW (d + 1) kX12_layTrials 125 [.ref 131, .int x1, .int x2, .int x3, .int x4, .int x5, .int (x6 + 1)] [] (zsI σ 155 (upd (zI σ 155) (y1 : Int32).toNatClampNeg (-1))) Q) else zCall d kX12_aloneBy [.ref 131, .int x6, .int x3, .int x4, .long 0] σ (fun r σ' => zisN r = true ∧ zW (d + 1) kX12_layTrials 167 [.ref 131, .int x1, .int x2, .int x3, .int x4, .int x5, .int x6] (zRstk r ++ [.int y1, .ref 155]) σ' Q)) := by
  refine Iff.trans (zw_if_eq (t := 170) (show decode cX12_layTrials 154 = .ok (.ifCond .eq 16, 3) by decide +kernel) (by decide)) ?_
  refine zw_ite ?_ ?_
  · refine Iff.trans (zw_iconst (x := (-1)) (show decode cX12_layTrials 170 = .ok (.iconst (-1), 1) by decide +kernel) (by decide)) ?_
    refine Iff.trans (zw_iast2 (show decode cX12_layTrials 171 = .ok (.iastore, 1) by decide +kernel) (hl.k2 zk_155) (hl.n2 zk_155) (hl.l2 zk_155 zl_155) (σ' := (zsI σ 155 (upd (zI σ 155) (y1 : Int32).toNatClampNeg (-1)))) rfl) ?_
    refine zw_and ?_
    refine Iff.trans (zw_iinc (w := 1) (ls' := [.ref 131, .int x1, .int x2, .int x3, .int x4, .int x5, .int (x6 + 1)]) (show decode cX12_layTrials 172 = .ok (.iinc 6 1, 3) by decide +kernel) rfl (by decide) (zset_s (Nat.le_of_ble_eq_true rfl) rfl)) ?_
    refine Iff.trans (zw_goto (t := 125) (show decode cX12_layTrials 175 = .ok (.goto (-50), 3) by decide +kernel) (by decide)) ?_
    exact Iff.rfl
  · refine Iff.trans (zw_aload_n (show decode cX12_layTrials 157 = .ok (.aload_n 0, 1) by decide +kernel) rfl) ?_
    refine Iff.trans (zw_iload (show decode cX12_layTrials 158 = .ok (.iload 6, 2) by decide +kernel) rfl) ?_
    refine Iff.trans (zw_iload_n (show decode cX12_layTrials 160 = .ok (.iload_n 3, 1) by decide +kernel) rfl) ?_
    refine Iff.trans (zw_iload (show decode cX12_layTrials 161 = .ok (.iload 4, 2) by decide +kernel) rfl) ?_
    refine Iff.trans (zw_lconst (x := 0) (show decode cX12_layTrials 163 = .ok (.lconst 0, 1) by decide +kernel) (by decide)) ?_
    refine Iff.trans (zw_invV (K' := kX12_aloneBy) (as' := [.int x6, .int x3, .int x4, .long 0]) (rest := [.int y1, .ref 155]) (show decode cX12_layTrials 164 = .ok (.invokevirtual 360, 3) by decide +kernel) (by rfl) rfl rfl rfl (hl.k2 zk_131) (by decide) (hl.n2 zk_131) ⟨Nat.le_of_ble_eq_true rfl, Nat.le_of_ble_eq_true rfl, Nat.le_of_ble_eq_true rfl⟩) ?_
    exact Iff.rfl

theorem bX12_layTrials_167 {d : Nat} {σ : zS} {Q : Option Value → zS → Prop} (hl : zLay σ) {x1 x2 x3 x4 x5 x6 y0 y1 : Int32} : zW (d + 1) kX12_layTrials 167 [.ref 131, .int x1, .int x2, .int x3, .int x4, .int x5, .int x6] [.int y0, .int y1, .ref 155] σ Q ↔ (vp_in y1 72 ∧ zW (d + 1) kX12_layTrials 125 [.ref 131, .int x1, .int x2, .int x3, .int x4, .int x5, .int (x6 + 1)] [] (zsI σ 155 (upd (zI σ 155) (y1 : Int32).toNatClampNeg y0)) Q) := by
  refine Iff.trans (zw_goto (t := 171) (show decode cX12_layTrials 167 = .ok (.goto 4, 3) by decide +kernel) (by decide)) ?_
  refine Iff.trans (zw_iast2 (show decode cX12_layTrials 171 = .ok (.iastore, 1) by decide +kernel) (hl.k2 zk_155) (hl.n2 zk_155) (hl.l2 zk_155 zl_155) (σ' := (zsI σ 155 (upd (zI σ 155) (y1 : Int32).toNatClampNeg y0))) rfl) ?_
  refine zw_and ?_
  refine Iff.trans (zw_iinc (w := 1) (ls' := [.ref 131, .int x1, .int x2, .int x3, .int x4, .int x5, .int (x6 + 1)]) (show decode cX12_layTrials 172 = .ok (.iinc 6 1, 3) by decide +kernel) rfl (by decide) (zset_s (Nat.le_of_ble_eq_true rfl) rfl)) ?_
  refine Iff.trans (zw_goto (t := 125) (show decode cX12_layTrials 175 = .ok (.goto (-50), 3) by decide +kernel) (by decide)) ?_
  exact Iff.rfl

theorem bX12_areTrials_0 {d : Nat} {σ : zS} {Q : Option Value → zS → Prop} (hl : zLay σ) {x1 x2 : Int32} : zCall (d + 1) kX12_areTrials [.ref 131, .int x1, .int x2] σ Q ↔ zCall d kX12_areBrooks [.ref 131, .int x1] σ (fun r σ' => zisN r = true ∧ zW (d + 1) kX12_areTrials 5 [.ref 131, .int x1, .int x2] (zRstk r ++ []) σ' Q) := by
  show zW (d + 1) kX12_areTrials 0 [.ref 131, .int x1, .int x2] [] σ Q ↔ _
  refine Iff.trans (zw_aload_n (show decode cX12_areTrials 0 = .ok (.aload_n 0, 1) by decide +kernel) rfl) ?_
  refine Iff.trans (zw_iload_n (show decode cX12_areTrials 1 = .ok (.iload_n 1, 1) by decide +kernel) rfl) ?_
  refine Iff.trans (zw_invV (K' := kX12_areBrooks) (as' := [.int x1]) (rest := []) (show decode cX12_areTrials 2 = .ok (.invokevirtual 384, 3) by decide +kernel) (by rfl) rfl rfl rfl (hl.k2 zk_131) (by decide) (hl.n2 zk_131) ⟨Nat.le_of_ble_eq_true rfl, Nat.le_of_ble_eq_true rfl, Nat.le_of_ble_eq_true rfl⟩) ?_
  exact Iff.rfl

theorem bX12_areTrials_5 {d : Nat} {σ : zS} {Q : Option Value → zS → Prop} (hl : zLay σ) {x1 x2 y0 : Int32} : zW (d + 1) kX12_areTrials 5 [.ref 131, .int x1, .int x2] [.int y0] σ Q ↔ (if y0 = (0 : Int32) then Q (some (.int 0)) σ else zCall d kX12_areSticks [.ref 131, .int x2] σ (fun r σ' => zisN r = true ∧ zW (d + 1) kX12_areTrials 13 [.ref 131, .int x1, .int x2] (zRstk r ++ []) σ' Q)) := by
  refine Iff.trans (zw_if_eq (t := 29) (show decode cX12_areTrials 5 = .ok (.ifCond .eq 24, 3) by decide +kernel) (by decide)) ?_
  refine zw_ite ?_ ?_
  · refine Iff.trans (zw_iconst (x := 0) (show decode cX12_areTrials 29 = .ok (.iconst 0, 1) by decide +kernel) (by decide)) ?_
    exact zw_iret2c (show decode cX12_areTrials 30 = .ok (.ireturn, 1) by decide +kernel) rfl (Or.inl rfl)
  · refine Iff.trans (zw_aload_n (show decode cX12_areTrials 8 = .ok (.aload_n 0, 1) by decide +kernel) rfl) ?_
    refine Iff.trans (zw_iload_n (show decode cX12_areTrials 9 = .ok (.iload_n 2, 1) by decide +kernel) rfl) ?_
    refine Iff.trans (zw_invV (K' := kX12_areSticks) (as' := [.int x2]) (rest := []) (show decode cX12_areTrials 10 = .ok (.invokevirtual 365, 3) by decide +kernel) (by rfl) rfl rfl rfl (hl.k2 zk_131) (by decide) (hl.n2 zk_131) ⟨Nat.le_of_ble_eq_true rfl, Nat.le_of_ble_eq_true rfl, Nat.le_of_ble_eq_true rfl⟩) ?_
    exact Iff.rfl

theorem bX12_areTrials_13 {d : Nat} {σ : zS} {Q : Option Value → zS → Prop} (hl : zLay σ) {x1 x2 y0 : Int32} : zW (d + 1) kX12_areTrials 13 [.ref 131, .int x1, .int x2] [.int y0] σ Q ↔ (if y0 = (0 : Int32) then Q (some (.int 0)) σ else zCall d kX12_layTrials [.ref 131, .int x1, .int x2] σ (fun r σ' => zisN r = true ∧ zW (d + 1) kX12_areTrials 22 [.ref 131, .int x1, .int x2] (zRstk r ++ []) σ' Q)) := by
  refine Iff.trans (zw_if_eq (t := 29) (show decode cX12_areTrials 13 = .ok (.ifCond .eq 16, 3) by decide +kernel) (by decide)) ?_
  refine zw_ite ?_ ?_
  · refine Iff.trans (zw_iconst (x := 0) (show decode cX12_areTrials 29 = .ok (.iconst 0, 1) by decide +kernel) (by decide)) ?_
    exact zw_iret2c (show decode cX12_areTrials 30 = .ok (.ireturn, 1) by decide +kernel) rfl (Or.inl rfl)
  · refine Iff.trans (zw_aload_n (show decode cX12_areTrials 16 = .ok (.aload_n 0, 1) by decide +kernel) rfl) ?_
    refine Iff.trans (zw_iload_n (show decode cX12_areTrials 17 = .ok (.iload_n 1, 1) by decide +kernel) rfl) ?_
    refine Iff.trans (zw_iload_n (show decode cX12_areTrials 18 = .ok (.iload_n 2, 1) by decide +kernel) rfl) ?_
    refine Iff.trans (zw_invV (K' := kX12_layTrials) (as' := [.int x1, .int x2]) (rest := []) (show decode cX12_areTrials 19 = .ok (.invokevirtual 387, 3) by decide +kernel) (by rfl) rfl rfl rfl (hl.k2 zk_131) (by decide) (hl.n2 zk_131) ⟨Nat.le_of_ble_eq_true rfl, Nat.le_of_ble_eq_true rfl, Nat.le_of_ble_eq_true rfl⟩) ?_
    exact Iff.rfl

theorem bX12_areTrials_22 {d : Nat} {σ : zS} {Q : Option Value → zS → Prop} (hl : zLay σ) {x1 x2 y0 : Int32} : zW (d + 1) kX12_areTrials 22 [.ref 131, .int x1, .int x2] [.int y0] σ Q ↔ (if y0 = (0 : Int32) then Q (some (.int 0)) σ else Q (some (.int 1)) σ) := by
  refine Iff.trans (zw_if_eq (t := 29) (show decode cX12_areTrials 22 = .ok (.ifCond .eq 7, 3) by decide +kernel) (by decide)) ?_
  refine zw_ite ?_ ?_
  · refine Iff.trans (zw_iconst (x := 0) (show decode cX12_areTrials 29 = .ok (.iconst 0, 1) by decide +kernel) (by decide)) ?_
    exact zw_iret2c (show decode cX12_areTrials 30 = .ok (.ireturn, 1) by decide +kernel) rfl (Or.inl rfl)
  · refine Iff.trans (zw_iconst (x := 1) (show decode cX12_areTrials 25 = .ok (.iconst 1, 1) by decide +kernel) (by decide)) ?_
    refine Iff.trans (zw_goto (t := 30) (show decode cX12_areTrials 26 = .ok (.goto 4, 3) by decide +kernel) (by decide)) ?_
    exact zw_iret2c (show decode cX12_areTrials 30 = .ok (.ireturn, 1) by decide +kernel) rfl (Or.inr rfl)

theorem bX12_trials_0 {d : Nat} {σ : zS} {Q : Option Value → zS → Prop} (hl : zLay σ) {x1 x2 x3 : Int32} : zCall (d + 1) kX12_trials [.ref 131, .int x1, .int x2, .int x3] σ Q ↔ zCall d kX12_areTrials [.ref 131, .int x1, .int x2] (zsI σ 131 (upd (zI σ 131) 0 0)) (fun r σ' => zisN r = true ∧ zW (d + 1) kX12_trials 11 [.ref 131, .int x1, .int x2, .int x3] (zRstk r ++ []) σ' Q) := by
  show zW (d + 1) kX12_trials 0 [.ref 131, .int x1, .int x2, .int x3] [] σ Q ↔ _
  refine Iff.trans (zw_aload_n (show decode cX12_trials 0 = .ok (.aload_n 0, 1) by decide +kernel) rfl) ?_
  refine Iff.trans (zw_iconst (x := 0) (show decode cX12_trials 1 = .ok (.iconst 0, 1) by decide +kernel) (by decide)) ?_
  refine Iff.trans (zw_putI (show decode cX12_trials 2 = .ok (.putfield 118, 3) by decide +kernel) (by decide +kernel : zfld 12 118 = some (12, 0)) (hl.k2 zk_131) (hl.n2 zk_131) rfl (Or.inl rfl) (σ' := (zsI σ 131 (upd (zI σ 131) 0 0))) rfl) ?_
  refine Iff.trans (zw_aload_n (show decode cX12_trials 5 = .ok (.aload_n 0, 1) by decide +kernel) rfl) ?_
  refine Iff.trans (zw_iload_n (show decode cX12_trials 6 = .ok (.iload_n 1, 1) by decide +kernel) rfl) ?_
  refine Iff.trans (zw_iload_n (show decode cX12_trials 7 = .ok (.iload_n 2, 1) by decide +kernel) rfl) ?_
  refine Iff.trans (zw_invV (K' := kX12_areTrials) (as' := [.int x1, .int x2]) (rest := []) (show decode cX12_trials 8 = .ok (.invokevirtual 390, 3) by decide +kernel) (by rfl) rfl rfl rfl (hl.I.k2 zk_131) (by decide) (hl.I.n2 zk_131) ⟨Nat.le_of_ble_eq_true rfl, Nat.le_of_ble_eq_true rfl, Nat.le_of_ble_eq_true rfl⟩) ?_
  exact Iff.rfl

theorem bX12_trials_11 {d : Nat} {σ : zS} {Q : Option Value → zS → Prop} (hl : zLay σ) {x1 x2 x3 y0 : Int32} : zW (d + 1) kX12_trials 11 [.ref 131, .int x1, .int x2, .int x3] [.int y0] σ Q ↔ (if y0 = (0 : Int32) then Q (some (.int (-1))) σ else (if x3 = (-1) then Q (some (.int (zI σ 131 50))) σ else zCall d kX12_isIn [.int x3, .int 0, .int ((zI σ 131 50) - 1)] σ (fun r σ' => zisN r = true ∧ zW (d + 1) kX12_trials 39 [.ref 131, .int x1, .int x2, .int x3] (zRstk r ++ []) σ' Q))) := by
  refine Iff.trans (zw_if_ne (t := 16) (show decode cX12_trials 11 = .ok (.ifCond .ne 5, 3) by decide +kernel) (by decide)) ?_
  refine zw_ite ?_ ?_
  · refine Iff.trans (zw_iconst (x := (-1)) (show decode cX12_trials 14 = .ok (.iconst (-1), 1) by decide +kernel) (by decide)) ?_
    exact zw_iret1 (show decode cX12_trials 15 = .ok (.ireturn, 1) by decide +kernel) rfl
  · refine Iff.trans (zw_iload_n (show decode cX12_trials 16 = .ok (.iload_n 3, 1) by decide +kernel) rfl) ?_
    refine Iff.trans (zw_iconst (x := (-1)) (show decode cX12_trials 17 = .ok (.iconst (-1), 1) by decide +kernel) (by decide)) ?_
    refine Iff.trans (zw_icmp_ne (t := 28) (show decode cX12_trials 18 = .ok (.if_icmp .ne 10, 3) by decide +kernel) (by decide)) ?_
    refine zw_ite ?_ ?_
    · refine Iff.trans (zw_aload_n (show decode cX12_trials 21 = .ok (.aload_n 0, 1) by decide +kernel) rfl) ?_
      refine Iff.trans (zw_getI (show decode cX12_trials 22 = .ok (.getfield 381, 3) by decide +kernel) (by decide +kernel : zfld 12 381 = some (12, 50)) (hl.k2 zk_131) (hl.n2 zk_131) (Or.inl rfl) (w := zI σ 131 50) rfl) ?_
      refine Iff.trans (zw_goto (t := 52) (show decode cX12_trials 25 = .ok (.goto 27, 3) by decide +kernel) (by decide)) ?_
      exact zw_iret1 (show decode cX12_trials 52 = .ok (.ireturn, 1) by decide +kernel) rfl
    · refine Iff.trans (zw_iload_n (show decode cX12_trials 28 = .ok (.iload_n 3, 1) by decide +kernel) rfl) ?_
      refine Iff.trans (zw_iconst (x := 0) (show decode cX12_trials 29 = .ok (.iconst 0, 1) by decide +kernel) (by decide)) ?_
      refine Iff.trans (zw_aload_n (show decode cX12_trials 30 = .ok (.aload_n 0, 1) by decide +kernel) rfl) ?_
      refine Iff.trans (zw_getI (show decode cX12_trials 31 = .ok (.getfield 381, 3) by decide +kernel) (by decide +kernel : zfld 12 381 = some (12, 50)) (hl.k2 zk_131) (hl.n2 zk_131) (Or.inl rfl) (w := zI σ 131 50) rfl) ?_
      refine Iff.trans (zw_iconst (x := 1) (show decode cX12_trials 34 = .ok (.iconst 1, 1) by decide +kernel) (by decide)) ?_
      refine Iff.trans (zw_isub (show decode cX12_trials 35 = .ok (.isub, 1) by decide +kernel)) ?_
      refine Iff.trans (zw_invS (K' := kX12_isIn) (as := [.int x3, .int 0, .int ((zI σ 131 50) - 1)]) (rest := []) (show decode cX12_trials 36 = .ok (.invokestatic 163, 3) by decide +kernel) (by rfl) rfl rfl rfl ⟨Nat.le_of_ble_eq_true rfl, Nat.le_of_ble_eq_true rfl, Nat.le_of_ble_eq_true rfl⟩) ?_
      exact Iff.rfl

theorem bX12_trials_39 {d : Nat} {σ : zS} {Q : Option Value → zS → Prop} (hl : zLay σ) {x1 x2 x3 y0 : Int32} : zW (d + 1) kX12_trials 39 [.ref 131, .int x1, .int x2, .int x3] [.int y0] σ Q ↔ (if y0 = (0 : Int32) then Q (some (.int (-1))) σ else (vp_in x3 12 ∧ Q (some (.int (zI σ 154 (x3 : Int32).toNatClampNeg))) σ)) := by
  refine Iff.trans (zw_if_eq (t := 51) (show decode cX12_trials 39 = .ok (.ifCond .eq 12, 3) by decide +kernel) (by decide)) ?_
  refine zw_ite ?_ ?_
  · refine Iff.trans (zw_iconst (x := (-1)) (show decode cX12_trials 51 = .ok (.iconst (-1), 1) by decide +kernel) (by decide)) ?_
    exact zw_iret1 (show decode cX12_trials 52 = .ok (.ireturn, 1) by decide +kernel) rfl
  · refine Iff.trans (zw_aload_n (show decode cX12_trials 42 = .ok (.aload_n 0, 1) by decide +kernel) rfl) ?_
    refine Iff.trans (zw_get (show decode cX12_trials 43 = .ok (.getfield 88, 3) by decide +kernel) (by decide +kernel : zfld 12 88 = some (12, 48)) (hl.k2 zk_131) (hl.n2 zk_131) (zgetR (v := 154) (hl.r zrt_131_48) rfl)) ?_
    refine Iff.trans (zw_iload_n (show decode cX12_trials 46 = .ok (.iload_n 3, 1) by decide +kernel) rfl) ?_
    refine Iff.trans (zw_iald2 (show decode cX12_trials 47 = .ok (.iaload, 1) by decide +kernel) (hl.k2 zk_154) (hl.n2 zk_154) (hl.l2 zk_154 zl_154) (w := zI σ 154 (x3 : Int32).toNatClampNeg) rfl) ?_
    refine zw_and ?_
    refine Iff.trans (zw_goto (t := 52) (show decode cX12_trials 48 = .ok (.goto 4, 3) by decide +kernel) (by decide)) ?_
    exact zw_iret1 (show decode cX12_trials 52 = .ok (.ireturn, 1) by decide +kernel) rfl

theorem bX12_parts_0 {d : Nat} {σ : zS} {Q : Option Value → zS → Prop} (hl : zLay σ) {x1 x2 x3 : Int32} : zCall (d + 1) kX12_parts [.ref 131, .int x1, .int x2, .int x3] σ Q ↔ zW (d + 1) kX12_parts 3 [.ref 131, .int x1, .int x2, .int x3, .int 0] [] σ Q := by
  show zW (d + 1) kX12_parts 0 [.ref 131, .int x1, .int x2, .int x3, .retAddr 0] [] σ Q ↔ _
  refine Iff.trans (zw_iconst (x := 0) (show decode cX12_parts 0 = .ok (.iconst 0, 1) by decide +kernel) (by decide)) ?_
  refine Iff.trans (zw_istore (ls' := [.ref 131, .int x1, .int x2, .int x3, .int 0]) (show decode cX12_parts 1 = .ok (.istore 4, 2) by decide +kernel) (zset_s (Nat.le_of_ble_eq_true rfl) rfl)) ?_
  exact Iff.rfl

theorem bX12_parts_3 {d : Nat} {σ : zS} {Q : Option Value → zS → Prop} (hl : zLay σ) {x1 x2 x3 x4 : Int32} : zW (d + 1) kX12_parts 3 [.ref 131, .int x1, .int x2, .int x3, .int x4] [] σ Q ↔ (if (zI σ 131 50) ≤ x4 then Q (some (.int 0)) σ else zCall d kX12_has [.int x1, .int x4] σ (fun r σ' => zisN r = true ∧ zW (d + 1) kX12_parts 18 [.ref 131, .int x1, .int x2, .int x3, .int x4] (zRstk r ++ []) σ' Q)) := by
  refine Iff.trans (zw_iload (show decode cX12_parts 3 = .ok (.iload 4, 2) by decide +kernel) rfl) ?_
  refine Iff.trans (zw_aload_n (show decode cX12_parts 5 = .ok (.aload_n 0, 1) by decide +kernel) rfl) ?_
  refine Iff.trans (zw_getI (show decode cX12_parts 6 = .ok (.getfield 381, 3) by decide +kernel) (by decide +kernel : zfld 12 381 = some (12, 50)) (hl.k2 zk_131) (hl.n2 zk_131) (Or.inl rfl) (w := zI σ 131 50) rfl) ?_
  refine Iff.trans (zw_icmp_ge (t := 56) (show decode cX12_parts 9 = .ok (.if_icmp .ge 47, 3) by decide +kernel) (by decide)) ?_
  refine zw_ite ?_ ?_
  · refine Iff.trans (zw_iconst (x := 0) (show decode cX12_parts 56 = .ok (.iconst 0, 1) by decide +kernel) (by decide)) ?_
    exact zw_iret2c (show decode cX12_parts 57 = .ok (.ireturn, 1) by decide +kernel) rfl (Or.inl rfl)
  · refine Iff.trans (zw_iload_n (show decode cX12_parts 12 = .ok (.iload_n 1, 1) by decide +kernel) rfl) ?_
    refine Iff.trans (zw_iload (show decode cX12_parts 13 = .ok (.iload 4, 2) by decide +kernel) rfl) ?_
    refine Iff.trans (zw_invS (K' := kX12_has) (as := [.int x1, .int x4]) (rest := []) (show decode cX12_parts 15 = .ok (.invokestatic 167, 3) by decide +kernel) (by rfl) rfl rfl rfl ⟨Nat.le_of_ble_eq_true rfl, Nat.le_of_ble_eq_true rfl, Nat.le_of_ble_eq_true rfl⟩) ?_
    exact Iff.rfl

theorem bX12_parts_18 {d : Nat} {σ : zS} {Q : Option Value → zS → Prop} (hl : zLay σ) {x1 x2 x3 x4 y0 : Int32} : zW (d + 1) kX12_parts 18 [.ref 131, .int x1, .int x2, .int x3, .int x4] [.int y0] σ Q ↔ (if y0 = (0 : Int32) then zW (d + 1) kX12_parts 3 [.ref 131, .int x1, .int x2, .int x3, .int (x4 + 1)] [] σ Q else (vp_in ((6 * x4) + x2) 72 ∧ (vp_in ((6 * x4) + x3) 72 ∧ (if (zI σ 155 ((6 * x4) + x2 : Int32).toNatClampNeg) = (zI σ 155 ((6 * x4) + x3 : Int32).toNatClampNeg) then zW (d + 1) kX12_parts 3 [.ref 131, .int x1, .int x2, .int x3, .int (x4 + 1)] [] σ Q else Q (some (.int 1)) σ)))) := by
  refine Iff.trans (zw_if_eq (t := 50) (show decode cX12_parts 18 = .ok (.ifCond .eq 32, 3) by decide +kernel) (by decide)) ?_
  refine zw_ite ?_ ?_
  · refine Iff.trans (zw_iinc (w := 1) (ls' := [.ref 131, .int x1, .int x2, .int x3, .int (x4 + 1)]) (show decode cX12_parts 50 = .ok (.iinc 4 1, 3) by decide +kernel) rfl (by decide) (zset_s (Nat.le_of_ble_eq_true rfl) rfl)) ?_
    refine Iff.trans (zw_goto (t := 3) (show decode cX12_parts 53 = .ok (.goto (-50), 3) by decide +kernel) (by decide)) ?_
    exact Iff.rfl
  · refine Iff.trans (zw_aload_n (show decode cX12_parts 21 = .ok (.aload_n 0, 1) by decide +kernel) rfl) ?_
    refine Iff.trans (zw_get (show decode cX12_parts 22 = .ok (.getfield 91, 3) by decide +kernel) (by decide +kernel : zfld 12 91 = some (12, 49)) (hl.k2 zk_131) (hl.n2 zk_131) (zgetR (v := 155) (hl.r zrt_131_49) rfl)) ?_
    refine Iff.trans (zw_bipush (x := 6) (show decode cX12_parts 25 = .ok (.bipush 6, 2) by decide +kernel) (by decide)) ?_
    refine Iff.trans (zw_iload (show decode cX12_parts 27 = .ok (.iload 4, 2) by decide +kernel) rfl) ?_
    refine Iff.trans (zw_imul (show decode cX12_parts 29 = .ok (.imul, 1) by decide +kernel)) ?_
    refine Iff.trans (zw_iload_n (show decode cX12_parts 30 = .ok (.iload_n 2, 1) by decide +kernel) rfl) ?_
    refine Iff.trans (zw_iadd (show decode cX12_parts 31 = .ok (.iadd, 1) by decide +kernel)) ?_
    refine Iff.trans (zw_iald2 (show decode cX12_parts 32 = .ok (.iaload, 1) by decide +kernel) (hl.k2 zk_155) (hl.n2 zk_155) (hl.l2 zk_155 zl_155) (w := zI σ 155 ((6 * x4) + x2 : Int32).toNatClampNeg) rfl) ?_
    refine zw_and ?_
    refine Iff.trans (zw_aload_n (show decode cX12_parts 33 = .ok (.aload_n 0, 1) by decide +kernel) rfl) ?_
    refine Iff.trans (zw_get (show decode cX12_parts 34 = .ok (.getfield 91, 3) by decide +kernel) (by decide +kernel : zfld 12 91 = some (12, 49)) (hl.k2 zk_131) (hl.n2 zk_131) (zgetR (v := 155) (hl.r zrt_131_49) rfl)) ?_
    refine Iff.trans (zw_bipush (x := 6) (show decode cX12_parts 37 = .ok (.bipush 6, 2) by decide +kernel) (by decide)) ?_
    refine Iff.trans (zw_iload (show decode cX12_parts 39 = .ok (.iload 4, 2) by decide +kernel) rfl) ?_
    refine Iff.trans (zw_imul (show decode cX12_parts 41 = .ok (.imul, 1) by decide +kernel)) ?_
    refine Iff.trans (zw_iload_n (show decode cX12_parts 42 = .ok (.iload_n 3, 1) by decide +kernel) rfl) ?_
    refine Iff.trans (zw_iadd (show decode cX12_parts 43 = .ok (.iadd, 1) by decide +kernel)) ?_
    refine Iff.trans (zw_iald2 (show decode cX12_parts 44 = .ok (.iaload, 1) by decide +kernel) (hl.k2 zk_155) (hl.n2 zk_155) (hl.l2 zk_155 zl_155) (w := zI σ 155 ((6 * x4) + x3 : Int32).toNatClampNeg) rfl) ?_
    refine zw_and ?_
    refine Iff.trans (zw_icmp_eq (t := 50) (show decode cX12_parts 45 = .ok (.if_icmp .eq 5, 3) by decide +kernel) (by decide)) ?_
    refine zw_ite ?_ ?_
    · refine Iff.trans (zw_iinc (w := 1) (ls' := [.ref 131, .int x1, .int x2, .int x3, .int (x4 + 1)]) (show decode cX12_parts 50 = .ok (.iinc 4 1, 3) by decide +kernel) rfl (by decide) (zset_s (Nat.le_of_ble_eq_true rfl) rfl)) ?_
      refine Iff.trans (zw_goto (t := 3) (show decode cX12_parts 53 = .ok (.goto (-50), 3) by decide +kernel) (by decide)) ?_
      exact Iff.rfl
    · refine Iff.trans (zw_iconst (x := 1) (show decode cX12_parts 48 = .ok (.iconst 1, 1) by decide +kernel) (by decide)) ?_
      exact zw_iret2c (show decode cX12_parts 49 = .ok (.ireturn, 1) by decide +kernel) rfl (Or.inr rfl)

theorem bX12_partsOf_0 {d : Nat} {σ : zS} {Q : Option Value → zS → Prop} (hl : zLay σ) {x1 x2 : Int32} : zCall (d + 1) kX12_partsOf [.ref 131, .int x1, .int x2] σ Q ↔ zW (d + 1) kX12_partsOf 5 [.ref 131, .int x1, .int x2, .int 0, .int 0, .retAddr 0] [] σ Q := by
  show zW (d + 1) kX12_partsOf 0 [.ref 131, .int x1, .int x2, .retAddr 0, .retAddr 0, .retAddr 0] [] σ Q ↔ _
  refine Iff.trans (zw_iconst (x := 0) (show decode cX12_partsOf 0 = .ok (.iconst 0, 1) by decide +kernel) (by decide)) ?_
  refine Iff.trans (zw_istore_n (ls' := [.ref 131, .int x1, .int x2, .int 0, .retAddr 0, .retAddr 0]) (show decode cX12_partsOf 1 = .ok (.istore_n 3, 1) by decide +kernel) (zset_s (Nat.le_of_ble_eq_true rfl) rfl)) ?_
  refine Iff.trans (zw_iconst (x := 0) (show decode cX12_partsOf 2 = .ok (.iconst 0, 1) by decide +kernel) (by decide)) ?_
  refine Iff.trans (zw_istore (ls' := [.ref 131, .int x1, .int x2, .int 0, .int 0, .retAddr 0]) (show decode cX12_partsOf 3 = .ok (.istore 4, 2) by decide +kernel) (zset_s (Nat.le_of_ble_eq_true rfl) rfl)) ?_
  exact Iff.rfl

theorem bX12_partsOf_5 {d : Nat} {σ : zS} {Q : Option Value → zS → Prop} (hl : zLay σ) {x1 x2 x3 x4 : Int32} {v5 : Value} (hv5 : v5.category = 1) : zW (d + 1) kX12_partsOf 5 [.ref 131, .int x1, .int x2, .int x3, .int x4, v5] [] σ Q ↔ (if (zI σ 131 11) ≤ x4 then Q (some (.int x3)) σ else zW (d + 1) kX12_partsOf 17 [.ref 131, .int x1, .int x2, .int x3, .int x4, .int 0] [] σ Q) := by
  refine Iff.trans (zw_iload (show decode cX12_partsOf 5 = .ok (.iload 4, 2) by decide +kernel) rfl) ?_
  refine Iff.trans (zw_aload_n (show decode cX12_partsOf 7 = .ok (.aload_n 0, 1) by decide +kernel) rfl) ?_
  refine Iff.trans (zw_getI (show decode cX12_partsOf 8 = .ok (.getfield 181, 3) by decide +kernel) (by decide +kernel : zfld 12 181 = some (12, 11)) (hl.k2 zk_131) (hl.n2 zk_131) (Or.inl rfl) (w := zI σ 131 11) rfl) ?_
  refine Iff.trans (zw_icmp_ge (t := 74) (show decode cX12_partsOf 11 = .ok (.if_icmp .ge 63, 3) by decide +kernel) (by decide)) ?_
  refine zw_ite ?_ ?_
  · refine Iff.trans (zw_iload_n (show decode cX12_partsOf 74 = .ok (.iload_n 3, 1) by decide +kernel) rfl) ?_
    exact zw_iret1 (show decode cX12_partsOf 75 = .ok (.ireturn, 1) by decide +kernel) rfl
  · refine Iff.trans (zw_iconst (x := 0) (show decode cX12_partsOf 14 = .ok (.iconst 0, 1) by decide +kernel) (by decide)) ?_
    refine Iff.trans (zw_istore (ls' := [.ref 131, .int x1, .int x2, .int x3, .int x4, .int 0]) (show decode cX12_partsOf 15 = .ok (.istore 5, 2) by decide +kernel) (zset_s (Nat.le_of_ble_eq_true rfl) rfl)) ?_
    exact Iff.rfl

theorem bX12_partsOf_17 {d : Nat} {σ : zS} {Q : Option Value → zS → Prop} (hl : zLay σ) {x1 x2 x3 x4 x5 : Int32} : zW (d + 1) kX12_partsOf 17 [.ref 131, .int x1, .int x2, .int x3, .int x4, .int x5] [] σ Q ↔ (if x4 ≤ x5 then zW (d + 1) kX12_partsOf 5 [.ref 131, .int x1, .int x2, .int x3, .int (x4 + 1), .int x5] [] σ Q else zCall d kX12_has [.int x2, .int x4] σ (fun r σ' => zisN r = true ∧ zW (d + 1) kX12_partsOf 31 [.ref 131, .int x1, .int x2, .int x3, .int x4, .int x5] (zRstk r ++ [.int x3]) σ' Q)) := by
  refine Iff.trans (zw_iload (show decode cX12_partsOf 17 = .ok (.iload 5, 2) by decide +kernel) rfl) ?_
  refine Iff.trans (zw_iload (show decode cX12_partsOf 19 = .ok (.iload 4, 2) by decide +kernel) rfl) ?_
  refine Iff.trans (zw_icmp_ge (t := 68) (show decode cX12_partsOf 21 = .ok (.if_icmp .ge 47, 3) by decide +kernel) (by decide)) ?_
  refine zw_ite ?_ ?_
  · refine Iff.trans (zw_iinc (w := 1) (ls' := [.ref 131, .int x1, .int x2, .int x3, .int (x4 + 1), .int x5]) (show decode cX12_partsOf 68 = .ok (.iinc 4 1, 3) by decide +kernel) rfl (by decide) (zset_s (Nat.le_of_ble_eq_true rfl) rfl)) ?_
    refine Iff.trans (zw_goto (t := 5) (show decode cX12_partsOf 71 = .ok (.goto (-66), 3) by decide +kernel) (by decide)) ?_
    exact Iff.rfl
  · refine Iff.trans (zw_iload_n (show decode cX12_partsOf 24 = .ok (.iload_n 3, 1) by decide +kernel) rfl) ?_
    refine Iff.trans (zw_iload_n (show decode cX12_partsOf 25 = .ok (.iload_n 2, 1) by decide +kernel) rfl) ?_
    refine Iff.trans (zw_iload (show decode cX12_partsOf 26 = .ok (.iload 4, 2) by decide +kernel) rfl) ?_
    refine Iff.trans (zw_invS (K' := kX12_has) (as := [.int x2, .int x4]) (rest := [.int x3]) (show decode cX12_partsOf 28 = .ok (.invokestatic 167, 3) by decide +kernel) (by rfl) rfl rfl rfl ⟨Nat.le_of_ble_eq_true rfl, Nat.le_of_ble_eq_true rfl, Nat.le_of_ble_eq_true rfl⟩) ?_
    exact Iff.rfl

theorem bX12_partsOf_31 {d : Nat} {σ : zS} {Q : Option Value → zS → Prop} (hl : zLay σ) {x1 x2 x3 x4 x5 y0 y1 : Int32} : zW (d + 1) kX12_partsOf 31 [.ref 131, .int x1, .int x2, .int x3, .int x4, .int x5] [.int y0, .int y1] σ Q ↔ (if y0 = (0 : Int32) then zW (d + 1) kX12_partsOf 17 [.ref 131, .int x1, .int x2, .int (y1 + 0), .int x4, .int (x5 + 1)] [] σ Q else zCall d kX12_has [.int x2, .int x5] σ (fun r σ' => zisN r = true ∧ zW (d + 1) kX12_partsOf 40 [.ref 131, .int x1, .int x2, .int x3, .int x4, .int x5] (zRstk r ++ [.int y1]) σ' Q)) := by
  refine Iff.trans (zw_if_eq (t := 59) (show decode cX12_partsOf 31 = .ok (.ifCond .eq 28, 3) by decide +kernel) (by decide)) ?_
  refine zw_ite ?_ ?_
  · refine Iff.trans (zw_iconst (x := 0) (show decode cX12_partsOf 59 = .ok (.iconst 0, 1) by decide +kernel) (by decide)) ?_
    refine Iff.trans (zw_iadd (show decode cX12_partsOf 60 = .ok (.iadd, 1) by decide +kernel)) ?_
    refine Iff.trans (zw_istore_n (ls' := [.ref 131, .int x1, .int x2, .int (y1 + 0), .int x4, .int x5]) (show decode cX12_partsOf 61 = .ok (.istore_n 3, 1) by decide +kernel) (zset_s (Nat.le_of_ble_eq_true rfl) rfl)) ?_
    refine Iff.trans (zw_iinc (w := 1) (ls' := [.ref 131, .int x1, .int x2, .int (y1 + 0), .int x4, .int (x5 + 1)]) (show decode cX12_partsOf 62 = .ok (.iinc 5 1, 3) by decide +kernel) rfl (by decide) (zset_s (Nat.le_of_ble_eq_true rfl) rfl)) ?_
    refine Iff.trans (zw_goto (t := 17) (show decode cX12_partsOf 65 = .ok (.goto (-48), 3) by decide +kernel) (by decide)) ?_
    exact Iff.rfl
  · refine Iff.trans (zw_iload_n (show decode cX12_partsOf 34 = .ok (.iload_n 2, 1) by decide +kernel) rfl) ?_
    refine Iff.trans (zw_iload (show decode cX12_partsOf 35 = .ok (.iload 5, 2) by decide +kernel) rfl) ?_
    refine Iff.trans (zw_invS (K' := kX12_has) (as := [.int x2, .int x5]) (rest := [.int y1]) (show decode cX12_partsOf 37 = .ok (.invokestatic 167, 3) by decide +kernel) (by rfl) rfl rfl rfl ⟨Nat.le_of_ble_eq_true rfl, Nat.le_of_ble_eq_true rfl, Nat.le_of_ble_eq_true rfl⟩) ?_
    exact Iff.rfl

theorem bX12_partsOf_40 {d : Nat} {σ : zS} {Q : Option Value → zS → Prop} (hl : zLay σ) {x1 x2 x3 x4 x5 y0 y1 : Int32} : zW (d + 1) kX12_partsOf 40 [.ref 131, .int x1, .int x2, .int x3, .int x4, .int x5] [.int y0, .int y1] σ Q ↔ (if y0 = (0 : Int32) then zW (d + 1) kX12_partsOf 17 [.ref 131, .int x1, .int x2, .int (y1 + 0), .int x4, .int (x5 + 1)] [] σ Q else zCall d kX12_parts [.ref 131, .int x1, .int x4, .int x5] σ (fun r σ' => zisN r = true ∧ zW (d + 1) kX12_partsOf 52 [.ref 131, .int x1, .int x2, .int x3, .int x4, .int x5] (zRstk r ++ [.int y1]) σ' Q)) := by
  refine Iff.trans (zw_if_eq (t := 59) (show decode cX12_partsOf 40 = .ok (.ifCond .eq 19, 3) by decide +kernel) (by decide)) ?_
  refine zw_ite ?_ ?_
  · refine Iff.trans (zw_iconst (x := 0) (show decode cX12_partsOf 59 = .ok (.iconst 0, 1) by decide +kernel) (by decide)) ?_
    refine Iff.trans (zw_iadd (show decode cX12_partsOf 60 = .ok (.iadd, 1) by decide +kernel)) ?_
    refine Iff.trans (zw_istore_n (ls' := [.ref 131, .int x1, .int x2, .int (y1 + 0), .int x4, .int x5]) (show decode cX12_partsOf 61 = .ok (.istore_n 3, 1) by decide +kernel) (zset_s (Nat.le_of_ble_eq_true rfl) rfl)) ?_
    refine Iff.trans (zw_iinc (w := 1) (ls' := [.ref 131, .int x1, .int x2, .int (y1 + 0), .int x4, .int (x5 + 1)]) (show decode cX12_partsOf 62 = .ok (.iinc 5 1, 3) by decide +kernel) rfl (by decide) (zset_s (Nat.le_of_ble_eq_true rfl) rfl)) ?_
    refine Iff.trans (zw_goto (t := 17) (show decode cX12_partsOf 65 = .ok (.goto (-48), 3) by decide +kernel) (by decide)) ?_
    exact Iff.rfl
  · refine Iff.trans (zw_aload_n (show decode cX12_partsOf 43 = .ok (.aload_n 0, 1) by decide +kernel) rfl) ?_
    refine Iff.trans (zw_iload_n (show decode cX12_partsOf 44 = .ok (.iload_n 1, 1) by decide +kernel) rfl) ?_
    refine Iff.trans (zw_iload (show decode cX12_partsOf 45 = .ok (.iload 4, 2) by decide +kernel) rfl) ?_
    refine Iff.trans (zw_iload (show decode cX12_partsOf 47 = .ok (.iload 5, 2) by decide +kernel) rfl) ?_
    refine Iff.trans (zw_invV (K' := kX12_parts) (as' := [.int x1, .int x4, .int x5]) (rest := [.int y1]) (show decode cX12_partsOf 49 = .ok (.invokevirtual 393, 3) by decide +kernel) (by rfl) rfl rfl rfl (hl.k2 zk_131) (by decide) (hl.n2 zk_131) ⟨Nat.le_of_ble_eq_true rfl, Nat.le_of_ble_eq_true rfl, Nat.le_of_ble_eq_true rfl⟩) ?_
    exact Iff.rfl

theorem bX12_partsOf_52 {d : Nat} {σ : zS} {Q : Option Value → zS → Prop} (hl : zLay σ) {x1 x2 x3 x4 x5 y0 y1 : Int32} : zW (d + 1) kX12_partsOf 52 [.ref 131, .int x1, .int x2, .int x3, .int x4, .int x5] [.int y0, .int y1] σ Q ↔ (if y0 = (0 : Int32) then zW (d + 1) kX12_partsOf 17 [.ref 131, .int x1, .int x2, .int (y1 + 0), .int x4, .int (x5 + 1)] [] σ Q else zW (d + 1) kX12_partsOf 17 [.ref 131, .int x1, .int x2, .int (y1 + 1), .int x4, .int (x5 + 1)] [] σ Q) := by
  refine Iff.trans (zw_if_eq (t := 59) (show decode cX12_partsOf 52 = .ok (.ifCond .eq 7, 3) by decide +kernel) (by decide)) ?_
  refine zw_ite ?_ ?_
  · refine Iff.trans (zw_iconst (x := 0) (show decode cX12_partsOf 59 = .ok (.iconst 0, 1) by decide +kernel) (by decide)) ?_
    refine Iff.trans (zw_iadd (show decode cX12_partsOf 60 = .ok (.iadd, 1) by decide +kernel)) ?_
    refine Iff.trans (zw_istore_n (ls' := [.ref 131, .int x1, .int x2, .int (y1 + 0), .int x4, .int x5]) (show decode cX12_partsOf 61 = .ok (.istore_n 3, 1) by decide +kernel) (zset_s (Nat.le_of_ble_eq_true rfl) rfl)) ?_
    refine Iff.trans (zw_iinc (w := 1) (ls' := [.ref 131, .int x1, .int x2, .int (y1 + 0), .int x4, .int (x5 + 1)]) (show decode cX12_partsOf 62 = .ok (.iinc 5 1, 3) by decide +kernel) rfl (by decide) (zset_s (Nat.le_of_ble_eq_true rfl) rfl)) ?_
    refine Iff.trans (zw_goto (t := 17) (show decode cX12_partsOf 65 = .ok (.goto (-48), 3) by decide +kernel) (by decide)) ?_
    exact Iff.rfl
  · refine Iff.trans (zw_iconst (x := 1) (show decode cX12_partsOf 55 = .ok (.iconst 1, 1) by decide +kernel) (by decide)) ?_
    refine Iff.trans (zw_goto (t := 60) (show decode cX12_partsOf 56 = .ok (.goto 4, 3) by decide +kernel) (by decide)) ?_
    refine Iff.trans (zw_iadd (show decode cX12_partsOf 60 = .ok (.iadd, 1) by decide +kernel)) ?_
    refine Iff.trans (zw_istore_n (ls' := [.ref 131, .int x1, .int x2, .int (y1 + 1), .int x4, .int x5]) (show decode cX12_partsOf 61 = .ok (.istore_n 3, 1) by decide +kernel) (zset_s (Nat.le_of_ble_eq_true rfl) rfl)) ?_
    refine Iff.trans (zw_iinc (w := 1) (ls' := [.ref 131, .int x1, .int x2, .int (y1 + 1), .int x4, .int (x5 + 1)]) (show decode cX12_partsOf 62 = .ok (.iinc 5 1, 3) by decide +kernel) rfl (by decide) (zset_s (Nat.le_of_ble_eq_true rfl) rfl)) ?_
    refine Iff.trans (zw_goto (t := 17) (show decode cX12_partsOf 65 = .ok (.goto (-48), 3) by decide +kernel) (by decide)) ?_
    exact Iff.rfl

theorem bX12_plan_0 {d : Nat} {σ : zS} {Q : Option Value → zS → Prop} (hl : zLay σ) {x1 x2 x3 : Int32} : zCall (d + 1) kX12_plan [.ref 131, .int x1, .int x2, .int x3] σ Q ↔ zCall d kX12_isIn [.int x3, .int 0, .int 1] (zsI σ 131 (upd (zI σ 131) 0 0)) (fun r σ' => zisN r = true ∧ zW (d + 1) kX12_plan 11 [.ref 131, .int x1, .int x2, .int x3, .retAddr 0, .retAddr 0] (zRstk r ++ []) σ' Q) := by
  show zW (d + 1) kX12_plan 0 [.ref 131, .int x1, .int x2, .int x3, .retAddr 0, .retAddr 0] [] σ Q ↔ _
  refine Iff.trans (zw_aload_n (show decode cX12_plan 0 = .ok (.aload_n 0, 1) by decide +kernel) rfl) ?_
  refine Iff.trans (zw_iconst (x := 0) (show decode cX12_plan 1 = .ok (.iconst 0, 1) by decide +kernel) (by decide)) ?_
  refine Iff.trans (zw_putI (show decode cX12_plan 2 = .ok (.putfield 118, 3) by decide +kernel) (by decide +kernel : zfld 12 118 = some (12, 0)) (hl.k2 zk_131) (hl.n2 zk_131) rfl (Or.inl rfl) (σ' := (zsI σ 131 (upd (zI σ 131) 0 0))) rfl) ?_
  refine Iff.trans (zw_iload_n (show decode cX12_plan 5 = .ok (.iload_n 3, 1) by decide +kernel) rfl) ?_
  refine Iff.trans (zw_iconst (x := 0) (show decode cX12_plan 6 = .ok (.iconst 0, 1) by decide +kernel) (by decide)) ?_
  refine Iff.trans (zw_iconst (x := 1) (show decode cX12_plan 7 = .ok (.iconst 1, 1) by decide +kernel) (by decide)) ?_
  refine Iff.trans (zw_invS (K' := kX12_isIn) (as := [.int x3, .int 0, .int 1]) (rest := []) (show decode cX12_plan 8 = .ok (.invokestatic 163, 3) by decide +kernel) (by rfl) rfl rfl rfl ⟨Nat.le_of_ble_eq_true rfl, Nat.le_of_ble_eq_true rfl, Nat.le_of_ble_eq_true rfl⟩) ?_
  exact Iff.rfl

theorem bX12_plan_11 {d : Nat} {σ : zS} {Q : Option Value → zS → Prop} (hl : zLay σ) {x1 x2 x3 y0 : Int32} : zW (d + 1) kX12_plan 11 [.ref 131, .int x1, .int x2, .int x3, .retAddr 0, .retAddr 0] [.int y0] σ Q ↔ (if y0 = (0 : Int32) then Q (some (.int (-1))) σ else zCall d kX12_areTrials [.ref 131, .int x1, .int x2] σ (fun r σ' => zisN r = true ∧ zW (d + 1) kX12_plan 20 [.ref 131, .int x1, .int x2, .int x3, .retAddr 0, .retAddr 0] (zRstk r ++ []) σ' Q)) := by
  refine Iff.trans (zw_if_eq (t := 30) (show decode cX12_plan 11 = .ok (.ifCond .eq 19, 3) by decide +kernel) (by decide)) ?_
  refine zw_ite ?_ ?_
  · refine Iff.trans (zw_iconst (x := (-1)) (show decode cX12_plan 30 = .ok (.iconst (-1), 1) by decide +kernel) (by decide)) ?_
    exact zw_iret1 (show decode cX12_plan 31 = .ok (.ireturn, 1) by decide +kernel) rfl
  · refine Iff.trans (zw_aload_n (show decode cX12_plan 14 = .ok (.aload_n 0, 1) by decide +kernel) rfl) ?_
    refine Iff.trans (zw_iload_n (show decode cX12_plan 15 = .ok (.iload_n 1, 1) by decide +kernel) rfl) ?_
    refine Iff.trans (zw_iload_n (show decode cX12_plan 16 = .ok (.iload_n 2, 1) by decide +kernel) rfl) ?_
    refine Iff.trans (zw_invV (K' := kX12_areTrials) (as' := [.int x1, .int x2]) (rest := []) (show decode cX12_plan 17 = .ok (.invokevirtual 390, 3) by decide +kernel) (by rfl) rfl rfl rfl (hl.k2 zk_131) (by decide) (hl.n2 zk_131) ⟨Nat.le_of_ble_eq_true rfl, Nat.le_of_ble_eq_true rfl, Nat.le_of_ble_eq_true rfl⟩) ?_
    exact Iff.rfl

theorem bX12_plan_20 {d : Nat} {σ : zS} {Q : Option Value → zS → Prop} (hl : zLay σ) {x1 x2 x3 y0 : Int32} : zW (d + 1) kX12_plan 20 [.ref 131, .int x1, .int x2, .int x3, .retAddr 0, .retAddr 0] [.int y0] σ Q ↔ (if y0 = (0 : Int32) then Q (some (.int (-1))) σ else (if (zI σ 131 50) = (0 : Int32) then Q (some (.int (-1))) σ else zW (d + 1) kX12_plan 38 [.ref 131, .int x1, .int x2, .int x3, .int 0, .int 1] [] σ Q)) := by
  refine Iff.trans (zw_if_eq (t := 30) (show decode cX12_plan 20 = .ok (.ifCond .eq 10, 3) by decide +kernel) (by decide)) ?_
  refine zw_ite ?_ ?_
  · refine Iff.trans (zw_iconst (x := (-1)) (show decode cX12_plan 30 = .ok (.iconst (-1), 1) by decide +kernel) (by decide)) ?_
    exact zw_iret1 (show decode cX12_plan 31 = .ok (.ireturn, 1) by decide +kernel) rfl
  · refine Iff.trans (zw_aload_n (show decode cX12_plan 23 = .ok (.aload_n 0, 1) by decide +kernel) rfl) ?_
    refine Iff.trans (zw_getI (show decode cX12_plan 24 = .ok (.getfield 381, 3) by decide +kernel) (by decide +kernel : zfld 12 381 = some (12, 50)) (hl.k2 zk_131) (hl.n2 zk_131) (Or.inl rfl) (w := zI σ 131 50) rfl) ?_
    refine Iff.trans (zw_if_ne (t := 32) (show decode cX12_plan 27 = .ok (.ifCond .ne 5, 3) by decide +kernel) (by decide)) ?_
    refine zw_ite ?_ ?_
    · refine Iff.trans (zw_iconst (x := (-1)) (show decode cX12_plan 30 = .ok (.iconst (-1), 1) by decide +kernel) (by decide)) ?_
      exact zw_iret1 (show decode cX12_plan 31 = .ok (.ireturn, 1) by decide +kernel) rfl
    · refine Iff.trans (zw_iconst (x := 0) (show decode cX12_plan 32 = .ok (.iconst 0, 1) by decide +kernel) (by decide)) ?_
      refine Iff.trans (zw_istore (ls' := [.ref 131, .int x1, .int x2, .int x3, .int 0, .retAddr 0]) (show decode cX12_plan 33 = .ok (.istore 4, 2) by decide +kernel) (zset_s (Nat.le_of_ble_eq_true rfl) rfl)) ?_
      refine Iff.trans (zw_iconst (x := 1) (show decode cX12_plan 35 = .ok (.iconst 1, 1) by decide +kernel) (by decide)) ?_
      refine Iff.trans (zw_istore (ls' := [.ref 131, .int x1, .int x2, .int x3, .int 0, .int 1]) (show decode cX12_plan 36 = .ok (.istore 5, 2) by decide +kernel) (zset_s (Nat.le_of_ble_eq_true rfl) rfl)) ?_
      exact Iff.rfl

theorem bX12_plan_38 {d : Nat} {σ : zS} {Q : Option Value → zS → Prop} (hl : zLay σ) {x1 x2 x3 x4 x5 : Int32} : zW (d + 1) kX12_plan 38 [.ref 131, .int x1, .int x2, .int x3, .int x4, .int x5] [] σ Q ↔ (if (zI σ 131 50) ≤ x5 then (if x3 = (0 : Int32) then zW (d + 1) kX12_plan 96 [.ref 131, .int x1, .int x2, .int x3, .int x4, .int x5] [.int x4] σ Q else zCall d kX12_partsOf [.ref 131, .int (1 <<< (x4 &&& 31)), .int x1] σ (fun r σ' => zisN r = true ∧ zW (d + 1) kX12_plan 96 [.ref 131, .int x1, .int x2, .int x3, .int x4, .int x5] (zRstk r ++ []) σ' Q)) else zCall d kX12_partsOf [.ref 131, .int (1 <<< (x5 &&& 31)), .int x1] σ (fun r σ' => zisN r = true ∧ zW (d + 1) kX12_plan 56 [.ref 131, .int x1, .int x2, .int x3, .int x4, .int x5] (zRstk r ++ []) σ' Q)) := by
  refine Iff.trans (zw_iload (show decode cX12_plan 38 = .ok (.iload 5, 2) by decide +kernel) rfl) ?_
  refine Iff.trans (zw_aload_n (show decode cX12_plan 40 = .ok (.aload_n 0, 1) by decide +kernel) rfl) ?_
  refine Iff.trans (zw_getI (show decode cX12_plan 41 = .ok (.getfield 381, 3) by decide +kernel) (by decide +kernel : zfld 12 381 = some (12, 50)) (hl.k2 zk_131) (hl.n2 zk_131) (Or.inl rfl) (w := zI σ 131 50) rfl) ?_
  refine Iff.trans (zw_icmp_ge (t := 78) (show decode cX12_plan 44 = .ok (.if_icmp .ge 34, 3) by decide +kernel) (by decide)) ?_
  refine zw_ite ?_ ?_
  · refine Iff.trans (zw_iload_n (show decode cX12_plan 78 = .ok (.iload_n 3, 1) by decide +kernel) rfl) ?_
    refine Iff.trans (zw_if_ne (t := 87) (show decode cX12_plan 79 = .ok (.ifCond .ne 8, 3) by decide +kernel) (by decide)) ?_
    refine zw_ite ?_ ?_
    · refine Iff.trans (zw_iload (show decode cX12_plan 82 = .ok (.iload 4, 2) by decide +kernel) rfl) ?_
      refine Iff.trans (zw_goto (t := 96) (show decode cX12_plan 84 = .ok (.goto 12, 3) by decide +kernel) (by decide)) ?_
      exact Iff.rfl
    · refine Iff.trans (zw_aload_n (show decode cX12_plan 87 = .ok (.aload_n 0, 1) by decide +kernel) rfl) ?_
      refine Iff.trans (zw_iconst (x := 1) (show decode cX12_plan 88 = .ok (.iconst 1, 1) by decide +kernel) (by decide)) ?_
      refine Iff.trans (zw_iload (show decode cX12_plan 89 = .ok (.iload 4, 2) by decide +kernel) rfl) ?_
      refine Iff.trans (zw_ishl (show decode cX12_plan 91 = .ok (.ishl, 1) by decide +kernel)) ?_
      refine Iff.trans (zw_iload_n (show decode cX12_plan 92 = .ok (.iload_n 1, 1) by decide +kernel) rfl) ?_
      refine Iff.trans (zw_invV (K' := kX12_partsOf) (as' := [.int (1 <<< (x4 &&& 31)), .int x1]) (rest := []) (show decode cX12_plan 93 = .ok (.invokevirtual 395, 3) by decide +kernel) (by rfl) rfl rfl rfl (hl.k2 zk_131) (by decide) (hl.n2 zk_131) ⟨Nat.le_of_ble_eq_true rfl, Nat.le_of_ble_eq_true rfl, Nat.le_of_ble_eq_true rfl⟩) ?_
      exact Iff.rfl
  · refine Iff.trans (zw_aload_n (show decode cX12_plan 47 = .ok (.aload_n 0, 1) by decide +kernel) rfl) ?_
    refine Iff.trans (zw_iconst (x := 1) (show decode cX12_plan 48 = .ok (.iconst 1, 1) by decide +kernel) (by decide)) ?_
    refine Iff.trans (zw_iload (show decode cX12_plan 49 = .ok (.iload 5, 2) by decide +kernel) rfl) ?_
    refine Iff.trans (zw_ishl (show decode cX12_plan 51 = .ok (.ishl, 1) by decide +kernel)) ?_
    refine Iff.trans (zw_iload_n (show decode cX12_plan 52 = .ok (.iload_n 1, 1) by decide +kernel) rfl) ?_
    refine Iff.trans (zw_invV (K' := kX12_partsOf) (as' := [.int (1 <<< (x5 &&& 31)), .int x1]) (rest := []) (show decode cX12_plan 53 = .ok (.invokevirtual 395, 3) by decide +kernel) (by rfl) rfl rfl rfl (hl.k2 zk_131) (by decide) (hl.n2 zk_131) ⟨Nat.le_of_ble_eq_true rfl, Nat.le_of_ble_eq_true rfl, Nat.le_of_ble_eq_true rfl⟩) ?_
    exact Iff.rfl

theorem bX12_plan_56 {d : Nat} {σ : zS} {Q : Option Value → zS → Prop} (hl : zLay σ) {x1 x2 x3 x4 x5 y0 : Int32} : zW (d + 1) kX12_plan 56 [.ref 131, .int x1, .int x2, .int x3, .int x4, .int x5] [.int y0] σ Q ↔ zCall d kX12_partsOf [.ref 131, .int (1 <<< (x4 &&& 31)), .int x1] σ (fun r σ' => zisN r = true ∧ zW (d + 1) kX12_plan 65 [.ref 131, .int x1, .int x2, .int x3, .int x4, .int x5] (zRstk r ++ [.int y0]) σ' Q) := by
  refine Iff.trans (zw_aload_n (show decode cX12_plan 56 = .ok (.aload_n 0, 1) by decide +kernel) rfl) ?_
  refine Iff.trans (zw_iconst (x := 1) (show decode cX12_plan 57 = .ok (.iconst 1, 1) by decide +kernel) (by decide)) ?_
  refine Iff.trans (zw_iload (show decode cX12_plan 58 = .ok (.iload 4, 2) by decide +kernel) rfl) ?_
  refine Iff.trans (zw_ishl (show decode cX12_plan 60 = .ok (.ishl, 1) by decide +kernel)) ?_
  refine Iff.trans (zw_iload_n (show decode cX12_plan 61 = .ok (.iload_n 1, 1) by decide +kernel) rfl) ?_
  refine Iff.trans (zw_invV (K' := kX12_partsOf) (as' := [.int (1 <<< (x4 &&& 31)), .int x1]) (rest := [.int y0]) (show decode cX12_plan 62 = .ok (.invokevirtual 395, 3) by decide +kernel) (by rfl) rfl rfl rfl (hl.k2 zk_131) (by decide) (hl.n2 zk_131) ⟨Nat.le_of_ble_eq_true rfl, Nat.le_of_ble_eq_true rfl, Nat.le_of_ble_eq_true rfl⟩) ?_
  exact Iff.rfl

theorem bX12_plan_65 {d : Nat} {σ : zS} {Q : Option Value → zS → Prop} (hl : zLay σ) {x1 x2 x3 x4 x5 y0 y1 : Int32} : zW (d + 1) kX12_plan 65 [.ref 131, .int x1, .int x2, .int x3, .int x4, .int x5] [.int y0, .int y1] σ Q ↔ (if y1 ≤ y0 then zW (d + 1) kX12_plan 38 [.ref 131, .int x1, .int x2, .int x3, .int x4, .int (x5 + 1)] [] σ Q else zW (d + 1) kX12_plan 38 [.ref 131, .int x1, .int x2, .int x3, .int x5, .int (x5 + 1)] [] σ Q) := by
  refine Iff.trans (zw_icmp_le (t := 72) (show decode cX12_plan 65 = .ok (.if_icmp .le 7, 3) by decide +kernel) (by decide)) ?_
  refine zw_ite ?_ ?_
  · refine Iff.trans (zw_iinc (w := 1) (ls' := [.ref 131, .int x1, .int x2, .int x3, .int x4, .int (x5 + 1)]) (show decode cX12_plan 72 = .ok (.iinc 5 1, 3) by decide +kernel) rfl (by decide) (zset_s (Nat.le_of_ble_eq_true rfl) rfl)) ?_
    refine Iff.trans (zw_goto (t := 38) (show decode cX12_plan 75 = .ok (.goto (-37), 3) by decide +kernel) (by decide)) ?_
    exact Iff.rfl
  · refine Iff.trans (zw_iload (show decode cX12_plan 68 = .ok (.iload 5, 2) by decide +kernel) rfl) ?_
    refine Iff.trans (zw_istore (ls' := [.ref 131, .int x1, .int x2, .int x3, .int x5, .int x5]) (show decode cX12_plan 70 = .ok (.istore 4, 2) by decide +kernel) (zset_s (Nat.le_of_ble_eq_true rfl) rfl)) ?_
    refine Iff.trans (zw_iinc (w := 1) (ls' := [.ref 131, .int x1, .int x2, .int x3, .int x5, .int (x5 + 1)]) (show decode cX12_plan 72 = .ok (.iinc 5 1, 3) by decide +kernel) rfl (by decide) (zset_s (Nat.le_of_ble_eq_true rfl) rfl)) ?_
    refine Iff.trans (zw_goto (t := 38) (show decode cX12_plan 75 = .ok (.goto (-37), 3) by decide +kernel) (by decide)) ?_
    exact Iff.rfl

theorem bX12_plan_96 {d : Nat} {σ : zS} {Q : Option Value → zS → Prop} (hl : zLay σ) {x1 x2 x3 x4 x5 y0 : Int32} : zW (d + 1) kX12_plan 96 [.ref 131, .int x1, .int x2, .int x3, .int x4, .int x5] [.int y0] σ Q ↔ Q (some (.int y0)) σ := by
  exact zw_iret1 (show decode cX12_plan 96 = .ok (.ireturn, 1) by decide +kernel) rfl

theorem bX12_fewest_0 {d : Nat} {σ : zS} {Q : Option Value → zS → Prop} (hl : zLay σ) {x1 x2 : Int32} : zCall (d + 1) kX12_fewest [.ref 131, .int x1, .int x2] σ Q ↔ zCall d kX12_areTrials [.ref 131, .int x1, .int x2] (zsI σ 131 (upd (zI σ 131) 0 0)) (fun r σ' => zisN r = true ∧ zW (d + 1) kX12_fewest 11 [.ref 131, .int x1, .int x2, .retAddr 0, .retAddr 0, .retAddr 0, .retAddr 0] (zRstk r ++ []) σ' Q) := by
  show zW (d + 1) kX12_fewest 0 [.ref 131, .int x1, .int x2, .retAddr 0, .retAddr 0, .retAddr 0, .retAddr 0] [] σ Q ↔ _
  refine Iff.trans (zw_aload_n (show decode cX12_fewest 0 = .ok (.aload_n 0, 1) by decide +kernel) rfl) ?_
  refine Iff.trans (zw_iconst (x := 0) (show decode cX12_fewest 1 = .ok (.iconst 0, 1) by decide +kernel) (by decide)) ?_
  refine Iff.trans (zw_putI (show decode cX12_fewest 2 = .ok (.putfield 118, 3) by decide +kernel) (by decide +kernel : zfld 12 118 = some (12, 0)) (hl.k2 zk_131) (hl.n2 zk_131) rfl (Or.inl rfl) (σ' := (zsI σ 131 (upd (zI σ 131) 0 0))) rfl) ?_
  refine Iff.trans (zw_aload_n (show decode cX12_fewest 5 = .ok (.aload_n 0, 1) by decide +kernel) rfl) ?_
  refine Iff.trans (zw_iload_n (show decode cX12_fewest 6 = .ok (.iload_n 1, 1) by decide +kernel) rfl) ?_
  refine Iff.trans (zw_iload_n (show decode cX12_fewest 7 = .ok (.iload_n 2, 1) by decide +kernel) rfl) ?_
  refine Iff.trans (zw_invV (K' := kX12_areTrials) (as' := [.int x1, .int x2]) (rest := []) (show decode cX12_fewest 8 = .ok (.invokevirtual 390, 3) by decide +kernel) (by rfl) rfl rfl rfl (hl.I.k2 zk_131) (by decide) (hl.I.n2 zk_131) ⟨Nat.le_of_ble_eq_true rfl, Nat.le_of_ble_eq_true rfl, Nat.le_of_ble_eq_true rfl⟩) ?_
  exact Iff.rfl

theorem bX12_fewest_11 {d : Nat} {σ : zS} {Q : Option Value → zS → Prop} (hl : zLay σ) {x1 x2 y0 : Int32} : zW (d + 1) kX12_fewest 11 [.ref 131, .int x1, .int x2, .retAddr 0, .retAddr 0, .retAddr 0, .retAddr 0] [.int y0] σ Q ↔ (if y0 = (0 : Int32) then Q (some (.int (-1))) σ else zCall d kX12_partsOf [.ref 131, .int ((1 <<< ((zI σ 131 50) &&& 31)) - 1), .int x1] σ (fun r σ' => zisN r = true ∧ zW (d + 1) kX12_fewest 31 [.ref 131, .int x1, .int x2, .int ((1 <<< ((zI σ 131 50) &&& 31)) - 1), .retAddr 0, .retAddr 0, .retAddr 0] (zRstk r ++ []) σ' Q)) := by
  refine Iff.trans (zw_if_ne (t := 16) (show decode cX12_fewest 11 = .ok (.ifCond .ne 5, 3) by decide +kernel) (by decide)) ?_
  refine zw_ite ?_ ?_
  · refine Iff.trans (zw_iconst (x := (-1)) (show decode cX12_fewest 14 = .ok (.iconst (-1), 1) by decide +kernel) (by decide)) ?_
    exact zw_iret1 (show decode cX12_fewest 15 = .ok (.ireturn, 1) by decide +kernel) rfl
  · refine Iff.trans (zw_iconst (x := 1) (show decode cX12_fewest 16 = .ok (.iconst 1, 1) by decide +kernel) (by decide)) ?_
    refine Iff.trans (zw_aload_n (show decode cX12_fewest 17 = .ok (.aload_n 0, 1) by decide +kernel) rfl) ?_
    refine Iff.trans (zw_getI (show decode cX12_fewest 18 = .ok (.getfield 381, 3) by decide +kernel) (by decide +kernel : zfld 12 381 = some (12, 50)) (hl.k2 zk_131) (hl.n2 zk_131) (Or.inl rfl) (w := zI σ 131 50) rfl) ?_
    refine Iff.trans (zw_ishl (show decode cX12_fewest 21 = .ok (.ishl, 1) by decide +kernel)) ?_
    refine Iff.trans (zw_iconst (x := 1) (show decode cX12_fewest 22 = .ok (.iconst 1, 1) by decide +kernel) (by decide)) ?_
    refine Iff.trans (zw_isub (show decode cX12_fewest 23 = .ok (.isub, 1) by decide +kernel)) ?_
    refine Iff.trans (zw_istore_n (ls' := [.ref 131, .int x1, .int x2, .int ((1 <<< ((zI σ 131 50) &&& 31)) - 1), .retAddr 0, .retAddr 0, .retAddr 0]) (show decode cX12_fewest 24 = .ok (.istore_n 3, 1) by decide +kernel) (zset_s (Nat.le_of_ble_eq_true rfl) rfl)) ?_
    refine Iff.trans (zw_aload_n (show decode cX12_fewest 25 = .ok (.aload_n 0, 1) by decide +kernel) rfl) ?_
    refine Iff.trans (zw_iload_n (show decode cX12_fewest 26 = .ok (.iload_n 3, 1) by decide +kernel) rfl) ?_
    refine Iff.trans (zw_iload_n (show decode cX12_fewest 27 = .ok (.iload_n 1, 1) by decide +kernel) rfl) ?_
    refine Iff.trans (zw_invV (K' := kX12_partsOf) (as' := [.int ((1 <<< ((zI σ 131 50) &&& 31)) - 1), .int x1]) (rest := []) (show decode cX12_fewest 28 = .ok (.invokevirtual 395, 3) by decide +kernel) (by rfl) rfl rfl rfl (hl.k2 zk_131) (by decide) (hl.n2 zk_131) ⟨Nat.le_of_ble_eq_true rfl, Nat.le_of_ble_eq_true rfl, Nat.le_of_ble_eq_true rfl⟩) ?_
    exact Iff.rfl

theorem bX12_fewest_31 {d : Nat} {σ : zS} {Q : Option Value → zS → Prop} (hl : zLay σ) {x1 x2 x3 y0 : Int32} : zW (d + 1) kX12_fewest 31 [.ref 131, .int x1, .int x2, .int x3, .retAddr 0, .retAddr 0, .retAddr 0] [.int y0] σ Q ↔ zW (d + 1) kX12_fewest 39 [.ref 131, .int x1, .int x2, .int x3, .int y0, .int x3, .int 0] [] σ Q := by
  refine Iff.trans (zw_istore (ls' := [.ref 131, .int x1, .int x2, .int x3, .int y0, .retAddr 0, .retAddr 0]) (show decode cX12_fewest 31 = .ok (.istore 4, 2) by decide +kernel) (zset_s (Nat.le_of_ble_eq_true rfl) rfl)) ?_
  refine Iff.trans (zw_iload_n (show decode cX12_fewest 33 = .ok (.iload_n 3, 1) by decide +kernel) rfl) ?_
  refine Iff.trans (zw_istore (ls' := [.ref 131, .int x1, .int x2, .int x3, .int y0, .int x3, .retAddr 0]) (show decode cX12_fewest 34 = .ok (.istore 5, 2) by decide +kernel) (zset_s (Nat.le_of_ble_eq_true rfl) rfl)) ?_
  refine Iff.trans (zw_iconst (x := 0) (show decode cX12_fewest 36 = .ok (.iconst 0, 1) by decide +kernel) (by decide)) ?_
  refine Iff.trans (zw_istore (ls' := [.ref 131, .int x1, .int x2, .int x3, .int y0, .int x3, .int 0]) (show decode cX12_fewest 37 = .ok (.istore 6, 2) by decide +kernel) (zset_s (Nat.le_of_ble_eq_true rfl) rfl)) ?_
  exact Iff.rfl

theorem bX12_fewest_39 {d : Nat} {σ : zS} {Q : Option Value → zS → Prop} (hl : zLay σ) {x1 x2 x3 x4 x5 x6 : Int32} : zW (d + 1) kX12_fewest 39 [.ref 131, .int x1, .int x2, .int x3, .int x4, .int x5, .int x6] [] σ Q ↔ (if x3 < x6 then Q (some (.int x5)) σ else zCall d kX12_isBefore [.int x6, .int x5] σ (fun r σ' => zisN r = true ∧ zW (d + 1) kX12_fewest 52 [.ref 131, .int x1, .int x2, .int x3, .int x4, .int x5, .int x6] (zRstk r ++ []) σ' Q)) := by
  refine Iff.trans (zw_iload (show decode cX12_fewest 39 = .ok (.iload 6, 2) by decide +kernel) rfl) ?_
  refine Iff.trans (zw_iload_n (show decode cX12_fewest 41 = .ok (.iload_n 3, 1) by decide +kernel) rfl) ?_
  refine Iff.trans (zw_icmp_gt (t := 77) (show decode cX12_fewest 42 = .ok (.if_icmp .gt 35, 3) by decide +kernel) (by decide)) ?_
  refine zw_ite ?_ ?_
  · refine Iff.trans (zw_iload (show decode cX12_fewest 77 = .ok (.iload 5, 2) by decide +kernel) rfl) ?_
    exact zw_iret1 (show decode cX12_fewest 79 = .ok (.ireturn, 1) by decide +kernel) rfl
  · refine Iff.trans (zw_iload (show decode cX12_fewest 45 = .ok (.iload 6, 2) by decide +kernel) rfl) ?_
    refine Iff.trans (zw_iload (show decode cX12_fewest 47 = .ok (.iload 5, 2) by decide +kernel) rfl) ?_
    refine Iff.trans (zw_invS (K' := kX12_isBefore) (as := [.int x6, .int x5]) (rest := []) (show decode cX12_fewest 49 = .ok (.invokestatic 398, 3) by decide +kernel) (by rfl) rfl rfl rfl ⟨Nat.le_of_ble_eq_true rfl, Nat.le_of_ble_eq_true rfl, Nat.le_of_ble_eq_true rfl⟩) ?_
    exact Iff.rfl

theorem bX12_fewest_52 {d : Nat} {σ : zS} {Q : Option Value → zS → Prop} (hl : zLay σ) {x1 x2 x3 x4 x5 x6 y0 : Int32} : zW (d + 1) kX12_fewest 52 [.ref 131, .int x1, .int x2, .int x3, .int x4, .int x5, .int x6] [.int y0] σ Q ↔ (if y0 = (0 : Int32) then zW (d + 1) kX12_fewest 39 [.ref 131, .int x1, .int x2, .int x3, .int x4, .int x5, .int (x6 + 1)] [] σ Q else zCall d kX12_partsOf [.ref 131, .int x6, .int x1] σ (fun r σ' => zisN r = true ∧ zW (d + 1) kX12_fewest 62 [.ref 131, .int x1, .int x2, .int x3, .int x4, .int x5, .int x6] (zRstk r ++ []) σ' Q)) := by
  refine Iff.trans (zw_if_eq (t := 71) (show decode cX12_fewest 52 = .ok (.ifCond .eq 19, 3) by decide +kernel) (by decide)) ?_
  refine zw_ite ?_ ?_
  · refine Iff.trans (zw_iinc (w := 1) (ls' := [.ref 131, .int x1, .int x2, .int x3, .int x4, .int x5, .int (x6 + 1)]) (show decode cX12_fewest 71 = .ok (.iinc 6 1, 3) by decide +kernel) rfl (by decide) (zset_s (Nat.le_of_ble_eq_true rfl) rfl)) ?_
    refine Iff.trans (zw_goto (t := 39) (show decode cX12_fewest 74 = .ok (.goto (-35), 3) by decide +kernel) (by decide)) ?_
    exact Iff.rfl
  · refine Iff.trans (zw_aload_n (show decode cX12_fewest 55 = .ok (.aload_n 0, 1) by decide +kernel) rfl) ?_
    refine Iff.trans (zw_iload (show decode cX12_fewest 56 = .ok (.iload 6, 2) by decide +kernel) rfl) ?_
    refine Iff.trans (zw_iload_n (show decode cX12_fewest 58 = .ok (.iload_n 1, 1) by decide +kernel) rfl) ?_
    refine Iff.trans (zw_invV (K' := kX12_partsOf) (as' := [.int x6, .int x1]) (rest := []) (show decode cX12_fewest 59 = .ok (.invokevirtual 395, 3) by decide +kernel) (by rfl) rfl rfl rfl (hl.k2 zk_131) (by decide) (hl.n2 zk_131) ⟨Nat.le_of_ble_eq_true rfl, Nat.le_of_ble_eq_true rfl, Nat.le_of_ble_eq_true rfl⟩) ?_
    exact Iff.rfl

theorem bX12_fewest_62 {d : Nat} {σ : zS} {Q : Option Value → zS → Prop} (hl : zLay σ) {x1 x2 x3 x4 x5 x6 y0 : Int32} : zW (d + 1) kX12_fewest 62 [.ref 131, .int x1, .int x2, .int x3, .int x4, .int x5, .int x6] [.int y0] σ Q ↔ (if y0 = x4 then zW (d + 1) kX12_fewest 39 [.ref 131, .int x1, .int x2, .int x3, .int x4, .int x6, .int (x6 + 1)] [] σ Q else zW (d + 1) kX12_fewest 39 [.ref 131, .int x1, .int x2, .int x3, .int x4, .int x5, .int (x6 + 1)] [] σ Q) := by
  refine Iff.trans (zw_iload (show decode cX12_fewest 62 = .ok (.iload 4, 2) by decide +kernel) rfl) ?_
  refine Iff.trans (zw_icmp_ne (t := 71) (show decode cX12_fewest 64 = .ok (.if_icmp .ne 7, 3) by decide +kernel) (by decide)) ?_
  refine zw_ite ?_ ?_
  · refine Iff.trans (zw_iload (show decode cX12_fewest 67 = .ok (.iload 6, 2) by decide +kernel) rfl) ?_
    refine Iff.trans (zw_istore (ls' := [.ref 131, .int x1, .int x2, .int x3, .int x4, .int x6, .int x6]) (show decode cX12_fewest 69 = .ok (.istore 5, 2) by decide +kernel) (zset_s (Nat.le_of_ble_eq_true rfl) rfl)) ?_
    refine Iff.trans (zw_iinc (w := 1) (ls' := [.ref 131, .int x1, .int x2, .int x3, .int x4, .int x6, .int (x6 + 1)]) (show decode cX12_fewest 71 = .ok (.iinc 6 1, 3) by decide +kernel) rfl (by decide) (zset_s (Nat.le_of_ble_eq_true rfl) rfl)) ?_
    refine Iff.trans (zw_goto (t := 39) (show decode cX12_fewest 74 = .ok (.goto (-35), 3) by decide +kernel) (by decide)) ?_
    exact Iff.rfl
  · refine Iff.trans (zw_iinc (w := 1) (ls' := [.ref 131, .int x1, .int x2, .int x3, .int x4, .int x5, .int (x6 + 1)]) (show decode cX12_fewest 71 = .ok (.iinc 6 1, 3) by decide +kernel) rfl (by decide) (zset_s (Nat.le_of_ble_eq_true rfl) rfl)) ?_
    refine Iff.trans (zw_goto (t := 39) (show decode cX12_fewest 74 = .ok (.goto (-35), 3) by decide +kernel) (by decide)) ?_
    exact Iff.rfl

theorem bX12_sight_0 {d : Nat} {σ : zS} {Q : Option Value → zS → Prop} (hl : zLay σ) {x1 x2 x3 : Int32} : zCall (d + 1) kX12_sight [.ref 131, .int x1, .int x2, .int x3] σ Q ↔ (if (zI σ 131 54) = 10 then Q (some (.int (-1))) (zsI σ 131 (upd (zI σ 131) 0 0)) else zCall d kX12_isStick [.ref 131, .int x1] (zsI σ 131 (upd (zI σ 131) 0 0)) (fun r σ' => zisN r = true ∧ zW (d + 1) kX12_sight 19 [.ref 131, .int x1, .int x2, .int x3] (zRstk r ++ []) σ' Q)) := by
  show zW (d + 1) kX12_sight 0 [.ref 131, .int x1, .int x2, .int x3] [] σ Q ↔ _
  refine Iff.trans (zw_aload_n (show decode cX12_sight 0 = .ok (.aload_n 0, 1) by decide +kernel) rfl) ?_
  refine Iff.trans (zw_iconst (x := 0) (show decode cX12_sight 1 = .ok (.iconst 0, 1) by decide +kernel) (by decide)) ?_
  refine Iff.trans (zw_putI (show decode cX12_sight 2 = .ok (.putfield 118, 3) by decide +kernel) (by decide +kernel : zfld 12 118 = some (12, 0)) (hl.k2 zk_131) (hl.n2 zk_131) rfl (Or.inl rfl) (σ' := (zsI σ 131 (upd (zI σ 131) 0 0))) rfl) ?_
  refine Iff.trans (zw_aload_n (show decode cX12_sight 5 = .ok (.aload_n 0, 1) by decide +kernel) rfl) ?_
  refine Iff.trans (zw_getI (show decode cX12_sight 6 = .ok (.getfield 401, 3) by decide +kernel) (by decide +kernel : zfld 12 401 = some (12, 54)) (hl.I.k2 zk_131) (hl.I.n2 zk_131) (Or.inl rfl) (w := zI σ 131 54) (congrFun zI_self 54)) ?_
  refine Iff.trans (zw_bipush (x := 10) (show decode cX12_sight 9 = .ok (.bipush 10, 2) by decide +kernel) (by decide)) ?_
  refine Iff.trans (zw_icmp_eq (t := 41) (show decode cX12_sight 11 = .ok (.if_icmp .eq 30, 3) by decide +kernel) (by decide)) ?_
  refine zw_ite ?_ ?_
  · refine Iff.trans (zw_iconst (x := (-1)) (show decode cX12_sight 41 = .ok (.iconst (-1), 1) by decide +kernel) (by decide)) ?_
    exact zw_iret1 (show decode cX12_sight 42 = .ok (.ireturn, 1) by decide +kernel) rfl
  · refine Iff.trans (zw_aload_n (show decode cX12_sight 14 = .ok (.aload_n 0, 1) by decide +kernel) rfl) ?_
    refine Iff.trans (zw_iload_n (show decode cX12_sight 15 = .ok (.iload_n 1, 1) by decide +kernel) rfl) ?_
    refine Iff.trans (zw_invV (K' := kX12_isStick) (as' := [.int x1]) (rest := []) (show decode cX12_sight 16 = .ok (.invokevirtual 209, 3) by decide +kernel) (by rfl) rfl rfl rfl (hl.I.k2 zk_131) (by decide) (hl.I.n2 zk_131) ⟨Nat.le_of_ble_eq_true rfl, Nat.le_of_ble_eq_true rfl, Nat.le_of_ble_eq_true rfl⟩) ?_
    exact Iff.rfl

theorem bX12_sight_19 {d : Nat} {σ : zS} {Q : Option Value → zS → Prop} (hl : zLay σ) {x1 x2 x3 y0 : Int32} : zW (d + 1) kX12_sight 19 [.ref 131, .int x1, .int x2, .int x3] [.int y0] σ Q ↔ (if y0 = (0 : Int32) then Q (some (.int (-1))) σ else zCall d kX12_isIn [.int x2, .int 0, .int 5] σ (fun r σ' => zisN r = true ∧ zW (d + 1) kX12_sight 28 [.ref 131, .int x1, .int x2, .int x3] (zRstk r ++ []) σ' Q)) := by
  refine Iff.trans (zw_if_eq (t := 41) (show decode cX12_sight 19 = .ok (.ifCond .eq 22, 3) by decide +kernel) (by decide)) ?_
  refine zw_ite ?_ ?_
  · refine Iff.trans (zw_iconst (x := (-1)) (show decode cX12_sight 41 = .ok (.iconst (-1), 1) by decide +kernel) (by decide)) ?_
    exact zw_iret1 (show decode cX12_sight 42 = .ok (.ireturn, 1) by decide +kernel) rfl
  · refine Iff.trans (zw_iload_n (show decode cX12_sight 22 = .ok (.iload_n 2, 1) by decide +kernel) rfl) ?_
    refine Iff.trans (zw_iconst (x := 0) (show decode cX12_sight 23 = .ok (.iconst 0, 1) by decide +kernel) (by decide)) ?_
    refine Iff.trans (zw_iconst (x := 5) (show decode cX12_sight 24 = .ok (.iconst 5, 1) by decide +kernel) (by decide)) ?_
    refine Iff.trans (zw_invS (K' := kX12_isIn) (as := [.int x2, .int 0, .int 5]) (rest := []) (show decode cX12_sight 25 = .ok (.invokestatic 163, 3) by decide +kernel) (by rfl) rfl rfl rfl ⟨Nat.le_of_ble_eq_true rfl, Nat.le_of_ble_eq_true rfl, Nat.le_of_ble_eq_true rfl⟩) ?_
    exact Iff.rfl

theorem bX12_sight_28 {d : Nat} {σ : zS} {Q : Option Value → zS → Prop} (hl : zLay σ) {x1 x2 x3 y0 : Int32} : zW (d + 1) kX12_sight 28 [.ref 131, .int x1, .int x2, .int x3] [.int y0] σ Q ↔ (if y0 = (0 : Int32) then Q (some (.int (-1))) σ else zCall d kX12_isIn [.int x3, .int 1, .int 99] σ (fun r σ' => zisN r = true ∧ zW (d + 1) kX12_sight 38 [.ref 131, .int x1, .int x2, .int x3] (zRstk r ++ []) σ' Q)) := by
  refine Iff.trans (zw_if_eq (t := 41) (show decode cX12_sight 28 = .ok (.ifCond .eq 13, 3) by decide +kernel) (by decide)) ?_
  refine zw_ite ?_ ?_
  · refine Iff.trans (zw_iconst (x := (-1)) (show decode cX12_sight 41 = .ok (.iconst (-1), 1) by decide +kernel) (by decide)) ?_
    exact zw_iret1 (show decode cX12_sight 42 = .ok (.ireturn, 1) by decide +kernel) rfl
  · refine Iff.trans (zw_iload_n (show decode cX12_sight 31 = .ok (.iload_n 3, 1) by decide +kernel) rfl) ?_
    refine Iff.trans (zw_iconst (x := 1) (show decode cX12_sight 32 = .ok (.iconst 1, 1) by decide +kernel) (by decide)) ?_
    refine Iff.trans (zw_bipush (x := 99) (show decode cX12_sight 33 = .ok (.bipush 99, 2) by decide +kernel) (by decide)) ?_
    refine Iff.trans (zw_invS (K' := kX12_isIn) (as := [.int x3, .int 1, .int 99]) (rest := []) (show decode cX12_sight 35 = .ok (.invokestatic 163, 3) by decide +kernel) (by rfl) rfl rfl rfl ⟨Nat.le_of_ble_eq_true rfl, Nat.le_of_ble_eq_true rfl, Nat.le_of_ble_eq_true rfl⟩) ?_
    exact Iff.rfl

theorem bX12_sight_38 {d : Nat} {σ : zS} {Q : Option Value → zS → Prop} (hl : zLay σ) {x1 x2 x3 y0 : Int32} : zW (d + 1) kX12_sight 38 [.ref 131, .int x1, .int x2, .int x3] [.int y0] σ Q ↔ (if y0 = (0 : Int32) then Q (some (.int (-1))) σ else (vp_in (zI σ 131 54) 10 ∧ (vp_in (zI σ 131 54) 10 ∧ (vp_in (zI σ 131 54) 10 ∧ Q (some (.int ((zI σ 131 54) + 1))) (zsI (zsI (zsI (zsI σ 156 (upd (zI σ 156) (zI σ 131 54 : Int32).toNatClampNeg x1)) 157 (upd (zI σ 157) (zI σ 131 54 : Int32).toNatClampNeg x2)) 158 (upd (zI σ 158) (zI σ 131 54 : Int32).toNatClampNeg x3)) 131 (upd (zI σ 131) 54 ((zI σ 131 54) + 1))))))) := by
  refine Iff.trans (zw_if_ne (t := 43) (show decode cX12_sight 38 = .ok (.ifCond .ne 5, 3) by decide +kernel) (by decide)) ?_
  refine zw_ite ?_ ?_
  · refine Iff.trans (zw_iconst (x := (-1)) (show decode cX12_sight 41 = .ok (.iconst (-1), 1) by decide +kernel) (by decide)) ?_
    exact zw_iret1 (show decode cX12_sight 42 = .ok (.ireturn, 1) by decide +kernel) rfl
  · refine Iff.trans (zw_aload_n (show decode cX12_sight 43 = .ok (.aload_n 0, 1) by decide +kernel) rfl) ?_
    refine Iff.trans (zw_get (show decode cX12_sight 44 = .ok (.getfield 94, 3) by decide +kernel) (by decide +kernel : zfld 12 94 = some (12, 51)) (hl.k2 zk_131) (hl.n2 zk_131) (zgetR (v := 156) (hl.r zrt_131_51) rfl)) ?_
    refine Iff.trans (zw_aload_n (show decode cX12_sight 47 = .ok (.aload_n 0, 1) by decide +kernel) rfl) ?_
    refine Iff.trans (zw_getI (show decode cX12_sight 48 = .ok (.getfield 401, 3) by decide +kernel) (by decide +kernel : zfld 12 401 = some (12, 54)) (hl.k2 zk_131) (hl.n2 zk_131) (Or.inl rfl) (w := zI σ 131 54) rfl) ?_
    refine Iff.trans (zw_iload_n (show decode cX12_sight 51 = .ok (.iload_n 1, 1) by decide +kernel) rfl) ?_
    refine Iff.trans (zw_iast2 (show decode cX12_sight 52 = .ok (.iastore, 1) by decide +kernel) (hl.k2 zk_156) (hl.n2 zk_156) (hl.l2 zk_156 zl_156) (σ' := (zsI σ 156 (upd (zI σ 156) (zI σ 131 54 : Int32).toNatClampNeg x1))) rfl) ?_
    refine zw_and ?_
    refine Iff.trans (zw_aload_n (show decode cX12_sight 53 = .ok (.aload_n 0, 1) by decide +kernel) rfl) ?_
    refine Iff.trans (zw_get (show decode cX12_sight 54 = .ok (.getfield 97, 3) by decide +kernel) (by decide +kernel : zfld 12 97 = some (12, 52)) (hl.I.k2 zk_131) (hl.I.n2 zk_131) (zgetR (v := 157) (hl.I.r zrt_131_52) rfl)) ?_
    refine Iff.trans (zw_aload_n (show decode cX12_sight 57 = .ok (.aload_n 0, 1) by decide +kernel) rfl) ?_
    refine Iff.trans (zw_getI (show decode cX12_sight 58 = .ok (.getfield 401, 3) by decide +kernel) (by decide +kernel : zfld 12 401 = some (12, 54)) (hl.I.k2 zk_131) (hl.I.n2 zk_131) (Or.inl rfl) (w := zI σ 131 54) (congrFun (zI_ne (by decide)) 54)) ?_
    refine Iff.trans (zw_iload_n (show decode cX12_sight 61 = .ok (.iload_n 2, 1) by decide +kernel) rfl) ?_
    refine Iff.trans (zw_iast2 (show decode cX12_sight 62 = .ok (.iastore, 1) by decide +kernel) (hl.I.k2 zk_157) (hl.I.n2 zk_157) (hl.I.l2 zk_157 zl_157) (σ' := (zsI (zsI σ 156 (upd (zI σ 156) (zI σ 131 54 : Int32).toNatClampNeg x1)) 157 (upd (zI σ 157) (zI σ 131 54 : Int32).toNatClampNeg x2))) (congrArg (fun f => zsI (zsI σ 156 (upd (zI σ 156) (zI σ 131 54 : Int32).toNatClampNeg x1)) 157 (upd f (zI σ 131 54 : Int32).toNatClampNeg x2)) (zI_ne (by decide)))) ?_
    refine zw_and ?_
    refine Iff.trans (zw_aload_n (show decode cX12_sight 63 = .ok (.aload_n 0, 1) by decide +kernel) rfl) ?_
    refine Iff.trans (zw_get (show decode cX12_sight 64 = .ok (.getfield 100, 3) by decide +kernel) (by decide +kernel : zfld 12 100 = some (12, 53)) (hl.I.I.k2 zk_131) (hl.I.I.n2 zk_131) (zgetR (v := 158) (hl.I.I.r zrt_131_53) rfl)) ?_
    refine Iff.trans (zw_aload_n (show decode cX12_sight 67 = .ok (.aload_n 0, 1) by decide +kernel) rfl) ?_
    refine Iff.trans (zw_getI (show decode cX12_sight 68 = .ok (.getfield 401, 3) by decide +kernel) (by decide +kernel : zfld 12 401 = some (12, 54)) (hl.I.I.k2 zk_131) (hl.I.I.n2 zk_131) (Or.inl rfl) (w := zI σ 131 54) (congrFun (Eq.trans (zI_ne (by decide)) (zI_ne (by decide))) 54)) ?_
    refine Iff.trans (zw_iload_n (show decode cX12_sight 71 = .ok (.iload_n 3, 1) by decide +kernel) rfl) ?_
    refine Iff.trans (zw_iast2 (show decode cX12_sight 72 = .ok (.iastore, 1) by decide +kernel) (hl.I.I.k2 zk_158) (hl.I.I.n2 zk_158) (hl.I.I.l2 zk_158 zl_158) (σ' := (zsI (zsI (zsI σ 156 (upd (zI σ 156) (zI σ 131 54 : Int32).toNatClampNeg x1)) 157 (upd (zI σ 157) (zI σ 131 54 : Int32).toNatClampNeg x2)) 158 (upd (zI σ 158) (zI σ 131 54 : Int32).toNatClampNeg x3))) (congrArg (fun f => zsI (zsI (zsI σ 156 (upd (zI σ 156) (zI σ 131 54 : Int32).toNatClampNeg x1)) 157 (upd (zI σ 157) (zI σ 131 54 : Int32).toNatClampNeg x2)) 158 (upd f (zI σ 131 54 : Int32).toNatClampNeg x3)) (Eq.trans (zI_ne (by decide)) (zI_ne (by decide))))) ?_
    refine zw_and ?_
    refine Iff.trans (zw_aload_n (show decode cX12_sight 73 = .ok (.aload_n 0, 1) by decide +kernel) rfl) ?_
    refine Iff.trans (zw_dup (show decode cX12_sight 74 = .ok (.dup, 1) by decide +kernel) rfl) ?_
    refine Iff.trans (zw_getI (show decode cX12_sight 75 = .ok (.getfield 401, 3) by decide +kernel) (by decide +kernel : zfld 12 401 = some (12, 54)) (hl.I.I.I.k2 zk_131) (hl.I.I.I.n2 zk_131) (Or.inl rfl) (w := zI σ 131 54) (congrFun (Eq.trans (zI_ne (by decide)) (Eq.trans (zI_ne (by decide)) (zI_ne (by decide)))) 54)) ?_
    refine Iff.trans (zw_iconst (x := 1) (show decode cX12_sight 78 = .ok (.iconst 1, 1) by decide +kernel) (by decide)) ?_
    refine Iff.trans (zw_iadd (show decode cX12_sight 79 = .ok (.iadd, 1) by decide +kernel)) ?_
    refine Iff.trans (zw_putI (show decode cX12_sight 80 = .ok (.putfield 401, 3) by decide +kernel) (by decide +kernel : zfld 12 401 = some (12, 54)) (hl.I.I.I.k2 zk_131) (hl.I.I.I.n2 zk_131) rfl (Or.inl rfl) (σ' := (zsI (zsI (zsI (zsI σ 156 (upd (zI σ 156) (zI σ 131 54 : Int32).toNatClampNeg x1)) 157 (upd (zI σ 157) (zI σ 131 54 : Int32).toNatClampNeg x2)) 158 (upd (zI σ 158) (zI σ 131 54 : Int32).toNatClampNeg x3)) 131 (upd (zI σ 131) 54 ((zI σ 131 54) + 1)))) (congrArg (fun f => zsI (zsI (zsI (zsI σ 156 (upd (zI σ 156) (zI σ 131 54 : Int32).toNatClampNeg x1)) 157 (upd (zI σ 157) (zI σ 131 54 : Int32).toNatClampNeg x2)) 158 (upd (zI σ 158) (zI σ 131 54 : Int32).toNatClampNeg x3)) 131 (upd f 54 ((zI σ 131 54) + 1))) (Eq.trans (zI_ne (by decide)) (Eq.trans (zI_ne (by decide)) (zI_ne (by decide)))))) ?_
    refine Iff.trans (zw_aload_n (show decode cX12_sight 83 = .ok (.aload_n 0, 1) by decide +kernel) rfl) ?_
    refine Iff.trans (zw_getI (show decode cX12_sight 84 = .ok (.getfield 401, 3) by decide +kernel) (by decide +kernel : zfld 12 401 = some (12, 54)) (hl.I.I.I.I.k2 zk_131) (hl.I.I.I.I.n2 zk_131) (Or.inl rfl) (w := ((zI σ 131 54) + 1)) (congrFun zI_self 54)) ?_
    exact zw_iret1 (show decode cX12_sight 87 = .ok (.ireturn, 1) by decide +kernel) rfl

theorem bX12_agrees_0 {d : Nat} {σ : zS} {Q : Option Value → zS → Prop} (hl : zLay σ) {x1 : Int32} : zCall (d + 1) kX12_agrees [.ref 131, .int x1] σ Q ↔ zW (d + 1) kX12_agrees 2 [.ref 131, .int x1, .int 0] [] σ Q := by
  show zW (d + 1) kX12_agrees 0 [.ref 131, .int x1, .retAddr 0] [] σ Q ↔ _
  refine Iff.trans (zw_iconst (x := 0) (show decode cX12_agrees 0 = .ok (.iconst 0, 1) by decide +kernel) (by decide)) ?_
  refine Iff.trans (zw_istore_n (ls' := [.ref 131, .int x1, .int 0]) (show decode cX12_agrees 1 = .ok (.istore_n 2, 1) by decide +kernel) (zset_s (Nat.le_of_ble_eq_true rfl) rfl)) ?_
  exact Iff.rfl

theorem bX12_agrees_2 {d : Nat} {σ : zS} {Q : Option Value → zS → Prop} (hl : zLay σ) {x1 x2 : Int32} : zW (d + 1) kX12_agrees 2 [.ref 131, .int x1, .int x2] [] σ Q ↔ (if (zI σ 131 54) ≤ x2 then Q (some (.int 1)) σ else (vp_in x2 10 ∧ (vp_in x2 10 ∧ zCall d kX12_canBegin [.ref 131, .int x1, .int (zI σ 156 (x2 : Int32).toNatClampNeg), .int (zI σ 157 (x2 : Int32).toNatClampNeg)] σ (fun r σ' => zisN r = true ∧ zW (d + 1) kX12_agrees 27 [.ref 131, .int x1, .int x2] (zRstk r ++ []) σ' Q)))) := by
  refine Iff.trans (zw_iload_n (show decode cX12_agrees 2 = .ok (.iload_n 2, 1) by decide +kernel) rfl) ?_
  refine Iff.trans (zw_aload_n (show decode cX12_agrees 3 = .ok (.aload_n 0, 1) by decide +kernel) rfl) ?_
  refine Iff.trans (zw_getI (show decode cX12_agrees 4 = .ok (.getfield 401, 3) by decide +kernel) (by decide +kernel : zfld 12 401 = some (12, 54)) (hl.k2 zk_131) (hl.n2 zk_131) (Or.inl rfl) (w := zI σ 131 54) rfl) ?_
  refine Iff.trans (zw_icmp_ge (t := 65) (show decode cX12_agrees 7 = .ok (.if_icmp .ge 58, 3) by decide +kernel) (by decide)) ?_
  refine zw_ite ?_ ?_
  · refine Iff.trans (zw_iconst (x := 1) (show decode cX12_agrees 65 = .ok (.iconst 1, 1) by decide +kernel) (by decide)) ?_
    exact zw_iret2c (show decode cX12_agrees 66 = .ok (.ireturn, 1) by decide +kernel) rfl (Or.inr rfl)
  · refine Iff.trans (zw_aload_n (show decode cX12_agrees 10 = .ok (.aload_n 0, 1) by decide +kernel) rfl) ?_
    refine Iff.trans (zw_iload_n (show decode cX12_agrees 11 = .ok (.iload_n 1, 1) by decide +kernel) rfl) ?_
    refine Iff.trans (zw_aload_n (show decode cX12_agrees 12 = .ok (.aload_n 0, 1) by decide +kernel) rfl) ?_
    refine Iff.trans (zw_get (show decode cX12_agrees 13 = .ok (.getfield 94, 3) by decide +kernel) (by decide +kernel : zfld 12 94 = some (12, 51)) (hl.k2 zk_131) (hl.n2 zk_131) (zgetR (v := 156) (hl.r zrt_131_51) rfl)) ?_
    refine Iff.trans (zw_iload_n (show decode cX12_agrees 16 = .ok (.iload_n 2, 1) by decide +kernel) rfl) ?_
    refine Iff.trans (zw_iald2 (show decode cX12_agrees 17 = .ok (.iaload, 1) by decide +kernel) (hl.k2 zk_156) (hl.n2 zk_156) (hl.l2 zk_156 zl_156) (w := zI σ 156 (x2 : Int32).toNatClampNeg) rfl) ?_
    refine zw_and ?_
    refine Iff.trans (zw_aload_n (show decode cX12_agrees 18 = .ok (.aload_n 0, 1) by decide +kernel) rfl) ?_
    refine Iff.trans (zw_get (show decode cX12_agrees 19 = .ok (.getfield 97, 3) by decide +kernel) (by decide +kernel : zfld 12 97 = some (12, 52)) (hl.k2 zk_131) (hl.n2 zk_131) (zgetR (v := 157) (hl.r zrt_131_52) rfl)) ?_
    refine Iff.trans (zw_iload_n (show decode cX12_agrees 22 = .ok (.iload_n 2, 1) by decide +kernel) rfl) ?_
    refine Iff.trans (zw_iald2 (show decode cX12_agrees 23 = .ok (.iaload, 1) by decide +kernel) (hl.k2 zk_157) (hl.n2 zk_157) (hl.l2 zk_157 zl_157) (w := zI σ 157 (x2 : Int32).toNatClampNeg) rfl) ?_
    refine zw_and ?_
    refine Iff.trans (zw_invV (K' := kX12_canBegin) (as' := [.int x1, .int (zI σ 156 (x2 : Int32).toNatClampNeg), .int (zI σ 157 (x2 : Int32).toNatClampNeg)]) (rest := []) (show decode cX12_agrees 24 = .ok (.invokevirtual 357, 3) by decide +kernel) (by rfl) rfl rfl rfl (hl.k2 zk_131) (by decide) (hl.n2 zk_131) ⟨Nat.le_of_ble_eq_true rfl, Nat.le_of_ble_eq_true rfl, Nat.le_of_ble_eq_true rfl⟩) ?_
    exact Iff.rfl

theorem bX12_agrees_27 {d : Nat} {σ : zS} {Q : Option Value → zS → Prop} (hl : zLay σ) {x1 x2 y0 : Int32} : zW (d + 1) kX12_agrees 27 [.ref 131, .int x1, .int x2] [.int y0] σ Q ↔ (if y0 = (0 : Int32) then Q (some (.int 0)) σ else (vp_in x2 10 ∧ (vp_in x2 10 ∧ zCall d kX12_aloneBy [.ref 131, .int x1, .int (zI σ 156 (x2 : Int32).toNatClampNeg), .int (zI σ 157 (x2 : Int32).toNatClampNeg), .long 0] σ (fun r σ' => zisN r = true ∧ zW (d + 1) kX12_agrees 48 [.ref 131, .int x1, .int x2] (zRstk r ++ []) σ' Q)))) := by
  refine Iff.trans (zw_if_eq (t := 57) (show decode cX12_agrees 27 = .ok (.ifCond .eq 30, 3) by decide +kernel) (by decide)) ?_
  refine zw_ite ?_ ?_
  · refine Iff.trans (zw_iconst (x := 0) (show decode cX12_agrees 57 = .ok (.iconst 0, 1) by decide +kernel) (by decide)) ?_
    exact zw_iret2c (show decode cX12_agrees 58 = .ok (.ireturn, 1) by decide +kernel) rfl (Or.inl rfl)
  · refine Iff.trans (zw_aload_n (show decode cX12_agrees 30 = .ok (.aload_n 0, 1) by decide +kernel) rfl) ?_
    refine Iff.trans (zw_iload_n (show decode cX12_agrees 31 = .ok (.iload_n 1, 1) by decide +kernel) rfl) ?_
    refine Iff.trans (zw_aload_n (show decode cX12_agrees 32 = .ok (.aload_n 0, 1) by decide +kernel) rfl) ?_
    refine Iff.trans (zw_get (show decode cX12_agrees 33 = .ok (.getfield 94, 3) by decide +kernel) (by decide +kernel : zfld 12 94 = some (12, 51)) (hl.k2 zk_131) (hl.n2 zk_131) (zgetR (v := 156) (hl.r zrt_131_51) rfl)) ?_
    refine Iff.trans (zw_iload_n (show decode cX12_agrees 36 = .ok (.iload_n 2, 1) by decide +kernel) rfl) ?_
    refine Iff.trans (zw_iald2 (show decode cX12_agrees 37 = .ok (.iaload, 1) by decide +kernel) (hl.k2 zk_156) (hl.n2 zk_156) (hl.l2 zk_156 zl_156) (w := zI σ 156 (x2 : Int32).toNatClampNeg) rfl) ?_
    refine zw_and ?_
    refine Iff.trans (zw_aload_n (show decode cX12_agrees 38 = .ok (.aload_n 0, 1) by decide +kernel) rfl) ?_
    refine Iff.trans (zw_get (show decode cX12_agrees 39 = .ok (.getfield 97, 3) by decide +kernel) (by decide +kernel : zfld 12 97 = some (12, 52)) (hl.k2 zk_131) (hl.n2 zk_131) (zgetR (v := 157) (hl.r zrt_131_52) rfl)) ?_
    refine Iff.trans (zw_iload_n (show decode cX12_agrees 42 = .ok (.iload_n 2, 1) by decide +kernel) rfl) ?_
    refine Iff.trans (zw_iald2 (show decode cX12_agrees 43 = .ok (.iaload, 1) by decide +kernel) (hl.k2 zk_157) (hl.n2 zk_157) (hl.l2 zk_157 zl_157) (w := zI σ 157 (x2 : Int32).toNatClampNeg) rfl) ?_
    refine zw_and ?_
    refine Iff.trans (zw_lconst (x := 0) (show decode cX12_agrees 44 = .ok (.lconst 0, 1) by decide +kernel) (by decide)) ?_
    refine Iff.trans (zw_invV (K' := kX12_aloneBy) (as' := [.int x1, .int (zI σ 156 (x2 : Int32).toNatClampNeg), .int (zI σ 157 (x2 : Int32).toNatClampNeg), .long 0]) (rest := []) (show decode cX12_agrees 45 = .ok (.invokevirtual 360, 3) by decide +kernel) (by rfl) rfl rfl rfl (hl.k2 zk_131) (by decide) (hl.n2 zk_131) ⟨Nat.le_of_ble_eq_true rfl, Nat.le_of_ble_eq_true rfl, Nat.le_of_ble_eq_true rfl⟩) ?_
    exact Iff.rfl

theorem bX12_agrees_48 {d : Nat} {σ : zS} {Q : Option Value → zS → Prop} (hl : zLay σ) {x1 x2 y0 : Int32} : zW (d + 1) kX12_agrees 48 [.ref 131, .int x1, .int x2] [.int y0] σ Q ↔ (vp_in x2 10 ∧ (if y0 = (zI σ 158 (x2 : Int32).toNatClampNeg) then zW (d + 1) kX12_agrees 2 [.ref 131, .int x1, .int (x2 + 1)] [] σ Q else Q (some (.int 0)) σ)) := by
  refine Iff.trans (zw_aload_n (show decode cX12_agrees 48 = .ok (.aload_n 0, 1) by decide +kernel) rfl) ?_
  refine Iff.trans (zw_get (show decode cX12_agrees 49 = .ok (.getfield 100, 3) by decide +kernel) (by decide +kernel : zfld 12 100 = some (12, 53)) (hl.k2 zk_131) (hl.n2 zk_131) (zgetR (v := 158) (hl.r zrt_131_53) rfl)) ?_
  refine Iff.trans (zw_iload_n (show decode cX12_agrees 52 = .ok (.iload_n 2, 1) by decide +kernel) rfl) ?_
  refine Iff.trans (zw_iald2 (show decode cX12_agrees 53 = .ok (.iaload, 1) by decide +kernel) (hl.k2 zk_158) (hl.n2 zk_158) (hl.l2 zk_158 zl_158) (w := zI σ 158 (x2 : Int32).toNatClampNeg) rfl) ?_
  refine zw_and ?_
  refine Iff.trans (zw_icmp_eq (t := 59) (show decode cX12_agrees 54 = .ok (.if_icmp .eq 5, 3) by decide +kernel) (by decide)) ?_
  refine zw_ite ?_ ?_
  · refine Iff.trans (zw_iinc (w := 1) (ls' := [.ref 131, .int x1, .int (x2 + 1)]) (show decode cX12_agrees 59 = .ok (.iinc 2 1, 3) by decide +kernel) rfl (by decide) (zset_s (Nat.le_of_ble_eq_true rfl) rfl)) ?_
    refine Iff.trans (zw_goto (t := 2) (show decode cX12_agrees 62 = .ok (.goto (-60), 3) by decide +kernel) (by decide)) ?_
    exact Iff.rfl
  · refine Iff.trans (zw_iconst (x := 0) (show decode cX12_agrees 57 = .ok (.iconst 0, 1) by decide +kernel) (by decide)) ?_
    exact zw_iret2c (show decode cX12_agrees 58 = .ok (.ireturn, 1) by decide +kernel) rfl (Or.inl rfl)

theorem bX12_agree_0 {d : Nat} {σ : zS} {Q : Option Value → zS → Prop} (hl : zLay σ) : zCall (d + 1) kX12_agree [.ref 131] σ Q ↔ zW (d + 1) kX12_agree 9 [.ref 131, .int 0, .int 0] [] (zsI σ 131 (upd (zI σ 131) 0 0)) Q := by
  show zW (d + 1) kX12_agree 0 [.ref 131, .retAddr 0, .retAddr 0] [] σ Q ↔ _
  refine Iff.trans (zw_aload_n (show decode cX12_agree 0 = .ok (.aload_n 0, 1) by decide +kernel) rfl) ?_
  refine Iff.trans (zw_iconst (x := 0) (show decode cX12_agree 1 = .ok (.iconst 0, 1) by decide +kernel) (by decide)) ?_
  refine Iff.trans (zw_putI (show decode cX12_agree 2 = .ok (.putfield 118, 3) by decide +kernel) (by decide +kernel : zfld 12 118 = some (12, 0)) (hl.k2 zk_131) (hl.n2 zk_131) rfl (Or.inl rfl) (σ' := (zsI σ 131 (upd (zI σ 131) 0 0))) rfl) ?_
  refine Iff.trans (zw_iconst (x := 0) (show decode cX12_agree 5 = .ok (.iconst 0, 1) by decide +kernel) (by decide)) ?_
  refine Iff.trans (zw_istore_n (ls' := [.ref 131, .int 0, .retAddr 0]) (show decode cX12_agree 6 = .ok (.istore_n 1, 1) by decide +kernel) (zset_s (Nat.le_of_ble_eq_true rfl) rfl)) ?_
  refine Iff.trans (zw_iconst (x := 0) (show decode cX12_agree 7 = .ok (.iconst 0, 1) by decide +kernel) (by decide)) ?_
  refine Iff.trans (zw_istore_n (ls' := [.ref 131, .int 0, .int 0]) (show decode cX12_agree 8 = .ok (.istore_n 2, 1) by decide +kernel) (zset_s (Nat.le_of_ble_eq_true rfl) rfl)) ?_
  exact Iff.rfl

theorem bX12_agree_9 {d : Nat} {σ : zS} {Q : Option Value → zS → Prop} (hl : zLay σ) {x1 x2 : Int32} : zW (d + 1) kX12_agree 9 [.ref 131, .int x1, .int x2] [] σ Q ↔ (if (zI σ 131 11) ≤ x2 then Q (some (.int x1)) σ else zCall d kX12_agrees [.ref 131, .int x2] σ (fun r σ' => zisN r = true ∧ zW (d + 1) kX12_agree 23 [.ref 131, .int x1, .int x2] (zRstk r ++ [.int x1]) σ' Q)) := by
  refine Iff.trans (zw_iload_n (show decode cX12_agree 9 = .ok (.iload_n 2, 1) by decide +kernel) rfl) ?_
  refine Iff.trans (zw_aload_n (show decode cX12_agree 10 = .ok (.aload_n 0, 1) by decide +kernel) rfl) ?_
  refine Iff.trans (zw_getI (show decode cX12_agree 11 = .ok (.getfield 181, 3) by decide +kernel) (by decide +kernel : zfld 12 181 = some (12, 11)) (hl.k2 zk_131) (hl.n2 zk_131) (Or.inl rfl) (w := zI σ 131 11) rfl) ?_
  refine Iff.trans (zw_icmp_ge (t := 41) (show decode cX12_agree 14 = .ok (.if_icmp .ge 27, 3) by decide +kernel) (by decide)) ?_
  refine zw_ite ?_ ?_
  · refine Iff.trans (zw_iload_n (show decode cX12_agree 41 = .ok (.iload_n 1, 1) by decide +kernel) rfl) ?_
    exact zw_iret1 (show decode cX12_agree 42 = .ok (.ireturn, 1) by decide +kernel) rfl
  · refine Iff.trans (zw_iload_n (show decode cX12_agree 17 = .ok (.iload_n 1, 1) by decide +kernel) rfl) ?_
    refine Iff.trans (zw_aload_n (show decode cX12_agree 18 = .ok (.aload_n 0, 1) by decide +kernel) rfl) ?_
    refine Iff.trans (zw_iload_n (show decode cX12_agree 19 = .ok (.iload_n 2, 1) by decide +kernel) rfl) ?_
    refine Iff.trans (zw_invV (K' := kX12_agrees) (as' := [.int x2]) (rest := [.int x1]) (show decode cX12_agree 20 = .ok (.invokevirtual 404, 3) by decide +kernel) (by rfl) rfl rfl rfl (hl.k2 zk_131) (by decide) (hl.n2 zk_131) ⟨Nat.le_of_ble_eq_true rfl, Nat.le_of_ble_eq_true rfl, Nat.le_of_ble_eq_true rfl⟩) ?_
    exact Iff.rfl

theorem bX12_agree_23 {d : Nat} {σ : zS} {Q : Option Value → zS → Prop} (hl : zLay σ) {x1 x2 y0 y1 : Int32} : zW (d + 1) kX12_agree 23 [.ref 131, .int x1, .int x2] [.int y0, .int y1] σ Q ↔ (if y0 = (0 : Int32) then zW (d + 1) kX12_agree 9 [.ref 131, .int (y1 ||| 0), .int (x2 + 1)] [] σ Q else zW (d + 1) kX12_agree 9 [.ref 131, .int (y1 ||| (1 <<< (x2 &&& 31))), .int (x2 + 1)] [] σ Q) := by
  refine Iff.trans (zw_if_eq (t := 32) (show decode cX12_agree 23 = .ok (.ifCond .eq 9, 3) by decide +kernel) (by decide)) ?_
  refine zw_ite ?_ ?_
  · refine Iff.trans (zw_iconst (x := 0) (show decode cX12_agree 32 = .ok (.iconst 0, 1) by decide +kernel) (by decide)) ?_
    refine Iff.trans (zw_ior (show decode cX12_agree 33 = .ok (.ior, 1) by decide +kernel)) ?_
    refine Iff.trans (zw_istore_n (ls' := [.ref 131, .int (y1 ||| 0), .int x2]) (show decode cX12_agree 34 = .ok (.istore_n 1, 1) by decide +kernel) (zset_s (Nat.le_of_ble_eq_true rfl) rfl)) ?_
    refine Iff.trans (zw_iinc (w := 1) (ls' := [.ref 131, .int (y1 ||| 0), .int (x2 + 1)]) (show decode cX12_agree 35 = .ok (.iinc 2 1, 3) by decide +kernel) rfl (by decide) (zset_s (Nat.le_of_ble_eq_true rfl) rfl)) ?_
    refine Iff.trans (zw_goto (t := 9) (show decode cX12_agree 38 = .ok (.goto (-29), 3) by decide +kernel) (by decide)) ?_
    exact Iff.rfl
  · refine Iff.trans (zw_iconst (x := 1) (show decode cX12_agree 26 = .ok (.iconst 1, 1) by decide +kernel) (by decide)) ?_
    refine Iff.trans (zw_iload_n (show decode cX12_agree 27 = .ok (.iload_n 2, 1) by decide +kernel) rfl) ?_
    refine Iff.trans (zw_ishl (show decode cX12_agree 28 = .ok (.ishl, 1) by decide +kernel)) ?_
    refine Iff.trans (zw_goto (t := 33) (show decode cX12_agree 29 = .ok (.goto 4, 3) by decide +kernel) (by decide)) ?_
    refine Iff.trans (zw_ior (show decode cX12_agree 33 = .ok (.ior, 1) by decide +kernel)) ?_
    refine Iff.trans (zw_istore_n (ls' := [.ref 131, .int (y1 ||| (1 <<< (x2 &&& 31))), .int x2]) (show decode cX12_agree 34 = .ok (.istore_n 1, 1) by decide +kernel) (zset_s (Nat.le_of_ble_eq_true rfl) rfl)) ?_
    refine Iff.trans (zw_iinc (w := 1) (ls' := [.ref 131, .int (y1 ||| (1 <<< (x2 &&& 31))), .int (x2 + 1)]) (show decode cX12_agree 35 = .ok (.iinc 2 1, 3) by decide +kernel) rfl (by decide) (zset_s (Nat.le_of_ble_eq_true rfl) rfl)) ?_
    refine Iff.trans (zw_goto (t := 9) (show decode cX12_agree 38 = .ok (.goto (-29), 3) by decide +kernel) (by decide)) ?_
    exact Iff.rfl

theorem bX12_stoned_0 {d : Nat} {σ : zS} {Q : Option Value → zS → Prop} (hl : zLay σ) {x1 x2 : Int32} : zCall (d + 1) kX12_stoned [.ref 131, .int x1, .int x2] σ Q ↔ zCall d kX12_isBrook [.ref 131, .int x1] (zsI σ 131 (upd (zI σ 131) 0 0)) (fun r σ' => zisN r = true ∧ zW (d + 1) kX12_stoned 10 [.ref 131, .int x1, .int x2, .retAddr 0, .retAddr 0, .retAddr 0, .retAddr 0, .retAddr 0, .retAddr 0] (zRstk r ++ []) σ' Q) := by
  show zW (d + 1) kX12_stoned 0 [.ref 131, .int x1, .int x2, .retAddr 0, .retAddr 0, .retAddr 0, .retAddr 0, .retAddr 0, .retAddr 0] [] σ Q ↔ _
  refine Iff.trans (zw_aload_n (show decode cX12_stoned 0 = .ok (.aload_n 0, 1) by decide +kernel) rfl) ?_
  refine Iff.trans (zw_iconst (x := 0) (show decode cX12_stoned 1 = .ok (.iconst 0, 1) by decide +kernel) (by decide)) ?_
  refine Iff.trans (zw_putI (show decode cX12_stoned 2 = .ok (.putfield 118, 3) by decide +kernel) (by decide +kernel : zfld 12 118 = some (12, 0)) (hl.k2 zk_131) (hl.n2 zk_131) rfl (Or.inl rfl) (σ' := (zsI σ 131 (upd (zI σ 131) 0 0))) rfl) ?_
  refine Iff.trans (zw_aload_n (show decode cX12_stoned 5 = .ok (.aload_n 0, 1) by decide +kernel) rfl) ?_
  refine Iff.trans (zw_iload_n (show decode cX12_stoned 6 = .ok (.iload_n 1, 1) by decide +kernel) rfl) ?_
  refine Iff.trans (zw_invV (K' := kX12_isBrook) (as' := [.int x1]) (rest := []) (show decode cX12_stoned 7 = .ok (.invokevirtual 193, 3) by decide +kernel) (by rfl) rfl rfl rfl (hl.I.k2 zk_131) (by decide) (hl.I.n2 zk_131) ⟨Nat.le_of_ble_eq_true rfl, Nat.le_of_ble_eq_true rfl, Nat.le_of_ble_eq_true rfl⟩) ?_
  exact Iff.rfl

theorem bX12_stoned_10 {d : Nat} {σ : zS} {Q : Option Value → zS → Prop} (hl : zLay σ) {x1 x2 y0 : Int32} : zW (d + 1) kX12_stoned 10 [.ref 131, .int x1, .int x2, .retAddr 0, .retAddr 0, .retAddr 0, .retAddr 0, .retAddr 0, .retAddr 0] [.int y0] σ Q ↔ (if y0 = (0 : Int32) then Q (some (.int (-1))) σ else (if (-1) ≤ x2 then zW (d + 1) kX12_stoned 25 [.ref 131, .int x1, .int x2, .int 0, .int 0, .retAddr 0, .retAddr 0, .retAddr 0, .retAddr 0] [] σ Q else Q (some (.int (-1))) σ)) := by
  refine Iff.trans (zw_if_eq (t := 18) (show decode cX12_stoned 10 = .ok (.ifCond .eq 8, 3) by decide +kernel) (by decide)) ?_
  refine zw_ite ?_ ?_
  · refine Iff.trans (zw_iconst (x := (-1)) (show decode cX12_stoned 18 = .ok (.iconst (-1), 1) by decide +kernel) (by decide)) ?_
    exact zw_iret1 (show decode cX12_stoned 19 = .ok (.ireturn, 1) by decide +kernel) rfl
  · refine Iff.trans (zw_iload_n (show decode cX12_stoned 13 = .ok (.iload_n 2, 1) by decide +kernel) rfl) ?_
    refine Iff.trans (zw_iconst (x := (-1)) (show decode cX12_stoned 14 = .ok (.iconst (-1), 1) by decide +kernel) (by decide)) ?_
    refine Iff.trans (zw_icmp_ge (t := 20) (show decode cX12_stoned 15 = .ok (.if_icmp .ge 5, 3) by decide +kernel) (by decide)) ?_
    refine zw_ite ?_ ?_
    · refine Iff.trans (zw_iconst (x := 0) (show decode cX12_stoned 20 = .ok (.iconst 0, 1) by decide +kernel) (by decide)) ?_
      refine Iff.trans (zw_istore_n (ls' := [.ref 131, .int x1, .int x2, .int 0, .retAddr 0, .retAddr 0, .retAddr 0, .retAddr 0, .retAddr 0]) (show decode cX12_stoned 21 = .ok (.istore_n 3, 1) by decide +kernel) (zset_s (Nat.le_of_ble_eq_true rfl) rfl)) ?_
      refine Iff.trans (zw_iconst (x := 0) (show decode cX12_stoned 22 = .ok (.iconst 0, 1) by decide +kernel) (by decide)) ?_
      refine Iff.trans (zw_istore (ls' := [.ref 131, .int x1, .int x2, .int 0, .int 0, .retAddr 0, .retAddr 0, .retAddr 0, .retAddr 0]) (show decode cX12_stoned 23 = .ok (.istore 4, 2) by decide +kernel) (zset_s (Nat.le_of_ble_eq_true rfl) rfl)) ?_
      exact Iff.rfl
    · refine Iff.trans (zw_iconst (x := (-1)) (show decode cX12_stoned 18 = .ok (.iconst (-1), 1) by decide +kernel) (by decide)) ?_
      exact zw_iret1 (show decode cX12_stoned 19 = .ok (.ireturn, 1) by decide +kernel) rfl

theorem bX12_stoned_25 {d : Nat} {σ : zS} {Q : Option Value → zS → Prop} (hl : zLay σ) {x1 x2 x3 x4 : Int32} {v5 v6 v7 v8 : Value} (hv5 : v5.category = 1) (hv6 : v6.category = 1) (hv7 : v7.category = 1) (hv8 : v8.category = 1) : zW (d + 1) kX12_stoned 25 [.ref 131, .int x1, .int x2, .int x3, .int x4, v5, v6, v7, v8] [] σ Q ↔ (vp_in x1 7 ∧ (if (zI σ 134 (x1 : Int32).toNatClampNeg) ≤ x4 then (if x2 = (-1) then Q (some (.int x3)) σ else Q (some (.int (-1))) σ) else zW (d + 1) kX12_stoned 39 [.ref 131, .int x1, .int x2, .int x3, .int x4, .int 0, v6, v7, v8] [] σ Q)) := by
  refine Iff.trans (zw_iload (show decode cX12_stoned 25 = .ok (.iload 4, 2) by decide +kernel) rfl) ?_
  refine Iff.trans (zw_aload_n (show decode cX12_stoned 27 = .ok (.aload_n 0, 1) by decide +kernel) rfl) ?_
  refine Iff.trans (zw_get (show decode cX12_stoned 28 = .ok (.getfield 17, 3) by decide +kernel) (by decide +kernel : zfld 12 17 = some (12, 6)) (hl.k2 zk_131) (hl.n2 zk_131) (zgetR (v := 134) (hl.r zrt_131_6) rfl)) ?_
  refine Iff.trans (zw_iload_n (show decode cX12_stoned 31 = .ok (.iload_n 1, 1) by decide +kernel) rfl) ?_
  refine Iff.trans (zw_iald2 (show decode cX12_stoned 32 = .ok (.iaload, 1) by decide +kernel) (hl.k2 zk_134) (hl.n2 zk_134) (hl.l2 zk_134 zl_134) (w := zI σ 134 (x1 : Int32).toNatClampNeg) rfl) ?_
  refine zw_and ?_
  refine Iff.trans (zw_icmp_ge (t := 143) (show decode cX12_stoned 33 = .ok (.if_icmp .ge 110, 3) by decide +kernel) (by decide)) ?_
  refine zw_ite ?_ ?_
  · refine Iff.trans (zw_iload_n (show decode cX12_stoned 143 = .ok (.iload_n 2, 1) by decide +kernel) rfl) ?_
    refine Iff.trans (zw_iconst (x := (-1)) (show decode cX12_stoned 144 = .ok (.iconst (-1), 1) by decide +kernel) (by decide)) ?_
    refine Iff.trans (zw_icmp_ne (t := 152) (show decode cX12_stoned 145 = .ok (.if_icmp .ne 7, 3) by decide +kernel) (by decide)) ?_
    refine zw_ite ?_ ?_
    · refine Iff.trans (zw_iload_n (show decode cX12_stoned 148 = .ok (.iload_n 3, 1) by decide +kernel) rfl) ?_
      refine Iff.trans (zw_goto (t := 153) (show decode cX12_stoned 149 = .ok (.goto 4, 3) by decide +kernel) (by decide)) ?_
      exact zw_iret1 (show decode cX12_stoned 153 = .ok (.ireturn, 1) by decide +kernel) rfl
    · refine Iff.trans (zw_iconst (x := (-1)) (show decode cX12_stoned 152 = .ok (.iconst (-1), 1) by decide +kernel) (by decide)) ?_
      exact zw_iret1 (show decode cX12_stoned 153 = .ok (.ireturn, 1) by decide +kernel) rfl
  · refine Iff.trans (zw_iconst (x := 0) (show decode cX12_stoned 36 = .ok (.iconst 0, 1) by decide +kernel) (by decide)) ?_
    refine Iff.trans (zw_istore (ls' := [.ref 131, .int x1, .int x2, .int x3, .int x4, .int 0, v6, v7, v8]) (show decode cX12_stoned 37 = .ok (.istore 5, 2) by decide +kernel) (zset_s (Nat.le_of_ble_eq_true rfl) rfl)) ?_
    exact Iff.rfl

theorem bX12_stoned_39 {d : Nat} {σ : zS} {Q : Option Value → zS → Prop} (hl : zLay σ) {x1 x2 x3 x4 x5 : Int32} {v6 v7 v8 : Value} (hv6 : v6.category = 1) (hv7 : v7.category = 1) (hv8 : v8.category = 1) : zW (d + 1) kX12_stoned 39 [.ref 131, .int x1, .int x2, .int x3, .int x4, .int x5, v6, v7, v8] [] σ Q ↔ (vp_in x1 7 ∧ (if (zI σ 135 (x1 : Int32).toNatClampNeg) ≤ x5 then zW (d + 1) kX12_stoned 25 [.ref 131, .int x1, .int x2, .int x3, .int (x4 + 1), .int x5, v6, v7, v8] [] σ Q else (vp_in ((16 * ((6 * x1) + x4)) + x5) 672 ∧ (if (zI σ 133 ((16 * ((6 * x1) + x4)) + x5 : Int32).toNatClampNeg) = (0 : Int32) then zW (d + 1) kX12_stoned 39 [.ref 131, .int x1, .int x2, .int x3, .int x4, .int (x5 + 1), .int ((16 * ((6 * x1) + x4)) + x5), .int (zI σ 133 ((16 * ((6 * x1) + x4)) + x5 : Int32).toNatClampNeg), v8] [] σ Q else (vp_in ((16 * ((6 * x1) + x4)) + x5) 672 ∧ zCall d kX12_agrees [.ref 131, .int x1] (zsI σ 133 (upd (zI σ 133) ((16 * ((6 * x1) + x4)) + x5 : Int32).toNatClampNeg 0)) (fun r σ' => zisN r = true ∧ zW (d + 1) kX12_stoned 95 [.ref 131, .int x1, .int x2, .int x3, .int x4, .int x5, .int ((16 * ((6 * x1) + x4)) + x5), .int (zI σ 133 ((16 * ((6 * x1) + x4)) + x5 : Int32).toNatClampNeg), v8] (zRstk r ++ []) σ' Q)))))) := by
  refine Iff.trans (zw_iload (show decode cX12_stoned 39 = .ok (.iload 5, 2) by decide +kernel) rfl) ?_
  refine Iff.trans (zw_aload_n (show decode cX12_stoned 41 = .ok (.aload_n 0, 1) by decide +kernel) rfl) ?_
  refine Iff.trans (zw_get (show decode cX12_stoned 42 = .ok (.getfield 20, 3) by decide +kernel) (by decide +kernel : zfld 12 20 = some (12, 7)) (hl.k2 zk_131) (hl.n2 zk_131) (zgetR (v := 135) (hl.r zrt_131_7) rfl)) ?_
  refine Iff.trans (zw_iload_n (show decode cX12_stoned 45 = .ok (.iload_n 1, 1) by decide +kernel) rfl) ?_
  refine Iff.trans (zw_iald2 (show decode cX12_stoned 46 = .ok (.iaload, 1) by decide +kernel) (hl.k2 zk_135) (hl.n2 zk_135) (hl.l2 zk_135 zl_135) (w := zI σ 135 (x1 : Int32).toNatClampNeg) rfl) ?_
  refine zw_and ?_
  refine Iff.trans (zw_icmp_ge (t := 137) (show decode cX12_stoned 47 = .ok (.if_icmp .ge 90, 3) by decide +kernel) (by decide)) ?_
  refine zw_ite ?_ ?_
  · refine Iff.trans (zw_iinc (w := 1) (ls' := [.ref 131, .int x1, .int x2, .int x3, .int (x4 + 1), .int x5, v6, v7, v8]) (show decode cX12_stoned 137 = .ok (.iinc 4 1, 3) by decide +kernel) rfl (by decide) (zset_s (Nat.le_of_ble_eq_true rfl) rfl)) ?_
    refine Iff.trans (zw_goto (t := 25) (show decode cX12_stoned 140 = .ok (.goto (-115), 3) by decide +kernel) (by decide)) ?_
    exact Iff.rfl
  · refine Iff.trans (zw_bipush (x := 16) (show decode cX12_stoned 50 = .ok (.bipush 16, 2) by decide +kernel) (by decide)) ?_
    refine Iff.trans (zw_bipush (x := 6) (show decode cX12_stoned 52 = .ok (.bipush 6, 2) by decide +kernel) (by decide)) ?_
    refine Iff.trans (zw_iload_n (show decode cX12_stoned 54 = .ok (.iload_n 1, 1) by decide +kernel) rfl) ?_
    refine Iff.trans (zw_imul (show decode cX12_stoned 55 = .ok (.imul, 1) by decide +kernel)) ?_
    refine Iff.trans (zw_iload (show decode cX12_stoned 56 = .ok (.iload 4, 2) by decide +kernel) rfl) ?_
    refine Iff.trans (zw_iadd (show decode cX12_stoned 58 = .ok (.iadd, 1) by decide +kernel)) ?_
    refine Iff.trans (zw_imul (show decode cX12_stoned 59 = .ok (.imul, 1) by decide +kernel)) ?_
    refine Iff.trans (zw_iload (show decode cX12_stoned 60 = .ok (.iload 5, 2) by decide +kernel) rfl) ?_
    refine Iff.trans (zw_iadd (show decode cX12_stoned 62 = .ok (.iadd, 1) by decide +kernel)) ?_
    refine Iff.trans (zw_istore (ls' := [.ref 131, .int x1, .int x2, .int x3, .int x4, .int x5, .int ((16 * ((6 * x1) + x4)) + x5), v7, v8]) (show decode cX12_stoned 63 = .ok (.istore 6, 2) by decide +kernel) (zset_s (Nat.le_of_ble_eq_true rfl) rfl)) ?_
    refine Iff.trans (zw_aload_n (show decode cX12_stoned 65 = .ok (.aload_n 0, 1) by decide +kernel) rfl) ?_
    refine Iff.trans (zw_get (show decode cX12_stoned 66 = .ok (.getfield 13, 3) by decide +kernel) (by decide +kernel : zfld 12 13 = some (12, 5)) (hl.k2 zk_131) (hl.n2 zk_131) (zgetR (v := 133) (hl.r zrt_131_5) rfl)) ?_
    refine Iff.trans (zw_iload (show decode cX12_stoned 69 = .ok (.iload 6, 2) by decide +kernel) rfl) ?_
    refine Iff.trans (zw_iald2 (show decode cX12_stoned 71 = .ok (.iaload, 1) by decide +kernel) (hl.k2 zk_133) (hl.n2 zk_133) (hl.l2 zk_133 zl_133) (w := zI σ 133 ((16 * ((6 * x1) + x4)) + x5 : Int32).toNatClampNeg) rfl) ?_
    refine zw_and ?_
    refine Iff.trans (zw_istore (ls' := [.ref 131, .int x1, .int x2, .int x3, .int x4, .int x5, .int ((16 * ((6 * x1) + x4)) + x5), .int (zI σ 133 ((16 * ((6 * x1) + x4)) + x5 : Int32).toNatClampNeg), v8]) (show decode cX12_stoned 72 = .ok (.istore 7, 2) by decide +kernel) (zset_s (Nat.le_of_ble_eq_true rfl) rfl)) ?_
    refine Iff.trans (zw_iload (show decode cX12_stoned 74 = .ok (.iload 7, 2) by decide +kernel) rfl) ?_
    refine Iff.trans (zw_if_ne (t := 82) (show decode cX12_stoned 76 = .ok (.ifCond .ne 6, 3) by decide +kernel) (by decide)) ?_
    refine zw_ite ?_ ?_
    · refine Iff.trans (zw_goto (t := 131) (show decode cX12_stoned 79 = .ok (.goto 52, 3) by decide +kernel) (by decide)) ?_
      refine Iff.trans (zw_iinc (w := 1) (ls' := [.ref 131, .int x1, .int x2, .int x3, .int x4, .int (x5 + 1), .int ((16 * ((6 * x1) + x4)) + x5), .int (zI σ 133 ((16 * ((6 * x1) + x4)) + x5 : Int32).toNatClampNeg), v8]) (show decode cX12_stoned 131 = .ok (.iinc 5 1, 3) by decide +kernel) rfl (by decide) (zset_s (Nat.le_of_ble_eq_true rfl) rfl)) ?_
      refine Iff.trans (zw_goto (t := 39) (show decode cX12_stoned 134 = .ok (.goto (-95), 3) by decide +kernel) (by decide)) ?_
      exact Iff.rfl
    · refine Iff.trans (zw_aload_n (show decode cX12_stoned 82 = .ok (.aload_n 0, 1) by decide +kernel) rfl) ?_
      refine Iff.trans (zw_get (show decode cX12_stoned 83 = .ok (.getfield 13, 3) by decide +kernel) (by decide +kernel : zfld 12 13 = some (12, 5)) (hl.k2 zk_131) (hl.n2 zk_131) (zgetR (v := 133) (hl.r zrt_131_5) rfl)) ?_
      refine Iff.trans (zw_iload (show decode cX12_stoned 86 = .ok (.iload 6, 2) by decide +kernel) rfl) ?_
      refine Iff.trans (zw_iconst (x := 0) (show decode cX12_stoned 88 = .ok (.iconst 0, 1) by decide +kernel) (by decide)) ?_
      refine Iff.trans (zw_iast2 (show decode cX12_stoned 89 = .ok (.iastore, 1) by decide +kernel) (hl.k2 zk_133) (hl.n2 zk_133) (hl.l2 zk_133 zl_133) (σ' := (zsI σ 133 (upd (zI σ 133) ((16 * ((6 * x1) + x4)) + x5 : Int32).toNatClampNeg 0))) rfl) ?_
      refine zw_and ?_
      refine Iff.trans (zw_aload_n (show decode cX12_stoned 90 = .ok (.aload_n 0, 1) by decide +kernel) rfl) ?_
      refine Iff.trans (zw_iload_n (show decode cX12_stoned 91 = .ok (.iload_n 1, 1) by decide +kernel) rfl) ?_
      refine Iff.trans (zw_invV (K' := kX12_agrees) (as' := [.int x1]) (rest := []) (show decode cX12_stoned 92 = .ok (.invokevirtual 404, 3) by decide +kernel) (by rfl) rfl rfl rfl (hl.I.k2 zk_131) (by decide) (hl.I.n2 zk_131) ⟨Nat.le_of_ble_eq_true rfl, Nat.le_of_ble_eq_true rfl, Nat.le_of_ble_eq_true rfl⟩) ?_
      exact Iff.rfl

theorem bX12_stoned_95 {d : Nat} {σ : zS} {Q : Option Value → zS → Prop} (hl : zLay σ) {x1 x2 x3 x4 x5 x6 x7 y0 : Int32} {v8 : Value} (hv8 : v8.category = 1) : zW (d + 1) kX12_stoned 95 [.ref 131, .int x1, .int x2, .int x3, .int x4, .int x5, .int x6, .int x7, v8] [.int y0] σ Q ↔ (vp_in x6 672 ∧ (if y0 = (0 : Int32) then zW (d + 1) kX12_stoned 39 [.ref 131, .int x1, .int x2, .int x3, .int x4, .int (x5 + 1), .int x6, .int x7, .int y0] [] (zsI σ 133 (upd (zI σ 133) (x6 : Int32).toNatClampNeg x7)) Q else (if x3 = x2 then Q (some (.int ((16 * x4) + x5))) (zsI σ 133 (upd (zI σ 133) (x6 : Int32).toNatClampNeg x7)) else zW (d + 1) kX12_stoned 39 [.ref 131, .int x1, .int x2, .int (x3 + 1), .int x4, .int (x5 + 1), .int x6, .int x7, .int y0] [] (zsI σ 133 (upd (zI σ 133) (x6 : Int32).toNatClampNeg x7)) Q))) := by
  refine Iff.trans (zw_istore (ls' := [.ref 131, .int x1, .int x2, .int x3, .int x4, .int x5, .int x6, .int x7, .int y0]) (show decode cX12_stoned 95 = .ok (.istore 8, 2) by decide +kernel) (zset_s (Nat.le_of_ble_eq_true rfl) rfl)) ?_
  refine Iff.trans (zw_aload_n (show decode cX12_stoned 97 = .ok (.aload_n 0, 1) by decide +kernel) rfl) ?_
  refine Iff.trans (zw_get (show decode cX12_stoned 98 = .ok (.getfield 13, 3) by decide +kernel) (by decide +kernel : zfld 12 13 = some (12, 5)) (hl.k2 zk_131) (hl.n2 zk_131) (zgetR (v := 133) (hl.r zrt_131_5) rfl)) ?_
  refine Iff.trans (zw_iload (show decode cX12_stoned 101 = .ok (.iload 6, 2) by decide +kernel) rfl) ?_
  refine Iff.trans (zw_iload (show decode cX12_stoned 103 = .ok (.iload 7, 2) by decide +kernel) rfl) ?_
  refine Iff.trans (zw_iast2 (show decode cX12_stoned 105 = .ok (.iastore, 1) by decide +kernel) (hl.k2 zk_133) (hl.n2 zk_133) (hl.l2 zk_133 zl_133) (σ' := (zsI σ 133 (upd (zI σ 133) (x6 : Int32).toNatClampNeg x7))) rfl) ?_
  refine zw_and ?_
  refine Iff.trans (zw_iload (show decode cX12_stoned 106 = .ok (.iload 8, 2) by decide +kernel) rfl) ?_
  refine Iff.trans (zw_if_ne (t := 114) (show decode cX12_stoned 108 = .ok (.ifCond .ne 6, 3) by decide +kernel) (by decide)) ?_
  refine zw_ite ?_ ?_
  · refine Iff.trans (zw_goto (t := 131) (show decode cX12_stoned 111 = .ok (.goto 20, 3) by decide +kernel) (by decide)) ?_
    refine Iff.trans (zw_iinc (w := 1) (ls' := [.ref 131, .int x1, .int x2, .int x3, .int x4, .int (x5 + 1), .int x6, .int x7, .int y0]) (show decode cX12_stoned 131 = .ok (.iinc 5 1, 3) by decide +kernel) rfl (by decide) (zset_s (Nat.le_of_ble_eq_true rfl) rfl)) ?_
    refine Iff.trans (zw_goto (t := 39) (show decode cX12_stoned 134 = .ok (.goto (-95), 3) by decide +kernel) (by decide)) ?_
    exact Iff.rfl
  · refine Iff.trans (zw_iload_n (show decode cX12_stoned 114 = .ok (.iload_n 3, 1) by decide +kernel) rfl) ?_
    refine Iff.trans (zw_iload_n (show decode cX12_stoned 115 = .ok (.iload_n 2, 1) by decide +kernel) rfl) ?_
    refine Iff.trans (zw_icmp_ne (t := 128) (show decode cX12_stoned 116 = .ok (.if_icmp .ne 12, 3) by decide +kernel) (by decide)) ?_
    refine zw_ite ?_ ?_
    · refine Iff.trans (zw_bipush (x := 16) (show decode cX12_stoned 119 = .ok (.bipush 16, 2) by decide +kernel) (by decide)) ?_
      refine Iff.trans (zw_iload (show decode cX12_stoned 121 = .ok (.iload 4, 2) by decide +kernel) rfl) ?_
      refine Iff.trans (zw_imul (show decode cX12_stoned 123 = .ok (.imul, 1) by decide +kernel)) ?_
      refine Iff.trans (zw_iload (show decode cX12_stoned 124 = .ok (.iload 5, 2) by decide +kernel) rfl) ?_
      refine Iff.trans (zw_iadd (show decode cX12_stoned 126 = .ok (.iadd, 1) by decide +kernel)) ?_
      exact zw_iret1 (show decode cX12_stoned 127 = .ok (.ireturn, 1) by decide +kernel) rfl
    · refine Iff.trans (zw_iinc (w := 1) (ls' := [.ref 131, .int x1, .int x2, .int (x3 + 1), .int x4, .int x5, .int x6, .int x7, .int y0]) (show decode cX12_stoned 128 = .ok (.iinc 3 1, 3) by decide +kernel) rfl (by decide) (zset_s (Nat.le_of_ble_eq_true rfl) rfl)) ?_
      refine Iff.trans (zw_iinc (w := 1) (ls' := [.ref 131, .int x1, .int x2, .int (x3 + 1), .int x4, .int (x5 + 1), .int x6, .int x7, .int y0]) (show decode cX12_stoned 131 = .ok (.iinc 5 1, 3) by decide +kernel) rfl (by decide) (zset_s (Nat.le_of_ble_eq_true rfl) rfl)) ?_
      refine Iff.trans (zw_goto (t := 39) (show decode cX12_stoned 134 = .ok (.goto (-95), 3) by decide +kernel) (by decide)) ?_
      exact Iff.rfl

theorem bX12_layWorths_0 {d : Nat} {σ : zS} {Q : Option Value → zS → Prop} (hl : zLay σ) {x1 x2 : Int32} : zCall (d + 1) kX12_layWorths [.ref 131, .int x1, .int x2] σ Q ↔ zW (d + 1) kX12_layWorths 5 [.ref 131, .int x1, .int x2, .int 0, .int 0, .retAddr 0, .retAddr 0] [] σ Q := by
  show zW (d + 1) kX12_layWorths 0 [.ref 131, .int x1, .int x2, .retAddr 0, .retAddr 0, .retAddr 0, .retAddr 0] [] σ Q ↔ _
  refine Iff.trans (zw_iconst (x := 0) (show decode cX12_layWorths 0 = .ok (.iconst 0, 1) by decide +kernel) (by decide)) ?_
  refine Iff.trans (zw_istore_n (ls' := [.ref 131, .int x1, .int x2, .int 0, .retAddr 0, .retAddr 0, .retAddr 0]) (show decode cX12_layWorths 1 = .ok (.istore_n 3, 1) by decide +kernel) (zset_s (Nat.le_of_ble_eq_true rfl) rfl)) ?_
  refine Iff.trans (zw_iconst (x := 0) (show decode cX12_layWorths 2 = .ok (.iconst 0, 1) by decide +kernel) (by decide)) ?_
  refine Iff.trans (zw_istore (ls' := [.ref 131, .int x1, .int x2, .int 0, .int 0, .retAddr 0, .retAddr 0]) (show decode cX12_layWorths 3 = .ok (.istore 4, 2) by decide +kernel) (zset_s (Nat.le_of_ble_eq_true rfl) rfl)) ?_
  exact Iff.rfl

theorem bX12_layWorths_5 {d : Nat} {σ : zS} {Q : Option Value → zS → Prop} (hl : zLay σ) {x1 x2 x3 x4 : Int32} {v5 v6 : Value} (hv5 : v5.category = 1) (hv6 : v6.category = 1) : zW (d + 1) kX12_layWorths 5 [.ref 131, .int x1, .int x2, .int x3, .int x4, v5, v6] [] σ Q ↔ (vp_in x1 7 ∧ (if (zI σ 134 (x1 : Int32).toNatClampNeg) ≤ x4 then Q (some (.int x3)) σ else zCall d kX12_canBegin [.ref 131, .int x1, .int x2, .int x4] σ (fun r σ' => zisN r = true ∧ zW (d + 1) kX12_layWorths 24 [.ref 131, .int x1, .int x2, .int x3, .int x4, v5, v6] (zRstk r ++ []) σ' Q))) := by
  refine Iff.trans (zw_iload (show decode cX12_layWorths 5 = .ok (.iload 4, 2) by decide +kernel) rfl) ?_
  refine Iff.trans (zw_aload_n (show decode cX12_layWorths 7 = .ok (.aload_n 0, 1) by decide +kernel) rfl) ?_
  refine Iff.trans (zw_get (show decode cX12_layWorths 8 = .ok (.getfield 17, 3) by decide +kernel) (by decide +kernel : zfld 12 17 = some (12, 6)) (hl.k2 zk_131) (hl.n2 zk_131) (zgetR (v := 134) (hl.r zrt_131_6) rfl)) ?_
  refine Iff.trans (zw_iload_n (show decode cX12_layWorths 11 = .ok (.iload_n 1, 1) by decide +kernel) rfl) ?_
  refine Iff.trans (zw_iald2 (show decode cX12_layWorths 12 = .ok (.iaload, 1) by decide +kernel) (hl.k2 zk_134) (hl.n2 zk_134) (hl.l2 zk_134 zl_134) (w := zI σ 134 (x1 : Int32).toNatClampNeg) rfl) ?_
  refine zw_and ?_
  refine Iff.trans (zw_icmp_ge (t := 103) (show decode cX12_layWorths 13 = .ok (.if_icmp .ge 90, 3) by decide +kernel) (by decide)) ?_
  refine zw_ite ?_ ?_
  · refine Iff.trans (zw_iload_n (show decode cX12_layWorths 103 = .ok (.iload_n 3, 1) by decide +kernel) rfl) ?_
    exact zw_iret1 (show decode cX12_layWorths 104 = .ok (.ireturn, 1) by decide +kernel) rfl
  · refine Iff.trans (zw_aload_n (show decode cX12_layWorths 16 = .ok (.aload_n 0, 1) by decide +kernel) rfl) ?_
    refine Iff.trans (zw_iload_n (show decode cX12_layWorths 17 = .ok (.iload_n 1, 1) by decide +kernel) rfl) ?_
    refine Iff.trans (zw_iload_n (show decode cX12_layWorths 18 = .ok (.iload_n 2, 1) by decide +kernel) rfl) ?_
    refine Iff.trans (zw_iload (show decode cX12_layWorths 19 = .ok (.iload 4, 2) by decide +kernel) rfl) ?_
    refine Iff.trans (zw_invV (K' := kX12_canBegin) (as' := [.int x1, .int x2, .int x4]) (rest := []) (show decode cX12_layWorths 21 = .ok (.invokevirtual 357, 3) by decide +kernel) (by rfl) rfl rfl rfl (hl.k2 zk_131) (by decide) (hl.n2 zk_131) ⟨Nat.le_of_ble_eq_true rfl, Nat.le_of_ble_eq_true rfl, Nat.le_of_ble_eq_true rfl⟩) ?_
    exact Iff.rfl

theorem bX12_layWorths_24 {d : Nat} {σ : zS} {Q : Option Value → zS → Prop} (hl : zLay σ) {x1 x2 x3 x4 y0 : Int32} {v5 v6 : Value} (hv5 : v5.category = 1) (hv6 : v6.category = 1) : zW (d + 1) kX12_layWorths 24 [.ref 131, .int x1, .int x2, .int x3, .int x4, v5, v6] [.int y0] σ Q ↔ (if y0 = (0 : Int32) then zW (d + 1) kX12_layWorths 5 [.ref 131, .int x1, .int x2, .int x3, .int (x4 + 1), v5, v6] [] σ Q else zCall d kX12_aloneBy [.ref 131, .int x1, .int x2, .int x4, .long 0] σ (fun r σ' => zisN r = true ∧ zW (d + 1) kX12_layWorths 39 [.ref 131, .int x1, .int x2, .int x3, .int x4, v5, v6] (zRstk r ++ []) σ' Q)) := by
  refine Iff.trans (zw_if_ne (t := 30) (show decode cX12_layWorths 24 = .ok (.ifCond .ne 6, 3) by decide +kernel) (by decide)) ?_
  refine zw_ite ?_ ?_
  · refine Iff.trans (zw_goto (t := 97) (show decode cX12_layWorths 27 = .ok (.goto 70, 3) by decide +kernel) (by decide)) ?_
    refine Iff.trans (zw_iinc (w := 1) (ls' := [.ref 131, .int x1, .int x2, .int x3, .int (x4 + 1), v5, v6]) (show decode cX12_layWorths 97 = .ok (.iinc 4 1, 3) by decide +kernel) rfl (by decide) (zset_s (Nat.le_of_ble_eq_true rfl) rfl)) ?_
    refine Iff.trans (zw_goto (t := 5) (show decode cX12_layWorths 100 = .ok (.goto (-95), 3) by decide +kernel) (by decide)) ?_
    exact Iff.rfl
  · refine Iff.trans (zw_aload_n (show decode cX12_layWorths 30 = .ok (.aload_n 0, 1) by decide +kernel) rfl) ?_
    refine Iff.trans (zw_iload_n (show decode cX12_layWorths 31 = .ok (.iload_n 1, 1) by decide +kernel) rfl) ?_
    refine Iff.trans (zw_iload_n (show decode cX12_layWorths 32 = .ok (.iload_n 2, 1) by decide +kernel) rfl) ?_
    refine Iff.trans (zw_iload (show decode cX12_layWorths 33 = .ok (.iload 4, 2) by decide +kernel) rfl) ?_
    refine Iff.trans (zw_lconst (x := 0) (show decode cX12_layWorths 35 = .ok (.lconst 0, 1) by decide +kernel) (by decide)) ?_
    refine Iff.trans (zw_invV (K' := kX12_aloneBy) (as' := [.int x1, .int x2, .int x4, .long 0]) (rest := []) (show decode cX12_layWorths 36 = .ok (.invokevirtual 360, 3) by decide +kernel) (by rfl) rfl rfl rfl (hl.k2 zk_131) (by decide) (hl.n2 zk_131) ⟨Nat.le_of_ble_eq_true rfl, Nat.le_of_ble_eq_true rfl, Nat.le_of_ble_eq_true rfl⟩) ?_
    exact Iff.rfl

theorem bX12_layWorths_39 {d : Nat} {σ : zS} {Q : Option Value → zS → Prop} (hl : zLay σ) {x1 x2 x3 x4 y0 : Int32} {v5 v6 : Value} (hv5 : v5.category = 1) (hv6 : v6.category = 1) : zW (d + 1) kX12_layWorths 39 [.ref 131, .int x1, .int x2, .int x3, .int x4, v5, v6] [.int y0] σ Q ↔ zW (d + 1) kX12_layWorths 44 [.ref 131, .int x1, .int x2, .int x3, .int x4, .int y0, .int x3] [] σ Q := by
  refine Iff.trans (zw_istore (ls' := [.ref 131, .int x1, .int x2, .int x3, .int x4, .int y0, v6]) (show decode cX12_layWorths 39 = .ok (.istore 5, 2) by decide +kernel) (zset_s (Nat.le_of_ble_eq_true rfl) rfl)) ?_
  refine Iff.trans (zw_iload_n (show decode cX12_layWorths 41 = .ok (.iload_n 3, 1) by decide +kernel) rfl) ?_
  refine Iff.trans (zw_istore (ls' := [.ref 131, .int x1, .int x2, .int x3, .int x4, .int y0, .int x3]) (show decode cX12_layWorths 42 = .ok (.istore 6, 2) by decide +kernel) (zset_s (Nat.le_of_ble_eq_true rfl) rfl)) ?_
  exact Iff.rfl

theorem bX12_layWorths_44 {d : Nat} {σ : zS} {Q : Option Value → zS → Prop} (hl : zLay σ) {x1 x2 x3 x4 x5 x6 : Int32} : zW (d + 1) kX12_layWorths 44 [.ref 131, .int x1, .int x2, .int x3, .int x4, .int x5, .int x6] [] σ Q ↔ (if x6 ≤ (0 : Int32) then zW (d + 1) kX12_layWorths 85 [.ref 131, .int x1, .int x2, .int x3, .int x4, .int x5, .int x6] [] σ Q else (vp_in (x6 - 1) 6 ∧ (if (zI σ 159 (x6 - 1 : Int32).toNatClampNeg) ≤ x5 then zW (d + 1) kX12_layWorths 85 [.ref 131, .int x1, .int x2, .int x3, .int x4, .int x5, .int x6] [] σ Q else (vp_in (x6 - 1) 6 ∧ (vp_in x6 6 ∧ zW (d + 1) kX12_layWorths 44 [.ref 131, .int x1, .int x2, .int x3, .int x4, .int x5, .int (x6 + (-1))] [] (zsI σ 159 (upd (zI σ 159) (x6 : Int32).toNatClampNeg (zI σ 159 (x6 - 1 : Int32).toNatClampNeg))) Q))))) := by
  refine Iff.trans (zw_iload (show decode cX12_layWorths 44 = .ok (.iload 6, 2) by decide +kernel) rfl) ?_
  refine Iff.trans (zw_if_le (t := 85) (show decode cX12_layWorths 46 = .ok (.ifCond .le 39, 3) by decide +kernel) (by decide)) ?_
  refine zw_ite ?_ ?_
  · exact Iff.rfl
  · refine Iff.trans (zw_aload_n (show decode cX12_layWorths 49 = .ok (.aload_n 0, 1) by decide +kernel) rfl) ?_
    refine Iff.trans (zw_get (show decode cX12_layWorths 50 = .ok (.getfield 103, 3) by decide +kernel) (by decide +kernel : zfld 12 103 = some (12, 55)) (hl.k2 zk_131) (hl.n2 zk_131) (zgetR (v := 159) (hl.r zrt_131_55) rfl)) ?_
    refine Iff.trans (zw_iload (show decode cX12_layWorths 53 = .ok (.iload 6, 2) by decide +kernel) rfl) ?_
    refine Iff.trans (zw_iconst (x := 1) (show decode cX12_layWorths 55 = .ok (.iconst 1, 1) by decide +kernel) (by decide)) ?_
    refine Iff.trans (zw_isub (show decode cX12_layWorths 56 = .ok (.isub, 1) by decide +kernel)) ?_
    refine Iff.trans (zw_iald2 (show decode cX12_layWorths 57 = .ok (.iaload, 1) by decide +kernel) (hl.k2 zk_159) (hl.n2 zk_159) (hl.l2 zk_159 zl_159) (w := zI σ 159 (x6 - 1 : Int32).toNatClampNeg) rfl) ?_
    refine zw_and ?_
    refine Iff.trans (zw_iload (show decode cX12_layWorths 58 = .ok (.iload 5, 2) by decide +kernel) rfl) ?_
    refine Iff.trans (zw_icmp_le (t := 85) (show decode cX12_layWorths 60 = .ok (.if_icmp .le 25, 3) by decide +kernel) (by decide)) ?_
    refine zw_ite ?_ ?_
    · exact Iff.rfl
    · refine Iff.trans (zw_aload_n (show decode cX12_layWorths 63 = .ok (.aload_n 0, 1) by decide +kernel) rfl) ?_
      refine Iff.trans (zw_get (show decode cX12_layWorths 64 = .ok (.getfield 103, 3) by decide +kernel) (by decide +kernel : zfld 12 103 = some (12, 55)) (hl.k2 zk_131) (hl.n2 zk_131) (zgetR (v := 159) (hl.r zrt_131_55) rfl)) ?_
      refine Iff.trans (zw_iload (show decode cX12_layWorths 67 = .ok (.iload 6, 2) by decide +kernel) rfl) ?_
      refine Iff.trans (zw_aload_n (show decode cX12_layWorths 69 = .ok (.aload_n 0, 1) by decide +kernel) rfl) ?_
      refine Iff.trans (zw_get (show decode cX12_layWorths 70 = .ok (.getfield 103, 3) by decide +kernel) (by decide +kernel : zfld 12 103 = some (12, 55)) (hl.k2 zk_131) (hl.n2 zk_131) (zgetR (v := 159) (hl.r zrt_131_55) rfl)) ?_
      refine Iff.trans (zw_iload (show decode cX12_layWorths 73 = .ok (.iload 6, 2) by decide +kernel) rfl) ?_
      refine Iff.trans (zw_iconst (x := 1) (show decode cX12_layWorths 75 = .ok (.iconst 1, 1) by decide +kernel) (by decide)) ?_
      refine Iff.trans (zw_isub (show decode cX12_layWorths 76 = .ok (.isub, 1) by decide +kernel)) ?_
      refine Iff.trans (zw_iald2 (show decode cX12_layWorths 77 = .ok (.iaload, 1) by decide +kernel) (hl.k2 zk_159) (hl.n2 zk_159) (hl.l2 zk_159 zl_159) (w := zI σ 159 (x6 - 1 : Int32).toNatClampNeg) rfl) ?_
      refine zw_and ?_
      refine Iff.trans (zw_iast2 (show decode cX12_layWorths 78 = .ok (.iastore, 1) by decide +kernel) (hl.k2 zk_159) (hl.n2 zk_159) (hl.l2 zk_159 zl_159) (σ' := (zsI σ 159 (upd (zI σ 159) (x6 : Int32).toNatClampNeg (zI σ 159 (x6 - 1 : Int32).toNatClampNeg)))) rfl) ?_
      refine zw_and ?_
      refine Iff.trans (zw_iinc (w := (-1)) (ls' := [.ref 131, .int x1, .int x2, .int x3, .int x4, .int x5, .int (x6 + (-1))]) (show decode cX12_layWorths 79 = .ok (.iinc 6 (-1), 3) by decide +kernel) rfl (by decide) (zset_s (Nat.le_of_ble_eq_true rfl) rfl)) ?_
      refine Iff.trans (zw_goto (t := 44) (show decode cX12_layWorths 82 = .ok (.goto (-38), 3) by decide +kernel) (by decide)) ?_
      exact Iff.rfl

theorem bX12_layWorths_85 {d : Nat} {σ : zS} {Q : Option Value → zS → Prop} (hl : zLay σ) {x1 x2 x3 x4 x5 x6 : Int32} : zW (d + 1) kX12_layWorths 85 [.ref 131, .int x1, .int x2, .int x3, .int x4, .int x5, .int x6] [] σ Q ↔ (vp_in x6 6 ∧ zW (d + 1) kX12_layWorths 5 [.ref 131, .int x1, .int x2, .int (x3 + 1), .int (x4 + 1), .int x5, .int x6] [] (zsI σ 159 (upd (zI σ 159) (x6 : Int32).toNatClampNeg x5)) Q) := by
  refine Iff.trans (zw_aload_n (show decode cX12_layWorths 85 = .ok (.aload_n 0, 1) by decide +kernel) rfl) ?_
  refine Iff.trans (zw_get (show decode cX12_layWorths 86 = .ok (.getfield 103, 3) by decide +kernel) (by decide +kernel : zfld 12 103 = some (12, 55)) (hl.k2 zk_131) (hl.n2 zk_131) (zgetR (v := 159) (hl.r zrt_131_55) rfl)) ?_
  refine Iff.trans (zw_iload (show decode cX12_layWorths 89 = .ok (.iload 6, 2) by decide +kernel) rfl) ?_
  refine Iff.trans (zw_iload (show decode cX12_layWorths 91 = .ok (.iload 5, 2) by decide +kernel) rfl) ?_
  refine Iff.trans (zw_iast2 (show decode cX12_layWorths 93 = .ok (.iastore, 1) by decide +kernel) (hl.k2 zk_159) (hl.n2 zk_159) (hl.l2 zk_159 zl_159) (σ' := (zsI σ 159 (upd (zI σ 159) (x6 : Int32).toNatClampNeg x5))) rfl) ?_
  refine zw_and ?_
  refine Iff.trans (zw_iinc (w := 1) (ls' := [.ref 131, .int x1, .int x2, .int (x3 + 1), .int x4, .int x5, .int x6]) (show decode cX12_layWorths 94 = .ok (.iinc 3 1, 3) by decide +kernel) rfl (by decide) (zset_s (Nat.le_of_ble_eq_true rfl) rfl)) ?_
  refine Iff.trans (zw_iinc (w := 1) (ls' := [.ref 131, .int x1, .int x2, .int (x3 + 1), .int (x4 + 1), .int x5, .int x6]) (show decode cX12_layWorths 97 = .ok (.iinc 4 1, 3) by decide +kernel) rfl (by decide) (zset_s (Nat.le_of_ble_eq_true rfl) rfl)) ?_
  refine Iff.trans (zw_goto (t := 5) (show decode cX12_layWorths 100 = .ok (.goto (-95), 3) by decide +kernel) (by decide)) ?_
  exact Iff.rfl

theorem bX12_differenceOf_0 {d : Nat} {σ : zS} {Q : Option Value → zS → Prop} (hl : zLay σ) {x1 x2 : Int32} : zCall (d + 1) kX12_differenceOf [.ref 131, .int x1, .int x2] σ Q ↔ zW (d + 1) kX12_differenceOf 5 [.ref 131, .int x1, .int x2, .int 0, .int 0] [] σ Q := by
  show zW (d + 1) kX12_differenceOf 0 [.ref 131, .int x1, .int x2, .retAddr 0, .retAddr 0] [] σ Q ↔ _
  refine Iff.trans (zw_iconst (x := 0) (show decode cX12_differenceOf 0 = .ok (.iconst 0, 1) by decide +kernel) (by decide)) ?_
  refine Iff.trans (zw_istore_n (ls' := [.ref 131, .int x1, .int x2, .int 0, .retAddr 0]) (show decode cX12_differenceOf 1 = .ok (.istore_n 3, 1) by decide +kernel) (zset_s (Nat.le_of_ble_eq_true rfl) rfl)) ?_
  refine Iff.trans (zw_iconst (x := 0) (show decode cX12_differenceOf 2 = .ok (.iconst 0, 1) by decide +kernel) (by decide)) ?_
  refine Iff.trans (zw_istore (ls' := [.ref 131, .int x1, .int x2, .int 0, .int 0]) (show decode cX12_differenceOf 3 = .ok (.istore 4, 2) by decide +kernel) (zset_s (Nat.le_of_ble_eq_true rfl) rfl)) ?_
  exact Iff.rfl

theorem bX12_differenceOf_5 {d : Nat} {σ : zS} {Q : Option Value → zS → Prop} (hl : zLay σ) {x1 x2 x3 x4 : Int32} : zW (d + 1) kX12_differenceOf 5 [.ref 131, .int x1, .int x2, .int x3, .int x4] [] σ Q ↔ (if x2 ≤ x4 then Q (some (.int (if 0 ≤ x3 then x3 else 0 - x3))) σ else zCall d kX12_has [.int x1, .int ((x2 - 1) - x4)] σ (fun r σ' => zisN r = true ∧ zW (d + 1) kX12_differenceOf 22 [.ref 131, .int x1, .int x2, .int x3, .int x4] (zRstk r ++ [.int x3]) σ' Q)) := by
  refine Iff.trans (zw_iload (show decode cX12_differenceOf 5 = .ok (.iload 4, 2) by decide +kernel) rfl) ?_
  refine Iff.trans (zw_iload_n (show decode cX12_differenceOf 7 = .ok (.iload_n 2, 1) by decide +kernel) rfl) ?_
  refine Iff.trans (zw_icmp_ge (t := 49) (show decode cX12_differenceOf 8 = .ok (.if_icmp .ge 41, 3) by decide +kernel) (by decide)) ?_
  refine zw_ite ?_ ?_
  · refine Iff.trans (zw_iload_n (show decode cX12_differenceOf 49 = .ok (.iload_n 3, 1) by decide +kernel) rfl) ?_
    refine Iff.trans (zw_nabs (show decode cX12_differenceOf 50 = .ok (.invokestatic 301, 3) by decide +kernel) (by rfl) (Nat.le_of_ble_eq_true rfl)) ?_
    exact zw_iret1 (show decode cX12_differenceOf 53 = .ok (.ireturn, 1) by decide +kernel) rfl
  · refine Iff.trans (zw_iload_n (show decode cX12_differenceOf 11 = .ok (.iload_n 3, 1) by decide +kernel) rfl) ?_
    refine Iff.trans (zw_iload_n (show decode cX12_differenceOf 12 = .ok (.iload_n 1, 1) by decide +kernel) rfl) ?_
    refine Iff.trans (zw_iload_n (show decode cX12_differenceOf 13 = .ok (.iload_n 2, 1) by decide +kernel) rfl) ?_
    refine Iff.trans (zw_iconst (x := 1) (show decode cX12_differenceOf 14 = .ok (.iconst 1, 1) by decide +kernel) (by decide)) ?_
    refine Iff.trans (zw_isub (show decode cX12_differenceOf 15 = .ok (.isub, 1) by decide +kernel)) ?_
    refine Iff.trans (zw_iload (show decode cX12_differenceOf 16 = .ok (.iload 4, 2) by decide +kernel) rfl) ?_
    refine Iff.trans (zw_isub (show decode cX12_differenceOf 18 = .ok (.isub, 1) by decide +kernel)) ?_
    refine Iff.trans (zw_invS (K' := kX12_has) (as := [.int x1, .int ((x2 - 1) - x4)]) (rest := [.int x3]) (show decode cX12_differenceOf 19 = .ok (.invokestatic 167, 3) by decide +kernel) (by rfl) rfl rfl rfl ⟨Nat.le_of_ble_eq_true rfl, Nat.le_of_ble_eq_true rfl, Nat.le_of_ble_eq_true rfl⟩) ?_
    exact Iff.rfl

theorem bX12_differenceOf_22 {d : Nat} {σ : zS} {Q : Option Value → zS → Prop} (hl : zLay σ) {x1 x2 x3 x4 y0 y1 : Int32} : zW (d + 1) kX12_differenceOf 22 [.ref 131, .int x1, .int x2, .int x3, .int x4] [.int y0, .int y1] σ Q ↔ (if y0 = (0 : Int32) then zW (d + 1) kX12_differenceOf 30 [.ref 131, .int x1, .int x2, .int x3, .int x4] [.int 1, .int y1] σ Q else zW (d + 1) kX12_differenceOf 30 [.ref 131, .int x1, .int x2, .int x3, .int x4] [.int (-1), .int y1] σ Q) := by
  refine Iff.trans (zw_if_eq (t := 29) (show decode cX12_differenceOf 22 = .ok (.ifCond .eq 7, 3) by decide +kernel) (by decide)) ?_
  refine zw_ite ?_ ?_
  · refine Iff.trans (zw_iconst (x := 1) (show decode cX12_differenceOf 29 = .ok (.iconst 1, 1) by decide +kernel) (by decide)) ?_
    exact Iff.rfl
  · refine Iff.trans (zw_iconst (x := (-1)) (show decode cX12_differenceOf 25 = .ok (.iconst (-1), 1) by decide +kernel) (by decide)) ?_
    refine Iff.trans (zw_goto (t := 30) (show decode cX12_differenceOf 26 = .ok (.goto 4, 3) by decide +kernel) (by decide)) ?_
    exact Iff.rfl

theorem bX12_differenceOf_30 {d : Nat} {σ : zS} {Q : Option Value → zS → Prop} (hl : zLay σ) {x1 x2 x3 x4 y0 y1 : Int32} : zW (d + 1) kX12_differenceOf 30 [.ref 131, .int x1, .int x2, .int x3, .int x4] [.int y0, .int y1] σ Q ↔ (vp_in x4 6 ∧ zW (d + 1) kX12_differenceOf 5 [.ref 131, .int x1, .int x2, .int (y1 + (y0 * (60 - (zI σ 159 (x4 : Int32).toNatClampNeg)))), .int (x4 + 1)] [] σ Q) := by
  refine Iff.trans (zw_bipush (x := 60) (show decode cX12_differenceOf 30 = .ok (.bipush 60, 2) by decide +kernel) (by decide)) ?_
  refine Iff.trans (zw_aload_n (show decode cX12_differenceOf 32 = .ok (.aload_n 0, 1) by decide +kernel) rfl) ?_
  refine Iff.trans (zw_get (show decode cX12_differenceOf 33 = .ok (.getfield 103, 3) by decide +kernel) (by decide +kernel : zfld 12 103 = some (12, 55)) (hl.k2 zk_131) (hl.n2 zk_131) (zgetR (v := 159) (hl.r zrt_131_55) rfl)) ?_
  refine Iff.trans (zw_iload (show decode cX12_differenceOf 36 = .ok (.iload 4, 2) by decide +kernel) rfl) ?_
  refine Iff.trans (zw_iald2 (show decode cX12_differenceOf 38 = .ok (.iaload, 1) by decide +kernel) (hl.k2 zk_159) (hl.n2 zk_159) (hl.l2 zk_159 zl_159) (w := zI σ 159 (x4 : Int32).toNatClampNeg) rfl) ?_
  refine zw_and ?_
  refine Iff.trans (zw_isub (show decode cX12_differenceOf 39 = .ok (.isub, 1) by decide +kernel)) ?_
  refine Iff.trans (zw_imul (show decode cX12_differenceOf 40 = .ok (.imul, 1) by decide +kernel)) ?_
  refine Iff.trans (zw_iadd (show decode cX12_differenceOf 41 = .ok (.iadd, 1) by decide +kernel)) ?_
  refine Iff.trans (zw_istore_n (ls' := [.ref 131, .int x1, .int x2, .int (y1 + (y0 * (60 - (zI σ 159 (x4 : Int32).toNatClampNeg)))), .int x4]) (show decode cX12_differenceOf 42 = .ok (.istore_n 3, 1) by decide +kernel) (zset_s (Nat.le_of_ble_eq_true rfl) rfl)) ?_
  refine Iff.trans (zw_iinc (w := 1) (ls' := [.ref 131, .int x1, .int x2, .int (y1 + (y0 * (60 - (zI σ 159 (x4 : Int32).toNatClampNeg)))), .int (x4 + 1)]) (show decode cX12_differenceOf 43 = .ok (.iinc 4 1, 3) by decide +kernel) rfl (by decide) (zset_s (Nat.le_of_ble_eq_true rfl) rfl)) ?_
  refine Iff.trans (zw_goto (t := 5) (show decode cX12_differenceOf 46 = .ok (.goto (-41), 3) by decide +kernel) (by decide)) ?_
  exact Iff.rfl

theorem bX12_fair_0 {d : Nat} {σ : zS} {Q : Option Value → zS → Prop} (hl : zLay σ) {x1 x2 x3 x4 : Int32} : zCall (d + 1) kX12_fair [.ref 131, .int x1, .int x2, .int x3, .int x4] σ Q ↔ zCall d kX12_isBrook [.ref 131, .int x1] (zsI σ 131 (upd (zI σ 131) 0 0)) (fun r σ' => zisN r = true ∧ zW (d + 1) kX12_fair 10 [.ref 131, .int x1, .int x2, .int x3, .int x4, .retAddr 0, .retAddr 0] (zRstk r ++ []) σ' Q) := by
  show zW (d + 1) kX12_fair 0 [.ref 131, .int x1, .int x2, .int x3, .int x4, .retAddr 0, .retAddr 0] [] σ Q ↔ _
  refine Iff.trans (zw_aload_n (show decode cX12_fair 0 = .ok (.aload_n 0, 1) by decide +kernel) rfl) ?_
  refine Iff.trans (zw_iconst (x := 0) (show decode cX12_fair 1 = .ok (.iconst 0, 1) by decide +kernel) (by decide)) ?_
  refine Iff.trans (zw_putI (show decode cX12_fair 2 = .ok (.putfield 118, 3) by decide +kernel) (by decide +kernel : zfld 12 118 = some (12, 0)) (hl.k2 zk_131) (hl.n2 zk_131) rfl (Or.inl rfl) (σ' := (zsI σ 131 (upd (zI σ 131) 0 0))) rfl) ?_
  refine Iff.trans (zw_aload_n (show decode cX12_fair 5 = .ok (.aload_n 0, 1) by decide +kernel) rfl) ?_
  refine Iff.trans (zw_iload_n (show decode cX12_fair 6 = .ok (.iload_n 1, 1) by decide +kernel) rfl) ?_
  refine Iff.trans (zw_invV (K' := kX12_isBrook) (as' := [.int x1]) (rest := []) (show decode cX12_fair 7 = .ok (.invokevirtual 193, 3) by decide +kernel) (by rfl) rfl rfl rfl (hl.I.k2 zk_131) (by decide) (hl.I.n2 zk_131) ⟨Nat.le_of_ble_eq_true rfl, Nat.le_of_ble_eq_true rfl, Nat.le_of_ble_eq_true rfl⟩) ?_
  exact Iff.rfl

theorem bX12_fair_10 {d : Nat} {σ : zS} {Q : Option Value → zS → Prop} (hl : zLay σ) {x1 x2 x3 x4 y0 : Int32} : zW (d + 1) kX12_fair 10 [.ref 131, .int x1, .int x2, .int x3, .int x4, .retAddr 0, .retAddr 0] [.int y0] σ Q ↔ (if y0 = (0 : Int32) then Q (some (.int (-1))) σ else zCall d kX12_isStick [.ref 131, .int x2] σ (fun r σ' => zisN r = true ∧ zW (d + 1) kX12_fair 18 [.ref 131, .int x1, .int x2, .int x3, .int x4, .retAddr 0, .retAddr 0] (zRstk r ++ []) σ' Q)) := by
  refine Iff.trans (zw_if_eq (t := 51) (show decode cX12_fair 10 = .ok (.ifCond .eq 41, 3) by decide +kernel) (by decide)) ?_
  refine zw_ite ?_ ?_
  · refine Iff.trans (zw_iconst (x := (-1)) (show decode cX12_fair 51 = .ok (.iconst (-1), 1) by decide +kernel) (by decide)) ?_
    exact zw_iret1 (show decode cX12_fair 52 = .ok (.ireturn, 1) by decide +kernel) rfl
  · refine Iff.trans (zw_aload_n (show decode cX12_fair 13 = .ok (.aload_n 0, 1) by decide +kernel) rfl) ?_
    refine Iff.trans (zw_iload_n (show decode cX12_fair 14 = .ok (.iload_n 2, 1) by decide +kernel) rfl) ?_
    refine Iff.trans (zw_invV (K' := kX12_isStick) (as' := [.int x2]) (rest := []) (show decode cX12_fair 15 = .ok (.invokevirtual 209, 3) by decide +kernel) (by rfl) rfl rfl rfl (hl.k2 zk_131) (by decide) (hl.n2 zk_131) ⟨Nat.le_of_ble_eq_true rfl, Nat.le_of_ble_eq_true rfl, Nat.le_of_ble_eq_true rfl⟩) ?_
    exact Iff.rfl

theorem bX12_fair_18 {d : Nat} {σ : zS} {Q : Option Value → zS → Prop} (hl : zLay σ) {x1 x2 x3 x4 y0 : Int32} : zW (d + 1) kX12_fair 18 [.ref 131, .int x1, .int x2, .int x3, .int x4, .retAddr 0, .retAddr 0] [.int y0] σ Q ↔ (if y0 = (0 : Int32) then Q (some (.int (-1))) σ else zCall d kX12_isIn [.int x3, .int 2, .int 6] σ (fun r σ' => zisN r = true ∧ zW (d + 1) kX12_fair 28 [.ref 131, .int x1, .int x2, .int x3, .int x4, .retAddr 0, .retAddr 0] (zRstk r ++ []) σ' Q)) := by
  refine Iff.trans (zw_if_eq (t := 51) (show decode cX12_fair 18 = .ok (.ifCond .eq 33, 3) by decide +kernel) (by decide)) ?_
  refine zw_ite ?_ ?_
  · refine Iff.trans (zw_iconst (x := (-1)) (show decode cX12_fair 51 = .ok (.iconst (-1), 1) by decide +kernel) (by decide)) ?_
    exact zw_iret1 (show decode cX12_fair 52 = .ok (.ireturn, 1) by decide +kernel) rfl
  · refine Iff.trans (zw_iload_n (show decode cX12_fair 21 = .ok (.iload_n 3, 1) by decide +kernel) rfl) ?_
    refine Iff.trans (zw_iconst (x := 2) (show decode cX12_fair 22 = .ok (.iconst 2, 1) by decide +kernel) (by decide)) ?_
    refine Iff.trans (zw_bipush (x := 6) (show decode cX12_fair 23 = .ok (.bipush 6, 2) by decide +kernel) (by decide)) ?_
    refine Iff.trans (zw_invS (K' := kX12_isIn) (as := [.int x3, .int 2, .int 6]) (rest := []) (show decode cX12_fair 25 = .ok (.invokestatic 163, 3) by decide +kernel) (by rfl) rfl rfl rfl ⟨Nat.le_of_ble_eq_true rfl, Nat.le_of_ble_eq_true rfl, Nat.le_of_ble_eq_true rfl⟩) ?_
    exact Iff.rfl

theorem bX12_fair_28 {d : Nat} {σ : zS} {Q : Option Value → zS → Prop} (hl : zLay σ) {x1 x2 x3 x4 y0 : Int32} : zW (d + 1) kX12_fair 28 [.ref 131, .int x1, .int x2, .int x3, .int x4, .retAddr 0, .retAddr 0] [.int y0] σ Q ↔ (if y0 = (0 : Int32) then Q (some (.int (-1))) σ else zCall d kX12_isIn [.int x4, .int 0, .int 1] σ (fun r σ' => zisN r = true ∧ zW (d + 1) kX12_fair 38 [.ref 131, .int x1, .int x2, .int x3, .int x4, .retAddr 0, .retAddr 0] (zRstk r ++ []) σ' Q)) := by
  refine Iff.trans (zw_if_eq (t := 51) (show decode cX12_fair 28 = .ok (.ifCond .eq 23, 3) by decide +kernel) (by decide)) ?_
  refine zw_ite ?_ ?_
  · refine Iff.trans (zw_iconst (x := (-1)) (show decode cX12_fair 51 = .ok (.iconst (-1), 1) by decide +kernel) (by decide)) ?_
    exact zw_iret1 (show decode cX12_fair 52 = .ok (.ireturn, 1) by decide +kernel) rfl
  · refine Iff.trans (zw_iload (show decode cX12_fair 31 = .ok (.iload 4, 2) by decide +kernel) rfl) ?_
    refine Iff.trans (zw_iconst (x := 0) (show decode cX12_fair 33 = .ok (.iconst 0, 1) by decide +kernel) (by decide)) ?_
    refine Iff.trans (zw_iconst (x := 1) (show decode cX12_fair 34 = .ok (.iconst 1, 1) by decide +kernel) (by decide)) ?_
    refine Iff.trans (zw_invS (K' := kX12_isIn) (as := [.int x4, .int 0, .int 1]) (rest := []) (show decode cX12_fair 35 = .ok (.invokestatic 163, 3) by decide +kernel) (by rfl) rfl rfl rfl ⟨Nat.le_of_ble_eq_true rfl, Nat.le_of_ble_eq_true rfl, Nat.le_of_ble_eq_true rfl⟩) ?_
    exact Iff.rfl

theorem bX12_fair_38 {d : Nat} {σ : zS} {Q : Option Value → zS → Prop} (hl : zLay σ) {x1 x2 x3 x4 y0 : Int32} : zW (d + 1) kX12_fair 38 [.ref 131, .int x1, .int x2, .int x3, .int x4, .retAddr 0, .retAddr 0] [.int y0] σ Q ↔ (if y0 = (0 : Int32) then Q (some (.int (-1))) σ else zCall d kX12_layWorths [.ref 131, .int x1, .int x2] σ (fun r σ' => zisN r = true ∧ zW (d + 1) kX12_fair 47 [.ref 131, .int x1, .int x2, .int x3, .int x4, .retAddr 0, .retAddr 0] (zRstk r ++ []) σ' Q)) := by
  refine Iff.trans (zw_if_eq (t := 51) (show decode cX12_fair 38 = .ok (.ifCond .eq 13, 3) by decide +kernel) (by decide)) ?_
  refine zw_ite ?_ ?_
  · refine Iff.trans (zw_iconst (x := (-1)) (show decode cX12_fair 51 = .ok (.iconst (-1), 1) by decide +kernel) (by decide)) ?_
    exact zw_iret1 (show decode cX12_fair 52 = .ok (.ireturn, 1) by decide +kernel) rfl
  · refine Iff.trans (zw_aload_n (show decode cX12_fair 41 = .ok (.aload_n 0, 1) by decide +kernel) rfl) ?_
    refine Iff.trans (zw_iload_n (show decode cX12_fair 42 = .ok (.iload_n 1, 1) by decide +kernel) rfl) ?_
    refine Iff.trans (zw_iload_n (show decode cX12_fair 43 = .ok (.iload_n 2, 1) by decide +kernel) rfl) ?_
    refine Iff.trans (zw_invV (K' := kX12_layWorths) (as' := [.int x1, .int x2]) (rest := []) (show decode cX12_fair 44 = .ok (.invokevirtual 407, 3) by decide +kernel) (by rfl) rfl rfl rfl (hl.k2 zk_131) (by decide) (hl.n2 zk_131) ⟨Nat.le_of_ble_eq_true rfl, Nat.le_of_ble_eq_true rfl, Nat.le_of_ble_eq_true rfl⟩) ?_
    exact Iff.rfl

theorem bX12_fair_47 {d : Nat} {σ : zS} {Q : Option Value → zS → Prop} (hl : zLay σ) {x1 x2 x3 x4 y0 : Int32} : zW (d + 1) kX12_fair 47 [.ref 131, .int x1, .int x2, .int x3, .int x4, .retAddr 0, .retAddr 0] [.int y0] σ Q ↔ (if x3 ≤ y0 then zW (d + 1) kX12_fair 59 [.ref 131, .int x1, .int x2, .int x3, .int x4, .int (-1), .int 0] [] σ Q else Q (some (.int (-1))) σ) := by
  refine Iff.trans (zw_iload_n (show decode cX12_fair 47 = .ok (.iload_n 3, 1) by decide +kernel) rfl) ?_
  refine Iff.trans (zw_icmp_ge (t := 53) (show decode cX12_fair 48 = .ok (.if_icmp .ge 5, 3) by decide +kernel) (by decide)) ?_
  refine zw_ite ?_ ?_
  · refine Iff.trans (zw_iconst (x := (-1)) (show decode cX12_fair 53 = .ok (.iconst (-1), 1) by decide +kernel) (by decide)) ?_
    refine Iff.trans (zw_istore (ls' := [.ref 131, .int x1, .int x2, .int x3, .int x4, .int (-1), .retAddr 0]) (show decode cX12_fair 54 = .ok (.istore 5, 2) by decide +kernel) (zset_s (Nat.le_of_ble_eq_true rfl) rfl)) ?_
    refine Iff.trans (zw_iconst (x := 0) (show decode cX12_fair 56 = .ok (.iconst 0, 1) by decide +kernel) (by decide)) ?_
    refine Iff.trans (zw_istore (ls' := [.ref 131, .int x1, .int x2, .int x3, .int x4, .int (-1), .int 0]) (show decode cX12_fair 57 = .ok (.istore 6, 2) by decide +kernel) (zset_s (Nat.le_of_ble_eq_true rfl) rfl)) ?_
    exact Iff.rfl
  · refine Iff.trans (zw_iconst (x := (-1)) (show decode cX12_fair 51 = .ok (.iconst (-1), 1) by decide +kernel) (by decide)) ?_
    exact zw_iret1 (show decode cX12_fair 52 = .ok (.ireturn, 1) by decide +kernel) rfl

theorem bX12_fair_59 {d : Nat} {σ : zS} {Q : Option Value → zS → Prop} (hl : zLay σ) {x1 x2 x3 x4 x5 x6 : Int32} : zW (d + 1) kX12_fair 59 [.ref 131, .int x1, .int x2, .int x3, .int x4, .int x5, .int x6] [] σ Q ↔ (if (1 <<< (x3 &&& 31)) ≤ x6 then (if x4 = (0 : Int32) then zW (d + 1) kX12_fair 128 [.ref 131, .int x1, .int x2, .int x3, .int x4, .int x5, .int x6] [.int x5] σ Q else zCall d kX12_differenceOf [.ref 131, .int x5, .int x3] σ (fun r σ' => zisN r = true ∧ zW (d + 1) kX12_fair 128 [.ref 131, .int x1, .int x2, .int x3, .int x4, .int x5, .int x6] (zRstk r ++ []) σ' Q)) else zCall d kJ6_bitCount_0f7a4 [.int x6] σ (fun r σ' => zisN r = true ∧ zW (d + 1) kX12_fair 72 [.ref 131, .int x1, .int x2, .int x3, .int x4, .int x5, .int x6] (zRstk r ++ []) σ' Q)) := by
  refine Iff.trans (zw_iload (show decode cX12_fair 59 = .ok (.iload 6, 2) by decide +kernel) rfl) ?_
  refine Iff.trans (zw_iconst (x := 1) (show decode cX12_fair 61 = .ok (.iconst 1, 1) by decide +kernel) (by decide)) ?_
  refine Iff.trans (zw_iload_n (show decode cX12_fair 62 = .ok (.iload_n 3, 1) by decide +kernel) rfl) ?_
  refine Iff.trans (zw_ishl (show decode cX12_fair 63 = .ok (.ishl, 1) by decide +kernel)) ?_
  refine Iff.trans (zw_icmp_ge (t := 111) (show decode cX12_fair 64 = .ok (.if_icmp .ge 47, 3) by decide +kernel) (by decide)) ?_
  refine zw_ite ?_ ?_
  · refine Iff.trans (zw_iload (show decode cX12_fair 111 = .ok (.iload 4, 2) by decide +kernel) rfl) ?_
    refine Iff.trans (zw_if_ne (t := 121) (show decode cX12_fair 113 = .ok (.ifCond .ne 8, 3) by decide +kernel) (by decide)) ?_
    refine zw_ite ?_ ?_
    · refine Iff.trans (zw_iload (show decode cX12_fair 116 = .ok (.iload 5, 2) by decide +kernel) rfl) ?_
      refine Iff.trans (zw_goto (t := 128) (show decode cX12_fair 118 = .ok (.goto 10, 3) by decide +kernel) (by decide)) ?_
      exact Iff.rfl
    · refine Iff.trans (zw_aload_n (show decode cX12_fair 121 = .ok (.aload_n 0, 1) by decide +kernel) rfl) ?_
      refine Iff.trans (zw_iload (show decode cX12_fair 122 = .ok (.iload 5, 2) by decide +kernel) rfl) ?_
      refine Iff.trans (zw_iload_n (show decode cX12_fair 124 = .ok (.iload_n 3, 1) by decide +kernel) rfl) ?_
      refine Iff.trans (zw_invV (K' := kX12_differenceOf) (as' := [.int x5, .int x3]) (rest := []) (show decode cX12_fair 125 = .ok (.invokevirtual 410, 3) by decide +kernel) (by rfl) rfl rfl rfl (hl.k2 zk_131) (by decide) (hl.n2 zk_131) ⟨Nat.le_of_ble_eq_true rfl, Nat.le_of_ble_eq_true rfl, Nat.le_of_ble_eq_true rfl⟩) ?_
      exact Iff.rfl
  · refine Iff.trans (zw_iload (show decode cX12_fair 67 = .ok (.iload 6, 2) by decide +kernel) rfl) ?_
    refine Iff.trans (zw_invS (K' := kJ6_bitCount_0f7a4) (as := [.int x6]) (rest := []) (show decode cX12_fair 69 = .ok (.invokestatic 121, 3) by decide +kernel) (by rfl) rfl rfl rfl ⟨Nat.le_of_ble_eq_true rfl, Nat.le_of_ble_eq_true rfl, Nat.le_of_ble_eq_true rfl⟩) ?_
    exact Iff.rfl

theorem bX12_fair_72 {d : Nat} {σ : zS} {Q : Option Value → zS → Prop} (hl : zLay σ) {x1 x2 x3 x4 x5 x6 y0 : Int32} : zW (d + 1) kX12_fair 72 [.ref 131, .int x1, .int x2, .int x3, .int x4, .int x5, .int x6] [.int y0] σ Q ↔ (¬ 2 = (0 : Int32) ∧ (if y0 = (x3 / 2) then (if x5 = (-1) then zW (d + 1) kX12_fair 59 [.ref 131, .int x1, .int x2, .int x3, .int x4, .int x6, .int (x6 + 1)] [] σ Q else zCall d kX12_differenceOf [.ref 131, .int x6, .int x3] σ (fun r σ' => zisN r = true ∧ zW (d + 1) kX12_fair 91 [.ref 131, .int x1, .int x2, .int x3, .int x4, .int x5, .int x6] (zRstk r ++ []) σ' Q)) else zW (d + 1) kX12_fair 59 [.ref 131, .int x1, .int x2, .int x3, .int x4, .int x5, .int (x6 + 1)] [] σ Q)) := by
  refine Iff.trans (zw_iload_n (show decode cX12_fair 72 = .ok (.iload_n 3, 1) by decide +kernel) rfl) ?_
  refine Iff.trans (zw_iconst (x := 2) (show decode cX12_fair 73 = .ok (.iconst 2, 1) by decide +kernel) (by decide)) ?_
  refine Iff.trans (zw_idiv (show decode cX12_fair 74 = .ok (.idiv, 1) by decide +kernel)) ?_
  refine zw_and ?_
  refine Iff.trans (zw_icmp_ne (t := 105) (show decode cX12_fair 75 = .ok (.if_icmp .ne 30, 3) by decide +kernel) (by decide)) ?_
  refine zw_ite ?_ ?_
  · refine Iff.trans (zw_iload (show decode cX12_fair 78 = .ok (.iload 5, 2) by decide +kernel) rfl) ?_
    refine Iff.trans (zw_iconst (x := (-1)) (show decode cX12_fair 80 = .ok (.iconst (-1), 1) by decide +kernel) (by decide)) ?_
    refine Iff.trans (zw_icmp_eq (t := 101) (show decode cX12_fair 81 = .ok (.if_icmp .eq 20, 3) by decide +kernel) (by decide)) ?_
    refine zw_ite ?_ ?_
    · refine Iff.trans (zw_iload (show decode cX12_fair 101 = .ok (.iload 6, 2) by decide +kernel) rfl) ?_
      refine Iff.trans (zw_istore (ls' := [.ref 131, .int x1, .int x2, .int x3, .int x4, .int x6, .int x6]) (show decode cX12_fair 103 = .ok (.istore 5, 2) by decide +kernel) (zset_s (Nat.le_of_ble_eq_true rfl) rfl)) ?_
      refine Iff.trans (zw_iinc (w := 1) (ls' := [.ref 131, .int x1, .int x2, .int x3, .int x4, .int x6, .int (x6 + 1)]) (show decode cX12_fair 105 = .ok (.iinc 6 1, 3) by decide +kernel) rfl (by decide) (zset_s (Nat.le_of_ble_eq_true rfl) rfl)) ?_
      refine Iff.trans (zw_goto (t := 59) (show decode cX12_fair 108 = .ok (.goto (-49), 3) by decide +kernel) (by decide)) ?_
      exact Iff.rfl
    · refine Iff.trans (zw_aload_n (show decode cX12_fair 84 = .ok (.aload_n 0, 1) by decide +kernel) rfl) ?_
      refine Iff.trans (zw_iload (show decode cX12_fair 85 = .ok (.iload 6, 2) by decide +kernel) rfl) ?_
      refine Iff.trans (zw_iload_n (show decode cX12_fair 87 = .ok (.iload_n 3, 1) by decide +kernel) rfl) ?_
      refine Iff.trans (zw_invV (K' := kX12_differenceOf) (as' := [.int x6, .int x3]) (rest := []) (show decode cX12_fair 88 = .ok (.invokevirtual 410, 3) by decide +kernel) (by rfl) rfl rfl rfl (hl.k2 zk_131) (by decide) (hl.n2 zk_131) ⟨Nat.le_of_ble_eq_true rfl, Nat.le_of_ble_eq_true rfl, Nat.le_of_ble_eq_true rfl⟩) ?_
      exact Iff.rfl
  · refine Iff.trans (zw_iinc (w := 1) (ls' := [.ref 131, .int x1, .int x2, .int x3, .int x4, .int x5, .int (x6 + 1)]) (show decode cX12_fair 105 = .ok (.iinc 6 1, 3) by decide +kernel) rfl (by decide) (zset_s (Nat.le_of_ble_eq_true rfl) rfl)) ?_
    refine Iff.trans (zw_goto (t := 59) (show decode cX12_fair 108 = .ok (.goto (-49), 3) by decide +kernel) (by decide)) ?_
    exact Iff.rfl

theorem bX12_fair_91 {d : Nat} {σ : zS} {Q : Option Value → zS → Prop} (hl : zLay σ) {x1 x2 x3 x4 x5 x6 y0 : Int32} : zW (d + 1) kX12_fair 91 [.ref 131, .int x1, .int x2, .int x3, .int x4, .int x5, .int x6] [.int y0] σ Q ↔ zCall d kX12_differenceOf [.ref 131, .int x5, .int x3] σ (fun r σ' => zisN r = true ∧ zW (d + 1) kX12_fair 98 [.ref 131, .int x1, .int x2, .int x3, .int x4, .int x5, .int x6] (zRstk r ++ [.int y0]) σ' Q) := by
  refine Iff.trans (zw_aload_n (show decode cX12_fair 91 = .ok (.aload_n 0, 1) by decide +kernel) rfl) ?_
  refine Iff.trans (zw_iload (show decode cX12_fair 92 = .ok (.iload 5, 2) by decide +kernel) rfl) ?_
  refine Iff.trans (zw_iload_n (show decode cX12_fair 94 = .ok (.iload_n 3, 1) by decide +kernel) rfl) ?_
  refine Iff.trans (zw_invV (K' := kX12_differenceOf) (as' := [.int x5, .int x3]) (rest := [.int y0]) (show decode cX12_fair 95 = .ok (.invokevirtual 410, 3) by decide +kernel) (by rfl) rfl rfl rfl (hl.k2 zk_131) (by decide) (hl.n2 zk_131) ⟨Nat.le_of_ble_eq_true rfl, Nat.le_of_ble_eq_true rfl, Nat.le_of_ble_eq_true rfl⟩) ?_
  exact Iff.rfl

theorem bX12_fair_98 {d : Nat} {σ : zS} {Q : Option Value → zS → Prop} (hl : zLay σ) {x1 x2 x3 x4 x5 x6 y0 y1 : Int32} : zW (d + 1) kX12_fair 98 [.ref 131, .int x1, .int x2, .int x3, .int x4, .int x5, .int x6] [.int y0, .int y1] σ Q ↔ (if y0 ≤ y1 then zW (d + 1) kX12_fair 59 [.ref 131, .int x1, .int x2, .int x3, .int x4, .int x5, .int (x6 + 1)] [] σ Q else zW (d + 1) kX12_fair 59 [.ref 131, .int x1, .int x2, .int x3, .int x4, .int x6, .int (x6 + 1)] [] σ Q) := by
  refine Iff.trans (zw_icmp_ge (t := 105) (show decode cX12_fair 98 = .ok (.if_icmp .ge 7, 3) by decide +kernel) (by decide)) ?_
  refine zw_ite ?_ ?_
  · refine Iff.trans (zw_iinc (w := 1) (ls' := [.ref 131, .int x1, .int x2, .int x3, .int x4, .int x5, .int (x6 + 1)]) (show decode cX12_fair 105 = .ok (.iinc 6 1, 3) by decide +kernel) rfl (by decide) (zset_s (Nat.le_of_ble_eq_true rfl) rfl)) ?_
    refine Iff.trans (zw_goto (t := 59) (show decode cX12_fair 108 = .ok (.goto (-49), 3) by decide +kernel) (by decide)) ?_
    exact Iff.rfl
  · refine Iff.trans (zw_iload (show decode cX12_fair 101 = .ok (.iload 6, 2) by decide +kernel) rfl) ?_
    refine Iff.trans (zw_istore (ls' := [.ref 131, .int x1, .int x2, .int x3, .int x4, .int x6, .int x6]) (show decode cX12_fair 103 = .ok (.istore 5, 2) by decide +kernel) (zset_s (Nat.le_of_ble_eq_true rfl) rfl)) ?_
    refine Iff.trans (zw_iinc (w := 1) (ls' := [.ref 131, .int x1, .int x2, .int x3, .int x4, .int x6, .int (x6 + 1)]) (show decode cX12_fair 105 = .ok (.iinc 6 1, 3) by decide +kernel) rfl (by decide) (zset_s (Nat.le_of_ble_eq_true rfl) rfl)) ?_
    refine Iff.trans (zw_goto (t := 59) (show decode cX12_fair 108 = .ok (.goto (-49), 3) by decide +kernel) (by decide)) ?_
    exact Iff.rfl

theorem bX12_fair_128 {d : Nat} {σ : zS} {Q : Option Value → zS → Prop} (hl : zLay σ) {x1 x2 x3 x4 x5 x6 y0 : Int32} : zW (d + 1) kX12_fair 128 [.ref 131, .int x1, .int x2, .int x3, .int x4, .int x5, .int x6] [.int y0] σ Q ↔ Q (some (.int y0)) σ := by
  exact zw_iret1 (show decode cX12_fair 128 = .ok (.ireturn, 1) by decide +kernel) rfl

theorem bX12_copy_0 {d : Nat} {σ : zS} {Q : Option Value → zS → Prop} (hl : zLay σ) {a0 a1 : Nat} (ha0 : zk a0 = 14) (ha1 : zk a1 = 14) : zCall d kX12_copy [.ref a0, .ref a1] σ Q ↔ zW d kX12_copy 2 [.ref a0, .ref a1, .int 0] [] σ Q := by
  show zW d kX12_copy 0 [.ref a0, .ref a1, .retAddr 0] [] σ Q ↔ _
  refine Iff.trans (zw_iconst (x := 0) (show decode cX12_copy 0 = .ok (.iconst 0, 1) by decide +kernel) (by decide)) ?_
  refine Iff.trans (zw_istore_n (ls' := [.ref a0, .ref a1, .int 0]) (show decode cX12_copy 1 = .ok (.istore_n 2, 1) by decide +kernel) (zset_s (Nat.le_of_ble_eq_true rfl) rfl)) ?_
  exact Iff.rfl

theorem bX12_copy_2 {d : Nat} {σ : zS} {Q : Option Value → zS → Prop} (hl : zLay σ) {a0 a1 : Nat} {x2 : Int32} (ha0 : zk a0 = 14) (ha1 : zk a1 = 14) : zW d kX12_copy 2 [.ref a0, .ref a1, .int x2] [] σ Q ↔ (if (Int32.ofNat (zl a1)) ≤ x2 then Q none σ else (vp_in x2 (zl a0) ∧ (vp_in x2 (zl a1) ∧ zW d kX12_copy 2 [.ref a0, .ref a1, .int (x2 + 1)] [] (zsI σ a1 (upd (zI σ a1) (x2 : Int32).toNatClampNeg (zI σ a0 (x2 : Int32).toNatClampNeg))) Q))) := by
  refine Iff.trans (zw_iload_n (show decode cX12_copy 2 = .ok (.iload_n 2, 1) by decide +kernel) rfl) ?_
  refine Iff.trans (zw_aload_n (show decode cX12_copy 3 = .ok (.aload_n 1, 1) by decide +kernel) rfl) ?_
  refine Iff.trans (zw_alen (show decode cX12_copy 4 = .ok (.arraylength, 1) by decide +kernel) ⟨by rw [(hl.k2 ha1)]; decide, Or.inl (by rw [(hl.k2 ha1)]; decide)⟩ (hl.n2 ha1) (hl.l2 ha1 rfl) (v := Int32.ofNat (zl a1)) rfl) ?_
  refine Iff.trans (zw_icmp_ge (t := 20) (show decode cX12_copy 5 = .ok (.if_icmp .ge 15, 3) by decide +kernel) (by decide)) ?_
  refine zw_ite ?_ ?_
  · exact zw_ret (show decode cX12_copy 20 = .ok (.return_, 1) by decide +kernel) rfl
  · refine Iff.trans (zw_aload_n (show decode cX12_copy 8 = .ok (.aload_n 1, 1) by decide +kernel) rfl) ?_
    refine Iff.trans (zw_iload_n (show decode cX12_copy 9 = .ok (.iload_n 2, 1) by decide +kernel) rfl) ?_
    refine Iff.trans (zw_aload_n (show decode cX12_copy 10 = .ok (.aload_n 0, 1) by decide +kernel) rfl) ?_
    refine Iff.trans (zw_iload_n (show decode cX12_copy 11 = .ok (.iload_n 2, 1) by decide +kernel) rfl) ?_
    refine Iff.trans (zw_iald2 (show decode cX12_copy 12 = .ok (.iaload, 1) by decide +kernel) (hl.k2 ha0) (hl.n2 ha0) (hl.l2 ha0 rfl) (w := zI σ a0 (x2 : Int32).toNatClampNeg) rfl) ?_
    refine zw_and ?_
    refine Iff.trans (zw_iast2 (show decode cX12_copy 13 = .ok (.iastore, 1) by decide +kernel) (hl.k2 ha1) (hl.n2 ha1) (hl.l2 ha1 rfl) (σ' := (zsI σ a1 (upd (zI σ a1) (x2 : Int32).toNatClampNeg (zI σ a0 (x2 : Int32).toNatClampNeg)))) rfl) ?_
    refine zw_and ?_
    refine Iff.trans (zw_iinc (w := 1) (ls' := [.ref a0, .ref a1, .int (x2 + 1)]) (show decode cX12_copy 14 = .ok (.iinc 2 1, 3) by decide +kernel) rfl (by decide) (zset_s (Nat.le_of_ble_eq_true rfl) rfl)) ?_
    refine Iff.trans (zw_goto (t := 2) (show decode cX12_copy 17 = .ok (.goto (-15), 3) by decide +kernel) (by decide)) ?_
    exact Iff.rfl

theorem bX12_image_0 {d : Nat} {σ : zS} {Q : Option Value → zS → Prop} (hl : zLay σ) : zCall (d + 1) kX12_image [.ref 131] σ Q ↔ (if (zI σ 131 21) = (-1) then Q (some (.int (-1))) (zsI σ 131 (upd (zI σ 131) 0 0)) else zW (d + 1) kX12_image 17 [.ref 131, .int 0] [] (zsI σ 131 (upd (zI σ 131) 0 0)) Q) := by
  show zW (d + 1) kX12_image 0 [.ref 131, .retAddr 0] [] σ Q ↔ _
  refine Iff.trans (zw_aload_n (show decode cX12_image 0 = .ok (.aload_n 0, 1) by decide +kernel) rfl) ?_
  refine Iff.trans (zw_iconst (x := 0) (show decode cX12_image 1 = .ok (.iconst 0, 1) by decide +kernel) (by decide)) ?_
  refine Iff.trans (zw_putI (show decode cX12_image 2 = .ok (.putfield 118, 3) by decide +kernel) (by decide +kernel : zfld 12 118 = some (12, 0)) (hl.k2 zk_131) (hl.n2 zk_131) rfl (Or.inl rfl) (σ' := (zsI σ 131 (upd (zI σ 131) 0 0))) rfl) ?_
  refine Iff.trans (zw_aload_n (show decode cX12_image 5 = .ok (.aload_n 0, 1) by decide +kernel) rfl) ?_
  refine Iff.trans (zw_getI (show decode cX12_image 6 = .ok (.getfield 48, 3) by decide +kernel) (by decide +kernel : zfld 12 48 = some (12, 21)) (hl.I.k2 zk_131) (hl.I.n2 zk_131) (Or.inl rfl) (w := zI σ 131 21) (congrFun zI_self 21)) ?_
  refine Iff.trans (zw_iconst (x := (-1)) (show decode cX12_image 9 = .ok (.iconst (-1), 1) by decide +kernel) (by decide)) ?_
  refine Iff.trans (zw_icmp_ne (t := 15) (show decode cX12_image 10 = .ok (.if_icmp .ne 5, 3) by decide +kernel) (by decide)) ?_
  refine zw_ite ?_ ?_
  · refine Iff.trans (zw_iconst (x := (-1)) (show decode cX12_image 13 = .ok (.iconst (-1), 1) by decide +kernel) (by decide)) ?_
    exact zw_iret1 (show decode cX12_image 14 = .ok (.ireturn, 1) by decide +kernel) rfl
  · refine Iff.trans (zw_iconst (x := 0) (show decode cX12_image 15 = .ok (.iconst 0, 1) by decide +kernel) (by decide)) ?_
    refine Iff.trans (zw_istore_n (ls' := [.ref 131, .int 0]) (show decode cX12_image 16 = .ok (.istore_n 1, 1) by decide +kernel) (zset_s (Nat.le_of_ble_eq_true rfl) rfl)) ?_
    exact Iff.rfl

theorem bX12_image_17 {d : Nat} {σ : zS} {Q : Option Value → zS → Prop} (hl : zLay σ) {x1 : Int32} : zW (d + 1) kX12_image 17 [.ref 131, .int x1] [] σ Q ↔ (if 66 ≤ x1 then zCall d kX12_copy [.ref 142, .ref 146] σ (fun r σ' => zisN r = true ∧ zW (d + 1) kX12_image 52 [.ref 131, .int x1] (zRstk r ++ []) σ' Q) else (vp_in x1 66 ∧ (vp_in x1 66 ∧ zW (d + 1) kX12_image 17 [.ref 131, .int (x1 + 1)] [] (zsI σ 141 (upd (zI σ 141) (x1 : Int32).toNatClampNeg (zI σ 139 (x1 : Int32).toNatClampNeg))) Q))) := by
  refine Iff.trans (zw_iload_n (show decode cX12_image 17 = .ok (.iload_n 1, 1) by decide +kernel) rfl) ?_
  refine Iff.trans (zw_bipush (x := 66) (show decode cX12_image 18 = .ok (.bipush 66, 2) by decide +kernel) (by decide)) ?_
  refine Iff.trans (zw_icmp_ge (t := 41) (show decode cX12_image 20 = .ok (.if_icmp .ge 21, 3) by decide +kernel) (by decide)) ?_
  refine zw_ite ?_ ?_
  · refine Iff.trans (zw_aload_n (show decode cX12_image 41 = .ok (.aload_n 0, 1) by decide +kernel) rfl) ?_
    refine Iff.trans (zw_get (show decode cX12_image 42 = .ok (.getfield 51, 3) by decide +kernel) (by decide +kernel : zfld 12 51 = some (12, 35)) (hl.k2 zk_131) (hl.n2 zk_131) (zgetR (v := 142) (hl.r zrt_131_35) rfl)) ?_
    refine Iff.trans (zw_aload_n (show decode cX12_image 45 = .ok (.aload_n 0, 1) by decide +kernel) rfl) ?_
    refine Iff.trans (zw_get (show decode cX12_image 46 = .ok (.getfield 63, 3) by decide +kernel) (by decide +kernel : zfld 12 63 = some (12, 39)) (hl.k2 zk_131) (hl.n2 zk_131) (zgetR (v := 146) (hl.r zrt_131_39) rfl)) ?_
    refine Iff.trans (zw_invS (K' := kX12_copy) (as := [.ref 142, .ref 146]) (rest := []) (show decode cX12_image 49 = .ok (.invokestatic 413, 3) by decide +kernel) (by rfl) rfl rfl rfl ⟨Nat.le_of_ble_eq_true rfl, Nat.le_of_ble_eq_true rfl, Nat.le_of_ble_eq_true rfl⟩) ?_
    exact Iff.rfl
  · refine Iff.trans (zw_aload_n (show decode cX12_image 23 = .ok (.aload_n 0, 1) by decide +kernel) rfl) ?_
    refine Iff.trans (zw_get (show decode cX12_image 24 = .ok (.getfield 42, 3) by decide +kernel) (by decide +kernel : zfld 12 42 = some (12, 18)) (hl.k2 zk_131) (hl.n2 zk_131) (zgetR (v := 141) (hl.r zrt_131_18) rfl)) ?_
    refine Iff.trans (zw_iload_n (show decode cX12_image 27 = .ok (.iload_n 1, 1) by decide +kernel) rfl) ?_
    refine Iff.trans (zw_aload_n (show decode cX12_image 28 = .ok (.aload_n 0, 1) by decide +kernel) rfl) ?_
    refine Iff.trans (zw_get (show decode cX12_image 29 = .ok (.getfield 36, 3) by decide +kernel) (by decide +kernel : zfld 12 36 = some (12, 16)) (hl.k2 zk_131) (hl.n2 zk_131) (zgetR (v := 139) (hl.r zrt_131_16) rfl)) ?_
    refine Iff.trans (zw_iload_n (show decode cX12_image 32 = .ok (.iload_n 1, 1) by decide +kernel) rfl) ?_
    refine Iff.trans (zw_iald2 (show decode cX12_image 33 = .ok (.iaload, 1) by decide +kernel) (hl.k2 zk_139) (hl.n2 zk_139) (hl.l2 zk_139 zl_139) (w := zI σ 139 (x1 : Int32).toNatClampNeg) rfl) ?_
    refine zw_and ?_
    refine Iff.trans (zw_iast2 (show decode cX12_image 34 = .ok (.iastore, 1) by decide +kernel) (hl.k2 zk_141) (hl.n2 zk_141) (hl.l2 zk_141 zl_141) (σ' := (zsI σ 141 (upd (zI σ 141) (x1 : Int32).toNatClampNeg (zI σ 139 (x1 : Int32).toNatClampNeg)))) rfl) ?_
    refine zw_and ?_
    refine Iff.trans (zw_iinc (w := 1) (ls' := [.ref 131, .int (x1 + 1)]) (show decode cX12_image 35 = .ok (.iinc 1 1, 3) by decide +kernel) rfl (by decide) (zset_s (Nat.le_of_ble_eq_true rfl) rfl)) ?_
    refine Iff.trans (zw_goto (t := 17) (show decode cX12_image 38 = .ok (.goto (-21), 3) by decide +kernel) (by decide)) ?_
    exact Iff.rfl

theorem bX12_image_52 {d : Nat} {σ : zS} {Q : Option Value → zS → Prop} (hl : zLay σ) {x1 : Int32} : zW (d + 1) kX12_image 52 [.ref 131, .int x1] [] σ Q ↔ zCall d kX12_copy [.ref 143, .ref 147] σ (fun r σ' => zisN r = true ∧ zW (d + 1) kX12_image 63 [.ref 131, .int x1] (zRstk r ++ []) σ' Q) := by
  refine Iff.trans (zw_aload_n (show decode cX12_image 52 = .ok (.aload_n 0, 1) by decide +kernel) rfl) ?_
  refine Iff.trans (zw_get (show decode cX12_image 53 = .ok (.getfield 54, 3) by decide +kernel) (by decide +kernel : zfld 12 54 = some (12, 36)) (hl.k2 zk_131) (hl.n2 zk_131) (zgetR (v := 143) (hl.r zrt_131_36) rfl)) ?_
  refine Iff.trans (zw_aload_n (show decode cX12_image 56 = .ok (.aload_n 0, 1) by decide +kernel) rfl) ?_
  refine Iff.trans (zw_get (show decode cX12_image 57 = .ok (.getfield 66, 3) by decide +kernel) (by decide +kernel : zfld 12 66 = some (12, 40)) (hl.k2 zk_131) (hl.n2 zk_131) (zgetR (v := 147) (hl.r zrt_131_40) rfl)) ?_
  refine Iff.trans (zw_invS (K' := kX12_copy) (as := [.ref 143, .ref 147]) (rest := []) (show decode cX12_image 60 = .ok (.invokestatic 413, 3) by decide +kernel) (by rfl) rfl rfl rfl ⟨Nat.le_of_ble_eq_true rfl, Nat.le_of_ble_eq_true rfl, Nat.le_of_ble_eq_true rfl⟩) ?_
  exact Iff.rfl

theorem bX12_image_63 {d : Nat} {σ : zS} {Q : Option Value → zS → Prop} (hl : zLay σ) {x1 : Int32} : zW (d + 1) kX12_image 63 [.ref 131, .int x1] [] σ Q ↔ zCall d kX12_copy [.ref 144, .ref 148] σ (fun r σ' => zisN r = true ∧ zW (d + 1) kX12_image 74 [.ref 131, .int x1] (zRstk r ++ []) σ' Q) := by
  refine Iff.trans (zw_aload_n (show decode cX12_image 63 = .ok (.aload_n 0, 1) by decide +kernel) rfl) ?_
  refine Iff.trans (zw_get (show decode cX12_image 64 = .ok (.getfield 57, 3) by decide +kernel) (by decide +kernel : zfld 12 57 = some (12, 37)) (hl.k2 zk_131) (hl.n2 zk_131) (zgetR (v := 144) (hl.r zrt_131_37) rfl)) ?_
  refine Iff.trans (zw_aload_n (show decode cX12_image 67 = .ok (.aload_n 0, 1) by decide +kernel) rfl) ?_
  refine Iff.trans (zw_get (show decode cX12_image 68 = .ok (.getfield 69, 3) by decide +kernel) (by decide +kernel : zfld 12 69 = some (12, 41)) (hl.k2 zk_131) (hl.n2 zk_131) (zgetR (v := 148) (hl.r zrt_131_41) rfl)) ?_
  refine Iff.trans (zw_invS (K' := kX12_copy) (as := [.ref 144, .ref 148]) (rest := []) (show decode cX12_image 71 = .ok (.invokestatic 413, 3) by decide +kernel) (by rfl) rfl rfl rfl ⟨Nat.le_of_ble_eq_true rfl, Nat.le_of_ble_eq_true rfl, Nat.le_of_ble_eq_true rfl⟩) ?_
  exact Iff.rfl

theorem bX12_image_74 {d : Nat} {σ : zS} {Q : Option Value → zS → Prop} (hl : zLay σ) {x1 : Int32} : zW (d + 1) kX12_image 74 [.ref 131, .int x1] [] σ Q ↔ zCall d kX12_copy [.ref 145, .ref 149] σ (fun r σ' => zisN r = true ∧ zW (d + 1) kX12_image 85 [.ref 131, .int x1] (zRstk r ++ []) σ' Q) := by
  refine Iff.trans (zw_aload_n (show decode cX12_image 74 = .ok (.aload_n 0, 1) by decide +kernel) rfl) ?_
  refine Iff.trans (zw_get (show decode cX12_image 75 = .ok (.getfield 60, 3) by decide +kernel) (by decide +kernel : zfld 12 60 = some (12, 38)) (hl.k2 zk_131) (hl.n2 zk_131) (zgetR (v := 145) (hl.r zrt_131_38) rfl)) ?_
  refine Iff.trans (zw_aload_n (show decode cX12_image 78 = .ok (.aload_n 0, 1) by decide +kernel) rfl) ?_
  refine Iff.trans (zw_get (show decode cX12_image 79 = .ok (.getfield 72, 3) by decide +kernel) (by decide +kernel : zfld 12 72 = some (12, 42)) (hl.k2 zk_131) (hl.n2 zk_131) (zgetR (v := 149) (hl.r zrt_131_42) rfl)) ?_
  refine Iff.trans (zw_invS (K' := kX12_copy) (as := [.ref 145, .ref 149]) (rest := []) (show decode cX12_image 82 = .ok (.invokestatic 413, 3) by decide +kernel) (by rfl) rfl rfl rfl ⟨Nat.le_of_ble_eq_true rfl, Nat.le_of_ble_eq_true rfl, Nat.le_of_ble_eq_true rfl⟩) ?_
  exact Iff.rfl

theorem bX12_image_85 {d : Nat} {σ : zS} {Q : Option Value → zS → Prop} (hl : zLay σ) {x1 : Int32} : zW (d + 1) kX12_image 85 [.ref 131, .int x1] [] σ Q ↔ Q (some (.int (zI σ 131 21))) (zsI (zsL (zsI σ 131 (upd (upd (upd (upd (zI σ 131) 27 (zI σ 131 19)) 28 (zI σ 131 20)) 29 (zI σ 131 21)) 30 (zI σ 131 22))) 131 (vp_updL (zL σ 131) 33 ((zL σ 131) 31))) 131 (upd (upd (upd (upd (upd (zI σ 131) 27 (zI σ 131 19)) 28 (zI σ 131 20)) 29 (zI σ 131 21)) 30 (zI σ 131 22)) 34 1)) := by
  refine Iff.trans (zw_aload_n (show decode cX12_image 85 = .ok (.aload_n 0, 1) by decide +kernel) rfl) ?_
  refine Iff.trans (zw_aload_n (show decode cX12_image 86 = .ok (.aload_n 0, 1) by decide +kernel) rfl) ?_
  refine Iff.trans (zw_getI (show decode cX12_image 87 = .ok (.getfield 45, 3) by decide +kernel) (by decide +kernel : zfld 12 45 = some (12, 19)) (hl.k2 zk_131) (hl.n2 zk_131) (Or.inl rfl) (w := zI σ 131 19) rfl) ?_
  refine Iff.trans (zw_putI (show decode cX12_image 90 = .ok (.putfield 417, 3) by decide +kernel) (by decide +kernel : zfld 12 417 = some (12, 27)) (hl.k2 zk_131) (hl.n2 zk_131) rfl (Or.inl rfl) (σ' := (zsI σ 131 (upd (zI σ 131) 27 (zI σ 131 19)))) rfl) ?_
  refine Iff.trans (zw_aload_n (show decode cX12_image 93 = .ok (.aload_n 0, 1) by decide +kernel) rfl) ?_
  refine Iff.trans (zw_aload_n (show decode cX12_image 94 = .ok (.aload_n 0, 1) by decide +kernel) rfl) ?_
  refine Iff.trans (zw_getI (show decode cX12_image 95 = .ok (.getfield 222, 3) by decide +kernel) (by decide +kernel : zfld 12 222 = some (12, 20)) (hl.I.k2 zk_131) (hl.I.n2 zk_131) (Or.inl rfl) (w := zI σ 131 20) (congrFun zI_self 20)) ?_
  refine Iff.trans (zw_putI (show decode cX12_image 98 = .ok (.putfield 420, 3) by decide +kernel) (by decide +kernel : zfld 12 420 = some (12, 28)) (hl.I.k2 zk_131) (hl.I.n2 zk_131) rfl (Or.inl rfl) (σ' := (zsI σ 131 (upd (upd (zI σ 131) 27 (zI σ 131 19)) 28 (zI σ 131 20)))) (Eq.trans (congrArg (fun f => zsI (zsI σ 131 (upd (zI σ 131) 27 (zI σ 131 19))) 131 (upd f 28 (zI σ 131 20))) zI_self) zsI_s)) ?_
  refine Iff.trans (zw_aload_n (show decode cX12_image 101 = .ok (.aload_n 0, 1) by decide +kernel) rfl) ?_
  refine Iff.trans (zw_aload_n (show decode cX12_image 102 = .ok (.aload_n 0, 1) by decide +kernel) rfl) ?_
  refine Iff.trans (zw_getI (show decode cX12_image 103 = .ok (.getfield 48, 3) by decide +kernel) (by decide +kernel : zfld 12 48 = some (12, 21)) (hl.I.k2 zk_131) (hl.I.n2 zk_131) (Or.inl rfl) (w := zI σ 131 21) (congrFun zI_self 21)) ?_
  refine Iff.trans (zw_putI (show decode cX12_image 106 = .ok (.putfield 423, 3) by decide +kernel) (by decide +kernel : zfld 12 423 = some (12, 29)) (hl.I.k2 zk_131) (hl.I.n2 zk_131) rfl (Or.inl rfl) (σ' := (zsI σ 131 (upd (upd (upd (zI σ 131) 27 (zI σ 131 19)) 28 (zI σ 131 20)) 29 (zI σ 131 21)))) (Eq.trans (congrArg (fun f => zsI (zsI σ 131 (upd (upd (zI σ 131) 27 (zI σ 131 19)) 28 (zI σ 131 20))) 131 (upd f 29 (zI σ 131 21))) zI_self) zsI_s)) ?_
  refine Iff.trans (zw_aload_n (show decode cX12_image 109 = .ok (.aload_n 0, 1) by decide +kernel) rfl) ?_
  refine Iff.trans (zw_aload_n (show decode cX12_image 110 = .ok (.aload_n 0, 1) by decide +kernel) rfl) ?_
  refine Iff.trans (zw_getI (show decode cX12_image 111 = .ok (.getfield 252, 3) by decide +kernel) (by decide +kernel : zfld 12 252 = some (12, 22)) (hl.I.k2 zk_131) (hl.I.n2 zk_131) (Or.inl rfl) (w := zI σ 131 22) (congrFun zI_self 22)) ?_
  refine Iff.trans (zw_putI (show decode cX12_image 114 = .ok (.putfield 426, 3) by decide +kernel) (by decide +kernel : zfld 12 426 = some (12, 30)) (hl.I.k2 zk_131) (hl.I.n2 zk_131) rfl (Or.inl rfl) (σ' := (zsI σ 131 (upd (upd (upd (upd (zI σ 131) 27 (zI σ 131 19)) 28 (zI σ 131 20)) 29 (zI σ 131 21)) 30 (zI σ 131 22)))) (Eq.trans (congrArg (fun f => zsI (zsI σ 131 (upd (upd (upd (zI σ 131) 27 (zI σ 131 19)) 28 (zI σ 131 20)) 29 (zI σ 131 21))) 131 (upd f 30 (zI σ 131 22))) zI_self) zsI_s)) ?_
  refine Iff.trans (zw_aload_n (show decode cX12_image 117 = .ok (.aload_n 0, 1) by decide +kernel) rfl) ?_
  refine Iff.trans (zw_aload_n (show decode cX12_image 118 = .ok (.aload_n 0, 1) by decide +kernel) rfl) ?_
  refine Iff.trans (zw_getL (show decode cX12_image 119 = .ok (.getfield 248, 3) by decide +kernel) (by decide +kernel : zfld 12 248 = some (12, 31)) (hl.I.k2 zk_131) (hl.I.n2 zk_131) rfl (w := (zL σ 131) 31) rfl) ?_
  refine Iff.trans (zw_putL (show decode cX12_image 122 = .ok (.putfield 429, 3) by decide +kernel) (by decide +kernel : zfld 12 429 = some (12, 33)) (hl.I.k2 zk_131) (hl.I.n2 zk_131) rfl rfl (σ' := (zsL (zsI σ 131 (upd (upd (upd (upd (zI σ 131) 27 (zI σ 131 19)) 28 (zI σ 131 20)) 29 (zI σ 131 21)) 30 (zI σ 131 22))) 131 (vp_updL (zL σ 131) 33 ((zL σ 131) 31)))) rfl) ?_
  refine Iff.trans (zw_aload_n (show decode cX12_image 125 = .ok (.aload_n 0, 1) by decide +kernel) rfl) ?_
  refine Iff.trans (zw_iconst (x := 1) (show decode cX12_image 126 = .ok (.iconst 1, 1) by decide +kernel) (by decide)) ?_
  refine Iff.trans (zw_putI (show decode cX12_image 127 = .ok (.putfield 432, 3) by decide +kernel) (by decide +kernel : zfld 12 432 = some (12, 34)) (hl.I.L.k2 zk_131) (hl.I.L.n2 zk_131) rfl (Or.inr ⟨rfl, Or.inr rfl⟩) (σ' := (zsI (zsL (zsI σ 131 (upd (upd (upd (upd (zI σ 131) 27 (zI σ 131 19)) 28 (zI σ 131 20)) 29 (zI σ 131 21)) 30 (zI σ 131 22))) 131 (vp_updL (zL σ 131) 33 ((zL σ 131) 31))) 131 (upd (upd (upd (upd (upd (zI σ 131) 27 (zI σ 131 19)) 28 (zI σ 131 20)) 29 (zI σ 131 21)) 30 (zI σ 131 22)) 34 1))) (congrArg (fun f => zsI (zsL (zsI σ 131 (upd (upd (upd (upd (zI σ 131) 27 (zI σ 131 19)) 28 (zI σ 131 20)) 29 (zI σ 131 21)) 30 (zI σ 131 22))) 131 (vp_updL (zL σ 131) 33 ((zL σ 131) 31))) 131 (upd f 34 1)) (Eq.trans (zI_sL _ _ _ _) zI_self))) ?_
  refine Iff.trans (zw_aload_n (show decode cX12_image 130 = .ok (.aload_n 0, 1) by decide +kernel) rfl) ?_
  refine Iff.trans (zw_getI (show decode cX12_image 131 = .ok (.getfield 48, 3) by decide +kernel) (by decide +kernel : zfld 12 48 = some (12, 21)) (hl.I.L.I.k2 zk_131) (hl.I.L.I.n2 zk_131) (Or.inl rfl) (w := zI σ 131 21) (congrFun zI_self 21)) ?_
  exact zw_iret1 (show decode cX12_image 134 = .ok (.ireturn, 1) by decide +kernel) rfl

theorem bX12_back_0 {d : Nat} {σ : zS} {Q : Option Value → zS → Prop} (hl : zLay σ) : zCall (d + 1) kX12_back [.ref 131] σ Q ↔ (if (zI σ 131 34) = (0 : Int32) then Q (some (.int (-1))) (zsI σ 131 (upd (zI σ 131) 0 0)) else zW (d + 1) kX12_back 16 [.ref 131, .int 0] [] (zsI σ 131 (upd (zI σ 131) 0 0)) Q) := by
  show zW (d + 1) kX12_back 0 [.ref 131, .retAddr 0] [] σ Q ↔ _
  refine Iff.trans (zw_aload_n (show decode cX12_back 0 = .ok (.aload_n 0, 1) by decide +kernel) rfl) ?_
  refine Iff.trans (zw_iconst (x := 0) (show decode cX12_back 1 = .ok (.iconst 0, 1) by decide +kernel) (by decide)) ?_
  refine Iff.trans (zw_putI (show decode cX12_back 2 = .ok (.putfield 118, 3) by decide +kernel) (by decide +kernel : zfld 12 118 = some (12, 0)) (hl.k2 zk_131) (hl.n2 zk_131) rfl (Or.inl rfl) (σ' := (zsI σ 131 (upd (zI σ 131) 0 0))) rfl) ?_
  refine Iff.trans (zw_aload_n (show decode cX12_back 5 = .ok (.aload_n 0, 1) by decide +kernel) rfl) ?_
  refine Iff.trans (zw_getI (show decode cX12_back 6 = .ok (.getfield 432, 3) by decide +kernel) (by decide +kernel : zfld 12 432 = some (12, 34)) (hl.I.k2 zk_131) (hl.I.n2 zk_131) (Or.inr rfl) (w := zI σ 131 34) (congrFun zI_self 34)) ?_
  refine Iff.trans (zw_if_ne (t := 14) (show decode cX12_back 9 = .ok (.ifCond .ne 5, 3) by decide +kernel) (by decide)) ?_
  refine zw_ite ?_ ?_
  · refine Iff.trans (zw_iconst (x := (-1)) (show decode cX12_back 12 = .ok (.iconst (-1), 1) by decide +kernel) (by decide)) ?_
    exact zw_iret1 (show decode cX12_back 13 = .ok (.ireturn, 1) by decide +kernel) rfl
  · refine Iff.trans (zw_iconst (x := 0) (show decode cX12_back 14 = .ok (.iconst 0, 1) by decide +kernel) (by decide)) ?_
    refine Iff.trans (zw_istore_n (ls' := [.ref 131, .int 0]) (show decode cX12_back 15 = .ok (.istore_n 1, 1) by decide +kernel) (zset_s (Nat.le_of_ble_eq_true rfl) rfl)) ?_
    exact Iff.rfl

theorem bX12_back_16 {d : Nat} {σ : zS} {Q : Option Value → zS → Prop} (hl : zLay σ) {x1 : Int32} : zW (d + 1) kX12_back 16 [.ref 131, .int x1] [] σ Q ↔ (if 66 ≤ x1 then zCall d kX12_copy [.ref 146, .ref 142] σ (fun r σ' => zisN r = true ∧ zW (d + 1) kX12_back 51 [.ref 131, .int x1] (zRstk r ++ []) σ' Q) else (vp_in x1 66 ∧ (vp_in x1 66 ∧ zW (d + 1) kX12_back 16 [.ref 131, .int (x1 + 1)] [] (zsI σ 139 (upd (zI σ 139) (x1 : Int32).toNatClampNeg (zI σ 141 (x1 : Int32).toNatClampNeg))) Q))) := by
  refine Iff.trans (zw_iload_n (show decode cX12_back 16 = .ok (.iload_n 1, 1) by decide +kernel) rfl) ?_
  refine Iff.trans (zw_bipush (x := 66) (show decode cX12_back 17 = .ok (.bipush 66, 2) by decide +kernel) (by decide)) ?_
  refine Iff.trans (zw_icmp_ge (t := 40) (show decode cX12_back 19 = .ok (.if_icmp .ge 21, 3) by decide +kernel) (by decide)) ?_
  refine zw_ite ?_ ?_
  · refine Iff.trans (zw_aload_n (show decode cX12_back 40 = .ok (.aload_n 0, 1) by decide +kernel) rfl) ?_
    refine Iff.trans (zw_get (show decode cX12_back 41 = .ok (.getfield 63, 3) by decide +kernel) (by decide +kernel : zfld 12 63 = some (12, 39)) (hl.k2 zk_131) (hl.n2 zk_131) (zgetR (v := 146) (hl.r zrt_131_39) rfl)) ?_
    refine Iff.trans (zw_aload_n (show decode cX12_back 44 = .ok (.aload_n 0, 1) by decide +kernel) rfl) ?_
    refine Iff.trans (zw_get (show decode cX12_back 45 = .ok (.getfield 51, 3) by decide +kernel) (by decide +kernel : zfld 12 51 = some (12, 35)) (hl.k2 zk_131) (hl.n2 zk_131) (zgetR (v := 142) (hl.r zrt_131_35) rfl)) ?_
    refine Iff.trans (zw_invS (K' := kX12_copy) (as := [.ref 146, .ref 142]) (rest := []) (show decode cX12_back 48 = .ok (.invokestatic 413, 3) by decide +kernel) (by rfl) rfl rfl rfl ⟨Nat.le_of_ble_eq_true rfl, Nat.le_of_ble_eq_true rfl, Nat.le_of_ble_eq_true rfl⟩) ?_
    exact Iff.rfl
  · refine Iff.trans (zw_aload_n (show decode cX12_back 22 = .ok (.aload_n 0, 1) by decide +kernel) rfl) ?_
    refine Iff.trans (zw_get (show decode cX12_back 23 = .ok (.getfield 36, 3) by decide +kernel) (by decide +kernel : zfld 12 36 = some (12, 16)) (hl.k2 zk_131) (hl.n2 zk_131) (zgetR (v := 139) (hl.r zrt_131_16) rfl)) ?_
    refine Iff.trans (zw_iload_n (show decode cX12_back 26 = .ok (.iload_n 1, 1) by decide +kernel) rfl) ?_
    refine Iff.trans (zw_aload_n (show decode cX12_back 27 = .ok (.aload_n 0, 1) by decide +kernel) rfl) ?_
    refine Iff.trans (zw_get (show decode cX12_back 28 = .ok (.getfield 42, 3) by decide +kernel) (by decide +kernel : zfld 12 42 = some (12, 18)) (hl.k2 zk_131) (hl.n2 zk_131) (zgetR (v := 141) (hl.r zrt_131_18) rfl)) ?_
    refine Iff.trans (zw_iload_n (show decode cX12_back 31 = .ok (.iload_n 1, 1) by decide +kernel) rfl) ?_
    refine Iff.trans (zw_iald2 (show decode cX12_back 32 = .ok (.iaload, 1) by decide +kernel) (hl.k2 zk_141) (hl.n2 zk_141) (hl.l2 zk_141 zl_141) (w := zI σ 141 (x1 : Int32).toNatClampNeg) rfl) ?_
    refine zw_and ?_
    refine Iff.trans (zw_iast2 (show decode cX12_back 33 = .ok (.iastore, 1) by decide +kernel) (hl.k2 zk_139) (hl.n2 zk_139) (hl.l2 zk_139 zl_139) (σ' := (zsI σ 139 (upd (zI σ 139) (x1 : Int32).toNatClampNeg (zI σ 141 (x1 : Int32).toNatClampNeg)))) rfl) ?_
    refine zw_and ?_
    refine Iff.trans (zw_iinc (w := 1) (ls' := [.ref 131, .int (x1 + 1)]) (show decode cX12_back 34 = .ok (.iinc 1 1, 3) by decide +kernel) rfl (by decide) (zset_s (Nat.le_of_ble_eq_true rfl) rfl)) ?_
    refine Iff.trans (zw_goto (t := 16) (show decode cX12_back 37 = .ok (.goto (-21), 3) by decide +kernel) (by decide)) ?_
    exact Iff.rfl

theorem bX12_back_51 {d : Nat} {σ : zS} {Q : Option Value → zS → Prop} (hl : zLay σ) {x1 : Int32} : zW (d + 1) kX12_back 51 [.ref 131, .int x1] [] σ Q ↔ zCall d kX12_copy [.ref 147, .ref 143] σ (fun r σ' => zisN r = true ∧ zW (d + 1) kX12_back 62 [.ref 131, .int x1] (zRstk r ++ []) σ' Q) := by
  refine Iff.trans (zw_aload_n (show decode cX12_back 51 = .ok (.aload_n 0, 1) by decide +kernel) rfl) ?_
  refine Iff.trans (zw_get (show decode cX12_back 52 = .ok (.getfield 66, 3) by decide +kernel) (by decide +kernel : zfld 12 66 = some (12, 40)) (hl.k2 zk_131) (hl.n2 zk_131) (zgetR (v := 147) (hl.r zrt_131_40) rfl)) ?_
  refine Iff.trans (zw_aload_n (show decode cX12_back 55 = .ok (.aload_n 0, 1) by decide +kernel) rfl) ?_
  refine Iff.trans (zw_get (show decode cX12_back 56 = .ok (.getfield 54, 3) by decide +kernel) (by decide +kernel : zfld 12 54 = some (12, 36)) (hl.k2 zk_131) (hl.n2 zk_131) (zgetR (v := 143) (hl.r zrt_131_36) rfl)) ?_
  refine Iff.trans (zw_invS (K' := kX12_copy) (as := [.ref 147, .ref 143]) (rest := []) (show decode cX12_back 59 = .ok (.invokestatic 413, 3) by decide +kernel) (by rfl) rfl rfl rfl ⟨Nat.le_of_ble_eq_true rfl, Nat.le_of_ble_eq_true rfl, Nat.le_of_ble_eq_true rfl⟩) ?_
  exact Iff.rfl

theorem bX12_back_62 {d : Nat} {σ : zS} {Q : Option Value → zS → Prop} (hl : zLay σ) {x1 : Int32} : zW (d + 1) kX12_back 62 [.ref 131, .int x1] [] σ Q ↔ zCall d kX12_copy [.ref 148, .ref 144] σ (fun r σ' => zisN r = true ∧ zW (d + 1) kX12_back 73 [.ref 131, .int x1] (zRstk r ++ []) σ' Q) := by
  refine Iff.trans (zw_aload_n (show decode cX12_back 62 = .ok (.aload_n 0, 1) by decide +kernel) rfl) ?_
  refine Iff.trans (zw_get (show decode cX12_back 63 = .ok (.getfield 69, 3) by decide +kernel) (by decide +kernel : zfld 12 69 = some (12, 41)) (hl.k2 zk_131) (hl.n2 zk_131) (zgetR (v := 148) (hl.r zrt_131_41) rfl)) ?_
  refine Iff.trans (zw_aload_n (show decode cX12_back 66 = .ok (.aload_n 0, 1) by decide +kernel) rfl) ?_
  refine Iff.trans (zw_get (show decode cX12_back 67 = .ok (.getfield 57, 3) by decide +kernel) (by decide +kernel : zfld 12 57 = some (12, 37)) (hl.k2 zk_131) (hl.n2 zk_131) (zgetR (v := 144) (hl.r zrt_131_37) rfl)) ?_
  refine Iff.trans (zw_invS (K' := kX12_copy) (as := [.ref 148, .ref 144]) (rest := []) (show decode cX12_back 70 = .ok (.invokestatic 413, 3) by decide +kernel) (by rfl) rfl rfl rfl ⟨Nat.le_of_ble_eq_true rfl, Nat.le_of_ble_eq_true rfl, Nat.le_of_ble_eq_true rfl⟩) ?_
  exact Iff.rfl

theorem bX12_back_73 {d : Nat} {σ : zS} {Q : Option Value → zS → Prop} (hl : zLay σ) {x1 : Int32} : zW (d + 1) kX12_back 73 [.ref 131, .int x1] [] σ Q ↔ zCall d kX12_copy [.ref 149, .ref 145] σ (fun r σ' => zisN r = true ∧ zW (d + 1) kX12_back 84 [.ref 131, .int x1] (zRstk r ++ []) σ' Q) := by
  refine Iff.trans (zw_aload_n (show decode cX12_back 73 = .ok (.aload_n 0, 1) by decide +kernel) rfl) ?_
  refine Iff.trans (zw_get (show decode cX12_back 74 = .ok (.getfield 72, 3) by decide +kernel) (by decide +kernel : zfld 12 72 = some (12, 42)) (hl.k2 zk_131) (hl.n2 zk_131) (zgetR (v := 149) (hl.r zrt_131_42) rfl)) ?_
  refine Iff.trans (zw_aload_n (show decode cX12_back 77 = .ok (.aload_n 0, 1) by decide +kernel) rfl) ?_
  refine Iff.trans (zw_get (show decode cX12_back 78 = .ok (.getfield 60, 3) by decide +kernel) (by decide +kernel : zfld 12 60 = some (12, 38)) (hl.k2 zk_131) (hl.n2 zk_131) (zgetR (v := 145) (hl.r zrt_131_38) rfl)) ?_
  refine Iff.trans (zw_invS (K' := kX12_copy) (as := [.ref 149, .ref 145]) (rest := []) (show decode cX12_back 81 = .ok (.invokestatic 413, 3) by decide +kernel) (by rfl) rfl rfl rfl ⟨Nat.le_of_ble_eq_true rfl, Nat.le_of_ble_eq_true rfl, Nat.le_of_ble_eq_true rfl⟩) ?_
  exact Iff.rfl

theorem bX12_back_84 {d : Nat} {σ : zS} {Q : Option Value → zS → Prop} (hl : zLay σ) {x1 : Int32} : zW (d + 1) kX12_back 84 [.ref 131, .int x1] [] σ Q ↔ Q (some (.int (zI σ 131 29))) (zsL (zsI σ 131 (upd (upd (upd (upd (zI σ 131) 19 (zI σ 131 27)) 20 (zI σ 131 28)) 21 (zI σ 131 29)) 22 (zI σ 131 30))) 131 (vp_updL (zL σ 131) 31 ((zL σ 131) 33))) := by
  refine Iff.trans (zw_aload_n (show decode cX12_back 84 = .ok (.aload_n 0, 1) by decide +kernel) rfl) ?_
  refine Iff.trans (zw_aload_n (show decode cX12_back 85 = .ok (.aload_n 0, 1) by decide +kernel) rfl) ?_
  refine Iff.trans (zw_getI (show decode cX12_back 86 = .ok (.getfield 417, 3) by decide +kernel) (by decide +kernel : zfld 12 417 = some (12, 27)) (hl.k2 zk_131) (hl.n2 zk_131) (Or.inl rfl) (w := zI σ 131 27) rfl) ?_
  refine Iff.trans (zw_putI (show decode cX12_back 89 = .ok (.putfield 45, 3) by decide +kernel) (by decide +kernel : zfld 12 45 = some (12, 19)) (hl.k2 zk_131) (hl.n2 zk_131) rfl (Or.inl rfl) (σ' := (zsI σ 131 (upd (zI σ 131) 19 (zI σ 131 27)))) rfl) ?_
  refine Iff.trans (zw_aload_n (show decode cX12_back 92 = .ok (.aload_n 0, 1) by decide +kernel) rfl) ?_
  refine Iff.trans (zw_aload_n (show decode cX12_back 93 = .ok (.aload_n 0, 1) by decide +kernel) rfl) ?_
  refine Iff.trans (zw_getI (show decode cX12_back 94 = .ok (.getfield 420, 3) by decide +kernel) (by decide +kernel : zfld 12 420 = some (12, 28)) (hl.I.k2 zk_131) (hl.I.n2 zk_131) (Or.inl rfl) (w := zI σ 131 28) (congrFun zI_self 28)) ?_
  refine Iff.trans (zw_putI (show decode cX12_back 97 = .ok (.putfield 222, 3) by decide +kernel) (by decide +kernel : zfld 12 222 = some (12, 20)) (hl.I.k2 zk_131) (hl.I.n2 zk_131) rfl (Or.inl rfl) (σ' := (zsI σ 131 (upd (upd (zI σ 131) 19 (zI σ 131 27)) 20 (zI σ 131 28)))) (Eq.trans (congrArg (fun f => zsI (zsI σ 131 (upd (zI σ 131) 19 (zI σ 131 27))) 131 (upd f 20 (zI σ 131 28))) zI_self) zsI_s)) ?_
  refine Iff.trans (zw_aload_n (show decode cX12_back 100 = .ok (.aload_n 0, 1) by decide +kernel) rfl) ?_
  refine Iff.trans (zw_aload_n (show decode cX12_back 101 = .ok (.aload_n 0, 1) by decide +kernel) rfl) ?_
  refine Iff.trans (zw_getI (show decode cX12_back 102 = .ok (.getfield 423, 3) by decide +kernel) (by decide +kernel : zfld 12 423 = some (12, 29)) (hl.I.k2 zk_131) (hl.I.n2 zk_131) (Or.inl rfl) (w := zI σ 131 29) (congrFun zI_self 29)) ?_
  refine Iff.trans (zw_putI (show decode cX12_back 105 = .ok (.putfield 48, 3) by decide +kernel) (by decide +kernel : zfld 12 48 = some (12, 21)) (hl.I.k2 zk_131) (hl.I.n2 zk_131) rfl (Or.inl rfl) (σ' := (zsI σ 131 (upd (upd (upd (zI σ 131) 19 (zI σ 131 27)) 20 (zI σ 131 28)) 21 (zI σ 131 29)))) (Eq.trans (congrArg (fun f => zsI (zsI σ 131 (upd (upd (zI σ 131) 19 (zI σ 131 27)) 20 (zI σ 131 28))) 131 (upd f 21 (zI σ 131 29))) zI_self) zsI_s)) ?_
  refine Iff.trans (zw_aload_n (show decode cX12_back 108 = .ok (.aload_n 0, 1) by decide +kernel) rfl) ?_
  refine Iff.trans (zw_aload_n (show decode cX12_back 109 = .ok (.aload_n 0, 1) by decide +kernel) rfl) ?_
  refine Iff.trans (zw_getI (show decode cX12_back 110 = .ok (.getfield 426, 3) by decide +kernel) (by decide +kernel : zfld 12 426 = some (12, 30)) (hl.I.k2 zk_131) (hl.I.n2 zk_131) (Or.inl rfl) (w := zI σ 131 30) (congrFun zI_self 30)) ?_
  refine Iff.trans (zw_putI (show decode cX12_back 113 = .ok (.putfield 252, 3) by decide +kernel) (by decide +kernel : zfld 12 252 = some (12, 22)) (hl.I.k2 zk_131) (hl.I.n2 zk_131) rfl (Or.inl rfl) (σ' := (zsI σ 131 (upd (upd (upd (upd (zI σ 131) 19 (zI σ 131 27)) 20 (zI σ 131 28)) 21 (zI σ 131 29)) 22 (zI σ 131 30)))) (Eq.trans (congrArg (fun f => zsI (zsI σ 131 (upd (upd (upd (zI σ 131) 19 (zI σ 131 27)) 20 (zI σ 131 28)) 21 (zI σ 131 29))) 131 (upd f 22 (zI σ 131 30))) zI_self) zsI_s)) ?_
  refine Iff.trans (zw_aload_n (show decode cX12_back 116 = .ok (.aload_n 0, 1) by decide +kernel) rfl) ?_
  refine Iff.trans (zw_aload_n (show decode cX12_back 117 = .ok (.aload_n 0, 1) by decide +kernel) rfl) ?_
  refine Iff.trans (zw_getL (show decode cX12_back 118 = .ok (.getfield 429, 3) by decide +kernel) (by decide +kernel : zfld 12 429 = some (12, 33)) (hl.I.k2 zk_131) (hl.I.n2 zk_131) rfl (w := (zL σ 131) 33) rfl) ?_
  refine Iff.trans (zw_putL (show decode cX12_back 121 = .ok (.putfield 248, 3) by decide +kernel) (by decide +kernel : zfld 12 248 = some (12, 31)) (hl.I.k2 zk_131) (hl.I.n2 zk_131) rfl rfl (σ' := (zsL (zsI σ 131 (upd (upd (upd (upd (zI σ 131) 19 (zI σ 131 27)) 20 (zI σ 131 28)) 21 (zI σ 131 29)) 22 (zI σ 131 30))) 131 (vp_updL (zL σ 131) 31 ((zL σ 131) 33)))) rfl) ?_
  refine Iff.trans (zw_aload_n (show decode cX12_back 124 = .ok (.aload_n 0, 1) by decide +kernel) rfl) ?_
  refine Iff.trans (zw_getI (show decode cX12_back 125 = .ok (.getfield 48, 3) by decide +kernel) (by decide +kernel : zfld 12 48 = some (12, 21)) (hl.I.L.k2 zk_131) (hl.I.L.n2 zk_131) (Or.inl rfl) (w := (zI σ 131 29)) (congrFun (Eq.trans (zI_sL _ _ _ _) zI_self) 21)) ?_
  exact zw_iret1 (show decode cX12_back 128 = .ok (.ireturn, 1) by decide +kernel) rfl

theorem bX12_isTick_0 {d : Nat} {σ : zS} {Q : Option Value → zS → Prop} (hl : zLay σ) {x1 : Int32} : zCall (d + 1) kX12_isTick [.ref 131, .int x1] σ Q ↔ (if (zI σ 131 21) = (-1) then Q (some (.int 0)) σ else zCall d kX12_isIn [.int x1, .int 0, .int (zI σ 131 21)] σ (fun r σ' => zisN r = true ∧ zW (d + 1) kX12_isTick 17 [.ref 131, .int x1] (zRstk r ++ []) σ' Q)) := by
  show zW (d + 1) kX12_isTick 0 [.ref 131, .int x1] [] σ Q ↔ _
  refine Iff.trans (zw_aload_n (show decode cX12_isTick 0 = .ok (.aload_n 0, 1) by decide +kernel) rfl) ?_
  refine Iff.trans (zw_getI (show decode cX12_isTick 1 = .ok (.getfield 48, 3) by decide +kernel) (by decide +kernel : zfld 12 48 = some (12, 21)) (hl.k2 zk_131) (hl.n2 zk_131) (Or.inl rfl) (w := zI σ 131 21) rfl) ?_
  refine Iff.trans (zw_iconst (x := (-1)) (show decode cX12_isTick 4 = .ok (.iconst (-1), 1) by decide +kernel) (by decide)) ?_
  refine Iff.trans (zw_icmp_eq (t := 24) (show decode cX12_isTick 5 = .ok (.if_icmp .eq 19, 3) by decide +kernel) (by decide)) ?_
  refine zw_ite ?_ ?_
  · refine Iff.trans (zw_iconst (x := 0) (show decode cX12_isTick 24 = .ok (.iconst 0, 1) by decide +kernel) (by decide)) ?_
    exact zw_iret2c (show decode cX12_isTick 25 = .ok (.ireturn, 1) by decide +kernel) rfl (Or.inl rfl)
  · refine Iff.trans (zw_iload_n (show decode cX12_isTick 8 = .ok (.iload_n 1, 1) by decide +kernel) rfl) ?_
    refine Iff.trans (zw_iconst (x := 0) (show decode cX12_isTick 9 = .ok (.iconst 0, 1) by decide +kernel) (by decide)) ?_
    refine Iff.trans (zw_aload_n (show decode cX12_isTick 10 = .ok (.aload_n 0, 1) by decide +kernel) rfl) ?_
    refine Iff.trans (zw_getI (show decode cX12_isTick 11 = .ok (.getfield 48, 3) by decide +kernel) (by decide +kernel : zfld 12 48 = some (12, 21)) (hl.k2 zk_131) (hl.n2 zk_131) (Or.inl rfl) (w := zI σ 131 21) rfl) ?_
    refine Iff.trans (zw_invS (K' := kX12_isIn) (as := [.int x1, .int 0, .int (zI σ 131 21)]) (rest := []) (show decode cX12_isTick 14 = .ok (.invokestatic 163, 3) by decide +kernel) (by rfl) rfl rfl rfl ⟨Nat.le_of_ble_eq_true rfl, Nat.le_of_ble_eq_true rfl, Nat.le_of_ble_eq_true rfl⟩) ?_
    exact Iff.rfl

theorem bX12_isTick_17 {d : Nat} {σ : zS} {Q : Option Value → zS → Prop} (hl : zLay σ) {x1 y0 : Int32} : zW (d + 1) kX12_isTick 17 [.ref 131, .int x1] [.int y0] σ Q ↔ (if y0 = (0 : Int32) then Q (some (.int 0)) σ else Q (some (.int 1)) σ) := by
  refine Iff.trans (zw_if_eq (t := 24) (show decode cX12_isTick 17 = .ok (.ifCond .eq 7, 3) by decide +kernel) (by decide)) ?_
  refine zw_ite ?_ ?_
  · refine Iff.trans (zw_iconst (x := 0) (show decode cX12_isTick 24 = .ok (.iconst 0, 1) by decide +kernel) (by decide)) ?_
    exact zw_iret2c (show decode cX12_isTick 25 = .ok (.ireturn, 1) by decide +kernel) rfl (Or.inl rfl)
  · refine Iff.trans (zw_iconst (x := 1) (show decode cX12_isTick 20 = .ok (.iconst 1, 1) by decide +kernel) (by decide)) ?_
    refine Iff.trans (zw_goto (t := 25) (show decode cX12_isTick 21 = .ok (.goto 4, 3) by decide +kernel) (by decide)) ?_
    exact zw_iret2c (show decode cX12_isTick 25 = .ok (.ireturn, 1) by decide +kernel) rfl (Or.inr rfl)

theorem bX12_was_0 {d : Nat} {σ : zS} {Q : Option Value → zS → Prop} (hl : zLay σ) {x1 x2 x3 : Int32} : zCall (d + 1) kX12_was [.ref 131, .int x1, .int x2, .int x3] σ Q ↔ zCall d kX12_isRunner [.ref 131, .int x1] (zsI σ 131 (upd (zI σ 131) 0 0)) (fun r σ' => zisN r = true ∧ zW (d + 1) kX12_was 10 [.ref 131, .int x1, .int x2, .int x3] (zRstk r ++ []) σ' Q) := by
  show zW (d + 1) kX12_was 0 [.ref 131, .int x1, .int x2, .int x3] [] σ Q ↔ _
  refine Iff.trans (zw_aload_n (show decode cX12_was 0 = .ok (.aload_n 0, 1) by decide +kernel) rfl) ?_
  refine Iff.trans (zw_iconst (x := 0) (show decode cX12_was 1 = .ok (.iconst 0, 1) by decide +kernel) (by decide)) ?_
  refine Iff.trans (zw_putI (show decode cX12_was 2 = .ok (.putfield 118, 3) by decide +kernel) (by decide +kernel : zfld 12 118 = some (12, 0)) (hl.k2 zk_131) (hl.n2 zk_131) rfl (Or.inl rfl) (σ' := (zsI σ 131 (upd (zI σ 131) 0 0))) rfl) ?_
  refine Iff.trans (zw_aload_n (show decode cX12_was 5 = .ok (.aload_n 0, 1) by decide +kernel) rfl) ?_
  refine Iff.trans (zw_iload_n (show decode cX12_was 6 = .ok (.iload_n 1, 1) by decide +kernel) rfl) ?_
  refine Iff.trans (zw_invV (K' := kX12_isRunner) (as' := [.int x1]) (rest := []) (show decode cX12_was 7 = .ok (.invokevirtual 313, 3) by decide +kernel) (by rfl) rfl rfl rfl (hl.I.k2 zk_131) (by decide) (hl.I.n2 zk_131) ⟨Nat.le_of_ble_eq_true rfl, Nat.le_of_ble_eq_true rfl, Nat.le_of_ble_eq_true rfl⟩) ?_
  exact Iff.rfl

theorem bX12_was_10 {d : Nat} {σ : zS} {Q : Option Value → zS → Prop} (hl : zLay σ) {x1 x2 x3 y0 : Int32} : zW (d + 1) kX12_was 10 [.ref 131, .int x1, .int x2, .int x3] [.int y0] σ Q ↔ (if y0 = (0 : Int32) then Q (some (.int (-1))) σ else zCall d kX12_isTick [.ref 131, .int x2] σ (fun r σ' => zisN r = true ∧ zW (d + 1) kX12_was 18 [.ref 131, .int x1, .int x2, .int x3] (zRstk r ++ []) σ' Q)) := by
  refine Iff.trans (zw_if_eq (t := 30) (show decode cX12_was 10 = .ok (.ifCond .eq 20, 3) by decide +kernel) (by decide)) ?_
  refine zw_ite ?_ ?_
  · refine Iff.trans (zw_iconst (x := (-1)) (show decode cX12_was 30 = .ok (.iconst (-1), 1) by decide +kernel) (by decide)) ?_
    exact zw_iret1 (show decode cX12_was 31 = .ok (.ireturn, 1) by decide +kernel) rfl
  · refine Iff.trans (zw_aload_n (show decode cX12_was 13 = .ok (.aload_n 0, 1) by decide +kernel) rfl) ?_
    refine Iff.trans (zw_iload_n (show decode cX12_was 14 = .ok (.iload_n 2, 1) by decide +kernel) rfl) ?_
    refine Iff.trans (zw_invV (K' := kX12_isTick) (as' := [.int x2]) (rest := []) (show decode cX12_was 15 = .ok (.invokevirtual 435, 3) by decide +kernel) (by rfl) rfl rfl rfl (hl.k2 zk_131) (by decide) (hl.n2 zk_131) ⟨Nat.le_of_ble_eq_true rfl, Nat.le_of_ble_eq_true rfl, Nat.le_of_ble_eq_true rfl⟩) ?_
    exact Iff.rfl

theorem bX12_was_18 {d : Nat} {σ : zS} {Q : Option Value → zS → Prop} (hl : zLay σ) {x1 x2 x3 y0 : Int32} : zW (d + 1) kX12_was 18 [.ref 131, .int x1, .int x2, .int x3] [.int y0] σ Q ↔ (if y0 = (0 : Int32) then Q (some (.int (-1))) σ else zCall d kX12_isIn [.int x3, .int 0, .int 1] σ (fun r σ' => zisN r = true ∧ zW (d + 1) kX12_was 27 [.ref 131, .int x1, .int x2, .int x3] (zRstk r ++ []) σ' Q)) := by
  refine Iff.trans (zw_if_eq (t := 30) (show decode cX12_was 18 = .ok (.ifCond .eq 12, 3) by decide +kernel) (by decide)) ?_
  refine zw_ite ?_ ?_
  · refine Iff.trans (zw_iconst (x := (-1)) (show decode cX12_was 30 = .ok (.iconst (-1), 1) by decide +kernel) (by decide)) ?_
    exact zw_iret1 (show decode cX12_was 31 = .ok (.ireturn, 1) by decide +kernel) rfl
  · refine Iff.trans (zw_iload_n (show decode cX12_was 21 = .ok (.iload_n 3, 1) by decide +kernel) rfl) ?_
    refine Iff.trans (zw_iconst (x := 0) (show decode cX12_was 22 = .ok (.iconst 0, 1) by decide +kernel) (by decide)) ?_
    refine Iff.trans (zw_iconst (x := 1) (show decode cX12_was 23 = .ok (.iconst 1, 1) by decide +kernel) (by decide)) ?_
    refine Iff.trans (zw_invS (K' := kX12_isIn) (as := [.int x3, .int 0, .int 1]) (rest := []) (show decode cX12_was 24 = .ok (.invokestatic 163, 3) by decide +kernel) (by rfl) rfl rfl rfl ⟨Nat.le_of_ble_eq_true rfl, Nat.le_of_ble_eq_true rfl, Nat.le_of_ble_eq_true rfl⟩) ?_
    exact Iff.rfl

theorem bX12_was_27 {d : Nat} {σ : zS} {Q : Option Value → zS → Prop} (hl : zLay σ) {x1 x2 x3 y0 : Int32} : zW (d + 1) kX12_was 27 [.ref 131, .int x1, .int x2, .int x3] [.int y0] σ Q ↔ (if y0 = (0 : Int32) then Q (some (.int (-1))) σ else (if x3 = (0 : Int32) then (vp_in ((6 * x2) + x1) 366 ∧ Q (some (.int (zI σ 142 ((6 * x2) + x1 : Int32).toNatClampNeg))) σ) else (vp_in ((6 * x2) + x1) 366 ∧ Q (some (.int (zI σ 143 ((6 * x2) + x1 : Int32).toNatClampNeg))) σ))) := by
  refine Iff.trans (zw_if_ne (t := 32) (show decode cX12_was 27 = .ok (.ifCond .ne 5, 3) by decide +kernel) (by decide)) ?_
  refine zw_ite ?_ ?_
  · refine Iff.trans (zw_iconst (x := (-1)) (show decode cX12_was 30 = .ok (.iconst (-1), 1) by decide +kernel) (by decide)) ?_
    exact zw_iret1 (show decode cX12_was 31 = .ok (.ireturn, 1) by decide +kernel) rfl
  · refine Iff.trans (zw_iload_n (show decode cX12_was 32 = .ok (.iload_n 3, 1) by decide +kernel) rfl) ?_
    refine Iff.trans (zw_if_ne (t := 50) (show decode cX12_was 33 = .ok (.ifCond .ne 17, 3) by decide +kernel) (by decide)) ?_
    refine zw_ite ?_ ?_
    · refine Iff.trans (zw_aload_n (show decode cX12_was 36 = .ok (.aload_n 0, 1) by decide +kernel) rfl) ?_
      refine Iff.trans (zw_get (show decode cX12_was 37 = .ok (.getfield 51, 3) by decide +kernel) (by decide +kernel : zfld 12 51 = some (12, 35)) (hl.k2 zk_131) (hl.n2 zk_131) (zgetR (v := 142) (hl.r zrt_131_35) rfl)) ?_
      refine Iff.trans (zw_bipush (x := 6) (show decode cX12_was 40 = .ok (.bipush 6, 2) by decide +kernel) (by decide)) ?_
      refine Iff.trans (zw_iload_n (show decode cX12_was 42 = .ok (.iload_n 2, 1) by decide +kernel) rfl) ?_
      refine Iff.trans (zw_imul (show decode cX12_was 43 = .ok (.imul, 1) by decide +kernel)) ?_
      refine Iff.trans (zw_iload_n (show decode cX12_was 44 = .ok (.iload_n 1, 1) by decide +kernel) rfl) ?_
      refine Iff.trans (zw_iadd (show decode cX12_was 45 = .ok (.iadd, 1) by decide +kernel)) ?_
      refine Iff.trans (zw_iald2 (show decode cX12_was 46 = .ok (.iaload, 1) by decide +kernel) (hl.k2 zk_142) (hl.n2 zk_142) (hl.l2 zk_142 zl_142) (w := zI σ 142 ((6 * x2) + x1 : Int32).toNatClampNeg) rfl) ?_
      refine zw_and ?_
      refine Iff.trans (zw_goto (t := 61) (show decode cX12_was 47 = .ok (.goto 14, 3) by decide +kernel) (by decide)) ?_
      exact zw_iret1 (show decode cX12_was 61 = .ok (.ireturn, 1) by decide +kernel) rfl
    · refine Iff.trans (zw_aload_n (show decode cX12_was 50 = .ok (.aload_n 0, 1) by decide +kernel) rfl) ?_
      refine Iff.trans (zw_get (show decode cX12_was 51 = .ok (.getfield 54, 3) by decide +kernel) (by decide +kernel : zfld 12 54 = some (12, 36)) (hl.k2 zk_131) (hl.n2 zk_131) (zgetR (v := 143) (hl.r zrt_131_36) rfl)) ?_
      refine Iff.trans (zw_bipush (x := 6) (show decode cX12_was 54 = .ok (.bipush 6, 2) by decide +kernel) (by decide)) ?_
      refine Iff.trans (zw_iload_n (show decode cX12_was 56 = .ok (.iload_n 2, 1) by decide +kernel) rfl) ?_
      refine Iff.trans (zw_imul (show decode cX12_was 57 = .ok (.imul, 1) by decide +kernel)) ?_
      refine Iff.trans (zw_iload_n (show decode cX12_was 58 = .ok (.iload_n 1, 1) by decide +kernel) rfl) ?_
      refine Iff.trans (zw_iadd (show decode cX12_was 59 = .ok (.iadd, 1) by decide +kernel)) ?_
      refine Iff.trans (zw_iald2 (show decode cX12_was 60 = .ok (.iaload, 1) by decide +kernel) (hl.k2 zk_143) (hl.n2 zk_143) (hl.l2 zk_143 zl_143) (w := zI σ 143 ((6 * x2) + x1 : Int32).toNatClampNeg) rfl) ?_
      refine zw_and ?_
      exact zw_iret1 (show decode cX12_was 61 = .ok (.ireturn, 1) by decide +kernel) rfl

theorem bX12_passed_0 {d : Nat} {σ : zS} {Q : Option Value → zS → Prop} (hl : zLay σ) {x1 x2 : Int32} : zCall (d + 1) kX12_passed [.ref 131, .int x1, .int x2] σ Q ↔ zCall d kX12_isRunner [.ref 131, .int x1] (zsI σ 131 (upd (zI σ 131) 0 0)) (fun r σ' => zisN r = true ∧ zW (d + 1) kX12_passed 10 [.ref 131, .int x1, .int x2, .retAddr 0] (zRstk r ++ []) σ' Q) := by
  show zW (d + 1) kX12_passed 0 [.ref 131, .int x1, .int x2, .retAddr 0] [] σ Q ↔ _
  refine Iff.trans (zw_aload_n (show decode cX12_passed 0 = .ok (.aload_n 0, 1) by decide +kernel) rfl) ?_
  refine Iff.trans (zw_iconst (x := 0) (show decode cX12_passed 1 = .ok (.iconst 0, 1) by decide +kernel) (by decide)) ?_
  refine Iff.trans (zw_putI (show decode cX12_passed 2 = .ok (.putfield 118, 3) by decide +kernel) (by decide +kernel : zfld 12 118 = some (12, 0)) (hl.k2 zk_131) (hl.n2 zk_131) rfl (Or.inl rfl) (σ' := (zsI σ 131 (upd (zI σ 131) 0 0))) rfl) ?_
  refine Iff.trans (zw_aload_n (show decode cX12_passed 5 = .ok (.aload_n 0, 1) by decide +kernel) rfl) ?_
  refine Iff.trans (zw_iload_n (show decode cX12_passed 6 = .ok (.iload_n 1, 1) by decide +kernel) rfl) ?_
  refine Iff.trans (zw_invV (K' := kX12_isRunner) (as' := [.int x1]) (rest := []) (show decode cX12_passed 7 = .ok (.invokevirtual 313, 3) by decide +kernel) (by rfl) rfl rfl rfl (hl.I.k2 zk_131) (by decide) (hl.I.n2 zk_131) ⟨Nat.le_of_ble_eq_true rfl, Nat.le_of_ble_eq_true rfl, Nat.le_of_ble_eq_true rfl⟩) ?_
  exact Iff.rfl

theorem bX12_passed_10 {d : Nat} {σ : zS} {Q : Option Value → zS → Prop} (hl : zLay σ) {x1 x2 y0 : Int32} : zW (d + 1) kX12_passed 10 [.ref 131, .int x1, .int x2, .retAddr 0] [.int y0] σ Q ↔ (if y0 = (0 : Int32) then Q (some (.int (-1))) σ else (if (zI σ 131 21) = (-1) then Q (some (.int (-1))) σ else zCall d kX12_isIn [.int x2, .int 1, .int 16] σ (fun r σ' => zisN r = true ∧ zW (d + 1) kX12_passed 28 [.ref 131, .int x1, .int x2, .retAddr 0] (zRstk r ++ []) σ' Q))) := by
  refine Iff.trans (zw_if_eq (t := 31) (show decode cX12_passed 10 = .ok (.ifCond .eq 21, 3) by decide +kernel) (by decide)) ?_
  refine zw_ite ?_ ?_
  · refine Iff.trans (zw_iconst (x := (-1)) (show decode cX12_passed 31 = .ok (.iconst (-1), 1) by decide +kernel) (by decide)) ?_
    exact zw_iret1 (show decode cX12_passed 32 = .ok (.ireturn, 1) by decide +kernel) rfl
  · refine Iff.trans (zw_aload_n (show decode cX12_passed 13 = .ok (.aload_n 0, 1) by decide +kernel) rfl) ?_
    refine Iff.trans (zw_getI (show decode cX12_passed 14 = .ok (.getfield 48, 3) by decide +kernel) (by decide +kernel : zfld 12 48 = some (12, 21)) (hl.k2 zk_131) (hl.n2 zk_131) (Or.inl rfl) (w := zI σ 131 21) rfl) ?_
    refine Iff.trans (zw_iconst (x := (-1)) (show decode cX12_passed 17 = .ok (.iconst (-1), 1) by decide +kernel) (by decide)) ?_
    refine Iff.trans (zw_icmp_eq (t := 31) (show decode cX12_passed 18 = .ok (.if_icmp .eq 13, 3) by decide +kernel) (by decide)) ?_
    refine zw_ite ?_ ?_
    · refine Iff.trans (zw_iconst (x := (-1)) (show decode cX12_passed 31 = .ok (.iconst (-1), 1) by decide +kernel) (by decide)) ?_
      exact zw_iret1 (show decode cX12_passed 32 = .ok (.ireturn, 1) by decide +kernel) rfl
    · refine Iff.trans (zw_iload_n (show decode cX12_passed 21 = .ok (.iload_n 2, 1) by decide +kernel) rfl) ?_
      refine Iff.trans (zw_iconst (x := 1) (show decode cX12_passed 22 = .ok (.iconst 1, 1) by decide +kernel) (by decide)) ?_
      refine Iff.trans (zw_bipush (x := 16) (show decode cX12_passed 23 = .ok (.bipush 16, 2) by decide +kernel) (by decide)) ?_
      refine Iff.trans (zw_invS (K' := kX12_isIn) (as := [.int x2, .int 1, .int 16]) (rest := []) (show decode cX12_passed 25 = .ok (.invokestatic 163, 3) by decide +kernel) (by rfl) rfl rfl rfl ⟨Nat.le_of_ble_eq_true rfl, Nat.le_of_ble_eq_true rfl, Nat.le_of_ble_eq_true rfl⟩) ?_
      exact Iff.rfl

theorem bX12_passed_28 {d : Nat} {σ : zS} {Q : Option Value → zS → Prop} (hl : zLay σ) {x1 x2 y0 : Int32} : zW (d + 1) kX12_passed 28 [.ref 131, .int x1, .int x2, .retAddr 0] [.int y0] σ Q ↔ (if y0 = (0 : Int32) then Q (some (.int (-1))) σ else zW (d + 1) kX12_passed 35 [.ref 131, .int x1, .int x2, .int 0] [] σ Q) := by
  refine Iff.trans (zw_if_ne (t := 33) (show decode cX12_passed 28 = .ok (.ifCond .ne 5, 3) by decide +kernel) (by decide)) ?_
  refine zw_ite ?_ ?_
  · refine Iff.trans (zw_iconst (x := (-1)) (show decode cX12_passed 31 = .ok (.iconst (-1), 1) by decide +kernel) (by decide)) ?_
    exact zw_iret1 (show decode cX12_passed 32 = .ok (.ireturn, 1) by decide +kernel) rfl
  · refine Iff.trans (zw_iconst (x := 0) (show decode cX12_passed 33 = .ok (.iconst 0, 1) by decide +kernel) (by decide)) ?_
    refine Iff.trans (zw_istore_n (ls' := [.ref 131, .int x1, .int x2, .int 0]) (show decode cX12_passed 34 = .ok (.istore_n 3, 1) by decide +kernel) (zset_s (Nat.le_of_ble_eq_true rfl) rfl)) ?_
    exact Iff.rfl

theorem bX12_passed_35 {d : Nat} {σ : zS} {Q : Option Value → zS → Prop} (hl : zLay σ) {x1 x2 x3 : Int32} : zW (d + 1) kX12_passed 35 [.ref 131, .int x1, .int x2, .int x3] [] σ Q ↔ (if (zI σ 131 21) < x3 then Q (some (.int (-1))) σ else (vp_in ((6 * x3) + x1) 366 ∧ (if (zI σ 142 ((6 * x3) + x1 : Int32).toNatClampNeg) < x2 then zW (d + 1) kX12_passed 35 [.ref 131, .int x1, .int x2, .int (x3 + 1)] [] σ Q else Q (some (.int x3)) σ))) := by
  refine Iff.trans (zw_iload_n (show decode cX12_passed 35 = .ok (.iload_n 3, 1) by decide +kernel) rfl) ?_
  refine Iff.trans (zw_aload_n (show decode cX12_passed 36 = .ok (.aload_n 0, 1) by decide +kernel) rfl) ?_
  refine Iff.trans (zw_getI (show decode cX12_passed 37 = .ok (.getfield 48, 3) by decide +kernel) (by decide +kernel : zfld 12 48 = some (12, 21)) (hl.k2 zk_131) (hl.n2 zk_131) (Or.inl rfl) (w := zI σ 131 21) rfl) ?_
  refine Iff.trans (zw_icmp_gt (t := 66) (show decode cX12_passed 40 = .ok (.if_icmp .gt 26, 3) by decide +kernel) (by decide)) ?_
  refine zw_ite ?_ ?_
  · refine Iff.trans (zw_iconst (x := (-1)) (show decode cX12_passed 66 = .ok (.iconst (-1), 1) by decide +kernel) (by decide)) ?_
    exact zw_iret1 (show decode cX12_passed 67 = .ok (.ireturn, 1) by decide +kernel) rfl
  · refine Iff.trans (zw_aload_n (show decode cX12_passed 43 = .ok (.aload_n 0, 1) by decide +kernel) rfl) ?_
    refine Iff.trans (zw_get (show decode cX12_passed 44 = .ok (.getfield 51, 3) by decide +kernel) (by decide +kernel : zfld 12 51 = some (12, 35)) (hl.k2 zk_131) (hl.n2 zk_131) (zgetR (v := 142) (hl.r zrt_131_35) rfl)) ?_
    refine Iff.trans (zw_bipush (x := 6) (show decode cX12_passed 47 = .ok (.bipush 6, 2) by decide +kernel) (by decide)) ?_
    refine Iff.trans (zw_iload_n (show decode cX12_passed 49 = .ok (.iload_n 3, 1) by decide +kernel) rfl) ?_
    refine Iff.trans (zw_imul (show decode cX12_passed 50 = .ok (.imul, 1) by decide +kernel)) ?_
    refine Iff.trans (zw_iload_n (show decode cX12_passed 51 = .ok (.iload_n 1, 1) by decide +kernel) rfl) ?_
    refine Iff.trans (zw_iadd (show decode cX12_passed 52 = .ok (.iadd, 1) by decide +kernel)) ?_
    refine Iff.trans (zw_iald2 (show decode cX12_passed 53 = .ok (.iaload, 1) by decide +kernel) (hl.k2 zk_142) (hl.n2 zk_142) (hl.l2 zk_142 zl_142) (w := zI σ 142 ((6 * x3) + x1 : Int32).toNatClampNeg) rfl) ?_
    refine zw_and ?_
    refine Iff.trans (zw_iload_n (show decode cX12_passed 54 = .ok (.iload_n 2, 1) by decide +kernel) rfl) ?_
    refine Iff.trans (zw_icmp_lt (t := 60) (show decode cX12_passed 55 = .ok (.if_icmp .lt 5, 3) by decide +kernel) (by decide)) ?_
    refine zw_ite ?_ ?_
    · refine Iff.trans (zw_iinc (w := 1) (ls' := [.ref 131, .int x1, .int x2, .int (x3 + 1)]) (show decode cX12_passed 60 = .ok (.iinc 3 1, 3) by decide +kernel) rfl (by decide) (zset_s (Nat.le_of_ble_eq_true rfl) rfl)) ?_
      refine Iff.trans (zw_goto (t := 35) (show decode cX12_passed 63 = .ok (.goto (-28), 3) by decide +kernel) (by decide)) ?_
      exact Iff.rfl
    · refine Iff.trans (zw_iload_n (show decode cX12_passed 58 = .ok (.iload_n 3, 1) by decide +kernel) rfl) ?_
      exact zw_iret1 (show decode cX12_passed 59 = .ok (.ireturn, 1) by decide +kernel) rfl

theorem bX12_leader_0 {d : Nat} {σ : zS} {Q : Option Value → zS → Prop} (hl : zLay σ) {x1 : Int32} : zCall (d + 1) kX12_leader [.ref 131, .int x1] σ Q ↔ zCall d kX12_isTick [.ref 131, .int x1] (zsI σ 131 (upd (zI σ 131) 0 0)) (fun r σ' => zisN r = true ∧ zW (d + 1) kX12_leader 10 [.ref 131, .int x1] (zRstk r ++ []) σ' Q) := by
  show zW (d + 1) kX12_leader 0 [.ref 131, .int x1] [] σ Q ↔ _
  refine Iff.trans (zw_aload_n (show decode cX12_leader 0 = .ok (.aload_n 0, 1) by decide +kernel) rfl) ?_
  refine Iff.trans (zw_iconst (x := 0) (show decode cX12_leader 1 = .ok (.iconst 0, 1) by decide +kernel) (by decide)) ?_
  refine Iff.trans (zw_putI (show decode cX12_leader 2 = .ok (.putfield 118, 3) by decide +kernel) (by decide +kernel : zfld 12 118 = some (12, 0)) (hl.k2 zk_131) (hl.n2 zk_131) rfl (Or.inl rfl) (σ' := (zsI σ 131 (upd (zI σ 131) 0 0))) rfl) ?_
  refine Iff.trans (zw_aload_n (show decode cX12_leader 5 = .ok (.aload_n 0, 1) by decide +kernel) rfl) ?_
  refine Iff.trans (zw_iload_n (show decode cX12_leader 6 = .ok (.iload_n 1, 1) by decide +kernel) rfl) ?_
  refine Iff.trans (zw_invV (K' := kX12_isTick) (as' := [.int x1]) (rest := []) (show decode cX12_leader 7 = .ok (.invokevirtual 435, 3) by decide +kernel) (by rfl) rfl rfl rfl (hl.I.k2 zk_131) (by decide) (hl.I.n2 zk_131) ⟨Nat.le_of_ble_eq_true rfl, Nat.le_of_ble_eq_true rfl, Nat.le_of_ble_eq_true rfl⟩) ?_
  exact Iff.rfl

theorem bX12_leader_10 {d : Nat} {σ : zS} {Q : Option Value → zS → Prop} (hl : zLay σ) {x1 y0 : Int32} : zW (d + 1) kX12_leader 10 [.ref 131, .int x1] [.int y0] σ Q ↔ (if y0 = (0 : Int32) then Q (some (.int (-1))) σ else (vp_in x1 61 ∧ Q (some (.int (zI σ 144 (x1 : Int32).toNatClampNeg))) σ)) := by
  refine Iff.trans (zw_if_eq (t := 22) (show decode cX12_leader 10 = .ok (.ifCond .eq 12, 3) by decide +kernel) (by decide)) ?_
  refine zw_ite ?_ ?_
  · refine Iff.trans (zw_iconst (x := (-1)) (show decode cX12_leader 22 = .ok (.iconst (-1), 1) by decide +kernel) (by decide)) ?_
    exact zw_iret1 (show decode cX12_leader 23 = .ok (.ireturn, 1) by decide +kernel) rfl
  · refine Iff.trans (zw_aload_n (show decode cX12_leader 13 = .ok (.aload_n 0, 1) by decide +kernel) rfl) ?_
    refine Iff.trans (zw_get (show decode cX12_leader 14 = .ok (.getfield 57, 3) by decide +kernel) (by decide +kernel : zfld 12 57 = some (12, 37)) (hl.k2 zk_131) (hl.n2 zk_131) (zgetR (v := 144) (hl.r zrt_131_37) rfl)) ?_
    refine Iff.trans (zw_iload_n (show decode cX12_leader 17 = .ok (.iload_n 1, 1) by decide +kernel) rfl) ?_
    refine Iff.trans (zw_iald2 (show decode cX12_leader 18 = .ok (.iaload, 1) by decide +kernel) (hl.k2 zk_144) (hl.n2 zk_144) (hl.l2 zk_144 zl_144) (w := zI σ 144 (x1 : Int32).toNatClampNeg) rfl) ?_
    refine zw_and ?_
    refine Iff.trans (zw_goto (t := 23) (show decode cX12_leader 19 = .ok (.goto 4, 3) by decide +kernel) (by decide)) ?_
    exact zw_iret1 (show decode cX12_leader 23 = .ok (.ireturn, 1) by decide +kernel) rfl

theorem bX12_led_0 {d : Nat} {σ : zS} {Q : Option Value → zS → Prop} (hl : zLay σ) {x1 : Int32} : zCall (d + 1) kX12_led [.ref 131, .int x1] σ Q ↔ (if (zI σ 131 21) = (-1) then Q (some (.int (-1))) (zsI σ 131 (upd (zI σ 131) 0 0)) else (if x1 = (-1) then zW (d + 1) kX12_led 32 [.ref 131, .int x1, .int 0, .int 1] [] (zsI σ 131 (upd (zI σ 131) 0 0)) Q else zCall d kX12_isRunner [.ref 131, .int x1] (zsI σ 131 (upd (zI σ 131) 0 0)) (fun r σ' => zisN r = true ∧ zW (d + 1) kX12_led 23 [.ref 131, .int x1, .retAddr 0, .retAddr 0] (zRstk r ++ []) σ' Q))) := by
  show zW (d + 1) kX12_led 0 [.ref 131, .int x1, .retAddr 0, .retAddr 0] [] σ Q ↔ _
  refine Iff.trans (zw_aload_n (show decode cX12_led 0 = .ok (.aload_n 0, 1) by decide +kernel) rfl) ?_
  refine Iff.trans (zw_iconst (x := 0) (show decode cX12_led 1 = .ok (.iconst 0, 1) by decide +kernel) (by decide)) ?_
  refine Iff.trans (zw_putI (show decode cX12_led 2 = .ok (.putfield 118, 3) by decide +kernel) (by decide +kernel : zfld 12 118 = some (12, 0)) (hl.k2 zk_131) (hl.n2 zk_131) rfl (Or.inl rfl) (σ' := (zsI σ 131 (upd (zI σ 131) 0 0))) rfl) ?_
  refine Iff.trans (zw_aload_n (show decode cX12_led 5 = .ok (.aload_n 0, 1) by decide +kernel) rfl) ?_
  refine Iff.trans (zw_getI (show decode cX12_led 6 = .ok (.getfield 48, 3) by decide +kernel) (by decide +kernel : zfld 12 48 = some (12, 21)) (hl.I.k2 zk_131) (hl.I.n2 zk_131) (Or.inl rfl) (w := zI σ 131 21) (congrFun zI_self 21)) ?_
  refine Iff.trans (zw_iconst (x := (-1)) (show decode cX12_led 9 = .ok (.iconst (-1), 1) by decide +kernel) (by decide)) ?_
  refine Iff.trans (zw_icmp_eq (t := 26) (show decode cX12_led 10 = .ok (.if_icmp .eq 16, 3) by decide +kernel) (by decide)) ?_
  refine zw_ite ?_ ?_
  · refine Iff.trans (zw_iconst (x := (-1)) (show decode cX12_led 26 = .ok (.iconst (-1), 1) by decide +kernel) (by decide)) ?_
    exact zw_iret1 (show decode cX12_led 27 = .ok (.ireturn, 1) by decide +kernel) rfl
  · refine Iff.trans (zw_iload_n (show decode cX12_led 13 = .ok (.iload_n 1, 1) by decide +kernel) rfl) ?_
    refine Iff.trans (zw_iconst (x := (-1)) (show decode cX12_led 14 = .ok (.iconst (-1), 1) by decide +kernel) (by decide)) ?_
    refine Iff.trans (zw_icmp_eq (t := 28) (show decode cX12_led 15 = .ok (.if_icmp .eq 13, 3) by decide +kernel) (by decide)) ?_
    refine zw_ite ?_ ?_
    · refine Iff.trans (zw_iconst (x := 0) (show decode cX12_led 28 = .ok (.iconst 0, 1) by decide +kernel) (by decide)) ?_
      refine Iff.trans (zw_istore_n (ls' := [.ref 131, .int x1, .int 0, .retAddr 0]) (show decode cX12_led 29 = .ok (.istore_n 2, 1) by decide +kernel) (zset_s (Nat.le_of_ble_eq_true rfl) rfl)) ?_
      refine Iff.trans (zw_iconst (x := 1) (show decode cX12_led 30 = .ok (.iconst 1, 1) by decide +kernel) (by decide)) ?_
      refine Iff.trans (zw_istore_n (ls' := [.ref 131, .int x1, .int 0, .int 1]) (show decode cX12_led 31 = .ok (.istore_n 3, 1) by decide +kernel) (zset_s (Nat.le_of_ble_eq_true rfl) rfl)) ?_
      exact Iff.rfl
    · refine Iff.trans (zw_aload_n (show decode cX12_led 18 = .ok (.aload_n 0, 1) by decide +kernel) rfl) ?_
      refine Iff.trans (zw_iload_n (show decode cX12_led 19 = .ok (.iload_n 1, 1) by decide +kernel) rfl) ?_
      refine Iff.trans (zw_invV (K' := kX12_isRunner) (as' := [.int x1]) (rest := []) (show decode cX12_led 20 = .ok (.invokevirtual 313, 3) by decide +kernel) (by rfl) rfl rfl rfl (hl.I.k2 zk_131) (by decide) (hl.I.n2 zk_131) ⟨Nat.le_of_ble_eq_true rfl, Nat.le_of_ble_eq_true rfl, Nat.le_of_ble_eq_true rfl⟩) ?_
      exact Iff.rfl

theorem bX12_led_23 {d : Nat} {σ : zS} {Q : Option Value → zS → Prop} (hl : zLay σ) {x1 y0 : Int32} : zW (d + 1) kX12_led 23 [.ref 131, .int x1, .retAddr 0, .retAddr 0] [.int y0] σ Q ↔ (if y0 = (0 : Int32) then Q (some (.int (-1))) σ else zW (d + 1) kX12_led 32 [.ref 131, .int x1, .int 0, .int 1] [] σ Q) := by
  refine Iff.trans (zw_if_ne (t := 28) (show decode cX12_led 23 = .ok (.ifCond .ne 5, 3) by decide +kernel) (by decide)) ?_
  refine zw_ite ?_ ?_
  · refine Iff.trans (zw_iconst (x := (-1)) (show decode cX12_led 26 = .ok (.iconst (-1), 1) by decide +kernel) (by decide)) ?_
    exact zw_iret1 (show decode cX12_led 27 = .ok (.ireturn, 1) by decide +kernel) rfl
  · refine Iff.trans (zw_iconst (x := 0) (show decode cX12_led 28 = .ok (.iconst 0, 1) by decide +kernel) (by decide)) ?_
    refine Iff.trans (zw_istore_n (ls' := [.ref 131, .int x1, .int 0, .retAddr 0]) (show decode cX12_led 29 = .ok (.istore_n 2, 1) by decide +kernel) (zset_s (Nat.le_of_ble_eq_true rfl) rfl)) ?_
    refine Iff.trans (zw_iconst (x := 1) (show decode cX12_led 30 = .ok (.iconst 1, 1) by decide +kernel) (by decide)) ?_
    refine Iff.trans (zw_istore_n (ls' := [.ref 131, .int x1, .int 0, .int 1]) (show decode cX12_led 31 = .ok (.istore_n 3, 1) by decide +kernel) (zset_s (Nat.le_of_ble_eq_true rfl) rfl)) ?_
    exact Iff.rfl

theorem bX12_led_32 {d : Nat} {σ : zS} {Q : Option Value → zS → Prop} (hl : zLay σ) {x1 x2 x3 : Int32} : zW (d + 1) kX12_led 32 [.ref 131, .int x1, .int x2, .int x3] [] σ Q ↔ (if (zI σ 131 21) < x3 then Q (some (.int x2)) σ else (if x1 = (-1) then (if x3 ≤ 1 then zW (d + 1) kX12_led 32 [.ref 131, .int x1, .int (x2 + 0), .int (x3 + 1)] [] σ Q else (vp_in x3 61 ∧ (vp_in (x3 - 1) 61 ∧ (if (zI σ 144 (x3 : Int32).toNatClampNeg) = (zI σ 144 (x3 - 1 : Int32).toNatClampNeg) then zW (d + 1) kX12_led 32 [.ref 131, .int x1, .int (x2 + 0), .int (x3 + 1)] [] σ Q else zW (d + 1) kX12_led 32 [.ref 131, .int x1, .int (x2 + 1), .int (x3 + 1)] [] σ Q)))) else (vp_in x3 61 ∧ (if (zI σ 144 (x3 : Int32).toNatClampNeg) = x1 then zW (d + 1) kX12_led 32 [.ref 131, .int x1, .int (x2 + 1), .int (x3 + 1)] [] σ Q else zW (d + 1) kX12_led 32 [.ref 131, .int x1, .int (x2 + 0), .int (x3 + 1)] [] σ Q)))) := by
  refine Iff.trans (zw_iload_n (show decode cX12_led 32 = .ok (.iload_n 3, 1) by decide +kernel) rfl) ?_
  refine Iff.trans (zw_aload_n (show decode cX12_led 33 = .ok (.aload_n 0, 1) by decide +kernel) rfl) ?_
  refine Iff.trans (zw_getI (show decode cX12_led 34 = .ok (.getfield 48, 3) by decide +kernel) (by decide +kernel : zfld 12 48 = some (12, 21)) (hl.k2 zk_131) (hl.n2 zk_131) (Or.inl rfl) (w := zI σ 131 21) rfl) ?_
  refine Iff.trans (zw_icmp_gt (t := 94) (show decode cX12_led 37 = .ok (.if_icmp .gt 57, 3) by decide +kernel) (by decide)) ?_
  refine zw_ite ?_ ?_
  · refine Iff.trans (zw_iload_n (show decode cX12_led 94 = .ok (.iload_n 2, 1) by decide +kernel) rfl) ?_
    exact zw_iret1 (show decode cX12_led 95 = .ok (.ireturn, 1) by decide +kernel) rfl
  · refine Iff.trans (zw_iload_n (show decode cX12_led 40 = .ok (.iload_n 2, 1) by decide +kernel) rfl) ?_
    refine Iff.trans (zw_iload_n (show decode cX12_led 41 = .ok (.iload_n 1, 1) by decide +kernel) rfl) ?_
    refine Iff.trans (zw_iconst (x := (-1)) (show decode cX12_led 42 = .ok (.iconst (-1), 1) by decide +kernel) (by decide)) ?_
    refine Iff.trans (zw_icmp_ne (t := 71) (show decode cX12_led 43 = .ok (.if_icmp .ne 28, 3) by decide +kernel) (by decide)) ?_
    refine zw_ite ?_ ?_
    · refine Iff.trans (zw_iload_n (show decode cX12_led 46 = .ok (.iload_n 3, 1) by decide +kernel) rfl) ?_
      refine Iff.trans (zw_iconst (x := 1) (show decode cX12_led 47 = .ok (.iconst 1, 1) by decide +kernel) (by decide)) ?_
      refine Iff.trans (zw_icmp_le (t := 85) (show decode cX12_led 48 = .ok (.if_icmp .le 37, 3) by decide +kernel) (by decide)) ?_
      refine zw_ite ?_ ?_
      · refine Iff.trans (zw_iconst (x := 0) (show decode cX12_led 85 = .ok (.iconst 0, 1) by decide +kernel) (by decide)) ?_
        refine Iff.trans (zw_iadd (show decode cX12_led 86 = .ok (.iadd, 1) by decide +kernel)) ?_
        refine Iff.trans (zw_istore_n (ls' := [.ref 131, .int x1, .int (x2 + 0), .int x3]) (show decode cX12_led 87 = .ok (.istore_n 2, 1) by decide +kernel) (zset_s (Nat.le_of_ble_eq_true rfl) rfl)) ?_
        refine Iff.trans (zw_iinc (w := 1) (ls' := [.ref 131, .int x1, .int (x2 + 0), .int (x3 + 1)]) (show decode cX12_led 88 = .ok (.iinc 3 1, 3) by decide +kernel) rfl (by decide) (zset_s (Nat.le_of_ble_eq_true rfl) rfl)) ?_
        refine Iff.trans (zw_goto (t := 32) (show decode cX12_led 91 = .ok (.goto (-59), 3) by decide +kernel) (by decide)) ?_
        exact Iff.rfl
      · refine Iff.trans (zw_aload_n (show decode cX12_led 51 = .ok (.aload_n 0, 1) by decide +kernel) rfl) ?_
        refine Iff.trans (zw_get (show decode cX12_led 52 = .ok (.getfield 57, 3) by decide +kernel) (by decide +kernel : zfld 12 57 = some (12, 37)) (hl.k2 zk_131) (hl.n2 zk_131) (zgetR (v := 144) (hl.r zrt_131_37) rfl)) ?_
        refine Iff.trans (zw_iload_n (show decode cX12_led 55 = .ok (.iload_n 3, 1) by decide +kernel) rfl) ?_
        refine Iff.trans (zw_iald2 (show decode cX12_led 56 = .ok (.iaload, 1) by decide +kernel) (hl.k2 zk_144) (hl.n2 zk_144) (hl.l2 zk_144 zl_144) (w := zI σ 144 (x3 : Int32).toNatClampNeg) rfl) ?_
        refine zw_and ?_
        refine Iff.trans (zw_aload_n (show decode cX12_led 57 = .ok (.aload_n 0, 1) by decide +kernel) rfl) ?_
        refine Iff.trans (zw_get (show decode cX12_led 58 = .ok (.getfield 57, 3) by decide +kernel) (by decide +kernel : zfld 12 57 = some (12, 37)) (hl.k2 zk_131) (hl.n2 zk_131) (zgetR (v := 144) (hl.r zrt_131_37) rfl)) ?_
        refine Iff.trans (zw_iload_n (show decode cX12_led 61 = .ok (.iload_n 3, 1) by decide +kernel) rfl) ?_
        refine Iff.trans (zw_iconst (x := 1) (show decode cX12_led 62 = .ok (.iconst 1, 1) by decide +kernel) (by decide)) ?_
        refine Iff.trans (zw_isub (show decode cX12_led 63 = .ok (.isub, 1) by decide +kernel)) ?_
        refine Iff.trans (zw_iald2 (show decode cX12_led 64 = .ok (.iaload, 1) by decide +kernel) (hl.k2 zk_144) (hl.n2 zk_144) (hl.l2 zk_144 zl_144) (w := zI σ 144 (x3 - 1 : Int32).toNatClampNeg) rfl) ?_
        refine zw_and ?_
        refine Iff.trans (zw_icmp_eq (t := 85) (show decode cX12_led 65 = .ok (.if_icmp .eq 20, 3) by decide +kernel) (by decide)) ?_
        refine zw_ite ?_ ?_
        · refine Iff.trans (zw_iconst (x := 0) (show decode cX12_led 85 = .ok (.iconst 0, 1) by decide +kernel) (by decide)) ?_
          refine Iff.trans (zw_iadd (show decode cX12_led 86 = .ok (.iadd, 1) by decide +kernel)) ?_
          refine Iff.trans (zw_istore_n (ls' := [.ref 131, .int x1, .int (x2 + 0), .int x3]) (show decode cX12_led 87 = .ok (.istore_n 2, 1) by decide +kernel) (zset_s (Nat.le_of_ble_eq_true rfl) rfl)) ?_
          refine Iff.trans (zw_iinc (w := 1) (ls' := [.ref 131, .int x1, .int (x2 + 0), .int (x3 + 1)]) (show decode cX12_led 88 = .ok (.iinc 3 1, 3) by decide +kernel) rfl (by decide) (zset_s (Nat.le_of_ble_eq_true rfl) rfl)) ?_
          refine Iff.trans (zw_goto (t := 32) (show decode cX12_led 91 = .ok (.goto (-59), 3) by decide +kernel) (by decide)) ?_
          exact Iff.rfl
        · refine Iff.trans (zw_goto (t := 81) (show decode cX12_led 68 = .ok (.goto 13, 3) by decide +kernel) (by decide)) ?_
          refine Iff.trans (zw_iconst (x := 1) (show decode cX12_led 81 = .ok (.iconst 1, 1) by decide +kernel) (by decide)) ?_
          refine Iff.trans (zw_goto (t := 86) (show decode cX12_led 82 = .ok (.goto 4, 3) by decide +kernel) (by decide)) ?_
          refine Iff.trans (zw_iadd (show decode cX12_led 86 = .ok (.iadd, 1) by decide +kernel)) ?_
          refine Iff.trans (zw_istore_n (ls' := [.ref 131, .int x1, .int (x2 + 1), .int x3]) (show decode cX12_led 87 = .ok (.istore_n 2, 1) by decide +kernel) (zset_s (Nat.le_of_ble_eq_true rfl) rfl)) ?_
          refine Iff.trans (zw_iinc (w := 1) (ls' := [.ref 131, .int x1, .int (x2 + 1), .int (x3 + 1)]) (show decode cX12_led 88 = .ok (.iinc 3 1, 3) by decide +kernel) rfl (by decide) (zset_s (Nat.le_of_ble_eq_true rfl) rfl)) ?_
          refine Iff.trans (zw_goto (t := 32) (show decode cX12_led 91 = .ok (.goto (-59), 3) by decide +kernel) (by decide)) ?_
          exact Iff.rfl
    · refine Iff.trans (zw_aload_n (show decode cX12_led 71 = .ok (.aload_n 0, 1) by decide +kernel) rfl) ?_
      refine Iff.trans (zw_get (show decode cX12_led 72 = .ok (.getfield 57, 3) by decide +kernel) (by decide +kernel : zfld 12 57 = some (12, 37)) (hl.k2 zk_131) (hl.n2 zk_131) (zgetR (v := 144) (hl.r zrt_131_37) rfl)) ?_
      refine Iff.trans (zw_iload_n (show decode cX12_led 75 = .ok (.iload_n 3, 1) by decide +kernel) rfl) ?_
      refine Iff.trans (zw_iald2 (show decode cX12_led 76 = .ok (.iaload, 1) by decide +kernel) (hl.k2 zk_144) (hl.n2 zk_144) (hl.l2 zk_144 zl_144) (w := zI σ 144 (x3 : Int32).toNatClampNeg) rfl) ?_
      refine zw_and ?_
      refine Iff.trans (zw_iload_n (show decode cX12_led 77 = .ok (.iload_n 1, 1) by decide +kernel) rfl) ?_
      refine Iff.trans (zw_icmp_ne (t := 85) (show decode cX12_led 78 = .ok (.if_icmp .ne 7, 3) by decide +kernel) (by decide)) ?_
      refine zw_ite ?_ ?_
      · refine Iff.trans (zw_iconst (x := 1) (show decode cX12_led 81 = .ok (.iconst 1, 1) by decide +kernel) (by decide)) ?_
        refine Iff.trans (zw_goto (t := 86) (show decode cX12_led 82 = .ok (.goto 4, 3) by decide +kernel) (by decide)) ?_
        refine Iff.trans (zw_iadd (show decode cX12_led 86 = .ok (.iadd, 1) by decide +kernel)) ?_
        refine Iff.trans (zw_istore_n (ls' := [.ref 131, .int x1, .int (x2 + 1), .int x3]) (show decode cX12_led 87 = .ok (.istore_n 2, 1) by decide +kernel) (zset_s (Nat.le_of_ble_eq_true rfl) rfl)) ?_
        refine Iff.trans (zw_iinc (w := 1) (ls' := [.ref 131, .int x1, .int (x2 + 1), .int (x3 + 1)]) (show decode cX12_led 88 = .ok (.iinc 3 1, 3) by decide +kernel) rfl (by decide) (zset_s (Nat.le_of_ble_eq_true rfl) rfl)) ?_
        refine Iff.trans (zw_goto (t := 32) (show decode cX12_led 91 = .ok (.goto (-59), 3) by decide +kernel) (by decide)) ?_
        exact Iff.rfl
      · refine Iff.trans (zw_iconst (x := 0) (show decode cX12_led 85 = .ok (.iconst 0, 1) by decide +kernel) (by decide)) ?_
        refine Iff.trans (zw_iadd (show decode cX12_led 86 = .ok (.iadd, 1) by decide +kernel)) ?_
        refine Iff.trans (zw_istore_n (ls' := [.ref 131, .int x1, .int (x2 + 0), .int x3]) (show decode cX12_led 87 = .ok (.istore_n 2, 1) by decide +kernel) (zset_s (Nat.le_of_ble_eq_true rfl) rfl)) ?_
        refine Iff.trans (zw_iinc (w := 1) (ls' := [.ref 131, .int x1, .int (x2 + 0), .int (x3 + 1)]) (show decode cX12_led 88 = .ok (.iinc 3 1, 3) by decide +kernel) rfl (by decide) (zset_s (Nat.le_of_ble_eq_true rfl) rfl)) ?_
        refine Iff.trans (zw_goto (t := 32) (show decode cX12_led 91 = .ok (.goto (-59), 3) by decide +kernel) (by decide)) ?_
        exact Iff.rfl

theorem bX12_struck_0 {d : Nat} {σ : zS} {Q : Option Value → zS → Prop} (hl : zLay σ) {x1 : Int32} : zCall (d + 1) kX12_struck [.ref 131, .int x1] σ Q ↔ (if (zI σ 131 21) = (-1) then Q (some (.int (-1))) (zsI σ 131 (upd (zI σ 131) 0 0)) else (if x1 = (-1) then zW (d + 1) kX12_struck 30 [.ref 131, .int x1, .retAddr 0, .retAddr 0] [] (zsI σ 131 (upd (zI σ 131) 0 0)) Q else zCall d kX12_isIn [.int x1, .int 0, .int 15] (zsI σ 131 (upd (zI σ 131) 0 0)) (fun r σ' => zisN r = true ∧ zW (d + 1) kX12_struck 25 [.ref 131, .int x1, .retAddr 0, .retAddr 0] (zRstk r ++ []) σ' Q))) := by
  show zW (d + 1) kX12_struck 0 [.ref 131, .int x1, .retAddr 0, .retAddr 0] [] σ Q ↔ _
  refine Iff.trans (zw_aload_n (show decode cX12_struck 0 = .ok (.aload_n 0, 1) by decide +kernel) rfl) ?_
  refine Iff.trans (zw_iconst (x := 0) (show decode cX12_struck 1 = .ok (.iconst 0, 1) by decide +kernel) (by decide)) ?_
  refine Iff.trans (zw_putI (show decode cX12_struck 2 = .ok (.putfield 118, 3) by decide +kernel) (by decide +kernel : zfld 12 118 = some (12, 0)) (hl.k2 zk_131) (hl.n2 zk_131) rfl (Or.inl rfl) (σ' := (zsI σ 131 (upd (zI σ 131) 0 0))) rfl) ?_
  refine Iff.trans (zw_aload_n (show decode cX12_struck 5 = .ok (.aload_n 0, 1) by decide +kernel) rfl) ?_
  refine Iff.trans (zw_getI (show decode cX12_struck 6 = .ok (.getfield 48, 3) by decide +kernel) (by decide +kernel : zfld 12 48 = some (12, 21)) (hl.I.k2 zk_131) (hl.I.n2 zk_131) (Or.inl rfl) (w := zI σ 131 21) (congrFun zI_self 21)) ?_
  refine Iff.trans (zw_iconst (x := (-1)) (show decode cX12_struck 9 = .ok (.iconst (-1), 1) by decide +kernel) (by decide)) ?_
  refine Iff.trans (zw_icmp_eq (t := 28) (show decode cX12_struck 10 = .ok (.if_icmp .eq 18, 3) by decide +kernel) (by decide)) ?_
  refine zw_ite ?_ ?_
  · refine Iff.trans (zw_iconst (x := (-1)) (show decode cX12_struck 28 = .ok (.iconst (-1), 1) by decide +kernel) (by decide)) ?_
    exact zw_iret1 (show decode cX12_struck 29 = .ok (.ireturn, 1) by decide +kernel) rfl
  · refine Iff.trans (zw_iload_n (show decode cX12_struck 13 = .ok (.iload_n 1, 1) by decide +kernel) rfl) ?_
    refine Iff.trans (zw_iconst (x := (-1)) (show decode cX12_struck 14 = .ok (.iconst (-1), 1) by decide +kernel) (by decide)) ?_
    refine Iff.trans (zw_icmp_eq (t := 30) (show decode cX12_struck 15 = .ok (.if_icmp .eq 15, 3) by decide +kernel) (by decide)) ?_
    refine zw_ite ?_ ?_
    · exact Iff.rfl
    · refine Iff.trans (zw_iload_n (show decode cX12_struck 18 = .ok (.iload_n 1, 1) by decide +kernel) rfl) ?_
      refine Iff.trans (zw_iconst (x := 0) (show decode cX12_struck 19 = .ok (.iconst 0, 1) by decide +kernel) (by decide)) ?_
      refine Iff.trans (zw_bipush (x := 15) (show decode cX12_struck 20 = .ok (.bipush 15, 2) by decide +kernel) (by decide)) ?_
      refine Iff.trans (zw_invS (K' := kX12_isIn) (as := [.int x1, .int 0, .int 15]) (rest := []) (show decode cX12_struck 22 = .ok (.invokestatic 163, 3) by decide +kernel) (by rfl) rfl rfl rfl ⟨Nat.le_of_ble_eq_true rfl, Nat.le_of_ble_eq_true rfl, Nat.le_of_ble_eq_true rfl⟩) ?_
      exact Iff.rfl

theorem bX12_struck_25 {d : Nat} {σ : zS} {Q : Option Value → zS → Prop} (hl : zLay σ) {x1 y0 : Int32} : zW (d + 1) kX12_struck 25 [.ref 131, .int x1, .retAddr 0, .retAddr 0] [.int y0] σ Q ↔ (if y0 = (0 : Int32) then Q (some (.int (-1))) σ else zW (d + 1) kX12_struck 30 [.ref 131, .int x1, .retAddr 0, .retAddr 0] [] σ Q) := by
  refine Iff.trans (zw_if_ne (t := 30) (show decode cX12_struck 25 = .ok (.ifCond .ne 5, 3) by decide +kernel) (by decide)) ?_
  refine zw_ite ?_ ?_
  · refine Iff.trans (zw_iconst (x := (-1)) (show decode cX12_struck 28 = .ok (.iconst (-1), 1) by decide +kernel) (by decide)) ?_
    exact zw_iret1 (show decode cX12_struck 29 = .ok (.ireturn, 1) by decide +kernel) rfl
  · exact Iff.rfl

theorem bX12_struck_30 {d : Nat} {σ : zS} {Q : Option Value → zS → Prop} (hl : zLay σ) {x1 : Int32} : zW (d + 1) kX12_struck 30 [.ref 131, .int x1, .retAddr 0, .retAddr 0] [] σ Q ↔ (if x1 = (-1) then zW (d + 1) kX12_struck 46 [.ref 131, .int x1, .int 0, .int 1] [] σ Q else (vp_in x1 16 ∧ Q (some (.int (zI σ 145 (x1 : Int32).toNatClampNeg))) σ)) := by
  refine Iff.trans (zw_iload_n (show decode cX12_struck 30 = .ok (.iload_n 1, 1) by decide +kernel) rfl) ?_
  refine Iff.trans (zw_iconst (x := (-1)) (show decode cX12_struck 31 = .ok (.iconst (-1), 1) by decide +kernel) (by decide)) ?_
  refine Iff.trans (zw_icmp_eq (t := 42) (show decode cX12_struck 32 = .ok (.if_icmp .eq 10, 3) by decide +kernel) (by decide)) ?_
  refine zw_ite ?_ ?_
  · refine Iff.trans (zw_iconst (x := 0) (show decode cX12_struck 42 = .ok (.iconst 0, 1) by decide +kernel) (by decide)) ?_
    refine Iff.trans (zw_istore_n (ls' := [.ref 131, .int x1, .int 0, .retAddr 0]) (show decode cX12_struck 43 = .ok (.istore_n 2, 1) by decide +kernel) (zset_s (Nat.le_of_ble_eq_true rfl) rfl)) ?_
    refine Iff.trans (zw_iconst (x := 1) (show decode cX12_struck 44 = .ok (.iconst 1, 1) by decide +kernel) (by decide)) ?_
    refine Iff.trans (zw_istore_n (ls' := [.ref 131, .int x1, .int 0, .int 1]) (show decode cX12_struck 45 = .ok (.istore_n 3, 1) by decide +kernel) (zset_s (Nat.le_of_ble_eq_true rfl) rfl)) ?_
    exact Iff.rfl
  · refine Iff.trans (zw_aload_n (show decode cX12_struck 35 = .ok (.aload_n 0, 1) by decide +kernel) rfl) ?_
    refine Iff.trans (zw_get (show decode cX12_struck 36 = .ok (.getfield 60, 3) by decide +kernel) (by decide +kernel : zfld 12 60 = some (12, 38)) (hl.k2 zk_131) (hl.n2 zk_131) (zgetR (v := 145) (hl.r zrt_131_38) rfl)) ?_
    refine Iff.trans (zw_iload_n (show decode cX12_struck 39 = .ok (.iload_n 1, 1) by decide +kernel) rfl) ?_
    refine Iff.trans (zw_iald2 (show decode cX12_struck 40 = .ok (.iaload, 1) by decide +kernel) (hl.k2 zk_145) (hl.n2 zk_145) (hl.l2 zk_145 zl_145) (w := zI σ 145 (x1 : Int32).toNatClampNeg) rfl) ?_
    refine zw_and ?_
    exact zw_iret1 (show decode cX12_struck 41 = .ok (.ireturn, 1) by decide +kernel) rfl

theorem bX12_struck_46 {d : Nat} {σ : zS} {Q : Option Value → zS → Prop} (hl : zLay σ) {x1 x2 x3 : Int32} : zW (d + 1) kX12_struck 46 [.ref 131, .int x1, .int x2, .int x3] [] σ Q ↔ (if 16 ≤ x3 then (vp_in x2 16 ∧ (if (zI σ 145 (x2 : Int32).toNatClampNeg) = (0 : Int32) then Q (some (.int (-1))) σ else Q (some (.int x2)) σ)) else (vp_in x3 16 ∧ (vp_in x2 16 ∧ (if (zI σ 145 (x3 : Int32).toNatClampNeg) ≤ (zI σ 145 (x2 : Int32).toNatClampNeg) then zW (d + 1) kX12_struck 46 [.ref 131, .int x1, .int x2, .int (x3 + 1)] [] σ Q else zW (d + 1) kX12_struck 46 [.ref 131, .int x1, .int x3, .int (x3 + 1)] [] σ Q)))) := by
  refine Iff.trans (zw_iload_n (show decode cX12_struck 46 = .ok (.iload_n 3, 1) by decide +kernel) rfl) ?_
  refine Iff.trans (zw_bipush (x := 16) (show decode cX12_struck 47 = .ok (.bipush 16, 2) by decide +kernel) (by decide)) ?_
  refine Iff.trans (zw_icmp_ge (t := 75) (show decode cX12_struck 49 = .ok (.if_icmp .ge 26, 3) by decide +kernel) (by decide)) ?_
  refine zw_ite ?_ ?_
  · refine Iff.trans (zw_aload_n (show decode cX12_struck 75 = .ok (.aload_n 0, 1) by decide +kernel) rfl) ?_
    refine Iff.trans (zw_get (show decode cX12_struck 76 = .ok (.getfield 60, 3) by decide +kernel) (by decide +kernel : zfld 12 60 = some (12, 38)) (hl.k2 zk_131) (hl.n2 zk_131) (zgetR (v := 145) (hl.r zrt_131_38) rfl)) ?_
    refine Iff.trans (zw_iload_n (show decode cX12_struck 79 = .ok (.iload_n 2, 1) by decide +kernel) rfl) ?_
    refine Iff.trans (zw_iald2 (show decode cX12_struck 80 = .ok (.iaload, 1) by decide +kernel) (hl.k2 zk_145) (hl.n2 zk_145) (hl.l2 zk_145 zl_145) (w := zI σ 145 (x2 : Int32).toNatClampNeg) rfl) ?_
    refine zw_and ?_
    refine Iff.trans (zw_if_ne (t := 88) (show decode cX12_struck 81 = .ok (.ifCond .ne 7, 3) by decide +kernel) (by decide)) ?_
    refine zw_ite ?_ ?_
    · refine Iff.trans (zw_iconst (x := (-1)) (show decode cX12_struck 84 = .ok (.iconst (-1), 1) by decide +kernel) (by decide)) ?_
      refine Iff.trans (zw_goto (t := 89) (show decode cX12_struck 85 = .ok (.goto 4, 3) by decide +kernel) (by decide)) ?_
      exact zw_iret1 (show decode cX12_struck 89 = .ok (.ireturn, 1) by decide +kernel) rfl
    · refine Iff.trans (zw_iload_n (show decode cX12_struck 88 = .ok (.iload_n 2, 1) by decide +kernel) rfl) ?_
      exact zw_iret1 (show decode cX12_struck 89 = .ok (.ireturn, 1) by decide +kernel) rfl
  · refine Iff.trans (zw_aload_n (show decode cX12_struck 52 = .ok (.aload_n 0, 1) by decide +kernel) rfl) ?_
    refine Iff.trans (zw_get (show decode cX12_struck 53 = .ok (.getfield 60, 3) by decide +kernel) (by decide +kernel : zfld 12 60 = some (12, 38)) (hl.k2 zk_131) (hl.n2 zk_131) (zgetR (v := 145) (hl.r zrt_131_38) rfl)) ?_
    refine Iff.trans (zw_iload_n (show decode cX12_struck 56 = .ok (.iload_n 3, 1) by decide +kernel) rfl) ?_
    refine Iff.trans (zw_iald2 (show decode cX12_struck 57 = .ok (.iaload, 1) by decide +kernel) (hl.k2 zk_145) (hl.n2 zk_145) (hl.l2 zk_145 zl_145) (w := zI σ 145 (x3 : Int32).toNatClampNeg) rfl) ?_
    refine zw_and ?_
    refine Iff.trans (zw_aload_n (show decode cX12_struck 58 = .ok (.aload_n 0, 1) by decide +kernel) rfl) ?_
    refine Iff.trans (zw_get (show decode cX12_struck 59 = .ok (.getfield 60, 3) by decide +kernel) (by decide +kernel : zfld 12 60 = some (12, 38)) (hl.k2 zk_131) (hl.n2 zk_131) (zgetR (v := 145) (hl.r zrt_131_38) rfl)) ?_
    refine Iff.trans (zw_iload_n (show decode cX12_struck 62 = .ok (.iload_n 2, 1) by decide +kernel) rfl) ?_
    refine Iff.trans (zw_iald2 (show decode cX12_struck 63 = .ok (.iaload, 1) by decide +kernel) (hl.k2 zk_145) (hl.n2 zk_145) (hl.l2 zk_145 zl_145) (w := zI σ 145 (x2 : Int32).toNatClampNeg) rfl) ?_
    refine zw_and ?_
    refine Iff.trans (zw_icmp_le (t := 69) (show decode cX12_struck 64 = .ok (.if_icmp .le 5, 3) by decide +kernel) (by decide)) ?_
    refine zw_ite ?_ ?_
    · refine Iff.trans (zw_iinc (w := 1) (ls' := [.ref 131, .int x1, .int x2, .int (x3 + 1)]) (show decode cX12_struck 69 = .ok (.iinc 3 1, 3) by decide +kernel) rfl (by decide) (zset_s (Nat.le_of_ble_eq_true rfl) rfl)) ?_
      refine Iff.trans (zw_goto (t := 46) (show decode cX12_struck 72 = .ok (.goto (-26), 3) by decide +kernel) (by decide)) ?_
      exact Iff.rfl
    · refine Iff.trans (zw_iload_n (show decode cX12_struck 67 = .ok (.iload_n 3, 1) by decide +kernel) rfl) ?_
      refine Iff.trans (zw_istore_n (ls' := [.ref 131, .int x1, .int x3, .int x3]) (show decode cX12_struck 68 = .ok (.istore_n 2, 1) by decide +kernel) (zset_s (Nat.le_of_ble_eq_true rfl) rfl)) ?_
      refine Iff.trans (zw_iinc (w := 1) (ls' := [.ref 131, .int x1, .int x3, .int (x3 + 1)]) (show decode cX12_struck 69 = .ok (.iinc 3 1, 3) by decide +kernel) rfl (by decide) (zset_s (Nat.le_of_ble_eq_true rfl) rfl)) ?_
      refine Iff.trans (zw_goto (t := 46) (show decode cX12_struck 72 = .ok (.goto (-26), 3) by decide +kernel) (by decide)) ?_
      exact Iff.rfl

theorem bX12_turns_0 {d : Nat} {σ : zS} {Q : Option Value → zS → Prop} (hl : zLay σ) {x1 : Int32} : zCall (d + 1) kX12_turns [.ref 131, .int x1] σ Q ↔ zW (d + 1) kX12_turns 2 [.ref 131, .int x1, .int 0, .retAddr 0] [] σ Q := by
  show zW (d + 1) kX12_turns 0 [.ref 131, .int x1, .retAddr 0, .retAddr 0] [] σ Q ↔ _
  refine Iff.trans (zw_iconst (x := 0) (show decode cX12_turns 0 = .ok (.iconst 0, 1) by decide +kernel) (by decide)) ?_
  refine Iff.trans (zw_istore_n (ls' := [.ref 131, .int x1, .int 0, .retAddr 0]) (show decode cX12_turns 1 = .ok (.istore_n 2, 1) by decide +kernel) (zset_s (Nat.le_of_ble_eq_true rfl) rfl)) ?_
  exact Iff.rfl

theorem bX12_turns_2 {d : Nat} {σ : zS} {Q : Option Value → zS → Prop} (hl : zLay σ) {x1 x2 : Int32} : zW (d + 1) kX12_turns 2 [.ref 131, .int x1, .int x2, .retAddr 0] [] σ Q ↔ (if (zI σ 131 20) ≤ x2 then zW (d + 1) kX12_turns 37 [.ref 131, .int x1, .int 0, .retAddr 0] [] σ Q else (¬ (zI σ 131 20) = (0 : Int32) ∧ (vp_in ((x2 + x1) - (x2 + x1) / (zI σ 131 20) * (zI σ 131 20)) 6 ∧ zCall d kX12_set [.ref 131, .int x2, .int 3, .int (zI σ 160 ((x2 + x1) - (x2 + x1) / (zI σ 131 20) * (zI σ 131 20) : Int32).toNatClampNeg)] σ (fun r σ' => zisN r = true ∧ zW (d + 1) kX12_turns 29 [.ref 131, .int x1, .int x2, .retAddr 0] (zRstk r ++ []) σ' Q)))) := by
  refine Iff.trans (zw_iload_n (show decode cX12_turns 2 = .ok (.iload_n 2, 1) by decide +kernel) rfl) ?_
  refine Iff.trans (zw_aload_n (show decode cX12_turns 3 = .ok (.aload_n 0, 1) by decide +kernel) rfl) ?_
  refine Iff.trans (zw_getI (show decode cX12_turns 4 = .ok (.getfield 222, 3) by decide +kernel) (by decide +kernel : zfld 12 222 = some (12, 20)) (hl.k2 zk_131) (hl.n2 zk_131) (Or.inl rfl) (w := zI σ 131 20) rfl) ?_
  refine Iff.trans (zw_icmp_ge (t := 35) (show decode cX12_turns 7 = .ok (.if_icmp .ge 28, 3) by decide +kernel) (by decide)) ?_
  refine zw_ite ?_ ?_
  · refine Iff.trans (zw_iconst (x := 0) (show decode cX12_turns 35 = .ok (.iconst 0, 1) by decide +kernel) (by decide)) ?_
    refine Iff.trans (zw_istore_n (ls' := [.ref 131, .int x1, .int 0, .retAddr 0]) (show decode cX12_turns 36 = .ok (.istore_n 2, 1) by decide +kernel) (zset_s (Nat.le_of_ble_eq_true rfl) rfl)) ?_
    exact Iff.rfl
  · refine Iff.trans (zw_aload_n (show decode cX12_turns 10 = .ok (.aload_n 0, 1) by decide +kernel) rfl) ?_
    refine Iff.trans (zw_iload_n (show decode cX12_turns 11 = .ok (.iload_n 2, 1) by decide +kernel) rfl) ?_
    refine Iff.trans (zw_iconst (x := 3) (show decode cX12_turns 12 = .ok (.iconst 3, 1) by decide +kernel) (by decide)) ?_
    refine Iff.trans (zw_aload_n (show decode cX12_turns 13 = .ok (.aload_n 0, 1) by decide +kernel) rfl) ?_
    refine Iff.trans (zw_get (show decode cX12_turns 14 = .ok (.getfield 106, 3) by decide +kernel) (by decide +kernel : zfld 12 106 = some (12, 56)) (hl.k2 zk_131) (hl.n2 zk_131) (zgetR (v := 160) (hl.r zrt_131_56) rfl)) ?_
    refine Iff.trans (zw_iload_n (show decode cX12_turns 17 = .ok (.iload_n 2, 1) by decide +kernel) rfl) ?_
    refine Iff.trans (zw_iload_n (show decode cX12_turns 18 = .ok (.iload_n 1, 1) by decide +kernel) rfl) ?_
    refine Iff.trans (zw_iadd (show decode cX12_turns 19 = .ok (.iadd, 1) by decide +kernel)) ?_
    refine Iff.trans (zw_aload_n (show decode cX12_turns 20 = .ok (.aload_n 0, 1) by decide +kernel) rfl) ?_
    refine Iff.trans (zw_getI (show decode cX12_turns 21 = .ok (.getfield 222, 3) by decide +kernel) (by decide +kernel : zfld 12 222 = some (12, 20)) (hl.k2 zk_131) (hl.n2 zk_131) (Or.inl rfl) (w := zI σ 131 20) rfl) ?_
    refine Iff.trans (zw_irem (show decode cX12_turns 24 = .ok (.irem, 1) by decide +kernel)) ?_
    refine zw_and ?_
    refine Iff.trans (zw_iald2 (show decode cX12_turns 25 = .ok (.iaload, 1) by decide +kernel) (hl.k2 zk_160) (hl.n2 zk_160) (hl.l2 zk_160 zl_160) (w := zI σ 160 ((x2 + x1) - (x2 + x1) / (zI σ 131 20) * (zI σ 131 20) : Int32).toNatClampNeg) rfl) ?_
    refine zw_and ?_
    refine Iff.trans (zw_invV (K' := kX12_set) (as' := [.int x2, .int 3, .int (zI σ 160 ((x2 + x1) - (x2 + x1) / (zI σ 131 20) * (zI σ 131 20) : Int32).toNatClampNeg)]) (rest := []) (show decode cX12_turns 26 = .ok (.invokevirtual 225, 3) by decide +kernel) (by rfl) rfl rfl rfl (hl.k2 zk_131) (by decide) (hl.n2 zk_131) ⟨Nat.le_of_ble_eq_true rfl, Nat.le_of_ble_eq_true rfl, Nat.le_of_ble_eq_true rfl⟩) ?_
    exact Iff.rfl

theorem bX12_turns_29 {d : Nat} {σ : zS} {Q : Option Value → zS → Prop} (hl : zLay σ) {x1 x2 : Int32} : zW (d + 1) kX12_turns 29 [.ref 131, .int x1, .int x2, .retAddr 0] [] σ Q ↔ zW (d + 1) kX12_turns 2 [.ref 131, .int x1, .int (x2 + 1), .retAddr 0] [] σ Q := by
  refine Iff.trans (zw_iinc (w := 1) (ls' := [.ref 131, .int x1, .int (x2 + 1), .retAddr 0]) (show decode cX12_turns 29 = .ok (.iinc 2 1, 3) by decide +kernel) rfl (by decide) (zset_s (Nat.le_of_ble_eq_true rfl) rfl)) ?_
  refine Iff.trans (zw_goto (t := 2) (show decode cX12_turns 32 = .ok (.goto (-30), 3) by decide +kernel) (by decide)) ?_
  exact Iff.rfl

theorem bX12_turns_37 {d : Nat} {σ : zS} {Q : Option Value → zS → Prop} (hl : zLay σ) {x1 x2 : Int32} {v3 : Value} (hv3 : v3.category = 1) : zW (d + 1) kX12_turns 37 [.ref 131, .int x1, .int x2, v3] [] σ Q ↔ (if (zI σ 131 20) ≤ x2 then Q (some (.int 1)) σ else zCall d kX12_of [.ref 131, .int x2, .int 0] σ (fun r σ' => zisN r = true ∧ zW (d + 1) kX12_turns 56 [.ref 131, .int x1, .int x2, v3] (zRstk r ++ [.int (zI σ 131 19), .ref 131]) σ' Q)) := by
  refine Iff.trans (zw_iload_n (show decode cX12_turns 37 = .ok (.iload_n 2, 1) by decide +kernel) rfl) ?_
  refine Iff.trans (zw_aload_n (show decode cX12_turns 38 = .ok (.aload_n 0, 1) by decide +kernel) rfl) ?_
  refine Iff.trans (zw_getI (show decode cX12_turns 39 = .ok (.getfield 222, 3) by decide +kernel) (by decide +kernel : zfld 12 222 = some (12, 20)) (hl.k2 zk_131) (hl.n2 zk_131) (Or.inl rfl) (w := zI σ 131 20) rfl) ?_
  refine Iff.trans (zw_icmp_ge (t := 122) (show decode cX12_turns 42 = .ok (.if_icmp .ge 80, 3) by decide +kernel) (by decide)) ?_
  refine zw_ite ?_ ?_
  · refine Iff.trans (zw_iconst (x := 1) (show decode cX12_turns 122 = .ok (.iconst 1, 1) by decide +kernel) (by decide)) ?_
    exact zw_iret2c (show decode cX12_turns 123 = .ok (.ireturn, 1) by decide +kernel) rfl (Or.inr rfl)
  · refine Iff.trans (zw_aload_n (show decode cX12_turns 45 = .ok (.aload_n 0, 1) by decide +kernel) rfl) ?_
    refine Iff.trans (zw_aload_n (show decode cX12_turns 46 = .ok (.aload_n 0, 1) by decide +kernel) rfl) ?_
    refine Iff.trans (zw_getI (show decode cX12_turns 47 = .ok (.getfield 45, 3) by decide +kernel) (by decide +kernel : zfld 12 45 = some (12, 19)) (hl.k2 zk_131) (hl.n2 zk_131) (Or.inl rfl) (w := zI σ 131 19) rfl) ?_
    refine Iff.trans (zw_aload_n (show decode cX12_turns 50 = .ok (.aload_n 0, 1) by decide +kernel) rfl) ?_
    refine Iff.trans (zw_iload_n (show decode cX12_turns 51 = .ok (.iload_n 2, 1) by decide +kernel) rfl) ?_
    refine Iff.trans (zw_iconst (x := 0) (show decode cX12_turns 52 = .ok (.iconst 0, 1) by decide +kernel) (by decide)) ?_
    refine Iff.trans (zw_invV (K' := kX12_of) (as' := [.int x2, .int 0]) (rest := [.int (zI σ 131 19), .ref 131]) (show decode cX12_turns 53 = .ok (.invokevirtual 229, 3) by decide +kernel) (by rfl) rfl rfl rfl (hl.k2 zk_131) (by decide) (hl.n2 zk_131) ⟨Nat.le_of_ble_eq_true rfl, Nat.le_of_ble_eq_true rfl, Nat.le_of_ble_eq_true rfl⟩) ?_
    exact Iff.rfl

theorem bX12_turns_56 {d : Nat} {σ : zS} {Q : Option Value → zS → Prop} (hl : zLay σ) {x1 x2 y0 y1 : Int32} {v3 : Value} (hv3 : v3.category = 1) : zW (d + 1) kX12_turns 56 [.ref 131, .int x1, .int x2, v3] [.int y0, .int y1, .ref 131] σ Q ↔ zCall d kX12_of [.ref 131, .int x2, .int 3] σ (fun r σ' => zisN r = true ∧ zW (d + 1) kX12_turns 63 [.ref 131, .int x1, .int x2, v3] (zRstk r ++ [.int 0, .int y0, .int y1, .ref 131]) σ' Q) := by
  refine Iff.trans (zw_iconst (x := 0) (show decode cX12_turns 56 = .ok (.iconst 0, 1) by decide +kernel) (by decide)) ?_
  refine Iff.trans (zw_aload_n (show decode cX12_turns 57 = .ok (.aload_n 0, 1) by decide +kernel) rfl) ?_
  refine Iff.trans (zw_iload_n (show decode cX12_turns 58 = .ok (.iload_n 2, 1) by decide +kernel) rfl) ?_
  refine Iff.trans (zw_iconst (x := 3) (show decode cX12_turns 59 = .ok (.iconst 3, 1) by decide +kernel) (by decide)) ?_
  refine Iff.trans (zw_invV (K' := kX12_of) (as' := [.int x2, .int 3]) (rest := [.int 0, .int y0, .int y1, .ref 131]) (show decode cX12_turns 60 = .ok (.invokevirtual 229, 3) by decide +kernel) (by rfl) rfl rfl rfl (hl.k2 zk_131) (by decide) (hl.n2 zk_131) ⟨Nat.le_of_ble_eq_true rfl, Nat.le_of_ble_eq_true rfl, Nat.le_of_ble_eq_true rfl⟩) ?_
  exact Iff.rfl

theorem bX12_turns_63 {d : Nat} {σ : zS} {Q : Option Value → zS → Prop} (hl : zLay σ) {x1 x2 y0 y1 y2 y3 : Int32} {v3 : Value} (hv3 : v3.category = 1) : zW (d + 1) kX12_turns 63 [.ref 131, .int x1, .int x2, v3] [.int y0, .int y1, .int y2, .int y3, .ref 131] σ Q ↔ zCall d kX12_canLie [.ref 131, .int y3, .int y2, .int y1, .int y0] σ (fun r σ' => zisN r = true ∧ zW (d + 1) kX12_turns 66 [.ref 131, .int x1, .int x2, v3] (zRstk r ++ []) σ' Q) := by
  refine Iff.trans (zw_invV (K' := kX12_canLie) (as' := [.int y3, .int y2, .int y1, .int y0]) (rest := []) (show decode cX12_turns 63 = .ok (.invokevirtual 218, 3) by decide +kernel) (by rfl) rfl rfl rfl (hl.k2 zk_131) (by decide) (hl.n2 zk_131) ⟨Nat.le_of_ble_eq_true rfl, Nat.le_of_ble_eq_true rfl, Nat.le_of_ble_eq_true rfl⟩) ?_
  exact Iff.rfl

theorem bX12_turns_66 {d : Nat} {σ : zS} {Q : Option Value → zS → Prop} (hl : zLay σ) {x1 x2 y0 : Int32} {v3 : Value} (hv3 : v3.category = 1) : zW (d + 1) kX12_turns 66 [.ref 131, .int x1, .int x2, v3] [.int y0] σ Q ↔ (if y0 = (0 : Int32) then Q (some (.int 0)) σ else zW (d + 1) kX12_turns 73 [.ref 131, .int x1, .int x2, .int 0] [] σ Q) := by
  refine Iff.trans (zw_if_ne (t := 71) (show decode cX12_turns 66 = .ok (.ifCond .ne 5, 3) by decide +kernel) (by decide)) ?_
  refine zw_ite ?_ ?_
  · refine Iff.trans (zw_iconst (x := 0) (show decode cX12_turns 69 = .ok (.iconst 0, 1) by decide +kernel) (by decide)) ?_
    exact zw_iret2c (show decode cX12_turns 70 = .ok (.ireturn, 1) by decide +kernel) rfl (Or.inl rfl)
  · refine Iff.trans (zw_iconst (x := 0) (show decode cX12_turns 71 = .ok (.iconst 0, 1) by decide +kernel) (by decide)) ?_
    refine Iff.trans (zw_istore_n (ls' := [.ref 131, .int x1, .int x2, .int 0]) (show decode cX12_turns 72 = .ok (.istore_n 3, 1) by decide +kernel) (zset_s (Nat.le_of_ble_eq_true rfl) rfl)) ?_
    exact Iff.rfl

theorem bX12_turns_73 {d : Nat} {σ : zS} {Q : Option Value → zS → Prop} (hl : zLay σ) {x1 x2 x3 : Int32} : zW (d + 1) kX12_turns 73 [.ref 131, .int x1, .int x2, .int x3] [] σ Q ↔ (if x2 ≤ x3 then zW (d + 1) kX12_turns 37 [.ref 131, .int x1, .int (x2 + 1), .int x3] [] σ Q else zCall d kX12_of [.ref 131, .int x2, .int 3] σ (fun r σ' => zisN r = true ∧ zW (d + 1) kX12_turns 84 [.ref 131, .int x1, .int x2, .int x3] (zRstk r ++ []) σ' Q)) := by
  refine Iff.trans (zw_iload_n (show decode cX12_turns 73 = .ok (.iload_n 3, 1) by decide +kernel) rfl) ?_
  refine Iff.trans (zw_iload_n (show decode cX12_turns 74 = .ok (.iload_n 2, 1) by decide +kernel) rfl) ?_
  refine Iff.trans (zw_icmp_ge (t := 116) (show decode cX12_turns 75 = .ok (.if_icmp .ge 41, 3) by decide +kernel) (by decide)) ?_
  refine zw_ite ?_ ?_
  · refine Iff.trans (zw_iinc (w := 1) (ls' := [.ref 131, .int x1, .int (x2 + 1), .int x3]) (show decode cX12_turns 116 = .ok (.iinc 2 1, 3) by decide +kernel) rfl (by decide) (zset_s (Nat.le_of_ble_eq_true rfl) rfl)) ?_
    refine Iff.trans (zw_goto (t := 37) (show decode cX12_turns 119 = .ok (.goto (-82), 3) by decide +kernel) (by decide)) ?_
    exact Iff.rfl
  · refine Iff.trans (zw_aload_n (show decode cX12_turns 78 = .ok (.aload_n 0, 1) by decide +kernel) rfl) ?_
    refine Iff.trans (zw_iload_n (show decode cX12_turns 79 = .ok (.iload_n 2, 1) by decide +kernel) rfl) ?_
    refine Iff.trans (zw_iconst (x := 3) (show decode cX12_turns 80 = .ok (.iconst 3, 1) by decide +kernel) (by decide)) ?_
    refine Iff.trans (zw_invV (K' := kX12_of) (as' := [.int x2, .int 3]) (rest := []) (show decode cX12_turns 81 = .ok (.invokevirtual 229, 3) by decide +kernel) (by rfl) rfl rfl rfl (hl.k2 zk_131) (by decide) (hl.n2 zk_131) ⟨Nat.le_of_ble_eq_true rfl, Nat.le_of_ble_eq_true rfl, Nat.le_of_ble_eq_true rfl⟩) ?_
    exact Iff.rfl

theorem bX12_turns_84 {d : Nat} {σ : zS} {Q : Option Value → zS → Prop} (hl : zLay σ) {x1 x2 x3 y0 : Int32} : zW (d + 1) kX12_turns 84 [.ref 131, .int x1, .int x2, .int x3] [.int y0] σ Q ↔ zCall d kX12_of [.ref 131, .int x2, .int 0] σ (fun r σ' => zisN r = true ∧ zW (d + 1) kX12_turns 90 [.ref 131, .int x1, .int x2, .int x3] (zRstk r ++ [.int y0]) σ' Q) := by
  refine Iff.trans (zw_aload_n (show decode cX12_turns 84 = .ok (.aload_n 0, 1) by decide +kernel) rfl) ?_
  refine Iff.trans (zw_iload_n (show decode cX12_turns 85 = .ok (.iload_n 2, 1) by decide +kernel) rfl) ?_
  refine Iff.trans (zw_iconst (x := 0) (show decode cX12_turns 86 = .ok (.iconst 0, 1) by decide +kernel) (by decide)) ?_
  refine Iff.trans (zw_invV (K' := kX12_of) (as' := [.int x2, .int 0]) (rest := [.int y0]) (show decode cX12_turns 87 = .ok (.invokevirtual 229, 3) by decide +kernel) (by rfl) rfl rfl rfl (hl.k2 zk_131) (by decide) (hl.n2 zk_131) ⟨Nat.le_of_ble_eq_true rfl, Nat.le_of_ble_eq_true rfl, Nat.le_of_ble_eq_true rfl⟩) ?_
  exact Iff.rfl

theorem bX12_turns_90 {d : Nat} {σ : zS} {Q : Option Value → zS → Prop} (hl : zLay σ) {x1 x2 x3 y0 y1 : Int32} : zW (d + 1) kX12_turns 90 [.ref 131, .int x1, .int x2, .int x3] [.int y0, .int y1] σ Q ↔ zCall d kX12_of [.ref 131, .int x3, .int 3] σ (fun r σ' => zisN r = true ∧ zW (d + 1) kX12_turns 96 [.ref 131, .int x1, .int x2, .int x3] (zRstk r ++ [.int y0, .int y1]) σ' Q) := by
  refine Iff.trans (zw_aload_n (show decode cX12_turns 90 = .ok (.aload_n 0, 1) by decide +kernel) rfl) ?_
  refine Iff.trans (zw_iload_n (show decode cX12_turns 91 = .ok (.iload_n 3, 1) by decide +kernel) rfl) ?_
  refine Iff.trans (zw_iconst (x := 3) (show decode cX12_turns 92 = .ok (.iconst 3, 1) by decide +kernel) (by decide)) ?_
  refine Iff.trans (zw_invV (K' := kX12_of) (as' := [.int x3, .int 3]) (rest := [.int y0, .int y1]) (show decode cX12_turns 93 = .ok (.invokevirtual 229, 3) by decide +kernel) (by rfl) rfl rfl rfl (hl.k2 zk_131) (by decide) (hl.n2 zk_131) ⟨Nat.le_of_ble_eq_true rfl, Nat.le_of_ble_eq_true rfl, Nat.le_of_ble_eq_true rfl⟩) ?_
  exact Iff.rfl

theorem bX12_turns_96 {d : Nat} {σ : zS} {Q : Option Value → zS → Prop} (hl : zLay σ) {x1 x2 x3 y0 y1 y2 : Int32} : zW (d + 1) kX12_turns 96 [.ref 131, .int x1, .int x2, .int x3] [.int y0, .int y1, .int y2] σ Q ↔ zCall d kX12_of [.ref 131, .int x3, .int 0] σ (fun r σ' => zisN r = true ∧ zW (d + 1) kX12_turns 102 [.ref 131, .int x1, .int x2, .int x3] (zRstk r ++ [.int y0, .int y1, .int y2]) σ' Q) := by
  refine Iff.trans (zw_aload_n (show decode cX12_turns 96 = .ok (.aload_n 0, 1) by decide +kernel) rfl) ?_
  refine Iff.trans (zw_iload_n (show decode cX12_turns 97 = .ok (.iload_n 3, 1) by decide +kernel) rfl) ?_
  refine Iff.trans (zw_iconst (x := 0) (show decode cX12_turns 98 = .ok (.iconst 0, 1) by decide +kernel) (by decide)) ?_
  refine Iff.trans (zw_invV (K' := kX12_of) (as' := [.int x3, .int 0]) (rest := [.int y0, .int y1, .int y2]) (show decode cX12_turns 99 = .ok (.invokevirtual 229, 3) by decide +kernel) (by rfl) rfl rfl rfl (hl.k2 zk_131) (by decide) (hl.n2 zk_131) ⟨Nat.le_of_ble_eq_true rfl, Nat.le_of_ble_eq_true rfl, Nat.le_of_ble_eq_true rfl⟩) ?_
  exact Iff.rfl

theorem bX12_turns_102 {d : Nat} {σ : zS} {Q : Option Value → zS → Prop} (hl : zLay σ) {x1 x2 x3 y0 y1 y2 y3 : Int32} : zW (d + 1) kX12_turns 102 [.ref 131, .int x1, .int x2, .int x3] [.int y0, .int y1, .int y2, .int y3] σ Q ↔ zCall d kX12_areApart [.int y3, .int y2, .int y1, .int y0] σ (fun r σ' => zisN r = true ∧ zW (d + 1) kX12_turns 105 [.ref 131, .int x1, .int x2, .int x3] (zRstk r ++ []) σ' Q) := by
  refine Iff.trans (zw_invS (K' := kX12_areApart) (as := [.int y3, .int y2, .int y1, .int y0]) (rest := []) (show decode cX12_turns 102 = .ok (.invokestatic 368, 3) by decide +kernel) (by rfl) rfl rfl rfl ⟨Nat.le_of_ble_eq_true rfl, Nat.le_of_ble_eq_true rfl, Nat.le_of_ble_eq_true rfl⟩) ?_
  exact Iff.rfl

theorem bX12_turns_105 {d : Nat} {σ : zS} {Q : Option Value → zS → Prop} (hl : zLay σ) {x1 x2 x3 y0 : Int32} : zW (d + 1) kX12_turns 105 [.ref 131, .int x1, .int x2, .int x3] [.int y0] σ Q ↔ (if y0 = (0 : Int32) then Q (some (.int 0)) σ else zW (d + 1) kX12_turns 73 [.ref 131, .int x1, .int x2, .int (x3 + 1)] [] σ Q) := by
  refine Iff.trans (zw_if_ne (t := 110) (show decode cX12_turns 105 = .ok (.ifCond .ne 5, 3) by decide +kernel) (by decide)) ?_
  refine zw_ite ?_ ?_
  · refine Iff.trans (zw_iconst (x := 0) (show decode cX12_turns 108 = .ok (.iconst 0, 1) by decide +kernel) (by decide)) ?_
    exact zw_iret2c (show decode cX12_turns 109 = .ok (.ireturn, 1) by decide +kernel) rfl (Or.inl rfl)
  · refine Iff.trans (zw_iinc (w := 1) (ls' := [.ref 131, .int x1, .int x2, .int (x3 + 1)]) (show decode cX12_turns 110 = .ok (.iinc 3 1, 3) by decide +kernel) rfl (by decide) (zset_s (Nat.le_of_ble_eq_true rfl) rfl)) ?_
    refine Iff.trans (zw_goto (t := 73) (show decode cX12_turns 113 = .ok (.goto (-40), 3) by decide +kernel) (by decide)) ?_
    exact Iff.rfl

theorem bX12_rounds_0 {d : Nat} {σ : zS} {Q : Option Value → zS → Prop} (hl : zLay σ) {x1 x2 x3 : Int32} : zCall (d + 1) kX12_rounds [.ref 131, .int x1, .int x2, .int x3] σ Q ↔ zCall d kX12_isRunner [.ref 131, .int x1] (zsI σ 131 (upd (zI σ 131) 0 0)) (fun r σ' => zisN r = true ∧ zW (d + 1) kX12_rounds 10 [.ref 131, .int x1, .int x2, .int x3, .retAddr 0, .retAddr 0] (zRstk r ++ []) σ' Q) := by
  show zW (d + 1) kX12_rounds 0 [.ref 131, .int x1, .int x2, .int x3, .retAddr 0, .retAddr 0] [] σ Q ↔ _
  refine Iff.trans (zw_aload_n (show decode cX12_rounds 0 = .ok (.aload_n 0, 1) by decide +kernel) rfl) ?_
  refine Iff.trans (zw_iconst (x := 0) (show decode cX12_rounds 1 = .ok (.iconst 0, 1) by decide +kernel) (by decide)) ?_
  refine Iff.trans (zw_putI (show decode cX12_rounds 2 = .ok (.putfield 118, 3) by decide +kernel) (by decide +kernel : zfld 12 118 = some (12, 0)) (hl.k2 zk_131) (hl.n2 zk_131) rfl (Or.inl rfl) (σ' := (zsI σ 131 (upd (zI σ 131) 0 0))) rfl) ?_
  refine Iff.trans (zw_aload_n (show decode cX12_rounds 5 = .ok (.aload_n 0, 1) by decide +kernel) rfl) ?_
  refine Iff.trans (zw_iload_n (show decode cX12_rounds 6 = .ok (.iload_n 1, 1) by decide +kernel) rfl) ?_
  refine Iff.trans (zw_invV (K' := kX12_isRunner) (as' := [.int x1]) (rest := []) (show decode cX12_rounds 7 = .ok (.invokevirtual 313, 3) by decide +kernel) (by rfl) rfl rfl rfl (hl.I.k2 zk_131) (by decide) (hl.I.n2 zk_131) ⟨Nat.le_of_ble_eq_true rfl, Nat.le_of_ble_eq_true rfl, Nat.le_of_ble_eq_true rfl⟩) ?_
  exact Iff.rfl

theorem bX12_rounds_10 {d : Nat} {σ : zS} {Q : Option Value → zS → Prop} (hl : zLay σ) {x1 x2 x3 y0 : Int32} : zW (d + 1) kX12_rounds 10 [.ref 131, .int x1, .int x2, .int x3, .retAddr 0, .retAddr 0] [.int y0] σ Q ↔ (if y0 = (0 : Int32) then Q (some (.int (-1))) σ else zCall d kX12_isIn [.int x2, .int 1, .int 40] σ (fun r σ' => zisN r = true ∧ zW (d + 1) kX12_rounds 20 [.ref 131, .int x1, .int x2, .int x3, .retAddr 0, .retAddr 0] (zRstk r ++ []) σ' Q)) := by
  refine Iff.trans (zw_if_eq (t := 32) (show decode cX12_rounds 10 = .ok (.ifCond .eq 22, 3) by decide +kernel) (by decide)) ?_
  refine zw_ite ?_ ?_
  · refine Iff.trans (zw_iconst (x := (-1)) (show decode cX12_rounds 32 = .ok (.iconst (-1), 1) by decide +kernel) (by decide)) ?_
    exact zw_iret1 (show decode cX12_rounds 33 = .ok (.ireturn, 1) by decide +kernel) rfl
  · refine Iff.trans (zw_iload_n (show decode cX12_rounds 13 = .ok (.iload_n 2, 1) by decide +kernel) rfl) ?_
    refine Iff.trans (zw_iconst (x := 1) (show decode cX12_rounds 14 = .ok (.iconst 1, 1) by decide +kernel) (by decide)) ?_
    refine Iff.trans (zw_bipush (x := 40) (show decode cX12_rounds 15 = .ok (.bipush 40, 2) by decide +kernel) (by decide)) ?_
    refine Iff.trans (zw_invS (K' := kX12_isIn) (as := [.int x2, .int 1, .int 40]) (rest := []) (show decode cX12_rounds 17 = .ok (.invokestatic 163, 3) by decide +kernel) (by rfl) rfl rfl rfl ⟨Nat.le_of_ble_eq_true rfl, Nat.le_of_ble_eq_true rfl, Nat.le_of_ble_eq_true rfl⟩) ?_
    exact Iff.rfl

theorem bX12_rounds_20 {d : Nat} {σ : zS} {Q : Option Value → zS → Prop} (hl : zLay σ) {x1 x2 x3 y0 : Int32} : zW (d + 1) kX12_rounds 20 [.ref 131, .int x1, .int x2, .int x3, .retAddr 0, .retAddr 0] [.int y0] σ Q ↔ (if y0 = (0 : Int32) then Q (some (.int (-1))) σ else zCall d kX12_isIn [.int x3, .int 0, .int 2] σ (fun r σ' => zisN r = true ∧ zW (d + 1) kX12_rounds 29 [.ref 131, .int x1, .int x2, .int x3, .retAddr 0, .retAddr 0] (zRstk r ++ []) σ' Q)) := by
  refine Iff.trans (zw_if_eq (t := 32) (show decode cX12_rounds 20 = .ok (.ifCond .eq 12, 3) by decide +kernel) (by decide)) ?_
  refine zw_ite ?_ ?_
  · refine Iff.trans (zw_iconst (x := (-1)) (show decode cX12_rounds 32 = .ok (.iconst (-1), 1) by decide +kernel) (by decide)) ?_
    exact zw_iret1 (show decode cX12_rounds 33 = .ok (.ireturn, 1) by decide +kernel) rfl
  · refine Iff.trans (zw_iload_n (show decode cX12_rounds 23 = .ok (.iload_n 3, 1) by decide +kernel) rfl) ?_
    refine Iff.trans (zw_iconst (x := 0) (show decode cX12_rounds 24 = .ok (.iconst 0, 1) by decide +kernel) (by decide)) ?_
    refine Iff.trans (zw_iconst (x := 2) (show decode cX12_rounds 25 = .ok (.iconst 2, 1) by decide +kernel) (by decide)) ?_
    refine Iff.trans (zw_invS (K' := kX12_isIn) (as := [.int x3, .int 0, .int 2]) (rest := []) (show decode cX12_rounds 26 = .ok (.invokestatic 163, 3) by decide +kernel) (by rfl) rfl rfl rfl ⟨Nat.le_of_ble_eq_true rfl, Nat.le_of_ble_eq_true rfl, Nat.le_of_ble_eq_true rfl⟩) ?_
    exact Iff.rfl

theorem bX12_rounds_29 {d : Nat} {σ : zS} {Q : Option Value → zS → Prop} (hl : zLay σ) {x1 x2 x3 y0 : Int32} : zW (d + 1) kX12_rounds 29 [.ref 131, .int x1, .int x2, .int x3, .retAddr 0, .retAddr 0] [.int y0] σ Q ↔ (if y0 = (0 : Int32) then Q (some (.int (-1))) σ else zCall d kX12_keepRace [.ref 131] σ (fun r σ' => zisN r = true ∧ zW (d + 1) kX12_rounds 38 [.ref 131, .int x1, .int x2, .int x3, .retAddr 0, .retAddr 0] (zRstk r ++ []) σ' Q)) := by
  refine Iff.trans (zw_if_ne (t := 34) (show decode cX12_rounds 29 = .ok (.ifCond .ne 5, 3) by decide +kernel) (by decide)) ?_
  refine zw_ite ?_ ?_
  · refine Iff.trans (zw_iconst (x := (-1)) (show decode cX12_rounds 32 = .ok (.iconst (-1), 1) by decide +kernel) (by decide)) ?_
    exact zw_iret1 (show decode cX12_rounds 33 = .ok (.ireturn, 1) by decide +kernel) rfl
  · refine Iff.trans (zw_aload_n (show decode cX12_rounds 34 = .ok (.aload_n 0, 1) by decide +kernel) rfl) ?_
    refine Iff.trans (zw_invV (K' := kX12_keepRace) (as' := []) (rest := []) (show decode cX12_rounds 35 = .ok (.invokevirtual 337, 3) by decide +kernel) (by rfl) rfl rfl rfl (hl.k2 zk_131) (by decide) (hl.n2 zk_131) ⟨Nat.le_of_ble_eq_true rfl, Nat.le_of_ble_eq_true rfl, Nat.le_of_ble_eq_true rfl⟩) ?_
    exact Iff.rfl

theorem bX12_rounds_38 {d : Nat} {σ : zS} {Q : Option Value → zS → Prop} (hl : zLay σ) {x1 x2 x3 : Int32} : zW (d + 1) kX12_rounds 38 [.ref 131, .int x1, .int x2, .int x3, .retAddr 0, .retAddr 0] [] σ Q ↔ zW (d + 1) kX12_rounds 41 [.ref 131, .int x1, .int x2, .int x3, .int 0, .retAddr 0] [] σ Q := by
  refine Iff.trans (zw_iconst (x := 0) (show decode cX12_rounds 38 = .ok (.iconst 0, 1) by decide +kernel) (by decide)) ?_
  refine Iff.trans (zw_istore (ls' := [.ref 131, .int x1, .int x2, .int x3, .int 0, .retAddr 0]) (show decode cX12_rounds 39 = .ok (.istore 4, 2) by decide +kernel) (zset_s (Nat.le_of_ble_eq_true rfl) rfl)) ?_
  exact Iff.rfl

theorem bX12_rounds_41 {d : Nat} {σ : zS} {Q : Option Value → zS → Prop} (hl : zLay σ) {x1 x2 x3 x4 : Int32} : zW (d + 1) kX12_rounds 41 [.ref 131, .int x1, .int x2, .int x3, .int x4, .retAddr 0] [] σ Q ↔ (if (zI σ 131 20) ≤ x4 then zW (d + 1) kX12_rounds 76 [.ref 131, .int x1, .int x2, .int x3, .int 0, .int 0] [] σ Q else zCall d kX12_of [.ref 131, .int x4, .int 3] σ (fun r σ' => zisN r = true ∧ zW (d + 1) kX12_rounds 63 [.ref 131, .int x1, .int x2, .int x3, .int x4, .retAddr 0] (zRstk r ++ [.int x4, .ref 160]) σ' Q)) := by
  refine Iff.trans (zw_iload (show decode cX12_rounds 41 = .ok (.iload 4, 2) by decide +kernel) rfl) ?_
  refine Iff.trans (zw_aload_n (show decode cX12_rounds 43 = .ok (.aload_n 0, 1) by decide +kernel) rfl) ?_
  refine Iff.trans (zw_getI (show decode cX12_rounds 44 = .ok (.getfield 222, 3) by decide +kernel) (by decide +kernel : zfld 12 222 = some (12, 20)) (hl.k2 zk_131) (hl.n2 zk_131) (Or.inl rfl) (w := zI σ 131 20) rfl) ?_
  refine Iff.trans (zw_icmp_ge (t := 70) (show decode cX12_rounds 47 = .ok (.if_icmp .ge 23, 3) by decide +kernel) (by decide)) ?_
  refine zw_ite ?_ ?_
  · refine Iff.trans (zw_iconst (x := 0) (show decode cX12_rounds 70 = .ok (.iconst 0, 1) by decide +kernel) (by decide)) ?_
    refine Iff.trans (zw_istore (ls' := [.ref 131, .int x1, .int x2, .int x3, .int 0, .retAddr 0]) (show decode cX12_rounds 71 = .ok (.istore 4, 2) by decide +kernel) (zset_s (Nat.le_of_ble_eq_true rfl) rfl)) ?_
    refine Iff.trans (zw_iconst (x := 0) (show decode cX12_rounds 73 = .ok (.iconst 0, 1) by decide +kernel) (by decide)) ?_
    refine Iff.trans (zw_istore (ls' := [.ref 131, .int x1, .int x2, .int x3, .int 0, .int 0]) (show decode cX12_rounds 74 = .ok (.istore 5, 2) by decide +kernel) (zset_s (Nat.le_of_ble_eq_true rfl) rfl)) ?_
    exact Iff.rfl
  · refine Iff.trans (zw_aload_n (show decode cX12_rounds 50 = .ok (.aload_n 0, 1) by decide +kernel) rfl) ?_
    refine Iff.trans (zw_get (show decode cX12_rounds 51 = .ok (.getfield 106, 3) by decide +kernel) (by decide +kernel : zfld 12 106 = some (12, 56)) (hl.k2 zk_131) (hl.n2 zk_131) (zgetR (v := 160) (hl.r zrt_131_56) rfl)) ?_
    refine Iff.trans (zw_iload (show decode cX12_rounds 54 = .ok (.iload 4, 2) by decide +kernel) rfl) ?_
    refine Iff.trans (zw_aload_n (show decode cX12_rounds 56 = .ok (.aload_n 0, 1) by decide +kernel) rfl) ?_
    refine Iff.trans (zw_iload (show decode cX12_rounds 57 = .ok (.iload 4, 2) by decide +kernel) rfl) ?_
    refine Iff.trans (zw_iconst (x := 3) (show decode cX12_rounds 59 = .ok (.iconst 3, 1) by decide +kernel) (by decide)) ?_
    refine Iff.trans (zw_invV (K' := kX12_of) (as' := [.int x4, .int 3]) (rest := [.int x4, .ref 160]) (show decode cX12_rounds 60 = .ok (.invokevirtual 229, 3) by decide +kernel) (by rfl) rfl rfl rfl (hl.k2 zk_131) (by decide) (hl.n2 zk_131) ⟨Nat.le_of_ble_eq_true rfl, Nat.le_of_ble_eq_true rfl, Nat.le_of_ble_eq_true rfl⟩) ?_
    exact Iff.rfl

theorem bX12_rounds_63 {d : Nat} {σ : zS} {Q : Option Value → zS → Prop} (hl : zLay σ) {x1 x2 x3 x4 y0 y1 : Int32} : zW (d + 1) kX12_rounds 63 [.ref 131, .int x1, .int x2, .int x3, .int x4, .retAddr 0] [.int y0, .int y1, .ref 160] σ Q ↔ (vp_in y1 6 ∧ zW (d + 1) kX12_rounds 41 [.ref 131, .int x1, .int x2, .int x3, .int (x4 + 1), .retAddr 0] [] (zsI σ 160 (upd (zI σ 160) (y1 : Int32).toNatClampNeg y0)) Q) := by
  refine Iff.trans (zw_iast2 (show decode cX12_rounds 63 = .ok (.iastore, 1) by decide +kernel) (hl.k2 zk_160) (hl.n2 zk_160) (hl.l2 zk_160 zl_160) (σ' := (zsI σ 160 (upd (zI σ 160) (y1 : Int32).toNatClampNeg y0))) rfl) ?_
  refine zw_and ?_
  refine Iff.trans (zw_iinc (w := 1) (ls' := [.ref 131, .int x1, .int x2, .int x3, .int (x4 + 1), .retAddr 0]) (show decode cX12_rounds 64 = .ok (.iinc 4 1, 3) by decide +kernel) rfl (by decide) (zset_s (Nat.le_of_ble_eq_true rfl) rfl)) ?_
  refine Iff.trans (zw_goto (t := 41) (show decode cX12_rounds 67 = .ok (.goto (-26), 3) by decide +kernel) (by decide)) ?_
  exact Iff.rfl

theorem bX12_rounds_76 {d : Nat} {σ : zS} {Q : Option Value → zS → Prop} (hl : zLay σ) {x1 x2 x3 x4 x5 : Int32} : zW (d + 1) kX12_rounds 76 [.ref 131, .int x1, .int x2, .int x3, .int x4, .int x5] [] σ Q ↔ (if (zI σ 131 20) ≤ x5 then zCall d kX12_putBack [.ref 131] σ (fun r σ' => zisN r = true ∧ zW (d + 1) kX12_rounds 133 [.ref 131, .int x1, .int x2, .int x3, .int x4, .int x5] (zRstk r ++ []) σ' Q) else zCall d kX12_turns [.ref 131, .int x5] σ (fun r σ' => zisN r = true ∧ zW (d + 1) kX12_rounds 91 [.ref 131, .int x1, .int x2, .int x3, .int x4, .int x5] (zRstk r ++ []) σ' Q)) := by
  refine Iff.trans (zw_iload (show decode cX12_rounds 76 = .ok (.iload 5, 2) by decide +kernel) rfl) ?_
  refine Iff.trans (zw_aload_n (show decode cX12_rounds 78 = .ok (.aload_n 0, 1) by decide +kernel) rfl) ?_
  refine Iff.trans (zw_getI (show decode cX12_rounds 79 = .ok (.getfield 222, 3) by decide +kernel) (by decide +kernel : zfld 12 222 = some (12, 20)) (hl.k2 zk_131) (hl.n2 zk_131) (Or.inl rfl) (w := zI σ 131 20) rfl) ?_
  refine Iff.trans (zw_icmp_ge (t := 129) (show decode cX12_rounds 82 = .ok (.if_icmp .ge 47, 3) by decide +kernel) (by decide)) ?_
  refine zw_ite ?_ ?_
  · refine Iff.trans (zw_aload_n (show decode cX12_rounds 129 = .ok (.aload_n 0, 1) by decide +kernel) rfl) ?_
    refine Iff.trans (zw_invV (K' := kX12_putBack) (as' := []) (rest := []) (show decode cX12_rounds 130 = .ok (.invokevirtual 344, 3) by decide +kernel) (by rfl) rfl rfl rfl (hl.k2 zk_131) (by decide) (hl.n2 zk_131) ⟨Nat.le_of_ble_eq_true rfl, Nat.le_of_ble_eq_true rfl, Nat.le_of_ble_eq_true rfl⟩) ?_
    exact Iff.rfl
  · refine Iff.trans (zw_aload_n (show decode cX12_rounds 85 = .ok (.aload_n 0, 1) by decide +kernel) rfl) ?_
    refine Iff.trans (zw_iload (show decode cX12_rounds 86 = .ok (.iload 5, 2) by decide +kernel) rfl) ?_
    refine Iff.trans (zw_invV (K' := kX12_turns) (as' := [.int x5]) (rest := []) (show decode cX12_rounds 88 = .ok (.invokevirtual 438, 3) by decide +kernel) (by rfl) rfl rfl rfl (hl.k2 zk_131) (by decide) (hl.n2 zk_131) ⟨Nat.le_of_ble_eq_true rfl, Nat.le_of_ble_eq_true rfl, Nat.le_of_ble_eq_true rfl⟩) ?_
    exact Iff.rfl

theorem bX12_rounds_91 {d : Nat} {σ : zS} {Q : Option Value → zS → Prop} (hl : zLay σ) {x1 x2 x3 x4 x5 y0 : Int32} : zW (d + 1) kX12_rounds 91 [.ref 131, .int x1, .int x2, .int x3, .int x4, .int x5] [.int y0] σ Q ↔ (if y0 = (0 : Int32) then zW (d + 1) kX12_rounds 76 [.ref 131, .int x1, .int x2, .int x3, .int x4, .int (x5 + 1)] [] σ Q else (if x3 = 2 then zW (d + 1) kX12_rounds 120 [.ref 131, .int x1, .int x2, .int x3, .int x4, .int x5] [.int 1, .int x4] σ Q else (if x3 = (0 : Int32) then zW (d + 1) kX12_rounds 117 [.ref 131, .int x1, .int x2, .int x3, .int x4, .int x5] [.int 1, .int x2, .int x1, .ref 131, .int x4] σ Q else zW (d + 1) kX12_rounds 117 [.ref 131, .int x1, .int x2, .int x3, .int x4, .int x5] [.int 0, .int x2, .int x1, .ref 131, .int x4] σ Q))) := by
  refine Iff.trans (zw_if_eq (t := 123) (show decode cX12_rounds 91 = .ok (.ifCond .eq 32, 3) by decide +kernel) (by decide)) ?_
  refine zw_ite ?_ ?_
  · refine Iff.trans (zw_iinc (w := 1) (ls' := [.ref 131, .int x1, .int x2, .int x3, .int x4, .int (x5 + 1)]) (show decode cX12_rounds 123 = .ok (.iinc 5 1, 3) by decide +kernel) rfl (by decide) (zset_s (Nat.le_of_ble_eq_true rfl) rfl)) ?_
    refine Iff.trans (zw_goto (t := 76) (show decode cX12_rounds 126 = .ok (.goto (-50), 3) by decide +kernel) (by decide)) ?_
    exact Iff.rfl
  · refine Iff.trans (zw_iload (show decode cX12_rounds 94 = .ok (.iload 4, 2) by decide +kernel) rfl) ?_
    refine Iff.trans (zw_iload_n (show decode cX12_rounds 96 = .ok (.iload_n 3, 1) by decide +kernel) rfl) ?_
    refine Iff.trans (zw_iconst (x := 2) (show decode cX12_rounds 97 = .ok (.iconst 2, 1) by decide +kernel) (by decide)) ?_
    refine Iff.trans (zw_icmp_ne (t := 105) (show decode cX12_rounds 98 = .ok (.if_icmp .ne 7, 3) by decide +kernel) (by decide)) ?_
    refine zw_ite ?_ ?_
    · refine Iff.trans (zw_iconst (x := 1) (show decode cX12_rounds 101 = .ok (.iconst 1, 1) by decide +kernel) (by decide)) ?_
      refine Iff.trans (zw_goto (t := 120) (show decode cX12_rounds 102 = .ok (.goto 18, 3) by decide +kernel) (by decide)) ?_
      exact Iff.rfl
    · refine Iff.trans (zw_aload_n (show decode cX12_rounds 105 = .ok (.aload_n 0, 1) by decide +kernel) rfl) ?_
      refine Iff.trans (zw_iload_n (show decode cX12_rounds 106 = .ok (.iload_n 1, 1) by decide +kernel) rfl) ?_
      refine Iff.trans (zw_iload_n (show decode cX12_rounds 107 = .ok (.iload_n 2, 1) by decide +kernel) rfl) ?_
      refine Iff.trans (zw_iload_n (show decode cX12_rounds 108 = .ok (.iload_n 3, 1) by decide +kernel) rfl) ?_
      refine Iff.trans (zw_if_ne (t := 116) (show decode cX12_rounds 109 = .ok (.ifCond .ne 7, 3) by decide +kernel) (by decide)) ?_
      refine zw_ite ?_ ?_
      · refine Iff.trans (zw_iconst (x := 1) (show decode cX12_rounds 112 = .ok (.iconst 1, 1) by decide +kernel) (by decide)) ?_
        refine Iff.trans (zw_goto (t := 117) (show decode cX12_rounds 113 = .ok (.goto 4, 3) by decide +kernel) (by decide)) ?_
        exact Iff.rfl
      · refine Iff.trans (zw_iconst (x := 0) (show decode cX12_rounds 116 = .ok (.iconst 0, 1) by decide +kernel) (by decide)) ?_
        exact Iff.rfl

theorem bX12_rounds_117 {d : Nat} {σ : zS} {Q : Option Value → zS → Prop} (hl : zLay σ) {x1 x2 x3 x4 x5 y0 y1 y2 y4 : Int32} : zW (d + 1) kX12_rounds 117 [.ref 131, .int x1, .int x2, .int x3, .int x4, .int x5] [.int y0, .int y1, .int y2, .ref 131, .int y4] σ Q ↔ zCall d kX12_sumOf [.ref 131, .int y2, .int y1, .int y0] σ (fun r σ' => zisN r = true ∧ zW (d + 1) kX12_rounds 120 [.ref 131, .int x1, .int x2, .int x3, .int x4, .int x5] (zRstk r ++ [.int y4]) σ' Q) := by
  refine Iff.trans (zw_invV (K' := kX12_sumOf) (as' := [.int y2, .int y1, .int y0]) (rest := [.int y4]) (show decode cX12_rounds 117 = .ok (.invokevirtual 340, 3) by decide +kernel) (by rfl) rfl rfl rfl (hl.k2 zk_131) (by decide) (hl.n2 zk_131) ⟨Nat.le_of_ble_eq_true rfl, Nat.le_of_ble_eq_true rfl, Nat.le_of_ble_eq_true rfl⟩) ?_
  exact Iff.rfl

theorem bX12_rounds_120 {d : Nat} {σ : zS} {Q : Option Value → zS → Prop} (hl : zLay σ) {x1 x2 x3 x4 x5 y0 y1 : Int32} : zW (d + 1) kX12_rounds 120 [.ref 131, .int x1, .int x2, .int x3, .int x4, .int x5] [.int y0, .int y1] σ Q ↔ zW (d + 1) kX12_rounds 76 [.ref 131, .int x1, .int x2, .int x3, .int (y1 + y0), .int (x5 + 1)] [] σ Q := by
  refine Iff.trans (zw_iadd (show decode cX12_rounds 120 = .ok (.iadd, 1) by decide +kernel)) ?_
  refine Iff.trans (zw_istore (ls' := [.ref 131, .int x1, .int x2, .int x3, .int (y1 + y0), .int x5]) (show decode cX12_rounds 121 = .ok (.istore 4, 2) by decide +kernel) (zset_s (Nat.le_of_ble_eq_true rfl) rfl)) ?_
  refine Iff.trans (zw_iinc (w := 1) (ls' := [.ref 131, .int x1, .int x2, .int x3, .int (y1 + y0), .int (x5 + 1)]) (show decode cX12_rounds 123 = .ok (.iinc 5 1, 3) by decide +kernel) rfl (by decide) (zset_s (Nat.le_of_ble_eq_true rfl) rfl)) ?_
  refine Iff.trans (zw_goto (t := 76) (show decode cX12_rounds 126 = .ok (.goto (-50), 3) by decide +kernel) (by decide)) ?_
  exact Iff.rfl

theorem bX12_rounds_133 {d : Nat} {σ : zS} {Q : Option Value → zS → Prop} (hl : zLay σ) {x1 x2 x3 x4 x5 : Int32} : zW (d + 1) kX12_rounds 133 [.ref 131, .int x1, .int x2, .int x3, .int x4, .int x5] [] σ Q ↔ Q (some (.int x4)) σ := by
  refine Iff.trans (zw_iload (show decode cX12_rounds 133 = .ok (.iload 4, 2) by decide +kernel) rfl) ?_
  exact zw_iret1 (show decode cX12_rounds 135 = .ok (.ireturn, 1) by decide +kernel) rfl

theorem bX12_duel_0 {d : Nat} {σ : zS} {Q : Option Value → zS → Prop} (hl : zLay σ) {x1 x2 x3 x4 : Int32} : zCall (d + 1) kX12_duel [.ref 131, .int x1, .int x2, .int x3, .int x4] σ Q ↔ zCall d kX12_isBrook [.ref 131, .int x1] (zsI σ 131 (upd (zI σ 131) 0 0)) (fun r σ' => zisN r = true ∧ zW (d + 1) kX12_duel 10 [.ref 131, .int x1, .int x2, .int x3, .int x4, .retAddr 0, .retAddr 0, .retAddr 0, .retAddr 0] (zRstk r ++ []) σ' Q) := by
  show zW (d + 1) kX12_duel 0 [.ref 131, .int x1, .int x2, .int x3, .int x4, .retAddr 0, .retAddr 0, .retAddr 0, .retAddr 0] [] σ Q ↔ _
  refine Iff.trans (zw_aload_n (show decode cX12_duel 0 = .ok (.aload_n 0, 1) by decide +kernel) rfl) ?_
  refine Iff.trans (zw_iconst (x := 0) (show decode cX12_duel 1 = .ok (.iconst 0, 1) by decide +kernel) (by decide)) ?_
  refine Iff.trans (zw_putI (show decode cX12_duel 2 = .ok (.putfield 118, 3) by decide +kernel) (by decide +kernel : zfld 12 118 = some (12, 0)) (hl.k2 zk_131) (hl.n2 zk_131) rfl (Or.inl rfl) (σ' := (zsI σ 131 (upd (zI σ 131) 0 0))) rfl) ?_
  refine Iff.trans (zw_aload_n (show decode cX12_duel 5 = .ok (.aload_n 0, 1) by decide +kernel) rfl) ?_
  refine Iff.trans (zw_iload_n (show decode cX12_duel 6 = .ok (.iload_n 1, 1) by decide +kernel) rfl) ?_
  refine Iff.trans (zw_invV (K' := kX12_isBrook) (as' := [.int x1]) (rest := []) (show decode cX12_duel 7 = .ok (.invokevirtual 193, 3) by decide +kernel) (by rfl) rfl rfl rfl (hl.I.k2 zk_131) (by decide) (hl.I.n2 zk_131) ⟨Nat.le_of_ble_eq_true rfl, Nat.le_of_ble_eq_true rfl, Nat.le_of_ble_eq_true rfl⟩) ?_
  exact Iff.rfl

theorem bX12_duel_10 {d : Nat} {σ : zS} {Q : Option Value → zS → Prop} (hl : zLay σ) {x1 x2 x3 x4 y0 : Int32} : zW (d + 1) kX12_duel 10 [.ref 131, .int x1, .int x2, .int x3, .int x4, .retAddr 0, .retAddr 0, .retAddr 0, .retAddr 0] [.int y0] σ Q ↔ (if y0 = (0 : Int32) then Q (some (.int (-1000))) σ else zCall d kX12_isStick [.ref 131, .int x2] σ (fun r σ' => zisN r = true ∧ zW (d + 1) kX12_duel 18 [.ref 131, .int x1, .int x2, .int x3, .int x4, .retAddr 0, .retAddr 0, .retAddr 0, .retAddr 0] (zRstk r ++ []) σ' Q)) := by
  refine Iff.trans (zw_if_eq (t := 40) (show decode cX12_duel 10 = .ok (.ifCond .eq 30, 3) by decide +kernel) (by decide)) ?_
  refine zw_ite ?_ ?_
  · refine Iff.trans (zw_sipush (x := (-1000)) (show decode cX12_duel 40 = .ok (.sipush (-1000), 3) by decide +kernel) (by decide)) ?_
    exact zw_iret1 (show decode cX12_duel 43 = .ok (.ireturn, 1) by decide +kernel) rfl
  · refine Iff.trans (zw_aload_n (show decode cX12_duel 13 = .ok (.aload_n 0, 1) by decide +kernel) rfl) ?_
    refine Iff.trans (zw_iload_n (show decode cX12_duel 14 = .ok (.iload_n 2, 1) by decide +kernel) rfl) ?_
    refine Iff.trans (zw_invV (K' := kX12_isStick) (as' := [.int x2]) (rest := []) (show decode cX12_duel 15 = .ok (.invokevirtual 209, 3) by decide +kernel) (by rfl) rfl rfl rfl (hl.k2 zk_131) (by decide) (hl.n2 zk_131) ⟨Nat.le_of_ble_eq_true rfl, Nat.le_of_ble_eq_true rfl, Nat.le_of_ble_eq_true rfl⟩) ?_
    exact Iff.rfl

theorem bX12_duel_18 {d : Nat} {σ : zS} {Q : Option Value → zS → Prop} (hl : zLay σ) {x1 x2 x3 x4 y0 : Int32} : zW (d + 1) kX12_duel 18 [.ref 131, .int x1, .int x2, .int x3, .int x4, .retAddr 0, .retAddr 0, .retAddr 0, .retAddr 0] [.int y0] σ Q ↔ (if y0 = (0 : Int32) then Q (some (.int (-1000))) σ else zCall d kX12_isStick [.ref 131, .int x3] σ (fun r σ' => zisN r = true ∧ zW (d + 1) kX12_duel 26 [.ref 131, .int x1, .int x2, .int x3, .int x4, .retAddr 0, .retAddr 0, .retAddr 0, .retAddr 0] (zRstk r ++ []) σ' Q)) := by
  refine Iff.trans (zw_if_eq (t := 40) (show decode cX12_duel 18 = .ok (.ifCond .eq 22, 3) by decide +kernel) (by decide)) ?_
  refine zw_ite ?_ ?_
  · refine Iff.trans (zw_sipush (x := (-1000)) (show decode cX12_duel 40 = .ok (.sipush (-1000), 3) by decide +kernel) (by decide)) ?_
    exact zw_iret1 (show decode cX12_duel 43 = .ok (.ireturn, 1) by decide +kernel) rfl
  · refine Iff.trans (zw_aload_n (show decode cX12_duel 21 = .ok (.aload_n 0, 1) by decide +kernel) rfl) ?_
    refine Iff.trans (zw_iload_n (show decode cX12_duel 22 = .ok (.iload_n 3, 1) by decide +kernel) rfl) ?_
    refine Iff.trans (zw_invV (K' := kX12_isStick) (as' := [.int x3]) (rest := []) (show decode cX12_duel 23 = .ok (.invokevirtual 209, 3) by decide +kernel) (by rfl) rfl rfl rfl (hl.k2 zk_131) (by decide) (hl.n2 zk_131) ⟨Nat.le_of_ble_eq_true rfl, Nat.le_of_ble_eq_true rfl, Nat.le_of_ble_eq_true rfl⟩) ?_
    exact Iff.rfl

theorem bX12_duel_26 {d : Nat} {σ : zS} {Q : Option Value → zS → Prop} (hl : zLay σ) {x1 x2 x3 x4 y0 : Int32} : zW (d + 1) kX12_duel 26 [.ref 131, .int x1, .int x2, .int x3, .int x4, .retAddr 0, .retAddr 0, .retAddr 0, .retAddr 0] [.int y0] σ Q ↔ (if y0 = (0 : Int32) then Q (some (.int (-1000))) σ else zCall d kX12_isIn [.int x4, .int 1, .int 40] σ (fun r σ' => zisN r = true ∧ zW (d + 1) kX12_duel 37 [.ref 131, .int x1, .int x2, .int x3, .int x4, .retAddr 0, .retAddr 0, .retAddr 0, .retAddr 0] (zRstk r ++ []) σ' Q)) := by
  refine Iff.trans (zw_if_eq (t := 40) (show decode cX12_duel 26 = .ok (.ifCond .eq 14, 3) by decide +kernel) (by decide)) ?_
  refine zw_ite ?_ ?_
  · refine Iff.trans (zw_sipush (x := (-1000)) (show decode cX12_duel 40 = .ok (.sipush (-1000), 3) by decide +kernel) (by decide)) ?_
    exact zw_iret1 (show decode cX12_duel 43 = .ok (.ireturn, 1) by decide +kernel) rfl
  · refine Iff.trans (zw_iload (show decode cX12_duel 29 = .ok (.iload 4, 2) by decide +kernel) rfl) ?_
    refine Iff.trans (zw_iconst (x := 1) (show decode cX12_duel 31 = .ok (.iconst 1, 1) by decide +kernel) (by decide)) ?_
    refine Iff.trans (zw_bipush (x := 40) (show decode cX12_duel 32 = .ok (.bipush 40, 2) by decide +kernel) (by decide)) ?_
    refine Iff.trans (zw_invS (K' := kX12_isIn) (as := [.int x4, .int 1, .int 40]) (rest := []) (show decode cX12_duel 34 = .ok (.invokestatic 163, 3) by decide +kernel) (by rfl) rfl rfl rfl ⟨Nat.le_of_ble_eq_true rfl, Nat.le_of_ble_eq_true rfl, Nat.le_of_ble_eq_true rfl⟩) ?_
    exact Iff.rfl

theorem bX12_duel_37 {d : Nat} {σ : zS} {Q : Option Value → zS → Prop} (hl : zLay σ) {x1 x2 x3 x4 y0 : Int32} : zW (d + 1) kX12_duel 37 [.ref 131, .int x1, .int x2, .int x3, .int x4, .retAddr 0, .retAddr 0, .retAddr 0, .retAddr 0] [.int y0] σ Q ↔ (if y0 = (0 : Int32) then Q (some (.int (-1000))) σ else zCall d kX12_keepRace [.ref 131] σ (fun r σ' => zisN r = true ∧ zW (d + 1) kX12_duel 54 [.ref 131, .int x1, .int x2, .int x3, .int x4, .int 0, .int 0, .retAddr 0, .retAddr 0] (zRstk r ++ []) σ' Q)) := by
  refine Iff.trans (zw_if_ne (t := 44) (show decode cX12_duel 37 = .ok (.ifCond .ne 7, 3) by decide +kernel) (by decide)) ?_
  refine zw_ite ?_ ?_
  · refine Iff.trans (zw_sipush (x := (-1000)) (show decode cX12_duel 40 = .ok (.sipush (-1000), 3) by decide +kernel) (by decide)) ?_
    exact zw_iret1 (show decode cX12_duel 43 = .ok (.ireturn, 1) by decide +kernel) rfl
  · refine Iff.trans (zw_iconst (x := 0) (show decode cX12_duel 44 = .ok (.iconst 0, 1) by decide +kernel) (by decide)) ?_
    refine Iff.trans (zw_istore (ls' := [.ref 131, .int x1, .int x2, .int x3, .int x4, .int 0, .retAddr 0, .retAddr 0, .retAddr 0]) (show decode cX12_duel 45 = .ok (.istore 5, 2) by decide +kernel) (zset_s (Nat.le_of_ble_eq_true rfl) rfl)) ?_
    refine Iff.trans (zw_iconst (x := 0) (show decode cX12_duel 47 = .ok (.iconst 0, 1) by decide +kernel) (by decide)) ?_
    refine Iff.trans (zw_istore (ls' := [.ref 131, .int x1, .int x2, .int x3, .int x4, .int 0, .int 0, .retAddr 0, .retAddr 0]) (show decode cX12_duel 48 = .ok (.istore 6, 2) by decide +kernel) (zset_s (Nat.le_of_ble_eq_true rfl) rfl)) ?_
    refine Iff.trans (zw_aload_n (show decode cX12_duel 50 = .ok (.aload_n 0, 1) by decide +kernel) rfl) ?_
    refine Iff.trans (zw_invV (K' := kX12_keepRace) (as' := []) (rest := []) (show decode cX12_duel 51 = .ok (.invokevirtual 337, 3) by decide +kernel) (by rfl) rfl rfl rfl (hl.k2 zk_131) (by decide) (hl.n2 zk_131) ⟨Nat.le_of_ble_eq_true rfl, Nat.le_of_ble_eq_true rfl, Nat.le_of_ble_eq_true rfl⟩) ?_
    exact Iff.rfl

theorem bX12_duel_54 {d : Nat} {σ : zS} {Q : Option Value → zS → Prop} (hl : zLay σ) {x1 x2 x3 x4 x5 x6 : Int32} : zW (d + 1) kX12_duel 54 [.ref 131, .int x1, .int x2, .int x3, .int x4, .int x5, .int x6, .retAddr 0, .retAddr 0] [] σ Q ↔ zW (d + 1) kX12_duel 57 [.ref 131, .int x1, .int x2, .int x3, .int x4, .int x5, .int x6, .int 0, .retAddr 0] [] σ Q := by
  refine Iff.trans (zw_iconst (x := 0) (show decode cX12_duel 54 = .ok (.iconst 0, 1) by decide +kernel) (by decide)) ?_
  refine Iff.trans (zw_istore (ls' := [.ref 131, .int x1, .int x2, .int x3, .int x4, .int x5, .int x6, .int 0, .retAddr 0]) (show decode cX12_duel 55 = .ok (.istore 7, 2) by decide +kernel) (zset_s (Nat.le_of_ble_eq_true rfl) rfl)) ?_
  exact Iff.rfl

theorem bX12_duel_57 {d : Nat} {σ : zS} {Q : Option Value → zS → Prop} (hl : zLay σ) {x1 x2 x3 x4 x5 x6 x7 : Int32} {v8 : Value} (hv8 : v8.category = 1) : zW (d + 1) kX12_duel 57 [.ref 131, .int x1, .int x2, .int x3, .int x4, .int x5, .int x6, .int x7, v8] [] σ Q ↔ (vp_in x1 7 ∧ (if (zI σ 134 (x1 : Int32).toNatClampNeg) ≤ x7 then zCall d kX12_putBack [.ref 131] σ (fun r σ' => zisN r = true ∧ zW (d + 1) kX12_duel 166 [.ref 131, .int x1, .int x2, .int x3, .int x4, .int x5, .int x6, .int x7, v8] (zRstk r ++ []) σ' Q) else zW (d + 1) kX12_duel 71 [.ref 131, .int x1, .int x2, .int x3, .int x4, .int x5, .int x6, .int x7, .int 0] [] σ Q)) := by
  refine Iff.trans (zw_iload (show decode cX12_duel 57 = .ok (.iload 7, 2) by decide +kernel) rfl) ?_
  refine Iff.trans (zw_aload_n (show decode cX12_duel 59 = .ok (.aload_n 0, 1) by decide +kernel) rfl) ?_
  refine Iff.trans (zw_get (show decode cX12_duel 60 = .ok (.getfield 17, 3) by decide +kernel) (by decide +kernel : zfld 12 17 = some (12, 6)) (hl.k2 zk_131) (hl.n2 zk_131) (zgetR (v := 134) (hl.r zrt_131_6) rfl)) ?_
  refine Iff.trans (zw_iload_n (show decode cX12_duel 63 = .ok (.iload_n 1, 1) by decide +kernel) rfl) ?_
  refine Iff.trans (zw_iald2 (show decode cX12_duel 64 = .ok (.iaload, 1) by decide +kernel) (hl.k2 zk_134) (hl.n2 zk_134) (hl.l2 zk_134 zl_134) (w := zI σ 134 (x1 : Int32).toNatClampNeg) rfl) ?_
  refine zw_and ?_
  refine Iff.trans (zw_icmp_ge (t := 162) (show decode cX12_duel 65 = .ok (.if_icmp .ge 97, 3) by decide +kernel) (by decide)) ?_
  refine zw_ite ?_ ?_
  · refine Iff.trans (zw_aload_n (show decode cX12_duel 162 = .ok (.aload_n 0, 1) by decide +kernel) rfl) ?_
    refine Iff.trans (zw_invV (K' := kX12_putBack) (as' := []) (rest := []) (show decode cX12_duel 163 = .ok (.invokevirtual 344, 3) by decide +kernel) (by rfl) rfl rfl rfl (hl.k2 zk_131) (by decide) (hl.n2 zk_131) ⟨Nat.le_of_ble_eq_true rfl, Nat.le_of_ble_eq_true rfl, Nat.le_of_ble_eq_true rfl⟩) ?_
    exact Iff.rfl
  · refine Iff.trans (zw_iconst (x := 0) (show decode cX12_duel 68 = .ok (.iconst 0, 1) by decide +kernel) (by decide)) ?_
    refine Iff.trans (zw_istore (ls' := [.ref 131, .int x1, .int x2, .int x3, .int x4, .int x5, .int x6, .int x7, .int 0]) (show decode cX12_duel 69 = .ok (.istore 8, 2) by decide +kernel) (zset_s (Nat.le_of_ble_eq_true rfl) rfl)) ?_
    exact Iff.rfl

theorem bX12_duel_71 {d : Nat} {σ : zS} {Q : Option Value → zS → Prop} (hl : zLay σ) {x1 x2 x3 x4 x5 x6 x7 x8 : Int32} : zW (d + 1) kX12_duel 71 [.ref 131, .int x1, .int x2, .int x3, .int x4, .int x5, .int x6, .int x7, .int x8] [] σ Q ↔ (vp_in x1 7 ∧ (if (zI σ 134 (x1 : Int32).toNatClampNeg) ≤ x8 then zW (d + 1) kX12_duel 57 [.ref 131, .int x1, .int x2, .int x3, .int x4, .int x5, .int x6, .int (x7 + 1), .int x8] [] σ Q else zCall d kX12_canBegin [.ref 131, .int x1, .int x2, .int x7] σ (fun r σ' => zisN r = true ∧ zW (d + 1) kX12_duel 90 [.ref 131, .int x1, .int x2, .int x3, .int x4, .int x5, .int x6, .int x7, .int x8] (zRstk r ++ []) σ' Q))) := by
  refine Iff.trans (zw_iload (show decode cX12_duel 71 = .ok (.iload 8, 2) by decide +kernel) rfl) ?_
  refine Iff.trans (zw_aload_n (show decode cX12_duel 73 = .ok (.aload_n 0, 1) by decide +kernel) rfl) ?_
  refine Iff.trans (zw_get (show decode cX12_duel 74 = .ok (.getfield 17, 3) by decide +kernel) (by decide +kernel : zfld 12 17 = some (12, 6)) (hl.k2 zk_131) (hl.n2 zk_131) (zgetR (v := 134) (hl.r zrt_131_6) rfl)) ?_
  refine Iff.trans (zw_iload_n (show decode cX12_duel 77 = .ok (.iload_n 1, 1) by decide +kernel) rfl) ?_
  refine Iff.trans (zw_iald2 (show decode cX12_duel 78 = .ok (.iaload, 1) by decide +kernel) (hl.k2 zk_134) (hl.n2 zk_134) (hl.l2 zk_134 zl_134) (w := zI σ 134 (x1 : Int32).toNatClampNeg) rfl) ?_
  refine zw_and ?_
  refine Iff.trans (zw_icmp_ge (t := 156) (show decode cX12_duel 79 = .ok (.if_icmp .ge 77, 3) by decide +kernel) (by decide)) ?_
  refine zw_ite ?_ ?_
  · refine Iff.trans (zw_iinc (w := 1) (ls' := [.ref 131, .int x1, .int x2, .int x3, .int x4, .int x5, .int x6, .int (x7 + 1), .int x8]) (show decode cX12_duel 156 = .ok (.iinc 7 1, 3) by decide +kernel) rfl (by decide) (zset_s (Nat.le_of_ble_eq_true rfl) rfl)) ?_
    refine Iff.trans (zw_goto (t := 57) (show decode cX12_duel 159 = .ok (.goto (-102), 3) by decide +kernel) (by decide)) ?_
    exact Iff.rfl
  · refine Iff.trans (zw_aload_n (show decode cX12_duel 82 = .ok (.aload_n 0, 1) by decide +kernel) rfl) ?_
    refine Iff.trans (zw_iload_n (show decode cX12_duel 83 = .ok (.iload_n 1, 1) by decide +kernel) rfl) ?_
    refine Iff.trans (zw_iload_n (show decode cX12_duel 84 = .ok (.iload_n 2, 1) by decide +kernel) rfl) ?_
    refine Iff.trans (zw_iload (show decode cX12_duel 85 = .ok (.iload 7, 2) by decide +kernel) rfl) ?_
    refine Iff.trans (zw_invV (K' := kX12_canBegin) (as' := [.int x1, .int x2, .int x7]) (rest := []) (show decode cX12_duel 87 = .ok (.invokevirtual 357, 3) by decide +kernel) (by rfl) rfl rfl rfl (hl.k2 zk_131) (by decide) (hl.n2 zk_131) ⟨Nat.le_of_ble_eq_true rfl, Nat.le_of_ble_eq_true rfl, Nat.le_of_ble_eq_true rfl⟩) ?_
    exact Iff.rfl

theorem bX12_duel_90 {d : Nat} {σ : zS} {Q : Option Value → zS → Prop} (hl : zLay σ) {x1 x2 x3 x4 x5 x6 x7 x8 y0 : Int32} : zW (d + 1) kX12_duel 90 [.ref 131, .int x1, .int x2, .int x3, .int x4, .int x5, .int x6, .int x7, .int x8] [.int y0] σ Q ↔ (if y0 = (0 : Int32) then zW (d + 1) kX12_duel 71 [.ref 131, .int x1, .int x2, .int x3, .int x4, .int x5, .int x6, .int x7, .int (x8 + 1)] [] σ Q else zCall d kX12_canBegin [.ref 131, .int x1, .int x3, .int x8] σ (fun r σ' => zisN r = true ∧ zW (d + 1) kX12_duel 101 [.ref 131, .int x1, .int x2, .int x3, .int x4, .int x5, .int x6, .int x7, .int x8] (zRstk r ++ []) σ' Q)) := by
  refine Iff.trans (zw_if_eq (t := 150) (show decode cX12_duel 90 = .ok (.ifCond .eq 60, 3) by decide +kernel) (by decide)) ?_
  refine zw_ite ?_ ?_
  · refine Iff.trans (zw_iinc (w := 1) (ls' := [.ref 131, .int x1, .int x2, .int x3, .int x4, .int x5, .int x6, .int x7, .int (x8 + 1)]) (show decode cX12_duel 150 = .ok (.iinc 8 1, 3) by decide +kernel) rfl (by decide) (zset_s (Nat.le_of_ble_eq_true rfl) rfl)) ?_
    refine Iff.trans (zw_goto (t := 71) (show decode cX12_duel 153 = .ok (.goto (-82), 3) by decide +kernel) (by decide)) ?_
    exact Iff.rfl
  · refine Iff.trans (zw_aload_n (show decode cX12_duel 93 = .ok (.aload_n 0, 1) by decide +kernel) rfl) ?_
    refine Iff.trans (zw_iload_n (show decode cX12_duel 94 = .ok (.iload_n 1, 1) by decide +kernel) rfl) ?_
    refine Iff.trans (zw_iload_n (show decode cX12_duel 95 = .ok (.iload_n 3, 1) by decide +kernel) rfl) ?_
    refine Iff.trans (zw_iload (show decode cX12_duel 96 = .ok (.iload 8, 2) by decide +kernel) rfl) ?_
    refine Iff.trans (zw_invV (K' := kX12_canBegin) (as' := [.int x1, .int x3, .int x8]) (rest := []) (show decode cX12_duel 98 = .ok (.invokevirtual 357, 3) by decide +kernel) (by rfl) rfl rfl rfl (hl.k2 zk_131) (by decide) (hl.n2 zk_131) ⟨Nat.le_of_ble_eq_true rfl, Nat.le_of_ble_eq_true rfl, Nat.le_of_ble_eq_true rfl⟩) ?_
    exact Iff.rfl

theorem bX12_duel_101 {d : Nat} {σ : zS} {Q : Option Value → zS → Prop} (hl : zLay σ) {x1 x2 x3 x4 x5 x6 x7 x8 y0 : Int32} : zW (d + 1) kX12_duel 101 [.ref 131, .int x1, .int x2, .int x3, .int x4, .int x5, .int x6, .int x7, .int x8] [.int y0] σ Q ↔ (if y0 = (0 : Int32) then zW (d + 1) kX12_duel 71 [.ref 131, .int x1, .int x2, .int x3, .int x4, .int x5, .int x6, .int x7, .int (x8 + 1)] [] σ Q else (vp_in x2 11 ∧ (vp_in x3 11 ∧ zCall d kX12_areApart [.int x7, .int (zI σ 136 (x2 : Int32).toNatClampNeg), .int x8, .int (zI σ 136 (x3 : Int32).toNatClampNeg)] σ (fun r σ' => zisN r = true ∧ zW (d + 1) kX12_duel 123 [.ref 131, .int x1, .int x2, .int x3, .int x4, .int x5, .int x6, .int x7, .int x8] (zRstk r ++ []) σ' Q)))) := by
  refine Iff.trans (zw_if_eq (t := 150) (show decode cX12_duel 101 = .ok (.ifCond .eq 49, 3) by decide +kernel) (by decide)) ?_
  refine zw_ite ?_ ?_
  · refine Iff.trans (zw_iinc (w := 1) (ls' := [.ref 131, .int x1, .int x2, .int x3, .int x4, .int x5, .int x6, .int x7, .int (x8 + 1)]) (show decode cX12_duel 150 = .ok (.iinc 8 1, 3) by decide +kernel) rfl (by decide) (zset_s (Nat.le_of_ble_eq_true rfl) rfl)) ?_
    refine Iff.trans (zw_goto (t := 71) (show decode cX12_duel 153 = .ok (.goto (-82), 3) by decide +kernel) (by decide)) ?_
    exact Iff.rfl
  · refine Iff.trans (zw_iload (show decode cX12_duel 104 = .ok (.iload 7, 2) by decide +kernel) rfl) ?_
    refine Iff.trans (zw_aload_n (show decode cX12_duel 106 = .ok (.aload_n 0, 1) by decide +kernel) rfl) ?_
    refine Iff.trans (zw_get (show decode cX12_duel 107 = .ok (.getfield 23, 3) by decide +kernel) (by decide +kernel : zfld 12 23 = some (12, 8)) (hl.k2 zk_131) (hl.n2 zk_131) (zgetR (v := 136) (hl.r zrt_131_8) rfl)) ?_
    refine Iff.trans (zw_iload_n (show decode cX12_duel 110 = .ok (.iload_n 2, 1) by decide +kernel) rfl) ?_
    refine Iff.trans (zw_iald2 (show decode cX12_duel 111 = .ok (.iaload, 1) by decide +kernel) (hl.k2 zk_136) (hl.n2 zk_136) (hl.l2 zk_136 zl_136) (w := zI σ 136 (x2 : Int32).toNatClampNeg) rfl) ?_
    refine zw_and ?_
    refine Iff.trans (zw_iload (show decode cX12_duel 112 = .ok (.iload 8, 2) by decide +kernel) rfl) ?_
    refine Iff.trans (zw_aload_n (show decode cX12_duel 114 = .ok (.aload_n 0, 1) by decide +kernel) rfl) ?_
    refine Iff.trans (zw_get (show decode cX12_duel 115 = .ok (.getfield 23, 3) by decide +kernel) (by decide +kernel : zfld 12 23 = some (12, 8)) (hl.k2 zk_131) (hl.n2 zk_131) (zgetR (v := 136) (hl.r zrt_131_8) rfl)) ?_
    refine Iff.trans (zw_iload_n (show decode cX12_duel 118 = .ok (.iload_n 3, 1) by decide +kernel) rfl) ?_
    refine Iff.trans (zw_iald2 (show decode cX12_duel 119 = .ok (.iaload, 1) by decide +kernel) (hl.k2 zk_136) (hl.n2 zk_136) (hl.l2 zk_136 zl_136) (w := zI σ 136 (x3 : Int32).toNatClampNeg) rfl) ?_
    refine zw_and ?_
    refine Iff.trans (zw_invS (K' := kX12_areApart) (as := [.int x7, .int (zI σ 136 (x2 : Int32).toNatClampNeg), .int x8, .int (zI σ 136 (x3 : Int32).toNatClampNeg)]) (rest := []) (show decode cX12_duel 120 = .ok (.invokestatic 368, 3) by decide +kernel) (by rfl) rfl rfl rfl ⟨Nat.le_of_ble_eq_true rfl, Nat.le_of_ble_eq_true rfl, Nat.le_of_ble_eq_true rfl⟩) ?_
    exact Iff.rfl

theorem bX12_duel_123 {d : Nat} {σ : zS} {Q : Option Value → zS → Prop} (hl : zLay σ) {x1 x2 x3 x4 x5 x6 x7 x8 y0 : Int32} : zW (d + 1) kX12_duel 123 [.ref 131, .int x1, .int x2, .int x3, .int x4, .int x5, .int x6, .int x7, .int x8] [.int y0] σ Q ↔ (if y0 = (0 : Int32) then zW (d + 1) kX12_duel 71 [.ref 131, .int x1, .int x2, .int x3, .int x4, .int x5, .int x6, .int x7, .int (x8 + 1)] [] σ Q else zCall d kX12_gameOf [.ref 131, .int x1, .int x2, .int x3, .int x7, .int x8, .int x4] σ (fun r σ' => zisN r = true ∧ zW (d + 1) kX12_duel 147 [.ref 131, .int x1, .int x2, .int x3, .int x4, .int 1, .int x6, .int x7, .int x8] (zRstk r ++ [.int x6]) σ' Q)) := by
  refine Iff.trans (zw_if_ne (t := 129) (show decode cX12_duel 123 = .ok (.ifCond .ne 6, 3) by decide +kernel) (by decide)) ?_
  refine zw_ite ?_ ?_
  · refine Iff.trans (zw_goto (t := 150) (show decode cX12_duel 126 = .ok (.goto 24, 3) by decide +kernel) (by decide)) ?_
    refine Iff.trans (zw_iinc (w := 1) (ls' := [.ref 131, .int x1, .int x2, .int x3, .int x4, .int x5, .int x6, .int x7, .int (x8 + 1)]) (show decode cX12_duel 150 = .ok (.iinc 8 1, 3) by decide +kernel) rfl (by decide) (zset_s (Nat.le_of_ble_eq_true rfl) rfl)) ?_
    refine Iff.trans (zw_goto (t := 71) (show decode cX12_duel 153 = .ok (.goto (-82), 3) by decide +kernel) (by decide)) ?_
    exact Iff.rfl
  · refine Iff.trans (zw_iconst (x := 1) (show decode cX12_duel 129 = .ok (.iconst 1, 1) by decide +kernel) (by decide)) ?_
    refine Iff.trans (zw_istore (ls' := [.ref 131, .int x1, .int x2, .int x3, .int x4, .int 1, .int x6, .int x7, .int x8]) (show decode cX12_duel 130 = .ok (.istore 5, 2) by decide +kernel) (zset_s (Nat.le_of_ble_eq_true rfl) rfl)) ?_
    refine Iff.trans (zw_iload (show decode cX12_duel 132 = .ok (.iload 6, 2) by decide +kernel) rfl) ?_
    refine Iff.trans (zw_aload_n (show decode cX12_duel 134 = .ok (.aload_n 0, 1) by decide +kernel) rfl) ?_
    refine Iff.trans (zw_iload_n (show decode cX12_duel 135 = .ok (.iload_n 1, 1) by decide +kernel) rfl) ?_
    refine Iff.trans (zw_iload_n (show decode cX12_duel 136 = .ok (.iload_n 2, 1) by decide +kernel) rfl) ?_
    refine Iff.trans (zw_iload_n (show decode cX12_duel 137 = .ok (.iload_n 3, 1) by decide +kernel) rfl) ?_
    refine Iff.trans (zw_iload (show decode cX12_duel 138 = .ok (.iload 7, 2) by decide +kernel) rfl) ?_
    refine Iff.trans (zw_iload (show decode cX12_duel 140 = .ok (.iload 8, 2) by decide +kernel) rfl) ?_
    refine Iff.trans (zw_iload (show decode cX12_duel 142 = .ok (.iload 4, 2) by decide +kernel) rfl) ?_
    refine Iff.trans (zw_invV (K' := kX12_gameOf) (as' := [.int x1, .int x2, .int x3, .int x7, .int x8, .int x4]) (rest := [.int x6]) (show decode cX12_duel 144 = .ok (.invokevirtual 371, 3) by decide +kernel) (by rfl) rfl rfl rfl (hl.k2 zk_131) (by decide) (hl.n2 zk_131) ⟨Nat.le_of_ble_eq_true rfl, Nat.le_of_ble_eq_true rfl, Nat.le_of_ble_eq_true rfl⟩) ?_
    exact Iff.rfl

theorem bX12_duel_147 {d : Nat} {σ : zS} {Q : Option Value → zS → Prop} (hl : zLay σ) {x1 x2 x3 x4 x5 x6 x7 x8 y0 y1 : Int32} : zW (d + 1) kX12_duel 147 [.ref 131, .int x1, .int x2, .int x3, .int x4, .int x5, .int x6, .int x7, .int x8] [.int y0, .int y1] σ Q ↔ zW (d + 1) kX12_duel 71 [.ref 131, .int x1, .int x2, .int x3, .int x4, .int x5, .int (y1 + y0), .int x7, .int (x8 + 1)] [] σ Q := by
  refine Iff.trans (zw_iadd (show decode cX12_duel 147 = .ok (.iadd, 1) by decide +kernel)) ?_
  refine Iff.trans (zw_istore (ls' := [.ref 131, .int x1, .int x2, .int x3, .int x4, .int x5, .int (y1 + y0), .int x7, .int x8]) (show decode cX12_duel 148 = .ok (.istore 6, 2) by decide +kernel) (zset_s (Nat.le_of_ble_eq_true rfl) rfl)) ?_
  refine Iff.trans (zw_iinc (w := 1) (ls' := [.ref 131, .int x1, .int x2, .int x3, .int x4, .int x5, .int (y1 + y0), .int x7, .int (x8 + 1)]) (show decode cX12_duel 150 = .ok (.iinc 8 1, 3) by decide +kernel) rfl (by decide) (zset_s (Nat.le_of_ble_eq_true rfl) rfl)) ?_
  refine Iff.trans (zw_goto (t := 71) (show decode cX12_duel 153 = .ok (.goto (-82), 3) by decide +kernel) (by decide)) ?_
  exact Iff.rfl

theorem bX12_duel_166 {d : Nat} {σ : zS} {Q : Option Value → zS → Prop} (hl : zLay σ) {x1 x2 x3 x4 x5 x6 x7 : Int32} {v8 : Value} (hv8 : v8.category = 1) : zW (d + 1) kX12_duel 166 [.ref 131, .int x1, .int x2, .int x3, .int x4, .int x5, .int x6, .int x7, v8] [] σ Q ↔ (if x5 = (0 : Int32) then Q (some (.int (-1000))) σ else Q (some (.int x6)) σ) := by
  refine Iff.trans (zw_iload (show decode cX12_duel 166 = .ok (.iload 5, 2) by decide +kernel) rfl) ?_
  refine Iff.trans (zw_if_eq (t := 176) (show decode cX12_duel 168 = .ok (.ifCond .eq 8, 3) by decide +kernel) (by decide)) ?_
  refine zw_ite ?_ ?_
  · refine Iff.trans (zw_sipush (x := (-1000)) (show decode cX12_duel 176 = .ok (.sipush (-1000), 3) by decide +kernel) (by decide)) ?_
    exact zw_iret1 (show decode cX12_duel 179 = .ok (.ireturn, 1) by decide +kernel) rfl
  · refine Iff.trans (zw_iload (show decode cX12_duel 171 = .ok (.iload 6, 2) by decide +kernel) rfl) ?_
    refine Iff.trans (zw_goto (t := 179) (show decode cX12_duel 173 = .ok (.goto 6, 3) by decide +kernel) (by decide)) ?_
    exact zw_iret1 (show decode cX12_duel 179 = .ok (.ireturn, 1) by decide +kernel) rfl

theorem bX12_leastSum_0 {d : Nat} {σ : zS} {Q : Option Value → zS → Prop} (hl : zLay σ) {x1 x2 x3 : Int32} : zCall (d + 1) kX12_leastSum [.ref 131, .int x1, .int x2, .int x3] σ Q ↔ zW (d + 1) kX12_leastSum 6 [.ref 131, .int x1, .int x2, .int x3, .int (-1), .int 0, .retAddr 0, .retAddr 0] [] σ Q := by
  show zW (d + 1) kX12_leastSum 0 [.ref 131, .int x1, .int x2, .int x3, .retAddr 0, .retAddr 0, .retAddr 0, .retAddr 0] [] σ Q ↔ _
  refine Iff.trans (zw_iconst (x := (-1)) (show decode cX12_leastSum 0 = .ok (.iconst (-1), 1) by decide +kernel) (by decide)) ?_
  refine Iff.trans (zw_istore (ls' := [.ref 131, .int x1, .int x2, .int x3, .int (-1), .retAddr 0, .retAddr 0, .retAddr 0]) (show decode cX12_leastSum 1 = .ok (.istore 4, 2) by decide +kernel) (zset_s (Nat.le_of_ble_eq_true rfl) rfl)) ?_
  refine Iff.trans (zw_iconst (x := 0) (show decode cX12_leastSum 3 = .ok (.iconst 0, 1) by decide +kernel) (by decide)) ?_
  refine Iff.trans (zw_istore (ls' := [.ref 131, .int x1, .int x2, .int x3, .int (-1), .int 0, .retAddr 0, .retAddr 0]) (show decode cX12_leastSum 4 = .ok (.istore 5, 2) by decide +kernel) (zset_s (Nat.le_of_ble_eq_true rfl) rfl)) ?_
  exact Iff.rfl

theorem bX12_leastSum_6 {d : Nat} {σ : zS} {Q : Option Value → zS → Prop} (hl : zLay σ) {x1 x2 x3 x4 x5 : Int32} {v6 v7 : Value} (hv6 : v6.category = 1) (hv7 : v7.category = 1) : zW (d + 1) kX12_leastSum 6 [.ref 131, .int x1, .int x2, .int x3, .int x4, .int x5, v6, v7] [] σ Q ↔ (vp_in x1 7 ∧ (if (zI σ 134 (x1 : Int32).toNatClampNeg) ≤ x5 then Q (some (.int x4)) σ else zCall d kX12_canBegin [.ref 131, .int x1, .int x2, .int x5] σ (fun r σ' => zisN r = true ∧ zW (d + 1) kX12_leastSum 25 [.ref 131, .int x1, .int x2, .int x3, .int x4, .int x5, v6, v7] (zRstk r ++ []) σ' Q))) := by
  refine Iff.trans (zw_iload (show decode cX12_leastSum 6 = .ok (.iload 5, 2) by decide +kernel) rfl) ?_
  refine Iff.trans (zw_aload_n (show decode cX12_leastSum 8 = .ok (.aload_n 0, 1) by decide +kernel) rfl) ?_
  refine Iff.trans (zw_get (show decode cX12_leastSum 9 = .ok (.getfield 17, 3) by decide +kernel) (by decide +kernel : zfld 12 17 = some (12, 6)) (hl.k2 zk_131) (hl.n2 zk_131) (zgetR (v := 134) (hl.r zrt_131_6) rfl)) ?_
  refine Iff.trans (zw_iload_n (show decode cX12_leastSum 12 = .ok (.iload_n 1, 1) by decide +kernel) rfl) ?_
  refine Iff.trans (zw_iald2 (show decode cX12_leastSum 13 = .ok (.iaload, 1) by decide +kernel) (hl.k2 zk_134) (hl.n2 zk_134) (hl.l2 zk_134 zl_134) (w := zI σ 134 (x1 : Int32).toNatClampNeg) rfl) ?_
  refine zw_and ?_
  refine Iff.trans (zw_icmp_ge (t := 91) (show decode cX12_leastSum 14 = .ok (.if_icmp .ge 77, 3) by decide +kernel) (by decide)) ?_
  refine zw_ite ?_ ?_
  · refine Iff.trans (zw_iload (show decode cX12_leastSum 91 = .ok (.iload 4, 2) by decide +kernel) rfl) ?_
    exact zw_iret1 (show decode cX12_leastSum 93 = .ok (.ireturn, 1) by decide +kernel) rfl
  · refine Iff.trans (zw_aload_n (show decode cX12_leastSum 17 = .ok (.aload_n 0, 1) by decide +kernel) rfl) ?_
    refine Iff.trans (zw_iload_n (show decode cX12_leastSum 18 = .ok (.iload_n 1, 1) by decide +kernel) rfl) ?_
    refine Iff.trans (zw_iload_n (show decode cX12_leastSum 19 = .ok (.iload_n 2, 1) by decide +kernel) rfl) ?_
    refine Iff.trans (zw_iload (show decode cX12_leastSum 20 = .ok (.iload 5, 2) by decide +kernel) rfl) ?_
    refine Iff.trans (zw_invV (K' := kX12_canBegin) (as' := [.int x1, .int x2, .int x5]) (rest := []) (show decode cX12_leastSum 22 = .ok (.invokevirtual 357, 3) by decide +kernel) (by rfl) rfl rfl rfl (hl.k2 zk_131) (by decide) (hl.n2 zk_131) ⟨Nat.le_of_ble_eq_true rfl, Nat.le_of_ble_eq_true rfl, Nat.le_of_ble_eq_true rfl⟩) ?_
    exact Iff.rfl

theorem bX12_leastSum_25 {d : Nat} {σ : zS} {Q : Option Value → zS → Prop} (hl : zLay σ) {x1 x2 x3 x4 x5 y0 : Int32} {v6 v7 : Value} (hv6 : v6.category = 1) (hv7 : v7.category = 1) : zW (d + 1) kX12_leastSum 25 [.ref 131, .int x1, .int x2, .int x3, .int x4, .int x5, v6, v7] [.int y0] σ Q ↔ (if y0 = (0 : Int32) then zW (d + 1) kX12_leastSum 6 [.ref 131, .int x1, .int x2, .int x3, .int x4, .int (x5 + 1), v6, v7] [] σ Q else zW (d + 1) kX12_leastSum 37 [.ref 131, .int x1, .int x2, .int x3, .int x4, .int x5, .int 0, .int 0] [] σ Q) := by
  refine Iff.trans (zw_if_ne (t := 31) (show decode cX12_leastSum 25 = .ok (.ifCond .ne 6, 3) by decide +kernel) (by decide)) ?_
  refine zw_ite ?_ ?_
  · refine Iff.trans (zw_goto (t := 85) (show decode cX12_leastSum 28 = .ok (.goto 57, 3) by decide +kernel) (by decide)) ?_
    refine Iff.trans (zw_iinc (w := 1) (ls' := [.ref 131, .int x1, .int x2, .int x3, .int x4, .int (x5 + 1), v6, v7]) (show decode cX12_leastSum 85 = .ok (.iinc 5 1, 3) by decide +kernel) rfl (by decide) (zset_s (Nat.le_of_ble_eq_true rfl) rfl)) ?_
    refine Iff.trans (zw_goto (t := 6) (show decode cX12_leastSum 88 = .ok (.goto (-82), 3) by decide +kernel) (by decide)) ?_
    exact Iff.rfl
  · refine Iff.trans (zw_iconst (x := 0) (show decode cX12_leastSum 31 = .ok (.iconst 0, 1) by decide +kernel) (by decide)) ?_
    refine Iff.trans (zw_istore (ls' := [.ref 131, .int x1, .int x2, .int x3, .int x4, .int x5, .int 0, v7]) (show decode cX12_leastSum 32 = .ok (.istore 6, 2) by decide +kernel) (zset_s (Nat.le_of_ble_eq_true rfl) rfl)) ?_
    refine Iff.trans (zw_iconst (x := 0) (show decode cX12_leastSum 34 = .ok (.iconst 0, 1) by decide +kernel) (by decide)) ?_
    refine Iff.trans (zw_istore (ls' := [.ref 131, .int x1, .int x2, .int x3, .int x4, .int x5, .int 0, .int 0]) (show decode cX12_leastSum 35 = .ok (.istore 7, 2) by decide +kernel) (zset_s (Nat.le_of_ble_eq_true rfl) rfl)) ?_
    exact Iff.rfl

theorem bX12_leastSum_37 {d : Nat} {σ : zS} {Q : Option Value → zS → Prop} (hl : zLay σ) {x1 x2 x3 x4 x5 x6 x7 : Int32} : zW (d + 1) kX12_leastSum 37 [.ref 131, .int x1, .int x2, .int x3, .int x4, .int x5, .int x6, .int x7] [] σ Q ↔ (if x3 ≤ x7 then (if x4 = (-1) then zW (d + 1) kX12_leastSum 6 [.ref 131, .int x1, .int x2, .int x3, .int x6, .int (x5 + 1), .int x6, .int x7] [] σ Q else zW (d + 1) kX12_leastSum 6 [.ref 131, .int x1, .int x2, .int x3, .int (if x6 < x4 then x6 else x4), .int (x5 + 1), .int x6, .int x7] [] σ Q) else zCall d kX12_aloneBy [.ref 131, .int x1, .int x2, .int x5, .long ((x7 : Int32).toInt64)] σ (fun r σ' => zisN r = true ∧ zW (d + 1) kX12_leastSum 56 [.ref 131, .int x1, .int x2, .int x3, .int x4, .int x5, .int x6, .int x7] (zRstk r ++ [.int x6]) σ' Q)) := by
  refine Iff.trans (zw_iload (show decode cX12_leastSum 37 = .ok (.iload 7, 2) by decide +kernel) rfl) ?_
  refine Iff.trans (zw_iload_n (show decode cX12_leastSum 39 = .ok (.iload_n 3, 1) by decide +kernel) rfl) ?_
  refine Iff.trans (zw_icmp_ge (t := 65) (show decode cX12_leastSum 40 = .ok (.if_icmp .ge 25, 3) by decide +kernel) (by decide)) ?_
  refine zw_ite ?_ ?_
  · refine Iff.trans (zw_iload (show decode cX12_leastSum 65 = .ok (.iload 4, 2) by decide +kernel) rfl) ?_
    refine Iff.trans (zw_iconst (x := (-1)) (show decode cX12_leastSum 67 = .ok (.iconst (-1), 1) by decide +kernel) (by decide)) ?_
    refine Iff.trans (zw_icmp_ne (t := 76) (show decode cX12_leastSum 68 = .ok (.if_icmp .ne 8, 3) by decide +kernel) (by decide)) ?_
    refine zw_ite ?_ ?_
    · refine Iff.trans (zw_iload (show decode cX12_leastSum 71 = .ok (.iload 6, 2) by decide +kernel) rfl) ?_
      refine Iff.trans (zw_goto (t := 83) (show decode cX12_leastSum 73 = .ok (.goto 10, 3) by decide +kernel) (by decide)) ?_
      refine Iff.trans (zw_istore (ls' := [.ref 131, .int x1, .int x2, .int x3, .int x6, .int x5, .int x6, .int x7]) (show decode cX12_leastSum 83 = .ok (.istore 4, 2) by decide +kernel) (zset_s (Nat.le_of_ble_eq_true rfl) rfl)) ?_
      refine Iff.trans (zw_iinc (w := 1) (ls' := [.ref 131, .int x1, .int x2, .int x3, .int x6, .int (x5 + 1), .int x6, .int x7]) (show decode cX12_leastSum 85 = .ok (.iinc 5 1, 3) by decide +kernel) rfl (by decide) (zset_s (Nat.le_of_ble_eq_true rfl) rfl)) ?_
      refine Iff.trans (zw_goto (t := 6) (show decode cX12_leastSum 88 = .ok (.goto (-82), 3) by decide +kernel) (by decide)) ?_
      exact Iff.rfl
    · refine Iff.trans (zw_iload (show decode cX12_leastSum 76 = .ok (.iload 4, 2) by decide +kernel) rfl) ?_
      refine Iff.trans (zw_iload (show decode cX12_leastSum 78 = .ok (.iload 6, 2) by decide +kernel) rfl) ?_
      refine Iff.trans (zw_nmin (show decode cX12_leastSum 80 = .ok (.invokestatic 441, 3) by decide +kernel) (by rfl) (Nat.le_of_ble_eq_true rfl)) ?_
      refine Iff.trans (zw_istore (ls' := [.ref 131, .int x1, .int x2, .int x3, .int (if x6 < x4 then x6 else x4), .int x5, .int x6, .int x7]) (show decode cX12_leastSum 83 = .ok (.istore 4, 2) by decide +kernel) (zset_s (Nat.le_of_ble_eq_true rfl) rfl)) ?_
      refine Iff.trans (zw_iinc (w := 1) (ls' := [.ref 131, .int x1, .int x2, .int x3, .int (if x6 < x4 then x6 else x4), .int (x5 + 1), .int x6, .int x7]) (show decode cX12_leastSum 85 = .ok (.iinc 5 1, 3) by decide +kernel) rfl (by decide) (zset_s (Nat.le_of_ble_eq_true rfl) rfl)) ?_
      refine Iff.trans (zw_goto (t := 6) (show decode cX12_leastSum 88 = .ok (.goto (-82), 3) by decide +kernel) (by decide)) ?_
      exact Iff.rfl
  · refine Iff.trans (zw_iload (show decode cX12_leastSum 43 = .ok (.iload 6, 2) by decide +kernel) rfl) ?_
    refine Iff.trans (zw_aload_n (show decode cX12_leastSum 45 = .ok (.aload_n 0, 1) by decide +kernel) rfl) ?_
    refine Iff.trans (zw_iload_n (show decode cX12_leastSum 46 = .ok (.iload_n 1, 1) by decide +kernel) rfl) ?_
    refine Iff.trans (zw_iload_n (show decode cX12_leastSum 47 = .ok (.iload_n 2, 1) by decide +kernel) rfl) ?_
    refine Iff.trans (zw_iload (show decode cX12_leastSum 48 = .ok (.iload 5, 2) by decide +kernel) rfl) ?_
    refine Iff.trans (zw_iload (show decode cX12_leastSum 50 = .ok (.iload 7, 2) by decide +kernel) rfl) ?_
    refine Iff.trans (zw_i2l (show decode cX12_leastSum 52 = .ok (.i2l, 1) by decide +kernel)) ?_
    refine Iff.trans (zw_invV (K' := kX12_aloneBy) (as' := [.int x1, .int x2, .int x5, .long ((x7 : Int32).toInt64)]) (rest := [.int x6]) (show decode cX12_leastSum 53 = .ok (.invokevirtual 360, 3) by decide +kernel) (by rfl) rfl rfl rfl (hl.k2 zk_131) (by decide) (hl.n2 zk_131) ⟨Nat.le_of_ble_eq_true rfl, Nat.le_of_ble_eq_true rfl, Nat.le_of_ble_eq_true rfl⟩) ?_
    exact Iff.rfl

theorem bX12_leastSum_56 {d : Nat} {σ : zS} {Q : Option Value → zS → Prop} (hl : zLay σ) {x1 x2 x3 x4 x5 x6 x7 y0 y1 : Int32} : zW (d + 1) kX12_leastSum 56 [.ref 131, .int x1, .int x2, .int x3, .int x4, .int x5, .int x6, .int x7] [.int y0, .int y1] σ Q ↔ zW (d + 1) kX12_leastSum 37 [.ref 131, .int x1, .int x2, .int x3, .int x4, .int x5, .int (y1 + y0), .int (x7 + 1)] [] σ Q := by
  refine Iff.trans (zw_iadd (show decode cX12_leastSum 56 = .ok (.iadd, 1) by decide +kernel)) ?_
  refine Iff.trans (zw_istore (ls' := [.ref 131, .int x1, .int x2, .int x3, .int x4, .int x5, .int (y1 + y0), .int x7]) (show decode cX12_leastSum 57 = .ok (.istore 6, 2) by decide +kernel) (zset_s (Nat.le_of_ble_eq_true rfl) rfl)) ?_
  refine Iff.trans (zw_iinc (w := 1) (ls' := [.ref 131, .int x1, .int x2, .int x3, .int x4, .int x5, .int (y1 + y0), .int (x7 + 1)]) (show decode cX12_leastSum 59 = .ok (.iinc 7 1, 3) by decide +kernel) rfl (by decide) (zset_s (Nat.le_of_ble_eq_true rfl) rfl)) ?_
  refine Iff.trans (zw_goto (t := 37) (show decode cX12_leastSum 62 = .ok (.goto (-25), 3) by decide +kernel) (by decide)) ?_
  exact Iff.rfl

theorem bX12_ladder_0 {d : Nat} {σ : zS} {Q : Option Value → zS → Prop} (hl : zLay σ) {x1 x2 x3 x4 : Int32} : zCall (d + 1) kX12_ladder [.ref 131, .int x1, .int x2, .int x3, .int x4] σ Q ↔ zCall d kX12_isBrook [.ref 131, .int x1] (zsI σ 131 (upd (zI σ 131) 0 0)) (fun r σ' => zisN r = true ∧ zW (d + 1) kX12_ladder 10 [.ref 131, .int x1, .int x2, .int x3, .int x4, .retAddr 0, .retAddr 0, .retAddr 0, .retAddr 0] (zRstk r ++ []) σ' Q) := by
  show zW (d + 1) kX12_ladder 0 [.ref 131, .int x1, .int x2, .int x3, .int x4, .retAddr 0, .retAddr 0, .retAddr 0, .retAddr 0] [] σ Q ↔ _
  refine Iff.trans (zw_aload_n (show decode cX12_ladder 0 = .ok (.aload_n 0, 1) by decide +kernel) rfl) ?_
  refine Iff.trans (zw_iconst (x := 0) (show decode cX12_ladder 1 = .ok (.iconst 0, 1) by decide +kernel) (by decide)) ?_
  refine Iff.trans (zw_putI (show decode cX12_ladder 2 = .ok (.putfield 118, 3) by decide +kernel) (by decide +kernel : zfld 12 118 = some (12, 0)) (hl.k2 zk_131) (hl.n2 zk_131) rfl (Or.inl rfl) (σ' := (zsI σ 131 (upd (zI σ 131) 0 0))) rfl) ?_
  refine Iff.trans (zw_aload_n (show decode cX12_ladder 5 = .ok (.aload_n 0, 1) by decide +kernel) rfl) ?_
  refine Iff.trans (zw_iload_n (show decode cX12_ladder 6 = .ok (.iload_n 1, 1) by decide +kernel) rfl) ?_
  refine Iff.trans (zw_invV (K' := kX12_isBrook) (as' := [.int x1]) (rest := []) (show decode cX12_ladder 7 = .ok (.invokevirtual 193, 3) by decide +kernel) (by rfl) rfl rfl rfl (hl.I.k2 zk_131) (by decide) (hl.I.n2 zk_131) ⟨Nat.le_of_ble_eq_true rfl, Nat.le_of_ble_eq_true rfl, Nat.le_of_ble_eq_true rfl⟩) ?_
  exact Iff.rfl

theorem bX12_ladder_10 {d : Nat} {σ : zS} {Q : Option Value → zS → Prop} (hl : zLay σ) {x1 x2 x3 x4 y0 : Int32} : zW (d + 1) kX12_ladder 10 [.ref 131, .int x1, .int x2, .int x3, .int x4, .retAddr 0, .retAddr 0, .retAddr 0, .retAddr 0] [.int y0] σ Q ↔ (if y0 = (0 : Int32) then Q (some (.int (-1))) σ else zCall d kX12_areSticks [.ref 131, .int x2] σ (fun r σ' => zisN r = true ∧ zW (d + 1) kX12_ladder 18 [.ref 131, .int x1, .int x2, .int x3, .int x4, .retAddr 0, .retAddr 0, .retAddr 0, .retAddr 0] (zRstk r ++ []) σ' Q)) := by
  refine Iff.trans (zw_if_eq (t := 31) (show decode cX12_ladder 10 = .ok (.ifCond .eq 21, 3) by decide +kernel) (by decide)) ?_
  refine zw_ite ?_ ?_
  · refine Iff.trans (zw_iconst (x := (-1)) (show decode cX12_ladder 31 = .ok (.iconst (-1), 1) by decide +kernel) (by decide)) ?_
    exact zw_iret1 (show decode cX12_ladder 32 = .ok (.ireturn, 1) by decide +kernel) rfl
  · refine Iff.trans (zw_aload_n (show decode cX12_ladder 13 = .ok (.aload_n 0, 1) by decide +kernel) rfl) ?_
    refine Iff.trans (zw_iload_n (show decode cX12_ladder 14 = .ok (.iload_n 2, 1) by decide +kernel) rfl) ?_
    refine Iff.trans (zw_invV (K' := kX12_areSticks) (as' := [.int x2]) (rest := []) (show decode cX12_ladder 15 = .ok (.invokevirtual 365, 3) by decide +kernel) (by rfl) rfl rfl rfl (hl.k2 zk_131) (by decide) (hl.n2 zk_131) ⟨Nat.le_of_ble_eq_true rfl, Nat.le_of_ble_eq_true rfl, Nat.le_of_ble_eq_true rfl⟩) ?_
    exact Iff.rfl

theorem bX12_ladder_18 {d : Nat} {σ : zS} {Q : Option Value → zS → Prop} (hl : zLay σ) {x1 x2 x3 x4 y0 : Int32} : zW (d + 1) kX12_ladder 18 [.ref 131, .int x1, .int x2, .int x3, .int x4, .retAddr 0, .retAddr 0, .retAddr 0, .retAddr 0] [.int y0] σ Q ↔ (if y0 = (0 : Int32) then Q (some (.int (-1))) σ else zCall d kX12_isIn [.int x3, .int 1, .int 40] σ (fun r σ' => zisN r = true ∧ zW (d + 1) kX12_ladder 28 [.ref 131, .int x1, .int x2, .int x3, .int x4, .retAddr 0, .retAddr 0, .retAddr 0, .retAddr 0] (zRstk r ++ []) σ' Q)) := by
  refine Iff.trans (zw_if_eq (t := 31) (show decode cX12_ladder 18 = .ok (.ifCond .eq 13, 3) by decide +kernel) (by decide)) ?_
  refine zw_ite ?_ ?_
  · refine Iff.trans (zw_iconst (x := (-1)) (show decode cX12_ladder 31 = .ok (.iconst (-1), 1) by decide +kernel) (by decide)) ?_
    exact zw_iret1 (show decode cX12_ladder 32 = .ok (.ireturn, 1) by decide +kernel) rfl
  · refine Iff.trans (zw_iload_n (show decode cX12_ladder 21 = .ok (.iload_n 3, 1) by decide +kernel) rfl) ?_
    refine Iff.trans (zw_iconst (x := 1) (show decode cX12_ladder 22 = .ok (.iconst 1, 1) by decide +kernel) (by decide)) ?_
    refine Iff.trans (zw_bipush (x := 40) (show decode cX12_ladder 23 = .ok (.bipush 40, 2) by decide +kernel) (by decide)) ?_
    refine Iff.trans (zw_invS (K' := kX12_isIn) (as := [.int x3, .int 1, .int 40]) (rest := []) (show decode cX12_ladder 25 = .ok (.invokestatic 163, 3) by decide +kernel) (by rfl) rfl rfl rfl ⟨Nat.le_of_ble_eq_true rfl, Nat.le_of_ble_eq_true rfl, Nat.le_of_ble_eq_true rfl⟩) ?_
    exact Iff.rfl

theorem bX12_ladder_28 {d : Nat} {σ : zS} {Q : Option Value → zS → Prop} (hl : zLay σ) {x1 x2 x3 x4 y0 : Int32} : zW (d + 1) kX12_ladder 28 [.ref 131, .int x1, .int x2, .int x3, .int x4, .retAddr 0, .retAddr 0, .retAddr 0, .retAddr 0] [.int y0] σ Q ↔ (if y0 = (0 : Int32) then Q (some (.int (-1))) σ else zW (d + 1) kX12_ladder 39 [.ref 131, .int x1, .int x2, .int x3, .int x4, .int 0, .int 0, .retAddr 0, .retAddr 0] [] σ Q) := by
  refine Iff.trans (zw_if_ne (t := 33) (show decode cX12_ladder 28 = .ok (.ifCond .ne 5, 3) by decide +kernel) (by decide)) ?_
  refine zw_ite ?_ ?_
  · refine Iff.trans (zw_iconst (x := (-1)) (show decode cX12_ladder 31 = .ok (.iconst (-1), 1) by decide +kernel) (by decide)) ?_
    exact zw_iret1 (show decode cX12_ladder 32 = .ok (.ireturn, 1) by decide +kernel) rfl
  · refine Iff.trans (zw_iconst (x := 0) (show decode cX12_ladder 33 = .ok (.iconst 0, 1) by decide +kernel) (by decide)) ?_
    refine Iff.trans (zw_istore (ls' := [.ref 131, .int x1, .int x2, .int x3, .int x4, .int 0, .retAddr 0, .retAddr 0, .retAddr 0]) (show decode cX12_ladder 34 = .ok (.istore 5, 2) by decide +kernel) (zset_s (Nat.le_of_ble_eq_true rfl) rfl)) ?_
    refine Iff.trans (zw_iconst (x := 0) (show decode cX12_ladder 36 = .ok (.iconst 0, 1) by decide +kernel) (by decide)) ?_
    refine Iff.trans (zw_istore (ls' := [.ref 131, .int x1, .int x2, .int x3, .int x4, .int 0, .int 0, .retAddr 0, .retAddr 0]) (show decode cX12_ladder 37 = .ok (.istore 6, 2) by decide +kernel) (zset_s (Nat.le_of_ble_eq_true rfl) rfl)) ?_
    exact Iff.rfl

theorem bX12_ladder_39 {d : Nat} {σ : zS} {Q : Option Value → zS → Prop} (hl : zLay σ) {x1 x2 x3 x4 x5 x6 : Int32} {v7 v8 : Value} (hv7 : v7.category = 1) (hv8 : v8.category = 1) : zW (d + 1) kX12_ladder 39 [.ref 131, .int x1, .int x2, .int x3, .int x4, .int x5, .int x6, v7, v8] [] σ Q ↔ (if (zI σ 131 12) ≤ x6 then (if x4 = (-1) then Q (some (.int x5)) σ else zCall d kX12_isIn [.int x4, .int 0, .int (x5 - 1)] σ (fun r σ' => zisN r = true ∧ zW (d + 1) kX12_ladder 189 [.ref 131, .int x1, .int x2, .int x3, .int x4, .int x5, .int x6, v7, v8] (zRstk r ++ []) σ' Q)) else zCall d kX12_has [.int x2, .int x6] σ (fun r σ' => zisN r = true ∧ zW (d + 1) kX12_ladder 54 [.ref 131, .int x1, .int x2, .int x3, .int x4, .int x5, .int x6, v7, v8] (zRstk r ++ []) σ' Q)) := by
  refine Iff.trans (zw_iload (show decode cX12_ladder 39 = .ok (.iload 6, 2) by decide +kernel) rfl) ?_
  refine Iff.trans (zw_aload_n (show decode cX12_ladder 41 = .ok (.aload_n 0, 1) by decide +kernel) rfl) ?_
  refine Iff.trans (zw_getI (show decode cX12_ladder 42 = .ok (.getfield 184, 3) by decide +kernel) (by decide +kernel : zfld 12 184 = some (12, 12)) (hl.k2 zk_131) (hl.n2 zk_131) (Or.inl rfl) (w := zI σ 131 12) rfl) ?_
  refine Iff.trans (zw_icmp_ge (t := 168) (show decode cX12_ladder 45 = .ok (.if_icmp .ge 123, 3) by decide +kernel) (by decide)) ?_
  refine zw_ite ?_ ?_
  · refine Iff.trans (zw_iload (show decode cX12_ladder 168 = .ok (.iload 4, 2) by decide +kernel) rfl) ?_
    refine Iff.trans (zw_iconst (x := (-1)) (show decode cX12_ladder 170 = .ok (.iconst (-1), 1) by decide +kernel) (by decide)) ?_
    refine Iff.trans (zw_icmp_ne (t := 179) (show decode cX12_ladder 171 = .ok (.if_icmp .ne 8, 3) by decide +kernel) (by decide)) ?_
    refine zw_ite ?_ ?_
    · refine Iff.trans (zw_iload (show decode cX12_ladder 174 = .ok (.iload 5, 2) by decide +kernel) rfl) ?_
      refine Iff.trans (zw_goto (t := 203) (show decode cX12_ladder 176 = .ok (.goto 27, 3) by decide +kernel) (by decide)) ?_
      exact zw_iret1 (show decode cX12_ladder 203 = .ok (.ireturn, 1) by decide +kernel) rfl
    · refine Iff.trans (zw_iload (show decode cX12_ladder 179 = .ok (.iload 4, 2) by decide +kernel) rfl) ?_
      refine Iff.trans (zw_iconst (x := 0) (show decode cX12_ladder 181 = .ok (.iconst 0, 1) by decide +kernel) (by decide)) ?_
      refine Iff.trans (zw_iload (show decode cX12_ladder 182 = .ok (.iload 5, 2) by decide +kernel) rfl) ?_
      refine Iff.trans (zw_iconst (x := 1) (show decode cX12_ladder 184 = .ok (.iconst 1, 1) by decide +kernel) (by decide)) ?_
      refine Iff.trans (zw_isub (show decode cX12_ladder 185 = .ok (.isub, 1) by decide +kernel)) ?_
      refine Iff.trans (zw_invS (K' := kX12_isIn) (as := [.int x4, .int 0, .int (x5 - 1)]) (rest := []) (show decode cX12_ladder 186 = .ok (.invokestatic 163, 3) by decide +kernel) (by rfl) rfl rfl rfl ⟨Nat.le_of_ble_eq_true rfl, Nat.le_of_ble_eq_true rfl, Nat.le_of_ble_eq_true rfl⟩) ?_
      exact Iff.rfl
  · refine Iff.trans (zw_iload_n (show decode cX12_ladder 48 = .ok (.iload_n 2, 1) by decide +kernel) rfl) ?_
    refine Iff.trans (zw_iload (show decode cX12_ladder 49 = .ok (.iload 6, 2) by decide +kernel) rfl) ?_
    refine Iff.trans (zw_invS (K' := kX12_has) (as := [.int x2, .int x6]) (rest := []) (show decode cX12_ladder 51 = .ok (.invokestatic 167, 3) by decide +kernel) (by rfl) rfl rfl rfl ⟨Nat.le_of_ble_eq_true rfl, Nat.le_of_ble_eq_true rfl, Nat.le_of_ble_eq_true rfl⟩) ?_
    exact Iff.rfl

theorem bX12_ladder_54 {d : Nat} {σ : zS} {Q : Option Value → zS → Prop} (hl : zLay σ) {x1 x2 x3 x4 x5 x6 y0 : Int32} {v7 v8 : Value} (hv7 : v7.category = 1) (hv8 : v8.category = 1) : zW (d + 1) kX12_ladder 54 [.ref 131, .int x1, .int x2, .int x3, .int x4, .int x5, .int x6, v7, v8] [.int y0] σ Q ↔ (if y0 = (0 : Int32) then zW (d + 1) kX12_ladder 69 [.ref 131, .int x1, .int x2, .int x3, .int x4, .int x5, .int x6, v7, v8] [.int (-1)] σ Q else zCall d kX12_leastSum [.ref 131, .int x1, .int x6, .int x3] σ (fun r σ' => zisN r = true ∧ zW (d + 1) kX12_ladder 65 [.ref 131, .int x1, .int x2, .int x3, .int x4, .int x5, .int x6, v7, v8] (zRstk r ++ []) σ' Q)) := by
  refine Iff.trans (zw_if_eq (t := 68) (show decode cX12_ladder 54 = .ok (.ifCond .eq 14, 3) by decide +kernel) (by decide)) ?_
  refine zw_ite ?_ ?_
  · refine Iff.trans (zw_iconst (x := (-1)) (show decode cX12_ladder 68 = .ok (.iconst (-1), 1) by decide +kernel) (by decide)) ?_
    exact Iff.rfl
  · refine Iff.trans (zw_aload_n (show decode cX12_ladder 57 = .ok (.aload_n 0, 1) by decide +kernel) rfl) ?_
    refine Iff.trans (zw_iload_n (show decode cX12_ladder 58 = .ok (.iload_n 1, 1) by decide +kernel) rfl) ?_
    refine Iff.trans (zw_iload (show decode cX12_ladder 59 = .ok (.iload 6, 2) by decide +kernel) rfl) ?_
    refine Iff.trans (zw_iload_n (show decode cX12_ladder 61 = .ok (.iload_n 3, 1) by decide +kernel) rfl) ?_
    refine Iff.trans (zw_invV (K' := kX12_leastSum) (as' := [.int x1, .int x6, .int x3]) (rest := []) (show decode cX12_ladder 62 = .ok (.invokevirtual 444, 3) by decide +kernel) (by rfl) rfl rfl rfl (hl.k2 zk_131) (by decide) (hl.n2 zk_131) ⟨Nat.le_of_ble_eq_true rfl, Nat.le_of_ble_eq_true rfl, Nat.le_of_ble_eq_true rfl⟩) ?_
    exact Iff.rfl

theorem bX12_ladder_65 {d : Nat} {σ : zS} {Q : Option Value → zS → Prop} (hl : zLay σ) {x1 x2 x3 x4 x5 x6 y0 : Int32} {v7 v8 : Value} (hv7 : v7.category = 1) (hv8 : v8.category = 1) : zW (d + 1) kX12_ladder 65 [.ref 131, .int x1, .int x2, .int x3, .int x4, .int x5, .int x6, v7, v8] [.int y0] σ Q ↔ zW (d + 1) kX12_ladder 69 [.ref 131, .int x1, .int x2, .int x3, .int x4, .int x5, .int x6, v7, v8] [.int y0] σ Q := by
  refine Iff.trans (zw_goto (t := 69) (show decode cX12_ladder 65 = .ok (.goto 4, 3) by decide +kernel) (by decide)) ?_
  exact Iff.rfl

theorem bX12_ladder_69 {d : Nat} {σ : zS} {Q : Option Value → zS → Prop} (hl : zLay σ) {x1 x2 x3 x4 x5 x6 y0 : Int32} {v7 v8 : Value} (hv7 : v7.category = 1) (hv8 : v8.category = 1) : zW (d + 1) kX12_ladder 69 [.ref 131, .int x1, .int x2, .int x3, .int x4, .int x5, .int x6, v7, v8] [.int y0] σ Q ↔ (if y0 = (-1) then zW (d + 1) kX12_ladder 39 [.ref 131, .int x1, .int x2, .int x3, .int x4, .int x5, .int (x6 + 1), .int y0, v8] [] σ Q else zW (d + 1) kX12_ladder 84 [.ref 131, .int x1, .int x2, .int x3, .int x4, .int x5, .int x6, .int y0, .int x5] [] σ Q) := by
  refine Iff.trans (zw_istore (ls' := [.ref 131, .int x1, .int x2, .int x3, .int x4, .int x5, .int x6, .int y0, v8]) (show decode cX12_ladder 69 = .ok (.istore 7, 2) by decide +kernel) (zset_s (Nat.le_of_ble_eq_true rfl) rfl)) ?_
  refine Iff.trans (zw_iload (show decode cX12_ladder 71 = .ok (.iload 7, 2) by decide +kernel) rfl) ?_
  refine Iff.trans (zw_iconst (x := (-1)) (show decode cX12_ladder 73 = .ok (.iconst (-1), 1) by decide +kernel) (by decide)) ?_
  refine Iff.trans (zw_icmp_ne (t := 80) (show decode cX12_ladder 74 = .ok (.if_icmp .ne 6, 3) by decide +kernel) (by decide)) ?_
  refine zw_ite ?_ ?_
  · refine Iff.trans (zw_goto (t := 162) (show decode cX12_ladder 77 = .ok (.goto 85, 3) by decide +kernel) (by decide)) ?_
    refine Iff.trans (zw_iinc (w := 1) (ls' := [.ref 131, .int x1, .int x2, .int x3, .int x4, .int x5, .int (x6 + 1), .int y0, v8]) (show decode cX12_ladder 162 = .ok (.iinc 6 1, 3) by decide +kernel) rfl (by decide) (zset_s (Nat.le_of_ble_eq_true rfl) rfl)) ?_
    refine Iff.trans (zw_goto (t := 39) (show decode cX12_ladder 165 = .ok (.goto (-126), 3) by decide +kernel) (by decide)) ?_
    exact Iff.rfl
  · refine Iff.trans (zw_iload (show decode cX12_ladder 80 = .ok (.iload 5, 2) by decide +kernel) rfl) ?_
    refine Iff.trans (zw_istore (ls' := [.ref 131, .int x1, .int x2, .int x3, .int x4, .int x5, .int x6, .int y0, .int x5]) (show decode cX12_ladder 82 = .ok (.istore 8, 2) by decide +kernel) (zset_s (Nat.le_of_ble_eq_true rfl) rfl)) ?_
    exact Iff.rfl

theorem bX12_ladder_84 {d : Nat} {σ : zS} {Q : Option Value → zS → Prop} (hl : zLay σ) {x1 x2 x3 x4 x5 x6 x7 x8 : Int32} : zW (d + 1) kX12_ladder 84 [.ref 131, .int x1, .int x2, .int x3, .int x4, .int x5, .int x6, .int x7, .int x8] [] σ Q ↔ (if x8 ≤ (0 : Int32) then zW (d + 1) kX12_ladder 141 [.ref 131, .int x1, .int x2, .int x3, .int x4, .int x5, .int x6, .int x7, .int x8] [] σ Q else (vp_in (x8 - 1) 10 ∧ (if (zI σ 162 (x8 - 1 : Int32).toNatClampNeg) ≤ x7 then zW (d + 1) kX12_ladder 141 [.ref 131, .int x1, .int x2, .int x3, .int x4, .int x5, .int x6, .int x7, .int x8] [] σ Q else (vp_in (x8 - 1) 10 ∧ (vp_in x8 10 ∧ (vp_in (x8 - 1) 10 ∧ (vp_in x8 10 ∧ zW (d + 1) kX12_ladder 84 [.ref 131, .int x1, .int x2, .int x3, .int x4, .int x5, .int x6, .int x7, .int (x8 + (-1))] [] (zsI (zsI σ 162 (upd (zI σ 162) (x8 : Int32).toNatClampNeg (zI σ 162 (x8 - 1 : Int32).toNatClampNeg))) 161 (upd (zI σ 161) (x8 : Int32).toNatClampNeg (zI σ 161 (x8 - 1 : Int32).toNatClampNeg))) Q))))))) := by
  refine Iff.trans (zw_iload (show decode cX12_ladder 84 = .ok (.iload 8, 2) by decide +kernel) rfl) ?_
  refine Iff.trans (zw_if_le (t := 141) (show decode cX12_ladder 86 = .ok (.ifCond .le 55, 3) by decide +kernel) (by decide)) ?_
  refine zw_ite ?_ ?_
  · exact Iff.rfl
  · refine Iff.trans (zw_aload_n (show decode cX12_ladder 89 = .ok (.aload_n 0, 1) by decide +kernel) rfl) ?_
    refine Iff.trans (zw_get (show decode cX12_ladder 90 = .ok (.getfield 112, 3) by decide +kernel) (by decide +kernel : zfld 12 112 = some (12, 58)) (hl.k2 zk_131) (hl.n2 zk_131) (zgetR (v := 162) (hl.r zrt_131_58) rfl)) ?_
    refine Iff.trans (zw_iload (show decode cX12_ladder 93 = .ok (.iload 8, 2) by decide +kernel) rfl) ?_
    refine Iff.trans (zw_iconst (x := 1) (show decode cX12_ladder 95 = .ok (.iconst 1, 1) by decide +kernel) (by decide)) ?_
    refine Iff.trans (zw_isub (show decode cX12_ladder 96 = .ok (.isub, 1) by decide +kernel)) ?_
    refine Iff.trans (zw_iald2 (show decode cX12_ladder 97 = .ok (.iaload, 1) by decide +kernel) (hl.k2 zk_162) (hl.n2 zk_162) (hl.l2 zk_162 zl_162) (w := zI σ 162 (x8 - 1 : Int32).toNatClampNeg) rfl) ?_
    refine zw_and ?_
    refine Iff.trans (zw_iload (show decode cX12_ladder 98 = .ok (.iload 7, 2) by decide +kernel) rfl) ?_
    refine Iff.trans (zw_icmp_le (t := 141) (show decode cX12_ladder 100 = .ok (.if_icmp .le 41, 3) by decide +kernel) (by decide)) ?_
    refine zw_ite ?_ ?_
    · exact Iff.rfl
    · refine Iff.trans (zw_aload_n (show decode cX12_ladder 103 = .ok (.aload_n 0, 1) by decide +kernel) rfl) ?_
      refine Iff.trans (zw_get (show decode cX12_ladder 104 = .ok (.getfield 112, 3) by decide +kernel) (by decide +kernel : zfld 12 112 = some (12, 58)) (hl.k2 zk_131) (hl.n2 zk_131) (zgetR (v := 162) (hl.r zrt_131_58) rfl)) ?_
      refine Iff.trans (zw_iload (show decode cX12_ladder 107 = .ok (.iload 8, 2) by decide +kernel) rfl) ?_
      refine Iff.trans (zw_aload_n (show decode cX12_ladder 109 = .ok (.aload_n 0, 1) by decide +kernel) rfl) ?_
      refine Iff.trans (zw_get (show decode cX12_ladder 110 = .ok (.getfield 112, 3) by decide +kernel) (by decide +kernel : zfld 12 112 = some (12, 58)) (hl.k2 zk_131) (hl.n2 zk_131) (zgetR (v := 162) (hl.r zrt_131_58) rfl)) ?_
      refine Iff.trans (zw_iload (show decode cX12_ladder 113 = .ok (.iload 8, 2) by decide +kernel) rfl) ?_
      refine Iff.trans (zw_iconst (x := 1) (show decode cX12_ladder 115 = .ok (.iconst 1, 1) by decide +kernel) (by decide)) ?_
      refine Iff.trans (zw_isub (show decode cX12_ladder 116 = .ok (.isub, 1) by decide +kernel)) ?_
      refine Iff.trans (zw_iald2 (show decode cX12_ladder 117 = .ok (.iaload, 1) by decide +kernel) (hl.k2 zk_162) (hl.n2 zk_162) (hl.l2 zk_162 zl_162) (w := zI σ 162 (x8 - 1 : Int32).toNatClampNeg) rfl) ?_
      refine zw_and ?_
      refine Iff.trans (zw_iast2 (show decode cX12_ladder 118 = .ok (.iastore, 1) by decide +kernel) (hl.k2 zk_162) (hl.n2 zk_162) (hl.l2 zk_162 zl_162) (σ' := (zsI σ 162 (upd (zI σ 162) (x8 : Int32).toNatClampNeg (zI σ 162 (x8 - 1 : Int32).toNatClampNeg)))) rfl) ?_
      refine zw_and ?_
      refine Iff.trans (zw_aload_n (show decode cX12_ladder 119 = .ok (.aload_n 0, 1) by decide +kernel) rfl) ?_
      refine Iff.trans (zw_get (show decode cX12_ladder 120 = .ok (.getfield 109, 3) by decide +kernel) (by decide +kernel : zfld 12 109 = some (12, 57)) (hl.I.k2 zk_131) (hl.I.n2 zk_131) (zgetR (v := 161) (hl.I.r zrt_131_57) rfl)) ?_
      refine Iff.trans (zw_iload (show decode cX12_ladder 123 = .ok (.iload 8, 2) by decide +kernel) rfl) ?_
      refine Iff.trans (zw_aload_n (show decode cX12_ladder 125 = .ok (.aload_n 0, 1) by decide +kernel) rfl) ?_
      refine Iff.trans (zw_get (show decode cX12_ladder 126 = .ok (.getfield 109, 3) by decide +kernel) (by decide +kernel : zfld 12 109 = some (12, 57)) (hl.I.k2 zk_131) (hl.I.n2 zk_131) (zgetR (v := 161) (hl.I.r zrt_131_57) rfl)) ?_
      refine Iff.trans (zw_iload (show decode cX12_ladder 129 = .ok (.iload 8, 2) by decide +kernel) rfl) ?_
      refine Iff.trans (zw_iconst (x := 1) (show decode cX12_ladder 131 = .ok (.iconst 1, 1) by decide +kernel) (by decide)) ?_
      refine Iff.trans (zw_isub (show decode cX12_ladder 132 = .ok (.isub, 1) by decide +kernel)) ?_
      refine Iff.trans (zw_iald2 (show decode cX12_ladder 133 = .ok (.iaload, 1) by decide +kernel) (hl.I.k2 zk_161) (hl.I.n2 zk_161) (hl.I.l2 zk_161 zl_161) (w := zI σ 161 (x8 - 1 : Int32).toNatClampNeg) (congrFun (zI_ne (by decide)) _)) ?_
      refine zw_and ?_
      refine Iff.trans (zw_iast2 (show decode cX12_ladder 134 = .ok (.iastore, 1) by decide +kernel) (hl.I.k2 zk_161) (hl.I.n2 zk_161) (hl.I.l2 zk_161 zl_161) (σ' := (zsI (zsI σ 162 (upd (zI σ 162) (x8 : Int32).toNatClampNeg (zI σ 162 (x8 - 1 : Int32).toNatClampNeg))) 161 (upd (zI σ 161) (x8 : Int32).toNatClampNeg (zI σ 161 (x8 - 1 : Int32).toNatClampNeg)))) (congrArg (fun f => zsI (zsI σ 162 (upd (zI σ 162) (x8 : Int32).toNatClampNeg (zI σ 162 (x8 - 1 : Int32).toNatClampNeg))) 161 (upd f (x8 : Int32).toNatClampNeg (zI σ 161 (x8 - 1 : Int32).toNatClampNeg))) (zI_ne (by decide)))) ?_
      refine zw_and ?_
      refine Iff.trans (zw_iinc (w := (-1)) (ls' := [.ref 131, .int x1, .int x2, .int x3, .int x4, .int x5, .int x6, .int x7, .int (x8 + (-1))]) (show decode cX12_ladder 135 = .ok (.iinc 8 (-1), 3) by decide +kernel) rfl (by decide) (zset_s (Nat.le_of_ble_eq_true rfl) rfl)) ?_
      refine Iff.trans (zw_goto (t := 84) (show decode cX12_ladder 138 = .ok (.goto (-54), 3) by decide +kernel) (by decide)) ?_
      exact Iff.rfl

theorem bX12_ladder_141 {d : Nat} {σ : zS} {Q : Option Value → zS → Prop} (hl : zLay σ) {x1 x2 x3 x4 x5 x6 x7 x8 : Int32} : zW (d + 1) kX12_ladder 141 [.ref 131, .int x1, .int x2, .int x3, .int x4, .int x5, .int x6, .int x7, .int x8] [] σ Q ↔ (vp_in x8 10 ∧ (vp_in x8 10 ∧ zW (d + 1) kX12_ladder 39 [.ref 131, .int x1, .int x2, .int x3, .int x4, .int (x5 + 1), .int (x6 + 1), .int x7, .int x8] [] (zsI (zsI σ 162 (upd (zI σ 162) (x8 : Int32).toNatClampNeg x7)) 161 (upd (zI σ 161) (x8 : Int32).toNatClampNeg x6)) Q)) := by
  refine Iff.trans (zw_aload_n (show decode cX12_ladder 141 = .ok (.aload_n 0, 1) by decide +kernel) rfl) ?_
  refine Iff.trans (zw_get (show decode cX12_ladder 142 = .ok (.getfield 112, 3) by decide +kernel) (by decide +kernel : zfld 12 112 = some (12, 58)) (hl.k2 zk_131) (hl.n2 zk_131) (zgetR (v := 162) (hl.r zrt_131_58) rfl)) ?_
  refine Iff.trans (zw_iload (show decode cX12_ladder 145 = .ok (.iload 8, 2) by decide +kernel) rfl) ?_
  refine Iff.trans (zw_iload (show decode cX12_ladder 147 = .ok (.iload 7, 2) by decide +kernel) rfl) ?_
  refine Iff.trans (zw_iast2 (show decode cX12_ladder 149 = .ok (.iastore, 1) by decide +kernel) (hl.k2 zk_162) (hl.n2 zk_162) (hl.l2 zk_162 zl_162) (σ' := (zsI σ 162 (upd (zI σ 162) (x8 : Int32).toNatClampNeg x7))) rfl) ?_
  refine zw_and ?_
  refine Iff.trans (zw_aload_n (show decode cX12_ladder 150 = .ok (.aload_n 0, 1) by decide +kernel) rfl) ?_
  refine Iff.trans (zw_get (show decode cX12_ladder 151 = .ok (.getfield 109, 3) by decide +kernel) (by decide +kernel : zfld 12 109 = some (12, 57)) (hl.I.k2 zk_131) (hl.I.n2 zk_131) (zgetR (v := 161) (hl.I.r zrt_131_57) rfl)) ?_
  refine Iff.trans (zw_iload (show decode cX12_ladder 154 = .ok (.iload 8, 2) by decide +kernel) rfl) ?_
  refine Iff.trans (zw_iload (show decode cX12_ladder 156 = .ok (.iload 6, 2) by decide +kernel) rfl) ?_
  refine Iff.trans (zw_iast2 (show decode cX12_ladder 158 = .ok (.iastore, 1) by decide +kernel) (hl.I.k2 zk_161) (hl.I.n2 zk_161) (hl.I.l2 zk_161 zl_161) (σ' := (zsI (zsI σ 162 (upd (zI σ 162) (x8 : Int32).toNatClampNeg x7)) 161 (upd (zI σ 161) (x8 : Int32).toNatClampNeg x6))) (congrArg (fun f => zsI (zsI σ 162 (upd (zI σ 162) (x8 : Int32).toNatClampNeg x7)) 161 (upd f (x8 : Int32).toNatClampNeg x6)) (zI_ne (by decide)))) ?_
  refine zw_and ?_
  refine Iff.trans (zw_iinc (w := 1) (ls' := [.ref 131, .int x1, .int x2, .int x3, .int x4, .int (x5 + 1), .int x6, .int x7, .int x8]) (show decode cX12_ladder 159 = .ok (.iinc 5 1, 3) by decide +kernel) rfl (by decide) (zset_s (Nat.le_of_ble_eq_true rfl) rfl)) ?_
  refine Iff.trans (zw_iinc (w := 1) (ls' := [.ref 131, .int x1, .int x2, .int x3, .int x4, .int (x5 + 1), .int (x6 + 1), .int x7, .int x8]) (show decode cX12_ladder 162 = .ok (.iinc 6 1, 3) by decide +kernel) rfl (by decide) (zset_s (Nat.le_of_ble_eq_true rfl) rfl)) ?_
  refine Iff.trans (zw_goto (t := 39) (show decode cX12_ladder 165 = .ok (.goto (-126), 3) by decide +kernel) (by decide)) ?_
  exact Iff.rfl

theorem bX12_ladder_189 {d : Nat} {σ : zS} {Q : Option Value → zS → Prop} (hl : zLay σ) {x1 x2 x3 x4 x5 x6 y0 : Int32} {v7 v8 : Value} (hv7 : v7.category = 1) (hv8 : v8.category = 1) : zW (d + 1) kX12_ladder 189 [.ref 131, .int x1, .int x2, .int x3, .int x4, .int x5, .int x6, v7, v8] [.int y0] σ Q ↔ (if y0 = (0 : Int32) then Q (some (.int (-1))) σ else (vp_in x4 10 ∧ Q (some (.int (zI σ 161 (x4 : Int32).toNatClampNeg))) σ)) := by
  refine Iff.trans (zw_if_eq (t := 202) (show decode cX12_ladder 189 = .ok (.ifCond .eq 13, 3) by decide +kernel) (by decide)) ?_
  refine zw_ite ?_ ?_
  · refine Iff.trans (zw_iconst (x := (-1)) (show decode cX12_ladder 202 = .ok (.iconst (-1), 1) by decide +kernel) (by decide)) ?_
    exact zw_iret1 (show decode cX12_ladder 203 = .ok (.ireturn, 1) by decide +kernel) rfl
  · refine Iff.trans (zw_aload_n (show decode cX12_ladder 192 = .ok (.aload_n 0, 1) by decide +kernel) rfl) ?_
    refine Iff.trans (zw_get (show decode cX12_ladder 193 = .ok (.getfield 109, 3) by decide +kernel) (by decide +kernel : zfld 12 109 = some (12, 57)) (hl.k2 zk_131) (hl.n2 zk_131) (zgetR (v := 161) (hl.r zrt_131_57) rfl)) ?_
    refine Iff.trans (zw_iload (show decode cX12_ladder 196 = .ok (.iload 4, 2) by decide +kernel) rfl) ?_
    refine Iff.trans (zw_iald2 (show decode cX12_ladder 198 = .ok (.iaload, 1) by decide +kernel) (hl.k2 zk_161) (hl.n2 zk_161) (hl.l2 zk_161 zl_161) (w := zI σ 161 (x4 : Int32).toNatClampNeg) rfl) ?_
    refine zw_and ?_
    refine Iff.trans (zw_goto (t := 203) (show decode cX12_ladder 199 = .ok (.goto 4, 3) by decide +kernel) (by decide)) ?_
    exact zw_iret1 (show decode cX12_ladder 203 = .ok (.ireturn, 1) by decide +kernel) rfl

theorem bX12_reach_0 {d : Nat} {σ : zS} {Q : Option Value → zS → Prop} (hl : zLay σ) {x1 x2 x3 x4 x5 : Int32} : zCall (d + 1) kX12_reach [.ref 131, .int x1, .int x2, .int x3, .int x4, .int x5] σ Q ↔ zCall d kX12_isBrook [.ref 131, .int x1] (zsI σ 131 (upd (zI σ 131) 0 0)) (fun r σ' => zisN r = true ∧ zW (d + 1) kX12_reach 10 [.ref 131, .int x1, .int x2, .int x3, .int x4, .int x5, .retAddr 0, .retAddr 0, .retAddr 0] (zRstk r ++ []) σ' Q) := by
  show zW (d + 1) kX12_reach 0 [.ref 131, .int x1, .int x2, .int x3, .int x4, .int x5, .retAddr 0, .retAddr 0, .retAddr 0] [] σ Q ↔ _
  refine Iff.trans (zw_aload_n (show decode cX12_reach 0 = .ok (.aload_n 0, 1) by decide +kernel) rfl) ?_
  refine Iff.trans (zw_iconst (x := 0) (show decode cX12_reach 1 = .ok (.iconst 0, 1) by decide +kernel) (by decide)) ?_
  refine Iff.trans (zw_putI (show decode cX12_reach 2 = .ok (.putfield 118, 3) by decide +kernel) (by decide +kernel : zfld 12 118 = some (12, 0)) (hl.k2 zk_131) (hl.n2 zk_131) rfl (Or.inl rfl) (σ' := (zsI σ 131 (upd (zI σ 131) 0 0))) rfl) ?_
  refine Iff.trans (zw_aload_n (show decode cX12_reach 5 = .ok (.aload_n 0, 1) by decide +kernel) rfl) ?_
  refine Iff.trans (zw_iload_n (show decode cX12_reach 6 = .ok (.iload_n 1, 1) by decide +kernel) rfl) ?_
  refine Iff.trans (zw_invV (K' := kX12_isBrook) (as' := [.int x1]) (rest := []) (show decode cX12_reach 7 = .ok (.invokevirtual 193, 3) by decide +kernel) (by rfl) rfl rfl rfl (hl.I.k2 zk_131) (by decide) (hl.I.n2 zk_131) ⟨Nat.le_of_ble_eq_true rfl, Nat.le_of_ble_eq_true rfl, Nat.le_of_ble_eq_true rfl⟩) ?_
  exact Iff.rfl

theorem bX12_reach_10 {d : Nat} {σ : zS} {Q : Option Value → zS → Prop} (hl : zLay σ) {x1 x2 x3 x4 x5 y0 : Int32} : zW (d + 1) kX12_reach 10 [.ref 131, .int x1, .int x2, .int x3, .int x4, .int x5, .retAddr 0, .retAddr 0, .retAddr 0] [.int y0] σ Q ↔ (if y0 = (0 : Int32) then Q (some (.int (-1))) σ else zCall d kX12_isStick [.ref 131, .int x2] σ (fun r σ' => zisN r = true ∧ zW (d + 1) kX12_reach 18 [.ref 131, .int x1, .int x2, .int x3, .int x4, .int x5, .retAddr 0, .retAddr 0, .retAddr 0] (zRstk r ++ []) σ' Q)) := by
  refine Iff.trans (zw_if_eq (t := 52) (show decode cX12_reach 10 = .ok (.ifCond .eq 42, 3) by decide +kernel) (by decide)) ?_
  refine zw_ite ?_ ?_
  · refine Iff.trans (zw_iconst (x := (-1)) (show decode cX12_reach 52 = .ok (.iconst (-1), 1) by decide +kernel) (by decide)) ?_
    exact zw_iret1 (show decode cX12_reach 53 = .ok (.ireturn, 1) by decide +kernel) rfl
  · refine Iff.trans (zw_aload_n (show decode cX12_reach 13 = .ok (.aload_n 0, 1) by decide +kernel) rfl) ?_
    refine Iff.trans (zw_iload_n (show decode cX12_reach 14 = .ok (.iload_n 2, 1) by decide +kernel) rfl) ?_
    refine Iff.trans (zw_invV (K' := kX12_isStick) (as' := [.int x2]) (rest := []) (show decode cX12_reach 15 = .ok (.invokevirtual 209, 3) by decide +kernel) (by rfl) rfl rfl rfl (hl.k2 zk_131) (by decide) (hl.n2 zk_131) ⟨Nat.le_of_ble_eq_true rfl, Nat.le_of_ble_eq_true rfl, Nat.le_of_ble_eq_true rfl⟩) ?_
    exact Iff.rfl

theorem bX12_reach_18 {d : Nat} {σ : zS} {Q : Option Value → zS → Prop} (hl : zLay σ) {x1 x2 x3 x4 x5 y0 : Int32} : zW (d + 1) kX12_reach 18 [.ref 131, .int x1, .int x2, .int x3, .int x4, .int x5, .retAddr 0, .retAddr 0, .retAddr 0] [.int y0] σ Q ↔ (if y0 = (0 : Int32) then Q (some (.int (-1))) σ else zCall d kX12_canBegin [.ref 131, .int x1, .int x2, .int x3] σ (fun r σ' => zisN r = true ∧ zW (d + 1) kX12_reach 28 [.ref 131, .int x1, .int x2, .int x3, .int x4, .int x5, .retAddr 0, .retAddr 0, .retAddr 0] (zRstk r ++ []) σ' Q)) := by
  refine Iff.trans (zw_if_eq (t := 52) (show decode cX12_reach 18 = .ok (.ifCond .eq 34, 3) by decide +kernel) (by decide)) ?_
  refine zw_ite ?_ ?_
  · refine Iff.trans (zw_iconst (x := (-1)) (show decode cX12_reach 52 = .ok (.iconst (-1), 1) by decide +kernel) (by decide)) ?_
    exact zw_iret1 (show decode cX12_reach 53 = .ok (.ireturn, 1) by decide +kernel) rfl
  · refine Iff.trans (zw_aload_n (show decode cX12_reach 21 = .ok (.aload_n 0, 1) by decide +kernel) rfl) ?_
    refine Iff.trans (zw_iload_n (show decode cX12_reach 22 = .ok (.iload_n 1, 1) by decide +kernel) rfl) ?_
    refine Iff.trans (zw_iload_n (show decode cX12_reach 23 = .ok (.iload_n 2, 1) by decide +kernel) rfl) ?_
    refine Iff.trans (zw_iload_n (show decode cX12_reach 24 = .ok (.iload_n 3, 1) by decide +kernel) rfl) ?_
    refine Iff.trans (zw_invV (K' := kX12_canBegin) (as' := [.int x1, .int x2, .int x3]) (rest := []) (show decode cX12_reach 25 = .ok (.invokevirtual 357, 3) by decide +kernel) (by rfl) rfl rfl rfl (hl.k2 zk_131) (by decide) (hl.n2 zk_131) ⟨Nat.le_of_ble_eq_true rfl, Nat.le_of_ble_eq_true rfl, Nat.le_of_ble_eq_true rfl⟩) ?_
    exact Iff.rfl

theorem bX12_reach_28 {d : Nat} {σ : zS} {Q : Option Value → zS → Prop} (hl : zLay σ) {x1 x2 x3 x4 x5 y0 : Int32} : zW (d + 1) kX12_reach 28 [.ref 131, .int x1, .int x2, .int x3, .int x4, .int x5, .retAddr 0, .retAddr 0, .retAddr 0] [.int y0] σ Q ↔ (if y0 = (0 : Int32) then Q (some (.int (-1))) σ else zCall d kX12_isIn [.int x4, .int 1, .int 40] σ (fun r σ' => zisN r = true ∧ zW (d + 1) kX12_reach 39 [.ref 131, .int x1, .int x2, .int x3, .int x4, .int x5, .retAddr 0, .retAddr 0, .retAddr 0] (zRstk r ++ []) σ' Q)) := by
  refine Iff.trans (zw_if_eq (t := 52) (show decode cX12_reach 28 = .ok (.ifCond .eq 24, 3) by decide +kernel) (by decide)) ?_
  refine zw_ite ?_ ?_
  · refine Iff.trans (zw_iconst (x := (-1)) (show decode cX12_reach 52 = .ok (.iconst (-1), 1) by decide +kernel) (by decide)) ?_
    exact zw_iret1 (show decode cX12_reach 53 = .ok (.ireturn, 1) by decide +kernel) rfl
  · refine Iff.trans (zw_iload (show decode cX12_reach 31 = .ok (.iload 4, 2) by decide +kernel) rfl) ?_
    refine Iff.trans (zw_iconst (x := 1) (show decode cX12_reach 33 = .ok (.iconst 1, 1) by decide +kernel) (by decide)) ?_
    refine Iff.trans (zw_bipush (x := 40) (show decode cX12_reach 34 = .ok (.bipush 40, 2) by decide +kernel) (by decide)) ?_
    refine Iff.trans (zw_invS (K' := kX12_isIn) (as := [.int x4, .int 1, .int 40]) (rest := []) (show decode cX12_reach 36 = .ok (.invokestatic 163, 3) by decide +kernel) (by rfl) rfl rfl rfl ⟨Nat.le_of_ble_eq_true rfl, Nat.le_of_ble_eq_true rfl, Nat.le_of_ble_eq_true rfl⟩) ?_
    exact Iff.rfl

theorem bX12_reach_39 {d : Nat} {σ : zS} {Q : Option Value → zS → Prop} (hl : zLay σ) {x1 x2 x3 x4 x5 y0 : Int32} : zW (d + 1) kX12_reach 39 [.ref 131, .int x1, .int x2, .int x3, .int x4, .int x5, .retAddr 0, .retAddr 0, .retAddr 0] [.int y0] σ Q ↔ (if y0 = (0 : Int32) then Q (some (.int (-1))) σ else zCall d kX12_isIn [.int x5, .int 0, .int 2] σ (fun r σ' => zisN r = true ∧ zW (d + 1) kX12_reach 49 [.ref 131, .int x1, .int x2, .int x3, .int x4, .int x5, .retAddr 0, .retAddr 0, .retAddr 0] (zRstk r ++ []) σ' Q)) := by
  refine Iff.trans (zw_if_eq (t := 52) (show decode cX12_reach 39 = .ok (.ifCond .eq 13, 3) by decide +kernel) (by decide)) ?_
  refine zw_ite ?_ ?_
  · refine Iff.trans (zw_iconst (x := (-1)) (show decode cX12_reach 52 = .ok (.iconst (-1), 1) by decide +kernel) (by decide)) ?_
    exact zw_iret1 (show decode cX12_reach 53 = .ok (.ireturn, 1) by decide +kernel) rfl
  · refine Iff.trans (zw_iload (show decode cX12_reach 42 = .ok (.iload 5, 2) by decide +kernel) rfl) ?_
    refine Iff.trans (zw_iconst (x := 0) (show decode cX12_reach 44 = .ok (.iconst 0, 1) by decide +kernel) (by decide)) ?_
    refine Iff.trans (zw_iconst (x := 2) (show decode cX12_reach 45 = .ok (.iconst 2, 1) by decide +kernel) (by decide)) ?_
    refine Iff.trans (zw_invS (K' := kX12_isIn) (as := [.int x5, .int 0, .int 2]) (rest := []) (show decode cX12_reach 46 = .ok (.invokestatic 163, 3) by decide +kernel) (by rfl) rfl rfl rfl ⟨Nat.le_of_ble_eq_true rfl, Nat.le_of_ble_eq_true rfl, Nat.le_of_ble_eq_true rfl⟩) ?_
    exact Iff.rfl

theorem bX12_reach_49 {d : Nat} {σ : zS} {Q : Option Value → zS → Prop} (hl : zLay σ) {x1 x2 x3 x4 x5 y0 : Int32} : zW (d + 1) kX12_reach 49 [.ref 131, .int x1, .int x2, .int x3, .int x4, .int x5, .retAddr 0, .retAddr 0, .retAddr 0] [.int y0] σ Q ↔ (if y0 = (0 : Int32) then Q (some (.int (-1))) σ else zW (d + 1) kX12_reach 57 [.ref 131, .int x1, .int x2, .int x3, .int x4, .int x5, .int 0, .retAddr 0, .retAddr 0] [] σ Q) := by
  refine Iff.trans (zw_if_ne (t := 54) (show decode cX12_reach 49 = .ok (.ifCond .ne 5, 3) by decide +kernel) (by decide)) ?_
  refine zw_ite ?_ ?_
  · refine Iff.trans (zw_iconst (x := (-1)) (show decode cX12_reach 52 = .ok (.iconst (-1), 1) by decide +kernel) (by decide)) ?_
    exact zw_iret1 (show decode cX12_reach 53 = .ok (.ireturn, 1) by decide +kernel) rfl
  · refine Iff.trans (zw_iconst (x := 0) (show decode cX12_reach 54 = .ok (.iconst 0, 1) by decide +kernel) (by decide)) ?_
    refine Iff.trans (zw_istore (ls' := [.ref 131, .int x1, .int x2, .int x3, .int x4, .int x5, .int 0, .retAddr 0, .retAddr 0]) (show decode cX12_reach 55 = .ok (.istore 6, 2) by decide +kernel) (zset_s (Nat.le_of_ble_eq_true rfl) rfl)) ?_
    exact Iff.rfl

theorem bX12_reach_57 {d : Nat} {σ : zS} {Q : Option Value → zS → Prop} (hl : zLay σ) {x1 x2 x3 x4 x5 x6 : Int32} {v7 v8 : Value} (hv7 : v7.category = 1) (hv8 : v8.category = 1) : zW (d + 1) kX12_reach 57 [.ref 131, .int x1, .int x2, .int x3, .int x4, .int x5, .int x6, v7, v8] [] σ Q ↔ (if x4 ≤ x6 then (if x5 = (0 : Int32) then (vp_in 0 40 ∧ Q (some (.int (zI σ 163 (0 : Int32).toNatClampNeg))) σ) else (if x5 = 1 then (vp_in (x4 - 1) 40 ∧ Q (some (.int (zI σ 163 (x4 - 1 : Int32).toNatClampNeg))) σ) else (¬ 2 = (0 : Int32) ∧ (vp_in ((x4 - 1) / 2) 40 ∧ Q (some (.int (zI σ 163 ((x4 - 1) / 2 : Int32).toNatClampNeg))) σ)))) else zCall d kX12_aloneBy [.ref 131, .int x1, .int x2, .int x3, .long ((x6 : Int32).toInt64)] σ (fun r σ' => zisN r = true ∧ zW (d + 1) kX12_reach 74 [.ref 131, .int x1, .int x2, .int x3, .int x4, .int x5, .int x6, v7, v8] (zRstk r ++ []) σ' Q)) := by
  refine Iff.trans (zw_iload (show decode cX12_reach 57 = .ok (.iload 6, 2) by decide +kernel) rfl) ?_
  refine Iff.trans (zw_iload (show decode cX12_reach 59 = .ok (.iload 4, 2) by decide +kernel) rfl) ?_
  refine Iff.trans (zw_icmp_ge (t := 136) (show decode cX12_reach 61 = .ok (.if_icmp .ge 75, 3) by decide +kernel) (by decide)) ?_
  refine zw_ite ?_ ?_
  · refine Iff.trans (zw_iload (show decode cX12_reach 136 = .ok (.iload 5, 2) by decide +kernel) rfl) ?_
    refine Iff.trans (zw_if_ne (t := 150) (show decode cX12_reach 138 = .ok (.ifCond .ne 12, 3) by decide +kernel) (by decide)) ?_
    refine zw_ite ?_ ?_
    · refine Iff.trans (zw_aload_n (show decode cX12_reach 141 = .ok (.aload_n 0, 1) by decide +kernel) rfl) ?_
      refine Iff.trans (zw_get (show decode cX12_reach 142 = .ok (.getfield 115, 3) by decide +kernel) (by decide +kernel : zfld 12 115 = some (12, 59)) (hl.k2 zk_131) (hl.n2 zk_131) (zgetR (v := 163) (hl.r zrt_131_59) rfl)) ?_
      refine Iff.trans (zw_iconst (x := 0) (show decode cX12_reach 145 = .ok (.iconst 0, 1) by decide +kernel) (by decide)) ?_
      refine Iff.trans (zw_iald2 (show decode cX12_reach 146 = .ok (.iaload, 1) by decide +kernel) (hl.k2 zk_163) (hl.n2 zk_163) (hl.l2 zk_163 zl_163) (w := zI σ 163 (0 : Int32).toNatClampNeg) rfl) ?_
      refine zw_and ?_
      refine Iff.trans (zw_goto (t := 179) (show decode cX12_reach 147 = .ok (.goto 32, 3) by decide +kernel) (by decide)) ?_
      exact zw_iret1 (show decode cX12_reach 179 = .ok (.ireturn, 1) by decide +kernel) rfl
    · refine Iff.trans (zw_iload (show decode cX12_reach 150 = .ok (.iload 5, 2) by decide +kernel) rfl) ?_
      refine Iff.trans (zw_iconst (x := 1) (show decode cX12_reach 152 = .ok (.iconst 1, 1) by decide +kernel) (by decide)) ?_
      refine Iff.trans (zw_icmp_ne (t := 168) (show decode cX12_reach 153 = .ok (.if_icmp .ne 15, 3) by decide +kernel) (by decide)) ?_
      refine zw_ite ?_ ?_
      · refine Iff.trans (zw_aload_n (show decode cX12_reach 156 = .ok (.aload_n 0, 1) by decide +kernel) rfl) ?_
        refine Iff.trans (zw_get (show decode cX12_reach 157 = .ok (.getfield 115, 3) by decide +kernel) (by decide +kernel : zfld 12 115 = some (12, 59)) (hl.k2 zk_131) (hl.n2 zk_131) (zgetR (v := 163) (hl.r zrt_131_59) rfl)) ?_
        refine Iff.trans (zw_iload (show decode cX12_reach 160 = .ok (.iload 4, 2) by decide +kernel) rfl) ?_
        refine Iff.trans (zw_iconst (x := 1) (show decode cX12_reach 162 = .ok (.iconst 1, 1) by decide +kernel) (by decide)) ?_
        refine Iff.trans (zw_isub (show decode cX12_reach 163 = .ok (.isub, 1) by decide +kernel)) ?_
        refine Iff.trans (zw_iald2 (show decode cX12_reach 164 = .ok (.iaload, 1) by decide +kernel) (hl.k2 zk_163) (hl.n2 zk_163) (hl.l2 zk_163 zl_163) (w := zI σ 163 (x4 - 1 : Int32).toNatClampNeg) rfl) ?_
        refine zw_and ?_
        refine Iff.trans (zw_goto (t := 179) (show decode cX12_reach 165 = .ok (.goto 14, 3) by decide +kernel) (by decide)) ?_
        exact zw_iret1 (show decode cX12_reach 179 = .ok (.ireturn, 1) by decide +kernel) rfl
      · refine Iff.trans (zw_aload_n (show decode cX12_reach 168 = .ok (.aload_n 0, 1) by decide +kernel) rfl) ?_
        refine Iff.trans (zw_get (show decode cX12_reach 169 = .ok (.getfield 115, 3) by decide +kernel) (by decide +kernel : zfld 12 115 = some (12, 59)) (hl.k2 zk_131) (hl.n2 zk_131) (zgetR (v := 163) (hl.r zrt_131_59) rfl)) ?_
        refine Iff.trans (zw_iload (show decode cX12_reach 172 = .ok (.iload 4, 2) by decide +kernel) rfl) ?_
        refine Iff.trans (zw_iconst (x := 1) (show decode cX12_reach 174 = .ok (.iconst 1, 1) by decide +kernel) (by decide)) ?_
        refine Iff.trans (zw_isub (show decode cX12_reach 175 = .ok (.isub, 1) by decide +kernel)) ?_
        refine Iff.trans (zw_iconst (x := 2) (show decode cX12_reach 176 = .ok (.iconst 2, 1) by decide +kernel) (by decide)) ?_
        refine Iff.trans (zw_idiv (show decode cX12_reach 177 = .ok (.idiv, 1) by decide +kernel)) ?_
        refine zw_and ?_
        refine Iff.trans (zw_iald2 (show decode cX12_reach 178 = .ok (.iaload, 1) by decide +kernel) (hl.k2 zk_163) (hl.n2 zk_163) (hl.l2 zk_163 zl_163) (w := zI σ 163 ((x4 - 1) / 2 : Int32).toNatClampNeg) rfl) ?_
        refine zw_and ?_
        exact zw_iret1 (show decode cX12_reach 179 = .ok (.ireturn, 1) by decide +kernel) rfl
  · refine Iff.trans (zw_aload_n (show decode cX12_reach 64 = .ok (.aload_n 0, 1) by decide +kernel) rfl) ?_
    refine Iff.trans (zw_iload_n (show decode cX12_reach 65 = .ok (.iload_n 1, 1) by decide +kernel) rfl) ?_
    refine Iff.trans (zw_iload_n (show decode cX12_reach 66 = .ok (.iload_n 2, 1) by decide +kernel) rfl) ?_
    refine Iff.trans (zw_iload_n (show decode cX12_reach 67 = .ok (.iload_n 3, 1) by decide +kernel) rfl) ?_
    refine Iff.trans (zw_iload (show decode cX12_reach 68 = .ok (.iload 6, 2) by decide +kernel) rfl) ?_
    refine Iff.trans (zw_i2l (show decode cX12_reach 70 = .ok (.i2l, 1) by decide +kernel)) ?_
    refine Iff.trans (zw_invV (K' := kX12_aloneBy) (as' := [.int x1, .int x2, .int x3, .long ((x6 : Int32).toInt64)]) (rest := []) (show decode cX12_reach 71 = .ok (.invokevirtual 360, 3) by decide +kernel) (by rfl) rfl rfl rfl (hl.k2 zk_131) (by decide) (hl.n2 zk_131) ⟨Nat.le_of_ble_eq_true rfl, Nat.le_of_ble_eq_true rfl, Nat.le_of_ble_eq_true rfl⟩) ?_
    exact Iff.rfl

theorem bX12_reach_74 {d : Nat} {σ : zS} {Q : Option Value → zS → Prop} (hl : zLay σ) {x1 x2 x3 x4 x5 x6 y0 : Int32} {v7 v8 : Value} (hv7 : v7.category = 1) (hv8 : v8.category = 1) : zW (d + 1) kX12_reach 74 [.ref 131, .int x1, .int x2, .int x3, .int x4, .int x5, .int x6, v7, v8] [.int y0] σ Q ↔ zW (d + 1) kX12_reach 80 [.ref 131, .int x1, .int x2, .int x3, .int x4, .int x5, .int x6, .int y0, .int x6] [] σ Q := by
  refine Iff.trans (zw_istore (ls' := [.ref 131, .int x1, .int x2, .int x3, .int x4, .int x5, .int x6, .int y0, v8]) (show decode cX12_reach 74 = .ok (.istore 7, 2) by decide +kernel) (zset_s (Nat.le_of_ble_eq_true rfl) rfl)) ?_
  refine Iff.trans (zw_iload (show decode cX12_reach 76 = .ok (.iload 6, 2) by decide +kernel) rfl) ?_
  refine Iff.trans (zw_istore (ls' := [.ref 131, .int x1, .int x2, .int x3, .int x4, .int x5, .int x6, .int y0, .int x6]) (show decode cX12_reach 78 = .ok (.istore 8, 2) by decide +kernel) (zset_s (Nat.le_of_ble_eq_true rfl) rfl)) ?_
  exact Iff.rfl

theorem bX12_reach_80 {d : Nat} {σ : zS} {Q : Option Value → zS → Prop} (hl : zLay σ) {x1 x2 x3 x4 x5 x6 x7 x8 : Int32} : zW (d + 1) kX12_reach 80 [.ref 131, .int x1, .int x2, .int x3, .int x4, .int x5, .int x6, .int x7, .int x8] [] σ Q ↔ (if x8 ≤ (0 : Int32) then zW (d + 1) kX12_reach 121 [.ref 131, .int x1, .int x2, .int x3, .int x4, .int x5, .int x6, .int x7, .int x8] [] σ Q else (vp_in (x8 - 1) 40 ∧ (if (zI σ 163 (x8 - 1 : Int32).toNatClampNeg) ≤ x7 then zW (d + 1) kX12_reach 121 [.ref 131, .int x1, .int x2, .int x3, .int x4, .int x5, .int x6, .int x7, .int x8] [] σ Q else (vp_in (x8 - 1) 40 ∧ (vp_in x8 40 ∧ zW (d + 1) kX12_reach 80 [.ref 131, .int x1, .int x2, .int x3, .int x4, .int x5, .int x6, .int x7, .int (x8 + (-1))] [] (zsI σ 163 (upd (zI σ 163) (x8 : Int32).toNatClampNeg (zI σ 163 (x8 - 1 : Int32).toNatClampNeg))) Q))))) := by
  refine Iff.trans (zw_iload (show decode cX12_reach 80 = .ok (.iload 8, 2) by decide +kernel) rfl) ?_
  refine Iff.trans (zw_if_le (t := 121) (show decode cX12_reach 82 = .ok (.ifCond .le 39, 3) by decide +kernel) (by decide)) ?_
  refine zw_ite ?_ ?_
  · exact Iff.rfl
  · refine Iff.trans (zw_aload_n (show decode cX12_reach 85 = .ok (.aload_n 0, 1) by decide +kernel) rfl) ?_
    refine Iff.trans (zw_get (show decode cX12_reach 86 = .ok (.getfield 115, 3) by decide +kernel) (by decide +kernel : zfld 12 115 = some (12, 59)) (hl.k2 zk_131) (hl.n2 zk_131) (zgetR (v := 163) (hl.r zrt_131_59) rfl)) ?_
    refine Iff.trans (zw_iload (show decode cX12_reach 89 = .ok (.iload 8, 2) by decide +kernel) rfl) ?_
    refine Iff.trans (zw_iconst (x := 1) (show decode cX12_reach 91 = .ok (.iconst 1, 1) by decide +kernel) (by decide)) ?_
    refine Iff.trans (zw_isub (show decode cX12_reach 92 = .ok (.isub, 1) by decide +kernel)) ?_
    refine Iff.trans (zw_iald2 (show decode cX12_reach 93 = .ok (.iaload, 1) by decide +kernel) (hl.k2 zk_163) (hl.n2 zk_163) (hl.l2 zk_163 zl_163) (w := zI σ 163 (x8 - 1 : Int32).toNatClampNeg) rfl) ?_
    refine zw_and ?_
    refine Iff.trans (zw_iload (show decode cX12_reach 94 = .ok (.iload 7, 2) by decide +kernel) rfl) ?_
    refine Iff.trans (zw_icmp_le (t := 121) (show decode cX12_reach 96 = .ok (.if_icmp .le 25, 3) by decide +kernel) (by decide)) ?_
    refine zw_ite ?_ ?_
    · exact Iff.rfl
    · refine Iff.trans (zw_aload_n (show decode cX12_reach 99 = .ok (.aload_n 0, 1) by decide +kernel) rfl) ?_
      refine Iff.trans (zw_get (show decode cX12_reach 100 = .ok (.getfield 115, 3) by decide +kernel) (by decide +kernel : zfld 12 115 = some (12, 59)) (hl.k2 zk_131) (hl.n2 zk_131) (zgetR (v := 163) (hl.r zrt_131_59) rfl)) ?_
      refine Iff.trans (zw_iload (show decode cX12_reach 103 = .ok (.iload 8, 2) by decide +kernel) rfl) ?_
      refine Iff.trans (zw_aload_n (show decode cX12_reach 105 = .ok (.aload_n 0, 1) by decide +kernel) rfl) ?_
      refine Iff.trans (zw_get (show decode cX12_reach 106 = .ok (.getfield 115, 3) by decide +kernel) (by decide +kernel : zfld 12 115 = some (12, 59)) (hl.k2 zk_131) (hl.n2 zk_131) (zgetR (v := 163) (hl.r zrt_131_59) rfl)) ?_
      refine Iff.trans (zw_iload (show decode cX12_reach 109 = .ok (.iload 8, 2) by decide +kernel) rfl) ?_
      refine Iff.trans (zw_iconst (x := 1) (show decode cX12_reach 111 = .ok (.iconst 1, 1) by decide +kernel) (by decide)) ?_
      refine Iff.trans (zw_isub (show decode cX12_reach 112 = .ok (.isub, 1) by decide +kernel)) ?_
      refine Iff.trans (zw_iald2 (show decode cX12_reach 113 = .ok (.iaload, 1) by decide +kernel) (hl.k2 zk_163) (hl.n2 zk_163) (hl.l2 zk_163 zl_163) (w := zI σ 163 (x8 - 1 : Int32).toNatClampNeg) rfl) ?_
      refine zw_and ?_
      refine Iff.trans (zw_iast2 (show decode cX12_reach 114 = .ok (.iastore, 1) by decide +kernel) (hl.k2 zk_163) (hl.n2 zk_163) (hl.l2 zk_163 zl_163) (σ' := (zsI σ 163 (upd (zI σ 163) (x8 : Int32).toNatClampNeg (zI σ 163 (x8 - 1 : Int32).toNatClampNeg)))) rfl) ?_
      refine zw_and ?_
      refine Iff.trans (zw_iinc (w := (-1)) (ls' := [.ref 131, .int x1, .int x2, .int x3, .int x4, .int x5, .int x6, .int x7, .int (x8 + (-1))]) (show decode cX12_reach 115 = .ok (.iinc 8 (-1), 3) by decide +kernel) rfl (by decide) (zset_s (Nat.le_of_ble_eq_true rfl) rfl)) ?_
      refine Iff.trans (zw_goto (t := 80) (show decode cX12_reach 118 = .ok (.goto (-38), 3) by decide +kernel) (by decide)) ?_
      exact Iff.rfl

theorem bX12_reach_121 {d : Nat} {σ : zS} {Q : Option Value → zS → Prop} (hl : zLay σ) {x1 x2 x3 x4 x5 x6 x7 x8 : Int32} : zW (d + 1) kX12_reach 121 [.ref 131, .int x1, .int x2, .int x3, .int x4, .int x5, .int x6, .int x7, .int x8] [] σ Q ↔ (vp_in x8 40 ∧ zW (d + 1) kX12_reach 57 [.ref 131, .int x1, .int x2, .int x3, .int x4, .int x5, .int (x6 + 1), .int x7, .int x8] [] (zsI σ 163 (upd (zI σ 163) (x8 : Int32).toNatClampNeg x7)) Q) := by
  refine Iff.trans (zw_aload_n (show decode cX12_reach 121 = .ok (.aload_n 0, 1) by decide +kernel) rfl) ?_
  refine Iff.trans (zw_get (show decode cX12_reach 122 = .ok (.getfield 115, 3) by decide +kernel) (by decide +kernel : zfld 12 115 = some (12, 59)) (hl.k2 zk_131) (hl.n2 zk_131) (zgetR (v := 163) (hl.r zrt_131_59) rfl)) ?_
  refine Iff.trans (zw_iload (show decode cX12_reach 125 = .ok (.iload 8, 2) by decide +kernel) rfl) ?_
  refine Iff.trans (zw_iload (show decode cX12_reach 127 = .ok (.iload 7, 2) by decide +kernel) rfl) ?_
  refine Iff.trans (zw_iast2 (show decode cX12_reach 129 = .ok (.iastore, 1) by decide +kernel) (hl.k2 zk_163) (hl.n2 zk_163) (hl.l2 zk_163 zl_163) (σ' := (zsI σ 163 (upd (zI σ 163) (x8 : Int32).toNatClampNeg x7))) rfl) ?_
  refine zw_and ?_
  refine Iff.trans (zw_iinc (w := 1) (ls' := [.ref 131, .int x1, .int x2, .int x3, .int x4, .int x5, .int (x6 + 1), .int x7, .int x8]) (show decode cX12_reach 130 = .ok (.iinc 6 1, 3) by decide +kernel) rfl (by decide) (zset_s (Nat.le_of_ble_eq_true rfl) rfl)) ?_
  refine Iff.trans (zw_goto (t := 57) (show decode cX12_reach 133 = .ok (.goto (-76), 3) by decide +kernel) (by decide)) ?_
  exact Iff.rfl

theorem bX12_outOf_0 {d : Nat} {σ : zS} {Q : Option Value → zS → Prop} (hl : zLay σ) {x1 : Int32} : zCall (d + 1) kX12_outOf [.ref 131, .int x1] σ Q ↔ zW (d + 1) kX12_outOf 2 [.ref 131, .int x1, .int 0] [] σ Q := by
  show zW (d + 1) kX12_outOf 0 [.ref 131, .int x1, .retAddr 0] [] σ Q ↔ _
  refine Iff.trans (zw_iconst (x := 0) (show decode cX12_outOf 0 = .ok (.iconst 0, 1) by decide +kernel) (by decide)) ?_
  refine Iff.trans (zw_istore_n (ls' := [.ref 131, .int x1, .int 0]) (show decode cX12_outOf 1 = .ok (.istore_n 2, 1) by decide +kernel) (zset_s (Nat.le_of_ble_eq_true rfl) rfl)) ?_
  exact Iff.rfl

theorem bX12_outOf_2 {d : Nat} {σ : zS} {Q : Option Value → zS → Prop} (hl : zLay σ) {x1 x2 : Int32} : zW (d + 1) kX12_outOf 2 [.ref 131, .int x1, .int x2] [] σ Q ↔ (if (zI σ 131 20) ≤ x2 then Q (some (.int (-1))) σ else zCall d kX12_isOut [.ref 131, .int x2] σ (fun r σ' => zisN r = true ∧ zW (d + 1) kX12_outOf 15 [.ref 131, .int x1, .int x2] (zRstk r ++ []) σ' Q)) := by
  refine Iff.trans (zw_iload_n (show decode cX12_outOf 2 = .ok (.iload_n 2, 1) by decide +kernel) rfl) ?_
  refine Iff.trans (zw_aload_n (show decode cX12_outOf 3 = .ok (.aload_n 0, 1) by decide +kernel) rfl) ?_
  refine Iff.trans (zw_getI (show decode cX12_outOf 4 = .ok (.getfield 222, 3) by decide +kernel) (by decide +kernel : zfld 12 222 = some (12, 20)) (hl.k2 zk_131) (hl.n2 zk_131) (Or.inl rfl) (w := zI σ 131 20) rfl) ?_
  refine Iff.trans (zw_icmp_ge (t := 43) (show decode cX12_outOf 7 = .ok (.if_icmp .ge 36, 3) by decide +kernel) (by decide)) ?_
  refine zw_ite ?_ ?_
  · refine Iff.trans (zw_iconst (x := (-1)) (show decode cX12_outOf 43 = .ok (.iconst (-1), 1) by decide +kernel) (by decide)) ?_
    exact zw_iret1 (show decode cX12_outOf 44 = .ok (.ireturn, 1) by decide +kernel) rfl
  · refine Iff.trans (zw_aload_n (show decode cX12_outOf 10 = .ok (.aload_n 0, 1) by decide +kernel) rfl) ?_
    refine Iff.trans (zw_iload_n (show decode cX12_outOf 11 = .ok (.iload_n 2, 1) by decide +kernel) rfl) ?_
    refine Iff.trans (zw_invV (K' := kX12_isOut) (as' := [.int x2]) (rest := []) (show decode cX12_outOf 12 = .ok (.invokevirtual 235, 3) by decide +kernel) (by rfl) rfl rfl rfl (hl.k2 zk_131) (by decide) (hl.n2 zk_131) ⟨Nat.le_of_ble_eq_true rfl, Nat.le_of_ble_eq_true rfl, Nat.le_of_ble_eq_true rfl⟩) ?_
    exact Iff.rfl

theorem bX12_outOf_15 {d : Nat} {σ : zS} {Q : Option Value → zS → Prop} (hl : zLay σ) {x1 x2 y0 : Int32} : zW (d + 1) kX12_outOf 15 [.ref 131, .int x1, .int x2] [.int y0] σ Q ↔ (if y0 = (0 : Int32) then zW (d + 1) kX12_outOf 2 [.ref 131, .int x1, .int (x2 + 1)] [] σ Q else zCall d kX12_of [.ref 131, .int x2, .int 8] σ (fun r σ' => zisN r = true ∧ zW (d + 1) kX12_outOf 25 [.ref 131, .int x1, .int x2] (zRstk r ++ []) σ' Q)) := by
  refine Iff.trans (zw_if_eq (t := 37) (show decode cX12_outOf 15 = .ok (.ifCond .eq 22, 3) by decide +kernel) (by decide)) ?_
  refine zw_ite ?_ ?_
  · refine Iff.trans (zw_iinc (w := 1) (ls' := [.ref 131, .int x1, .int (x2 + 1)]) (show decode cX12_outOf 37 = .ok (.iinc 2 1, 3) by decide +kernel) rfl (by decide) (zset_s (Nat.le_of_ble_eq_true rfl) rfl)) ?_
    refine Iff.trans (zw_goto (t := 2) (show decode cX12_outOf 40 = .ok (.goto (-38), 3) by decide +kernel) (by decide)) ?_
    exact Iff.rfl
  · refine Iff.trans (zw_aload_n (show decode cX12_outOf 18 = .ok (.aload_n 0, 1) by decide +kernel) rfl) ?_
    refine Iff.trans (zw_iload_n (show decode cX12_outOf 19 = .ok (.iload_n 2, 1) by decide +kernel) rfl) ?_
    refine Iff.trans (zw_bipush (x := 8) (show decode cX12_outOf 20 = .ok (.bipush 8, 2) by decide +kernel) (by decide)) ?_
    refine Iff.trans (zw_invV (K' := kX12_of) (as' := [.int x2, .int 8]) (rest := []) (show decode cX12_outOf 22 = .ok (.invokevirtual 229, 3) by decide +kernel) (by rfl) rfl rfl rfl (hl.k2 zk_131) (by decide) (hl.n2 zk_131) ⟨Nat.le_of_ble_eq_true rfl, Nat.le_of_ble_eq_true rfl, Nat.le_of_ble_eq_true rfl⟩) ?_
    exact Iff.rfl

theorem bX12_outOf_25 {d : Nat} {σ : zS} {Q : Option Value → zS → Prop} (hl : zLay σ) {x1 x2 y0 : Int32} : zW (d + 1) kX12_outOf 25 [.ref 131, .int x1, .int x2] [.int y0] σ Q ↔ (if y0 = x1 then zCall d kX12_of [.ref 131, .int x2, .int 7] σ (fun r σ' => zisN r = true ∧ zW (d + 1) kX12_outOf 36 [.ref 131, .int x1, .int x2] (zRstk r ++ []) σ' Q) else zW (d + 1) kX12_outOf 2 [.ref 131, .int x1, .int (x2 + 1)] [] σ Q) := by
  refine Iff.trans (zw_iload_n (show decode cX12_outOf 25 = .ok (.iload_n 1, 1) by decide +kernel) rfl) ?_
  refine Iff.trans (zw_icmp_ne (t := 37) (show decode cX12_outOf 26 = .ok (.if_icmp .ne 11, 3) by decide +kernel) (by decide)) ?_
  refine zw_ite ?_ ?_
  · refine Iff.trans (zw_aload_n (show decode cX12_outOf 29 = .ok (.aload_n 0, 1) by decide +kernel) rfl) ?_
    refine Iff.trans (zw_iload_n (show decode cX12_outOf 30 = .ok (.iload_n 2, 1) by decide +kernel) rfl) ?_
    refine Iff.trans (zw_bipush (x := 7) (show decode cX12_outOf 31 = .ok (.bipush 7, 2) by decide +kernel) (by decide)) ?_
    refine Iff.trans (zw_invV (K' := kX12_of) (as' := [.int x2, .int 7]) (rest := []) (show decode cX12_outOf 33 = .ok (.invokevirtual 229, 3) by decide +kernel) (by rfl) rfl rfl rfl (hl.k2 zk_131) (by decide) (hl.n2 zk_131) ⟨Nat.le_of_ble_eq_true rfl, Nat.le_of_ble_eq_true rfl, Nat.le_of_ble_eq_true rfl⟩) ?_
    exact Iff.rfl
  · refine Iff.trans (zw_iinc (w := 1) (ls' := [.ref 131, .int x1, .int (x2 + 1)]) (show decode cX12_outOf 37 = .ok (.iinc 2 1, 3) by decide +kernel) rfl (by decide) (zset_s (Nat.le_of_ble_eq_true rfl) rfl)) ?_
    refine Iff.trans (zw_goto (t := 2) (show decode cX12_outOf 40 = .ok (.goto (-38), 3) by decide +kernel) (by decide)) ?_
    exact Iff.rfl

theorem bX12_outOf_36 {d : Nat} {σ : zS} {Q : Option Value → zS → Prop} (hl : zLay σ) {x1 x2 y0 : Int32} : zW (d + 1) kX12_outOf 36 [.ref 131, .int x1, .int x2] [.int y0] σ Q ↔ Q (some (.int y0)) σ := by
  exact zw_iret1 (show decode cX12_outOf 36 = .ok (.ireturn, 1) by decide +kernel) rfl

theorem bX12_close_0 {d : Nat} {σ : zS} {Q : Option Value → zS → Prop} (hl : zLay σ) {x1 : Int32} : zCall (d + 1) kX12_close [.ref 131, .int x1] σ Q ↔ (if (zI σ 131 20) < 2 then Q (some (.int (-1))) (zsI σ 131 (upd (zI σ 131) 0 0)) else zCall d kX12_isIn [.int x1, .int 1, .int 40] (zsI σ 131 (upd (zI σ 131) 0 0)) (fun r σ' => zisN r = true ∧ zW (d + 1) kX12_close 20 [.ref 131, .int x1, .retAddr 0, .retAddr 0] (zRstk r ++ []) σ' Q)) := by
  show zW (d + 1) kX12_close 0 [.ref 131, .int x1, .retAddr 0, .retAddr 0] [] σ Q ↔ _
  refine Iff.trans (zw_aload_n (show decode cX12_close 0 = .ok (.aload_n 0, 1) by decide +kernel) rfl) ?_
  refine Iff.trans (zw_iconst (x := 0) (show decode cX12_close 1 = .ok (.iconst 0, 1) by decide +kernel) (by decide)) ?_
  refine Iff.trans (zw_putI (show decode cX12_close 2 = .ok (.putfield 118, 3) by decide +kernel) (by decide +kernel : zfld 12 118 = some (12, 0)) (hl.k2 zk_131) (hl.n2 zk_131) rfl (Or.inl rfl) (σ' := (zsI σ 131 (upd (zI σ 131) 0 0))) rfl) ?_
  refine Iff.trans (zw_aload_n (show decode cX12_close 5 = .ok (.aload_n 0, 1) by decide +kernel) rfl) ?_
  refine Iff.trans (zw_getI (show decode cX12_close 6 = .ok (.getfield 222, 3) by decide +kernel) (by decide +kernel : zfld 12 222 = some (12, 20)) (hl.I.k2 zk_131) (hl.I.n2 zk_131) (Or.inl rfl) (w := zI σ 131 20) (congrFun zI_self 20)) ?_
  refine Iff.trans (zw_iconst (x := 2) (show decode cX12_close 9 = .ok (.iconst 2, 1) by decide +kernel) (by decide)) ?_
  refine Iff.trans (zw_icmp_lt (t := 30) (show decode cX12_close 10 = .ok (.if_icmp .lt 20, 3) by decide +kernel) (by decide)) ?_
  refine zw_ite ?_ ?_
  · refine Iff.trans (zw_iconst (x := (-1)) (show decode cX12_close 30 = .ok (.iconst (-1), 1) by decide +kernel) (by decide)) ?_
    exact zw_iret1 (show decode cX12_close 31 = .ok (.ireturn, 1) by decide +kernel) rfl
  · refine Iff.trans (zw_iload_n (show decode cX12_close 13 = .ok (.iload_n 1, 1) by decide +kernel) rfl) ?_
    refine Iff.trans (zw_iconst (x := 1) (show decode cX12_close 14 = .ok (.iconst 1, 1) by decide +kernel) (by decide)) ?_
    refine Iff.trans (zw_bipush (x := 40) (show decode cX12_close 15 = .ok (.bipush 40, 2) by decide +kernel) (by decide)) ?_
    refine Iff.trans (zw_invS (K' := kX12_isIn) (as := [.int x1, .int 1, .int 40]) (rest := []) (show decode cX12_close 17 = .ok (.invokestatic 163, 3) by decide +kernel) (by rfl) rfl rfl rfl ⟨Nat.le_of_ble_eq_true rfl, Nat.le_of_ble_eq_true rfl, Nat.le_of_ble_eq_true rfl⟩) ?_
    exact Iff.rfl

theorem bX12_close_20 {d : Nat} {σ : zS} {Q : Option Value → zS → Prop} (hl : zLay σ) {x1 y0 : Int32} : zW (d + 1) kX12_close 20 [.ref 131, .int x1, .retAddr 0, .retAddr 0] [.int y0] σ Q ↔ (if y0 = (0 : Int32) then Q (some (.int (-1))) σ else zCall d kX12_canStart [.ref 131] σ (fun r σ' => zisN r = true ∧ zW (d + 1) kX12_close 27 [.ref 131, .int x1, .retAddr 0, .retAddr 0] (zRstk r ++ []) σ' Q)) := by
  refine Iff.trans (zw_if_eq (t := 30) (show decode cX12_close 20 = .ok (.ifCond .eq 10, 3) by decide +kernel) (by decide)) ?_
  refine zw_ite ?_ ?_
  · refine Iff.trans (zw_iconst (x := (-1)) (show decode cX12_close 30 = .ok (.iconst (-1), 1) by decide +kernel) (by decide)) ?_
    exact zw_iret1 (show decode cX12_close 31 = .ok (.ireturn, 1) by decide +kernel) rfl
  · refine Iff.trans (zw_aload_n (show decode cX12_close 23 = .ok (.aload_n 0, 1) by decide +kernel) rfl) ?_
    refine Iff.trans (zw_invV (K' := kX12_canStart) (as' := []) (rest := []) (show decode cX12_close 24 = .ok (.invokevirtual 255, 3) by decide +kernel) (by rfl) rfl rfl rfl (hl.k2 zk_131) (by decide) (hl.n2 zk_131) ⟨Nat.le_of_ble_eq_true rfl, Nat.le_of_ble_eq_true rfl, Nat.le_of_ble_eq_true rfl⟩) ?_
    exact Iff.rfl

theorem bX12_close_27 {d : Nat} {σ : zS} {Q : Option Value → zS → Prop} (hl : zLay σ) {x1 y0 : Int32} : zW (d + 1) kX12_close 27 [.ref 131, .int x1, .retAddr 0, .retAddr 0] [.int y0] σ Q ↔ (if y0 = (0 : Int32) then Q (some (.int (-1))) σ else zCall d kX12_keepRace [.ref 131] σ (fun r σ' => zisN r = true ∧ zW (d + 1) kX12_close 36 [.ref 131, .int x1, .retAddr 0, .retAddr 0] (zRstk r ++ []) σ' Q)) := by
  refine Iff.trans (zw_if_ne (t := 32) (show decode cX12_close 27 = .ok (.ifCond .ne 5, 3) by decide +kernel) (by decide)) ?_
  refine zw_ite ?_ ?_
  · refine Iff.trans (zw_iconst (x := (-1)) (show decode cX12_close 30 = .ok (.iconst (-1), 1) by decide +kernel) (by decide)) ?_
    exact zw_iret1 (show decode cX12_close 31 = .ok (.ireturn, 1) by decide +kernel) rfl
  · refine Iff.trans (zw_aload_n (show decode cX12_close 32 = .ok (.aload_n 0, 1) by decide +kernel) rfl) ?_
    refine Iff.trans (zw_invV (K' := kX12_keepRace) (as' := []) (rest := []) (show decode cX12_close 33 = .ok (.invokevirtual 337, 3) by decide +kernel) (by rfl) rfl rfl rfl (hl.k2 zk_131) (by decide) (hl.n2 zk_131) ⟨Nat.le_of_ble_eq_true rfl, Nat.le_of_ble_eq_true rfl, Nat.le_of_ble_eq_true rfl⟩) ?_
    exact Iff.rfl

theorem bX12_close_36 {d : Nat} {σ : zS} {Q : Option Value → zS → Prop} (hl : zLay σ) {x1 : Int32} : zW (d + 1) kX12_close 36 [.ref 131, .int x1, .retAddr 0, .retAddr 0] [] σ Q ↔ zW (d + 1) kX12_close 40 [.ref 131, .int x1, .int 0, .int 0] [] σ Q := by
  refine Iff.trans (zw_iconst (x := 0) (show decode cX12_close 36 = .ok (.iconst 0, 1) by decide +kernel) (by decide)) ?_
  refine Iff.trans (zw_istore_n (ls' := [.ref 131, .int x1, .int 0, .retAddr 0]) (show decode cX12_close 37 = .ok (.istore_n 2, 1) by decide +kernel) (zset_s (Nat.le_of_ble_eq_true rfl) rfl)) ?_
  refine Iff.trans (zw_iconst (x := 0) (show decode cX12_close 38 = .ok (.iconst 0, 1) by decide +kernel) (by decide)) ?_
  refine Iff.trans (zw_istore_n (ls' := [.ref 131, .int x1, .int 0, .int 0]) (show decode cX12_close 39 = .ok (.istore_n 3, 1) by decide +kernel) (zset_s (Nat.le_of_ble_eq_true rfl) rfl)) ?_
  exact Iff.rfl

theorem bX12_close_40 {d : Nat} {σ : zS} {Q : Option Value → zS → Prop} (hl : zLay σ) {x1 x2 x3 : Int32} : zW (d + 1) kX12_close 40 [.ref 131, .int x1, .int x2, .int x3] [] σ Q ↔ (if x1 ≤ x3 then zCall d kX12_putBack [.ref 131] σ (fun r σ' => zisN r = true ∧ zW (d + 1) kX12_close 91 [.ref 131, .int x1, .int x2, .int x3] (zRstk r ++ []) σ' Q) else zCall d kX12_goRace [.ref 131, .long ((x3 : Int32).toInt64)] σ (fun r σ' => zisN r = true ∧ zW (d + 1) kX12_close 51 [.ref 131, .int x1, .int x2, .int x3] (zRstk r ++ []) σ' Q)) := by
  refine Iff.trans (zw_iload_n (show decode cX12_close 40 = .ok (.iload_n 3, 1) by decide +kernel) rfl) ?_
  refine Iff.trans (zw_iload_n (show decode cX12_close 41 = .ok (.iload_n 1, 1) by decide +kernel) rfl) ?_
  refine Iff.trans (zw_icmp_ge (t := 87) (show decode cX12_close 42 = .ok (.if_icmp .ge 45, 3) by decide +kernel) (by decide)) ?_
  refine zw_ite ?_ ?_
  · refine Iff.trans (zw_aload_n (show decode cX12_close 87 = .ok (.aload_n 0, 1) by decide +kernel) rfl) ?_
    refine Iff.trans (zw_invV (K' := kX12_putBack) (as' := []) (rest := []) (show decode cX12_close 88 = .ok (.invokevirtual 344, 3) by decide +kernel) (by rfl) rfl rfl rfl (hl.k2 zk_131) (by decide) (hl.n2 zk_131) ⟨Nat.le_of_ble_eq_true rfl, Nat.le_of_ble_eq_true rfl, Nat.le_of_ble_eq_true rfl⟩) ?_
    exact Iff.rfl
  · refine Iff.trans (zw_aload_n (show decode cX12_close 45 = .ok (.aload_n 0, 1) by decide +kernel) rfl) ?_
    refine Iff.trans (zw_iload_n (show decode cX12_close 46 = .ok (.iload_n 3, 1) by decide +kernel) rfl) ?_
    refine Iff.trans (zw_i2l (show decode cX12_close 47 = .ok (.i2l, 1) by decide +kernel)) ?_
    refine Iff.trans (zw_invV (K' := kX12_goRace) (as' := [.long ((x3 : Int32).toInt64)]) (rest := []) (show decode cX12_close 48 = .ok (.invokevirtual 334, 3) by decide +kernel) (by rfl) rfl rfl rfl (hl.k2 zk_131) (by decide) (hl.n2 zk_131) ⟨Nat.le_of_ble_eq_true rfl, Nat.le_of_ble_eq_true rfl, Nat.le_of_ble_eq_true rfl⟩) ?_
    exact Iff.rfl

theorem bX12_close_51 {d : Nat} {σ : zS} {Q : Option Value → zS → Prop} (hl : zLay σ) {x1 x2 x3 : Int32} : zW (d + 1) kX12_close 51 [.ref 131, .int x1, .int x2, .int x3] [] σ Q ↔ zCall d kX12_outOf [.ref 131, .int 0] σ (fun r σ' => zisN r = true ∧ zW (d + 1) kX12_close 57 [.ref 131, .int x1, .int x2, .int x3] (zRstk r ++ [.int x2]) σ' Q) := by
  refine Iff.trans (zw_iload_n (show decode cX12_close 51 = .ok (.iload_n 2, 1) by decide +kernel) rfl) ?_
  refine Iff.trans (zw_aload_n (show decode cX12_close 52 = .ok (.aload_n 0, 1) by decide +kernel) rfl) ?_
  refine Iff.trans (zw_iconst (x := 0) (show decode cX12_close 53 = .ok (.iconst 0, 1) by decide +kernel) (by decide)) ?_
  refine Iff.trans (zw_invV (K' := kX12_outOf) (as' := [.int 0]) (rest := [.int x2]) (show decode cX12_close 54 = .ok (.invokevirtual 447, 3) by decide +kernel) (by rfl) rfl rfl rfl (hl.k2 zk_131) (by decide) (hl.n2 zk_131) ⟨Nat.le_of_ble_eq_true rfl, Nat.le_of_ble_eq_true rfl, Nat.le_of_ble_eq_true rfl⟩) ?_
  exact Iff.rfl

theorem bX12_close_57 {d : Nat} {σ : zS} {Q : Option Value → zS → Prop} (hl : zLay σ) {x1 x2 x3 y0 y1 : Int32} : zW (d + 1) kX12_close 57 [.ref 131, .int x1, .int x2, .int x3] [.int y0, .int y1] σ Q ↔ (if y0 = (-1) then zW (d + 1) kX12_close 40 [.ref 131, .int x1, .int (y1 + 0), .int (x3 + 1)] [] σ Q else zCall d kX12_outOf [.ref 131, .int 0] σ (fun r σ' => zisN r = true ∧ zW (d + 1) kX12_close 66 [.ref 131, .int x1, .int x2, .int x3] (zRstk r ++ [.int y1]) σ' Q)) := by
  refine Iff.trans (zw_iconst (x := (-1)) (show decode cX12_close 57 = .ok (.iconst (-1), 1) by decide +kernel) (by decide)) ?_
  refine Iff.trans (zw_icmp_eq (t := 78) (show decode cX12_close 58 = .ok (.if_icmp .eq 20, 3) by decide +kernel) (by decide)) ?_
  refine zw_ite ?_ ?_
  · refine Iff.trans (zw_iconst (x := 0) (show decode cX12_close 78 = .ok (.iconst 0, 1) by decide +kernel) (by decide)) ?_
    refine Iff.trans (zw_iadd (show decode cX12_close 79 = .ok (.iadd, 1) by decide +kernel)) ?_
    refine Iff.trans (zw_istore_n (ls' := [.ref 131, .int x1, .int (y1 + 0), .int x3]) (show decode cX12_close 80 = .ok (.istore_n 2, 1) by decide +kernel) (zset_s (Nat.le_of_ble_eq_true rfl) rfl)) ?_
    refine Iff.trans (zw_iinc (w := 1) (ls' := [.ref 131, .int x1, .int (y1 + 0), .int (x3 + 1)]) (show decode cX12_close 81 = .ok (.iinc 3 1, 3) by decide +kernel) rfl (by decide) (zset_s (Nat.le_of_ble_eq_true rfl) rfl)) ?_
    refine Iff.trans (zw_goto (t := 40) (show decode cX12_close 84 = .ok (.goto (-44), 3) by decide +kernel) (by decide)) ?_
    exact Iff.rfl
  · refine Iff.trans (zw_aload_n (show decode cX12_close 61 = .ok (.aload_n 0, 1) by decide +kernel) rfl) ?_
    refine Iff.trans (zw_iconst (x := 0) (show decode cX12_close 62 = .ok (.iconst 0, 1) by decide +kernel) (by decide)) ?_
    refine Iff.trans (zw_invV (K' := kX12_outOf) (as' := [.int 0]) (rest := [.int y1]) (show decode cX12_close 63 = .ok (.invokevirtual 447, 3) by decide +kernel) (by rfl) rfl rfl rfl (hl.k2 zk_131) (by decide) (hl.n2 zk_131) ⟨Nat.le_of_ble_eq_true rfl, Nat.le_of_ble_eq_true rfl, Nat.le_of_ble_eq_true rfl⟩) ?_
    exact Iff.rfl

theorem bX12_close_66 {d : Nat} {σ : zS} {Q : Option Value → zS → Prop} (hl : zLay σ) {x1 x2 x3 y0 y1 : Int32} : zW (d + 1) kX12_close 66 [.ref 131, .int x1, .int x2, .int x3] [.int y0, .int y1] σ Q ↔ zCall d kX12_outOf [.ref 131, .int 1] σ (fun r σ' => zisN r = true ∧ zW (d + 1) kX12_close 71 [.ref 131, .int x1, .int x2, .int x3] (zRstk r ++ [.int y0, .int y1]) σ' Q) := by
  refine Iff.trans (zw_aload_n (show decode cX12_close 66 = .ok (.aload_n 0, 1) by decide +kernel) rfl) ?_
  refine Iff.trans (zw_iconst (x := 1) (show decode cX12_close 67 = .ok (.iconst 1, 1) by decide +kernel) (by decide)) ?_
  refine Iff.trans (zw_invV (K' := kX12_outOf) (as' := [.int 1]) (rest := [.int y0, .int y1]) (show decode cX12_close 68 = .ok (.invokevirtual 447, 3) by decide +kernel) (by rfl) rfl rfl rfl (hl.k2 zk_131) (by decide) (hl.n2 zk_131) ⟨Nat.le_of_ble_eq_true rfl, Nat.le_of_ble_eq_true rfl, Nat.le_of_ble_eq_true rfl⟩) ?_
  exact Iff.rfl

theorem bX12_close_71 {d : Nat} {σ : zS} {Q : Option Value → zS → Prop} (hl : zLay σ) {x1 x2 x3 y0 y1 y2 : Int32} : zW (d + 1) kX12_close 71 [.ref 131, .int x1, .int x2, .int x3] [.int y0, .int y1, .int y2] σ Q ↔ (if y1 = y0 then zW (d + 1) kX12_close 40 [.ref 131, .int x1, .int (y2 + 1), .int (x3 + 1)] [] σ Q else zW (d + 1) kX12_close 40 [.ref 131, .int x1, .int (y2 + 0), .int (x3 + 1)] [] σ Q) := by
  refine Iff.trans (zw_icmp_ne (t := 78) (show decode cX12_close 71 = .ok (.if_icmp .ne 7, 3) by decide +kernel) (by decide)) ?_
  refine zw_ite ?_ ?_
  · refine Iff.trans (zw_iconst (x := 1) (show decode cX12_close 74 = .ok (.iconst 1, 1) by decide +kernel) (by decide)) ?_
    refine Iff.trans (zw_goto (t := 79) (show decode cX12_close 75 = .ok (.goto 4, 3) by decide +kernel) (by decide)) ?_
    refine Iff.trans (zw_iadd (show decode cX12_close 79 = .ok (.iadd, 1) by decide +kernel)) ?_
    refine Iff.trans (zw_istore_n (ls' := [.ref 131, .int x1, .int (y2 + 1), .int x3]) (show decode cX12_close 80 = .ok (.istore_n 2, 1) by decide +kernel) (zset_s (Nat.le_of_ble_eq_true rfl) rfl)) ?_
    refine Iff.trans (zw_iinc (w := 1) (ls' := [.ref 131, .int x1, .int (y2 + 1), .int (x3 + 1)]) (show decode cX12_close 81 = .ok (.iinc 3 1, 3) by decide +kernel) rfl (by decide) (zset_s (Nat.le_of_ble_eq_true rfl) rfl)) ?_
    refine Iff.trans (zw_goto (t := 40) (show decode cX12_close 84 = .ok (.goto (-44), 3) by decide +kernel) (by decide)) ?_
    exact Iff.rfl
  · refine Iff.trans (zw_iconst (x := 0) (show decode cX12_close 78 = .ok (.iconst 0, 1) by decide +kernel) (by decide)) ?_
    refine Iff.trans (zw_iadd (show decode cX12_close 79 = .ok (.iadd, 1) by decide +kernel)) ?_
    refine Iff.trans (zw_istore_n (ls' := [.ref 131, .int x1, .int (y2 + 0), .int x3]) (show decode cX12_close 80 = .ok (.istore_n 2, 1) by decide +kernel) (zset_s (Nat.le_of_ble_eq_true rfl) rfl)) ?_
    refine Iff.trans (zw_iinc (w := 1) (ls' := [.ref 131, .int x1, .int (y2 + 0), .int (x3 + 1)]) (show decode cX12_close 81 = .ok (.iinc 3 1, 3) by decide +kernel) rfl (by decide) (zset_s (Nat.le_of_ble_eq_true rfl) rfl)) ?_
    refine Iff.trans (zw_goto (t := 40) (show decode cX12_close 84 = .ok (.goto (-44), 3) by decide +kernel) (by decide)) ?_
    exact Iff.rfl

theorem bX12_close_91 {d : Nat} {σ : zS} {Q : Option Value → zS → Prop} (hl : zLay σ) {x1 x2 x3 : Int32} : zW (d + 1) kX12_close 91 [.ref 131, .int x1, .int x2, .int x3] [] σ Q ↔ Q (some (.int x2)) σ := by
  refine Iff.trans (zw_iload_n (show decode cX12_close 91 = .ok (.iload_n 2, 1) by decide +kernel) rfl) ?_
  exact zw_iret1 (show decode cX12_close 92 = .ok (.ireturn, 1) by decide +kernel) rfl

theorem bX12_count_0 {d : Nat} {σ : zS} {Q : Option Value → zS → Prop} (hl : zLay σ) {x1 : Int32} : zCall d kX12_count [.ref 131, .int x1] σ Q ↔ zW d kX12_count 6 [.ref 131, .int x1] [.int x1] (zsI σ 131 (upd (zI σ 131) 0 0)) Q := by
  show zW d kX12_count 0 [.ref 131, .int x1] [] σ Q ↔ _
  refine Iff.trans (zw_aload_n (show decode cX12_count 0 = .ok (.aload_n 0, 1) by decide +kernel) rfl) ?_
  refine Iff.trans (zw_iconst (x := 0) (show decode cX12_count 1 = .ok (.iconst 0, 1) by decide +kernel) (by decide)) ?_
  refine Iff.trans (zw_putI (show decode cX12_count 2 = .ok (.putfield 118, 3) by decide +kernel) (by decide +kernel : zfld 12 118 = some (12, 0)) (hl.k2 zk_131) (hl.n2 zk_131) rfl (Or.inl rfl) (σ' := (zsI σ 131 (upd (zI σ 131) 0 0))) rfl) ?_
  refine Iff.trans (zw_iload_n (show decode cX12_count 5 = .ok (.iload_n 1, 1) by decide +kernel) rfl) ?_
  exact Iff.rfl

theorem bX12_count_56 {d : Nat} {σ : zS} {Q : Option Value → zS → Prop} (hl : zLay σ) {x1 : Int32} : zW d kX12_count 56 [.ref 131, .int x1] [] σ Q ↔ Q (some (.int (zI σ 131 11))) σ := by
  refine Iff.trans (zw_aload_n (show decode cX12_count 56 = .ok (.aload_n 0, 1) by decide +kernel) rfl) ?_
  refine Iff.trans (zw_getI (show decode cX12_count 57 = .ok (.getfield 181, 3) by decide +kernel) (by decide +kernel : zfld 12 181 = some (12, 11)) (hl.k2 zk_131) (hl.n2 zk_131) (Or.inl rfl) (w := zI σ 131 11) rfl) ?_
  exact zw_iret1 (show decode cX12_count 60 = .ok (.ireturn, 1) by decide +kernel) rfl

theorem bX12_count_61 {d : Nat} {σ : zS} {Q : Option Value → zS → Prop} (hl : zLay σ) {x1 : Int32} : zW d kX12_count 61 [.ref 131, .int x1] [] σ Q ↔ Q (some (.int (zI σ 131 12))) σ := by
  refine Iff.trans (zw_aload_n (show decode cX12_count 61 = .ok (.aload_n 0, 1) by decide +kernel) rfl) ?_
  refine Iff.trans (zw_getI (show decode cX12_count 62 = .ok (.getfield 184, 3) by decide +kernel) (by decide +kernel : zfld 12 184 = some (12, 12)) (hl.k2 zk_131) (hl.n2 zk_131) (Or.inl rfl) (w := zI σ 131 12) rfl) ?_
  exact zw_iret1 (show decode cX12_count 65 = .ok (.ireturn, 1) by decide +kernel) rfl

theorem bX12_count_66 {d : Nat} {σ : zS} {Q : Option Value → zS → Prop} (hl : zLay σ) {x1 : Int32} : zW d kX12_count 66 [.ref 131, .int x1] [] σ Q ↔ Q (some (.int (zI σ 131 20))) σ := by
  refine Iff.trans (zw_aload_n (show decode cX12_count 66 = .ok (.aload_n 0, 1) by decide +kernel) rfl) ?_
  refine Iff.trans (zw_getI (show decode cX12_count 67 = .ok (.getfield 222, 3) by decide +kernel) (by decide +kernel : zfld 12 222 = some (12, 20)) (hl.k2 zk_131) (hl.n2 zk_131) (Or.inl rfl) (w := zI σ 131 20) rfl) ?_
  exact zw_iret1 (show decode cX12_count 70 = .ok (.ireturn, 1) by decide +kernel) rfl

theorem bX12_count_71 {d : Nat} {σ : zS} {Q : Option Value → zS → Prop} (hl : zLay σ) {x1 : Int32} : zW d kX12_count 71 [.ref 131, .int x1] [] σ Q ↔ Q (some (.int (zI σ 131 54))) σ := by
  refine Iff.trans (zw_aload_n (show decode cX12_count 71 = .ok (.aload_n 0, 1) by decide +kernel) rfl) ?_
  refine Iff.trans (zw_getI (show decode cX12_count 72 = .ok (.getfield 401, 3) by decide +kernel) (by decide +kernel : zfld 12 401 = some (12, 54)) (hl.k2 zk_131) (hl.n2 zk_131) (Or.inl rfl) (w := zI σ 131 54) rfl) ?_
  exact zw_iret1 (show decode cX12_count 75 = .ok (.ireturn, 1) by decide +kernel) rfl

theorem bX12_count_76 {d : Nat} {σ : zS} {Q : Option Value → zS → Prop} (hl : zLay σ) {x1 : Int32} : zW d kX12_count 76 [.ref 131, .int x1] [] σ Q ↔ Q (some (.int (zI σ 131 2))) σ := by
  refine Iff.trans (zw_aload_n (show decode cX12_count 76 = .ok (.aload_n 0, 1) by decide +kernel) rfl) ?_
  refine Iff.trans (zw_getI (show decode cX12_count 77 = .ok (.getfield 127, 3) by decide +kernel) (by decide +kernel : zfld 12 127 = some (12, 2)) (hl.k2 zk_131) (hl.n2 zk_131) (Or.inl rfl) (w := zI σ 131 2) rfl) ?_
  exact zw_iret1 (show decode cX12_count 80 = .ok (.ireturn, 1) by decide +kernel) rfl

theorem bX12_count_81 {d : Nat} {σ : zS} {Q : Option Value → zS → Prop} (hl : zLay σ) {x1 : Int32} : zW d kX12_count 81 [.ref 131, .int x1] [] σ Q ↔ Q (some (.int (zI σ 131 21))) σ := by
  refine Iff.trans (zw_aload_n (show decode cX12_count 81 = .ok (.aload_n 0, 1) by decide +kernel) rfl) ?_
  refine Iff.trans (zw_getI (show decode cX12_count 82 = .ok (.getfield 48, 3) by decide +kernel) (by decide +kernel : zfld 12 48 = some (12, 21)) (hl.k2 zk_131) (hl.n2 zk_131) (Or.inl rfl) (w := zI σ 131 21) rfl) ?_
  exact zw_iret1 (show decode cX12_count 85 = .ok (.ireturn, 1) by decide +kernel) rfl

theorem bX12_count_86 {d : Nat} {σ : zS} {Q : Option Value → zS → Prop} (hl : zLay σ) {x1 : Int32} : zW d kX12_count 86 [.ref 131, .int x1] [] σ Q ↔ Q (some (.int (zI σ 131 13))) σ := by
  refine Iff.trans (zw_aload_n (show decode cX12_count 86 = .ok (.aload_n 0, 1) by decide +kernel) rfl) ?_
  refine Iff.trans (zw_getI (show decode cX12_count 87 = .ok (.getfield 212, 3) by decide +kernel) (by decide +kernel : zfld 12 212 = some (12, 13)) (hl.k2 zk_131) (hl.n2 zk_131) (Or.inl rfl) (w := zI σ 131 13) rfl) ?_
  exact zw_iret1 (show decode cX12_count 90 = .ok (.ireturn, 1) by decide +kernel) rfl

theorem bX12_count_91 {d : Nat} {σ : zS} {Q : Option Value → zS → Prop} (hl : zLay σ) {x1 : Int32} : zW d kX12_count 91 [.ref 131, .int x1] [] σ Q ↔ Q (some (.int (zI σ 131 14))) σ := by
  refine Iff.trans (zw_aload_n (show decode cX12_count 91 = .ok (.aload_n 0, 1) by decide +kernel) rfl) ?_
  refine Iff.trans (zw_getI (show decode cX12_count 92 = .ok (.getfield 200, 3) by decide +kernel) (by decide +kernel : zfld 12 200 = some (12, 14)) (hl.k2 zk_131) (hl.n2 zk_131) (Or.inl rfl) (w := zI σ 131 14) rfl) ?_
  exact zw_iret1 (show decode cX12_count 95 = .ok (.ireturn, 1) by decide +kernel) rfl

theorem bX12_count_96 {d : Nat} {σ : zS} {Q : Option Value → zS → Prop} (hl : zLay σ) {x1 : Int32} : zW d kX12_count 96 [.ref 131, .int x1] [] σ Q ↔ Q (some (.int (zI σ 131 15))) σ := by
  refine Iff.trans (zw_aload_n (show decode cX12_count 96 = .ok (.aload_n 0, 1) by decide +kernel) rfl) ?_
  refine Iff.trans (zw_getI (show decode cX12_count 97 = .ok (.getfield 32, 3) by decide +kernel) (by decide +kernel : zfld 12 32 = some (12, 15)) (hl.k2 zk_131) (hl.n2 zk_131) (Or.inl rfl) (w := zI σ 131 15) rfl) ?_
  exact zw_iret1 (show decode cX12_count 100 = .ok (.ireturn, 1) by decide +kernel) rfl

theorem bX12_count_101 {d : Nat} {σ : zS} {Q : Option Value → zS → Prop} (hl : zLay σ) {x1 : Int32} : zW d kX12_count 101 [.ref 131, .int x1] [] σ Q ↔ Q (some (.int (-1000))) σ := by
  refine Iff.trans (zw_sipush (x := (-1000)) (show decode cX12_count 101 = .ok (.sipush (-1000), 3) by decide +kernel) (by decide)) ?_
  exact zw_iret1 (show decode cX12_count 104 = .ok (.ireturn, 1) by decide +kernel) rfl

