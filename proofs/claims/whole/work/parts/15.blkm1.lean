theorem bX12_isIn_0 {d : Nat} {σ : zS} {Q : Option Value → zS → Prop} (hl : zLay σ) {x0 x1 x2 : Int32} : zCall d kX12_isIn [.int x0, .int x1, .int x2] σ Q ↔ (if x0 < x1 then Q (some (.int 0)) σ else (if x2 < x0 then Q (some (.int 0)) σ else Q (some (.int 1)) σ)) := by
  show zW d kX12_isIn 0 [.int x0, .int x1, .int x2] [] σ Q ↔ _
  refine Iff.trans (zw_iload_n (show decode cX12_isIn 0 = .ok (.iload_n 0, 1) by decide +kernel) rfl) ?_
  refine Iff.trans (zw_iload_n (show decode cX12_isIn 1 = .ok (.iload_n 1, 1) by decide +kernel) rfl) ?_
  refine Iff.trans (zw_icmp_lt (t := 14) (show decode cX12_isIn 2 = .ok (.if_icmp .lt 12, 3) by decide +kernel) (by decide)) ?_
  refine zw_ite ?_ ?_
  · refine Iff.trans (zw_iconst (x := 0) (show decode cX12_isIn 14 = .ok (.iconst 0, 1) by decide +kernel) (by decide)) ?_
    exact zw_iret2c (show decode cX12_isIn 15 = .ok (.ireturn, 1) by decide +kernel) rfl (Or.inl rfl)
  · refine Iff.trans (zw_iload_n (show decode cX12_isIn 5 = .ok (.iload_n 0, 1) by decide +kernel) rfl) ?_
    refine Iff.trans (zw_iload_n (show decode cX12_isIn 6 = .ok (.iload_n 2, 1) by decide +kernel) rfl) ?_
    refine Iff.trans (zw_icmp_gt (t := 14) (show decode cX12_isIn 7 = .ok (.if_icmp .gt 7, 3) by decide +kernel) (by decide)) ?_
    refine zw_ite ?_ ?_
    · refine Iff.trans (zw_iconst (x := 0) (show decode cX12_isIn 14 = .ok (.iconst 0, 1) by decide +kernel) (by decide)) ?_
      exact zw_iret2c (show decode cX12_isIn 15 = .ok (.ireturn, 1) by decide +kernel) rfl (Or.inl rfl)
    · refine Iff.trans (zw_iconst (x := 1) (show decode cX12_isIn 10 = .ok (.iconst 1, 1) by decide +kernel) (by decide)) ?_
      refine Iff.trans (zw_goto (t := 15) (show decode cX12_isIn 11 = .ok (.goto 4, 3) by decide +kernel) (by decide)) ?_
      exact zw_iret2c (show decode cX12_isIn 15 = .ok (.ireturn, 1) by decide +kernel) rfl (Or.inr rfl)

theorem bX12_of_0 {d : Nat} {σ : zS} {Q : Option Value → zS → Prop} (hl : zLay σ) {x1 x2 : Int32} : zCall d kX12_of [.ref 131, .int x1, .int x2] σ Q ↔ (vp_in ((11 * x1) + x2) 66 ∧ Q (some (.int (zI σ 139 ((11 * x1) + x2 : Int32).toNatClampNeg))) σ) := by
  show zW d kX12_of 0 [.ref 131, .int x1, .int x2] [] σ Q ↔ _
  refine Iff.trans (zw_aload_n (show decode cX12_of 0 = .ok (.aload_n 0, 1) by decide +kernel) rfl) ?_
  refine Iff.trans (zw_get (show decode cX12_of 1 = .ok (.getfield 36, 3) by decide +kernel) (by decide +kernel : zfld 12 36 = some (12, 16)) (hl.k2 zk_131) (hl.n2 zk_131) (zgetR (v := 139) (hl.r zrt_131_16) rfl)) ?_
  refine Iff.trans (zw_bipush (x := 11) (show decode cX12_of 4 = .ok (.bipush 11, 2) by decide +kernel) (by decide)) ?_
  refine Iff.trans (zw_iload_n (show decode cX12_of 6 = .ok (.iload_n 1, 1) by decide +kernel) rfl) ?_
  refine Iff.trans (zw_imul (show decode cX12_of 7 = .ok (.imul, 1) by decide +kernel)) ?_
  refine Iff.trans (zw_iload_n (show decode cX12_of 8 = .ok (.iload_n 2, 1) by decide +kernel) rfl) ?_
  refine Iff.trans (zw_iadd (show decode cX12_of 9 = .ok (.iadd, 1) by decide +kernel)) ?_
  refine Iff.trans (zw_iald2 (show decode cX12_of 10 = .ok (.iaload, 1) by decide +kernel) (hl.k2 zk_139) (hl.n2 zk_139) (hl.l2 zk_139 zl_139) (w := zI σ 139 ((11 * x1) + x2 : Int32).toNatClampNeg) rfl) ?_
  refine zw_and ?_
  exact zw_iret1 (show decode cX12_of 11 = .ok (.ireturn, 1) by decide +kernel) rfl

theorem bX12_set_0 {d : Nat} {σ : zS} {Q : Option Value → zS → Prop} (hl : zLay σ) {x1 x2 x3 : Int32} : zCall d kX12_set [.ref 131, .int x1, .int x2, .int x3] σ Q ↔ (vp_in ((11 * x1) + x2) 66 ∧ Q none (zsI σ 139 (upd (zI σ 139) ((11 * x1) + x2 : Int32).toNatClampNeg x3))) := by
  show zW d kX12_set 0 [.ref 131, .int x1, .int x2, .int x3] [] σ Q ↔ _
  refine Iff.trans (zw_aload_n (show decode cX12_set 0 = .ok (.aload_n 0, 1) by decide +kernel) rfl) ?_
  refine Iff.trans (zw_get (show decode cX12_set 1 = .ok (.getfield 36, 3) by decide +kernel) (by decide +kernel : zfld 12 36 = some (12, 16)) (hl.k2 zk_131) (hl.n2 zk_131) (zgetR (v := 139) (hl.r zrt_131_16) rfl)) ?_
  refine Iff.trans (zw_bipush (x := 11) (show decode cX12_set 4 = .ok (.bipush 11, 2) by decide +kernel) (by decide)) ?_
  refine Iff.trans (zw_iload_n (show decode cX12_set 6 = .ok (.iload_n 1, 1) by decide +kernel) rfl) ?_
  refine Iff.trans (zw_imul (show decode cX12_set 7 = .ok (.imul, 1) by decide +kernel)) ?_
  refine Iff.trans (zw_iload_n (show decode cX12_set 8 = .ok (.iload_n 2, 1) by decide +kernel) rfl) ?_
  refine Iff.trans (zw_iadd (show decode cX12_set 9 = .ok (.iadd, 1) by decide +kernel)) ?_
  refine Iff.trans (zw_iload_n (show decode cX12_set 10 = .ok (.iload_n 3, 1) by decide +kernel) rfl) ?_
  refine Iff.trans (zw_iast2 (show decode cX12_set 11 = .ok (.iastore, 1) by decide +kernel) (hl.k2 zk_139) (hl.n2 zk_139) (hl.l2 zk_139 zl_139) (σ' := (zsI σ 139 (upd (zI σ 139) ((11 * x1) + x2 : Int32).toNatClampNeg x3))) rfl) ?_
  refine zw_and ?_
  exact zw_ret (show decode cX12_set 12 = .ok (.return_, 1) by decide +kernel) rfl

theorem bX12_isOut_0 {d : Nat} {σ : zS} {Q : Option Value → zS → Prop} (hl : zLay σ) {x1 : Int32} : zCall (d + 1) kX12_isOut [.ref 131, .int x1] σ Q ↔ zCall d kX12_of [.ref 131, .int x1, .int 7] σ (fun r σ' => zisN r = true ∧ zW (d + 1) kX12_isOut 7 [.ref 131, .int x1] (zRstk r ++ []) σ' Q) := by
  show zW (d + 1) kX12_isOut 0 [.ref 131, .int x1] [] σ Q ↔ _
  refine Iff.trans (zw_aload_n (show decode cX12_isOut 0 = .ok (.aload_n 0, 1) by decide +kernel) rfl) ?_
  refine Iff.trans (zw_iload_n (show decode cX12_isOut 1 = .ok (.iload_n 1, 1) by decide +kernel) rfl) ?_
  refine Iff.trans (zw_bipush (x := 7) (show decode cX12_isOut 2 = .ok (.bipush 7, 2) by decide +kernel) (by decide)) ?_
  refine Iff.trans (zw_invV (K' := kX12_of) (as' := [.int x1, .int 7]) (rest := []) (show decode cX12_isOut 4 = .ok (.invokevirtual 229, 3) by decide +kernel) (by rfl) rfl rfl rfl (hl.k2 zk_131) (by decide) (hl.n2 zk_131) ⟨Nat.le_of_ble_eq_true rfl, Nat.le_of_ble_eq_true rfl, Nat.le_of_ble_eq_true rfl⟩) ?_
  exact Iff.rfl

theorem bX12_isOut_7 {d : Nat} {σ : zS} {Q : Option Value → zS → Prop} (hl : zLay σ) {x1 y0 : Int32} : zW (d + 1) kX12_isOut 7 [.ref 131, .int x1] [.int y0] σ Q ↔ (if y0 = (-1) then Q (some (.int 0)) σ else Q (some (.int 1)) σ) := by
  refine Iff.trans (zw_iconst (x := (-1)) (show decode cX12_isOut 7 = .ok (.iconst (-1), 1) by decide +kernel) (by decide)) ?_
  refine Iff.trans (zw_icmp_eq (t := 15) (show decode cX12_isOut 8 = .ok (.if_icmp .eq 7, 3) by decide +kernel) (by decide)) ?_
  refine zw_ite ?_ ?_
  · refine Iff.trans (zw_iconst (x := 0) (show decode cX12_isOut 15 = .ok (.iconst 0, 1) by decide +kernel) (by decide)) ?_
    exact zw_iret2c (show decode cX12_isOut 16 = .ok (.ireturn, 1) by decide +kernel) rfl (Or.inl rfl)
  · refine Iff.trans (zw_iconst (x := 1) (show decode cX12_isOut 11 = .ok (.iconst 1, 1) by decide +kernel) (by decide)) ?_
    refine Iff.trans (zw_goto (t := 16) (show decode cX12_isOut 12 = .ok (.goto 4, 3) by decide +kernel) (by decide)) ?_
    exact zw_iret2c (show decode cX12_isOut 16 = .ok (.ireturn, 1) by decide +kernel) rfl (Or.inr rfl)

theorem bX12_whoIs_0 {d : Nat} {σ : zS} {Q : Option Value → zS → Prop} (hl : zLay σ) {x1 x2 x3 : Int32} : zCall (d + 1) kX12_whoIs [.ref 131, .int x1, .int x2, .int x3] σ Q ↔ zW (d + 1) kX12_whoIs 3 [.ref 131, .int x1, .int x2, .int x3, .int 0] [] σ Q := by
  show zW (d + 1) kX12_whoIs 0 [.ref 131, .int x1, .int x2, .int x3, .retAddr 0] [] σ Q ↔ _
  refine Iff.trans (zw_iconst (x := 0) (show decode cX12_whoIs 0 = .ok (.iconst 0, 1) by decide +kernel) (by decide)) ?_
  refine Iff.trans (zw_istore (ls' := [.ref 131, .int x1, .int x2, .int x3, .int 0]) (show decode cX12_whoIs 1 = .ok (.istore 4, 2) by decide +kernel) (zset_s (Nat.le_of_ble_eq_true rfl) rfl)) ?_
  exact Iff.rfl

theorem bX12_whoIs_3 {d : Nat} {σ : zS} {Q : Option Value → zS → Prop} (hl : zLay σ) {x1 x2 x3 x4 : Int32} : zW (d + 1) kX12_whoIs 3 [.ref 131, .int x1, .int x2, .int x3, .int x4] [] σ Q ↔ (if (zI σ 131 20) ≤ x4 then Q (some (.int (-1))) σ else (if x4 = x3 then zW (d + 1) kX12_whoIs 3 [.ref 131, .int x1, .int x2, .int x3, .int (x4 + 1)] [] σ Q else zCall d kX12_isOut [.ref 131, .int x4] σ (fun r σ' => zisN r = true ∧ zW (d + 1) kX12_whoIs 24 [.ref 131, .int x1, .int x2, .int x3, .int x4] (zRstk r ++ []) σ' Q))) := by
  refine Iff.trans (zw_iload (show decode cX12_whoIs 3 = .ok (.iload 4, 2) by decide +kernel) rfl) ?_
  refine Iff.trans (zw_aload_n (show decode cX12_whoIs 5 = .ok (.aload_n 0, 1) by decide +kernel) rfl) ?_
  refine Iff.trans (zw_getI (show decode cX12_whoIs 6 = .ok (.getfield 222, 3) by decide +kernel) (by decide +kernel : zfld 12 222 = some (12, 20)) (hl.k2 zk_131) (hl.n2 zk_131) (Or.inl rfl) (w := zI σ 131 20) rfl) ?_
  refine Iff.trans (zw_icmp_ge (t := 78) (show decode cX12_whoIs 9 = .ok (.if_icmp .ge 69, 3) by decide +kernel) (by decide)) ?_
  refine zw_ite ?_ ?_
  · refine Iff.trans (zw_iconst (x := (-1)) (show decode cX12_whoIs 78 = .ok (.iconst (-1), 1) by decide +kernel) (by decide)) ?_
    exact zw_iret1 (show decode cX12_whoIs 79 = .ok (.ireturn, 1) by decide +kernel) rfl
  · refine Iff.trans (zw_iload (show decode cX12_whoIs 12 = .ok (.iload 4, 2) by decide +kernel) rfl) ?_
    refine Iff.trans (zw_iload_n (show decode cX12_whoIs 14 = .ok (.iload_n 3, 1) by decide +kernel) rfl) ?_
    refine Iff.trans (zw_icmp_eq (t := 72) (show decode cX12_whoIs 15 = .ok (.if_icmp .eq 57, 3) by decide +kernel) (by decide)) ?_
    refine zw_ite ?_ ?_
    · refine Iff.trans (zw_iinc (w := 1) (ls' := [.ref 131, .int x1, .int x2, .int x3, .int (x4 + 1)]) (show decode cX12_whoIs 72 = .ok (.iinc 4 1, 3) by decide +kernel) rfl (by decide) (zset_s (Nat.le_of_ble_eq_true rfl) rfl)) ?_
      refine Iff.trans (zw_goto (t := 3) (show decode cX12_whoIs 75 = .ok (.goto (-72), 3) by decide +kernel) (by decide)) ?_
      exact Iff.rfl
    · refine Iff.trans (zw_aload_n (show decode cX12_whoIs 18 = .ok (.aload_n 0, 1) by decide +kernel) rfl) ?_
      refine Iff.trans (zw_iload (show decode cX12_whoIs 19 = .ok (.iload 4, 2) by decide +kernel) rfl) ?_
      refine Iff.trans (zw_invV (K' := kX12_isOut) (as' := [.int x4]) (rest := []) (show decode cX12_whoIs 21 = .ok (.invokevirtual 235, 3) by decide +kernel) (by rfl) rfl rfl rfl (hl.k2 zk_131) (by decide) (hl.n2 zk_131) ⟨Nat.le_of_ble_eq_true rfl, Nat.le_of_ble_eq_true rfl, Nat.le_of_ble_eq_true rfl⟩) ?_
      exact Iff.rfl

theorem bX12_whoIs_24 {d : Nat} {σ : zS} {Q : Option Value → zS → Prop} (hl : zLay σ) {x1 x2 x3 x4 y0 : Int32} : zW (d + 1) kX12_whoIs 24 [.ref 131, .int x1, .int x2, .int x3, .int x4] [.int y0] σ Q ↔ (if y0 = (0 : Int32) then zCall d kX12_of [.ref 131, .int x4, .int 4] σ (fun r σ' => zisN r = true ∧ zW (d + 1) kX12_whoIs 34 [.ref 131, .int x1, .int x2, .int x3, .int x4] (zRstk r ++ []) σ' Q) else zW (d + 1) kX12_whoIs 3 [.ref 131, .int x1, .int x2, .int x3, .int (x4 + 1)] [] σ Q) := by
  refine Iff.trans (zw_if_ne (t := 72) (show decode cX12_whoIs 24 = .ok (.ifCond .ne 48, 3) by decide +kernel) (by decide)) ?_
  refine zw_ite ?_ ?_
  · refine Iff.trans (zw_aload_n (show decode cX12_whoIs 27 = .ok (.aload_n 0, 1) by decide +kernel) rfl) ?_
    refine Iff.trans (zw_iload (show decode cX12_whoIs 28 = .ok (.iload 4, 2) by decide +kernel) rfl) ?_
    refine Iff.trans (zw_iconst (x := 4) (show decode cX12_whoIs 30 = .ok (.iconst 4, 1) by decide +kernel) (by decide)) ?_
    refine Iff.trans (zw_invV (K' := kX12_of) (as' := [.int x4, .int 4]) (rest := []) (show decode cX12_whoIs 31 = .ok (.invokevirtual 229, 3) by decide +kernel) (by rfl) rfl rfl rfl (hl.k2 zk_131) (by decide) (hl.n2 zk_131) ⟨Nat.le_of_ble_eq_true rfl, Nat.le_of_ble_eq_true rfl, Nat.le_of_ble_eq_true rfl⟩) ?_
    exact Iff.rfl
  · refine Iff.trans (zw_iinc (w := 1) (ls' := [.ref 131, .int x1, .int x2, .int x3, .int (x4 + 1)]) (show decode cX12_whoIs 72 = .ok (.iinc 4 1, 3) by decide +kernel) rfl (by decide) (zset_s (Nat.le_of_ble_eq_true rfl) rfl)) ?_
    refine Iff.trans (zw_goto (t := 3) (show decode cX12_whoIs 75 = .ok (.goto (-72), 3) by decide +kernel) (by decide)) ?_
    exact Iff.rfl

theorem bX12_whoIs_34 {d : Nat} {σ : zS} {Q : Option Value → zS → Prop} (hl : zLay σ) {x1 x2 x3 x4 y0 : Int32} : zW (d + 1) kX12_whoIs 34 [.ref 131, .int x1, .int x2, .int x3, .int x4] [.int y0] σ Q ↔ (if y0 = x1 then zCall d kX12_of [.ref 131, .int x4, .int 5] σ (fun r σ' => zisN r = true ∧ zW (d + 1) kX12_whoIs 46 [.ref 131, .int x1, .int x2, .int x3, .int x4] (zRstk r ++ [.int x2]) σ' Q) else zW (d + 1) kX12_whoIs 3 [.ref 131, .int x1, .int x2, .int x3, .int (x4 + 1)] [] σ Q) := by
  refine Iff.trans (zw_iload_n (show decode cX12_whoIs 34 = .ok (.iload_n 1, 1) by decide +kernel) rfl) ?_
  refine Iff.trans (zw_icmp_ne (t := 72) (show decode cX12_whoIs 35 = .ok (.if_icmp .ne 37, 3) by decide +kernel) (by decide)) ?_
  refine zw_ite ?_ ?_
  · refine Iff.trans (zw_iload_n (show decode cX12_whoIs 38 = .ok (.iload_n 2, 1) by decide +kernel) rfl) ?_
    refine Iff.trans (zw_aload_n (show decode cX12_whoIs 39 = .ok (.aload_n 0, 1) by decide +kernel) rfl) ?_
    refine Iff.trans (zw_iload (show decode cX12_whoIs 40 = .ok (.iload 4, 2) by decide +kernel) rfl) ?_
    refine Iff.trans (zw_iconst (x := 5) (show decode cX12_whoIs 42 = .ok (.iconst 5, 1) by decide +kernel) (by decide)) ?_
    refine Iff.trans (zw_invV (K' := kX12_of) (as' := [.int x4, .int 5]) (rest := [.int x2]) (show decode cX12_whoIs 43 = .ok (.invokevirtual 229, 3) by decide +kernel) (by rfl) rfl rfl rfl (hl.k2 zk_131) (by decide) (hl.n2 zk_131) ⟨Nat.le_of_ble_eq_true rfl, Nat.le_of_ble_eq_true rfl, Nat.le_of_ble_eq_true rfl⟩) ?_
    exact Iff.rfl
  · refine Iff.trans (zw_iinc (w := 1) (ls' := [.ref 131, .int x1, .int x2, .int x3, .int (x4 + 1)]) (show decode cX12_whoIs 72 = .ok (.iinc 4 1, 3) by decide +kernel) rfl (by decide) (zset_s (Nat.le_of_ble_eq_true rfl) rfl)) ?_
    refine Iff.trans (zw_goto (t := 3) (show decode cX12_whoIs 75 = .ok (.goto (-72), 3) by decide +kernel) (by decide)) ?_
    exact Iff.rfl

theorem bX12_whoIs_46 {d : Nat} {σ : zS} {Q : Option Value → zS → Prop} (hl : zLay σ) {x1 x2 x3 x4 y0 y1 : Int32} : zW (d + 1) kX12_whoIs 46 [.ref 131, .int x1, .int x2, .int x3, .int x4] [.int y0, .int y1] σ Q ↔ zCall d kX12_of [.ref 131, .int x4, .int 5] σ (fun r σ' => zisN r = true ∧ zW (d + 1) kX12_whoIs 53 [.ref 131, .int x1, .int x2, .int x3, .int x4] (zRstk r ++ [.int y0, .int y1]) σ' Q) := by
  refine Iff.trans (zw_aload_n (show decode cX12_whoIs 46 = .ok (.aload_n 0, 1) by decide +kernel) rfl) ?_
  refine Iff.trans (zw_iload (show decode cX12_whoIs 47 = .ok (.iload 4, 2) by decide +kernel) rfl) ?_
  refine Iff.trans (zw_iconst (x := 5) (show decode cX12_whoIs 49 = .ok (.iconst 5, 1) by decide +kernel) (by decide)) ?_
  refine Iff.trans (zw_invV (K' := kX12_of) (as' := [.int x4, .int 5]) (rest := [.int y0, .int y1]) (show decode cX12_whoIs 50 = .ok (.invokevirtual 229, 3) by decide +kernel) (by rfl) rfl rfl rfl (hl.k2 zk_131) (by decide) (hl.n2 zk_131) ⟨Nat.le_of_ble_eq_true rfl, Nat.le_of_ble_eq_true rfl, Nat.le_of_ble_eq_true rfl⟩) ?_
  exact Iff.rfl

theorem bX12_whoIs_53 {d : Nat} {σ : zS} {Q : Option Value → zS → Prop} (hl : zLay σ) {x1 x2 x3 x4 y0 y1 y2 : Int32} : zW (d + 1) kX12_whoIs 53 [.ref 131, .int x1, .int x2, .int x3, .int x4] [.int y0, .int y1, .int y2] σ Q ↔ zCall d kX12_of [.ref 131, .int x4, .int 0] σ (fun r σ' => zisN r = true ∧ zW (d + 1) kX12_whoIs 60 [.ref 131, .int x1, .int x2, .int x3, .int x4] (zRstk r ++ [.int y0, .int y1, .int y2]) σ' Q) := by
  refine Iff.trans (zw_aload_n (show decode cX12_whoIs 53 = .ok (.aload_n 0, 1) by decide +kernel) rfl) ?_
  refine Iff.trans (zw_iload (show decode cX12_whoIs 54 = .ok (.iload 4, 2) by decide +kernel) rfl) ?_
  refine Iff.trans (zw_iconst (x := 0) (show decode cX12_whoIs 56 = .ok (.iconst 0, 1) by decide +kernel) (by decide)) ?_
  refine Iff.trans (zw_invV (K' := kX12_of) (as' := [.int x4, .int 0]) (rest := [.int y0, .int y1, .int y2]) (show decode cX12_whoIs 57 = .ok (.invokevirtual 229, 3) by decide +kernel) (by rfl) rfl rfl rfl (hl.k2 zk_131) (by decide) (hl.n2 zk_131) ⟨Nat.le_of_ble_eq_true rfl, Nat.le_of_ble_eq_true rfl, Nat.le_of_ble_eq_true rfl⟩) ?_
  exact Iff.rfl

theorem bX12_whoIs_60 {d : Nat} {σ : zS} {Q : Option Value → zS → Prop} (hl : zLay σ) {x1 x2 x3 x4 y0 y1 y2 y3 : Int32} : zW (d + 1) kX12_whoIs 60 [.ref 131, .int x1, .int x2, .int x3, .int x4] [.int y0, .int y1, .int y2, .int y3] σ Q ↔ zCall d kX12_isIn [.int y3, .int y2, .int ((y1 + y0) - 1)] σ (fun r σ' => zisN r = true ∧ zW (d + 1) kX12_whoIs 66 [.ref 131, .int x1, .int x2, .int x3, .int x4] (zRstk r ++ []) σ' Q) := by
  refine Iff.trans (zw_iadd (show decode cX12_whoIs 60 = .ok (.iadd, 1) by decide +kernel)) ?_
  refine Iff.trans (zw_iconst (x := 1) (show decode cX12_whoIs 61 = .ok (.iconst 1, 1) by decide +kernel) (by decide)) ?_
  refine Iff.trans (zw_isub (show decode cX12_whoIs 62 = .ok (.isub, 1) by decide +kernel)) ?_
  refine Iff.trans (zw_invS (K' := kX12_isIn) (as := [.int y3, .int y2, .int ((y1 + y0) - 1)]) (rest := []) (show decode cX12_whoIs 63 = .ok (.invokestatic 163, 3) by decide +kernel) (by rfl) rfl rfl rfl ⟨Nat.le_of_ble_eq_true rfl, Nat.le_of_ble_eq_true rfl, Nat.le_of_ble_eq_true rfl⟩) ?_
  exact Iff.rfl

theorem bX12_whoIs_66 {d : Nat} {σ : zS} {Q : Option Value → zS → Prop} (hl : zLay σ) {x1 x2 x3 x4 y0 : Int32} : zW (d + 1) kX12_whoIs 66 [.ref 131, .int x1, .int x2, .int x3, .int x4] [.int y0] σ Q ↔ (if y0 = (0 : Int32) then zW (d + 1) kX12_whoIs 3 [.ref 131, .int x1, .int x2, .int x3, .int (x4 + 1)] [] σ Q else Q (some (.int x4)) σ) := by
  refine Iff.trans (zw_if_eq (t := 72) (show decode cX12_whoIs 66 = .ok (.ifCond .eq 6, 3) by decide +kernel) (by decide)) ?_
  refine zw_ite ?_ ?_
  · refine Iff.trans (zw_iinc (w := 1) (ls' := [.ref 131, .int x1, .int x2, .int x3, .int (x4 + 1)]) (show decode cX12_whoIs 72 = .ok (.iinc 4 1, 3) by decide +kernel) rfl (by decide) (zset_s (Nat.le_of_ble_eq_true rfl) rfl)) ?_
    refine Iff.trans (zw_goto (t := 3) (show decode cX12_whoIs 75 = .ok (.goto (-72), 3) by decide +kernel) (by decide)) ?_
    exact Iff.rfl
  · refine Iff.trans (zw_iload (show decode cX12_whoIs 69 = .ok (.iload 4, 2) by decide +kernel) rfl) ?_
    exact zw_iret1 (show decode cX12_whoIs 71 = .ok (.ireturn, 1) by decide +kernel) rfl

theorem bX12_isFree_0 {d : Nat} {σ : zS} {Q : Option Value → zS → Prop} (hl : zLay σ) {x1 x2 x3 x4 : Int32} : zCall (d + 1) kX12_isFree [.ref 131, .int x1, .int x2, .int x3, .int x4] σ Q ↔ zW (d + 1) kX12_isFree 4 [.ref 131, .int x1, .int x2, .int x3, .int x4, .int x4] [] σ Q := by
  show zW (d + 1) kX12_isFree 0 [.ref 131, .int x1, .int x2, .int x3, .int x4, .retAddr 0] [] σ Q ↔ _
  refine Iff.trans (zw_iload (show decode cX12_isFree 0 = .ok (.iload 4, 2) by decide +kernel) rfl) ?_
  refine Iff.trans (zw_istore (ls' := [.ref 131, .int x1, .int x2, .int x3, .int x4, .int x4]) (show decode cX12_isFree 2 = .ok (.istore 5, 2) by decide +kernel) (zset_s (Nat.le_of_ble_eq_true rfl) rfl)) ?_
  exact Iff.rfl

theorem bX12_isFree_4 {d : Nat} {σ : zS} {Q : Option Value → zS → Prop} (hl : zLay σ) {x1 x2 x3 x4 x5 : Int32} : zW (d + 1) kX12_isFree 4 [.ref 131, .int x1, .int x2, .int x3, .int x4, .int x5] [] σ Q ↔ (if (x4 + x2) ≤ x5 then Q (some (.int 1)) σ else zCall d kX12_whoIs [.ref 131, .int x3, .int x5, .int x1] σ (fun r σ' => zisN r = true ∧ zW (d + 1) kX12_isFree 21 [.ref 131, .int x1, .int x2, .int x3, .int x4, .int x5] (zRstk r ++ []) σ' Q)) := by
  refine Iff.trans (zw_iload (show decode cX12_isFree 4 = .ok (.iload 5, 2) by decide +kernel) rfl) ?_
  refine Iff.trans (zw_iload (show decode cX12_isFree 6 = .ok (.iload 4, 2) by decide +kernel) rfl) ?_
  refine Iff.trans (zw_iload_n (show decode cX12_isFree 8 = .ok (.iload_n 2, 1) by decide +kernel) rfl) ?_
  refine Iff.trans (zw_iadd (show decode cX12_isFree 9 = .ok (.iadd, 1) by decide +kernel)) ?_
  refine Iff.trans (zw_icmp_ge (t := 33) (show decode cX12_isFree 10 = .ok (.if_icmp .ge 23, 3) by decide +kernel) (by decide)) ?_
  refine zw_ite ?_ ?_
  · refine Iff.trans (zw_iconst (x := 1) (show decode cX12_isFree 33 = .ok (.iconst 1, 1) by decide +kernel) (by decide)) ?_
    exact zw_iret2c (show decode cX12_isFree 34 = .ok (.ireturn, 1) by decide +kernel) rfl (Or.inr rfl)
  · refine Iff.trans (zw_aload_n (show decode cX12_isFree 13 = .ok (.aload_n 0, 1) by decide +kernel) rfl) ?_
    refine Iff.trans (zw_iload_n (show decode cX12_isFree 14 = .ok (.iload_n 3, 1) by decide +kernel) rfl) ?_
    refine Iff.trans (zw_iload (show decode cX12_isFree 15 = .ok (.iload 5, 2) by decide +kernel) rfl) ?_
    refine Iff.trans (zw_iload_n (show decode cX12_isFree 17 = .ok (.iload_n 1, 1) by decide +kernel) rfl) ?_
    refine Iff.trans (zw_invV (K' := kX12_whoIs) (as' := [.int x3, .int x5, .int x1]) (rest := []) (show decode cX12_isFree 18 = .ok (.invokevirtual 238, 3) by decide +kernel) (by rfl) rfl rfl rfl (hl.k2 zk_131) (by decide) (hl.n2 zk_131) ⟨Nat.le_of_ble_eq_true rfl, Nat.le_of_ble_eq_true rfl, Nat.le_of_ble_eq_true rfl⟩) ?_
    exact Iff.rfl

theorem bX12_isFree_21 {d : Nat} {σ : zS} {Q : Option Value → zS → Prop} (hl : zLay σ) {x1 x2 x3 x4 x5 y0 : Int32} : zW (d + 1) kX12_isFree 21 [.ref 131, .int x1, .int x2, .int x3, .int x4, .int x5] [.int y0] σ Q ↔ (if y0 = (-1) then zW (d + 1) kX12_isFree 4 [.ref 131, .int x1, .int x2, .int x3, .int x4, .int (x5 + 1)] [] σ Q else Q (some (.int 0)) σ) := by
  refine Iff.trans (zw_iconst (x := (-1)) (show decode cX12_isFree 21 = .ok (.iconst (-1), 1) by decide +kernel) (by decide)) ?_
  refine Iff.trans (zw_icmp_eq (t := 27) (show decode cX12_isFree 22 = .ok (.if_icmp .eq 5, 3) by decide +kernel) (by decide)) ?_
  refine zw_ite ?_ ?_
  · refine Iff.trans (zw_iinc (w := 1) (ls' := [.ref 131, .int x1, .int x2, .int x3, .int x4, .int (x5 + 1)]) (show decode cX12_isFree 27 = .ok (.iinc 5 1, 3) by decide +kernel) rfl (by decide) (zset_s (Nat.le_of_ble_eq_true rfl) rfl)) ?_
    refine Iff.trans (zw_goto (t := 4) (show decode cX12_isFree 30 = .ok (.goto (-26), 3) by decide +kernel) (by decide)) ?_
    exact Iff.rfl
  · refine Iff.trans (zw_iconst (x := 0) (show decode cX12_isFree 25 = .ok (.iconst 0, 1) by decide +kernel) (by decide)) ?_
    exact zw_iret2c (show decode cX12_isFree 26 = .ok (.ireturn, 1) by decide +kernel) rfl (Or.inl rfl)

theorem bX12_put_0 {d : Nat} {σ : zS} {Q : Option Value → zS → Prop} (hl : zLay σ) {x1 : Int32} : zCall d kX12_put [.ref 131, .int x1] σ Q ↔ zW d kX12_put 3 [.ref 131, .int x1, .int 24] [] σ Q := by
  show zW d kX12_put 0 [.ref 131, .int x1, .retAddr 0] [] σ Q ↔ _
  refine Iff.trans (zw_bipush (x := 24) (show decode cX12_put 0 = .ok (.bipush 24, 2) by decide +kernel) (by decide)) ?_
  refine Iff.trans (zw_istore_n (ls' := [.ref 131, .int x1, .int 24]) (show decode cX12_put 2 = .ok (.istore_n 2, 1) by decide +kernel) (zset_s (Nat.le_of_ble_eq_true rfl) rfl)) ?_
  exact Iff.rfl

theorem bX12_put_3 {d : Nat} {σ : zS} {Q : Option Value → zS → Prop} (hl : zLay σ) {x1 x2 : Int32} : zW d kX12_put 3 [.ref 131, .int x1, .int x2] [] σ Q ↔ (if x2 < (0 : Int32) then Q none σ else (if ((x1 >>> (x2 &&& 31)) &&& 255) = (0 : Int32) then zW d kX12_put 3 [.ref 131, .int x1, .int (x2 + (-8))] [] σ Q else (vp_in (zI σ 131 2) 160 ∧ zW d kX12_put 3 [.ref 131, .int x1, .int (x2 + (-8))] [] (zsI (zsI σ 132 (upd (zI σ 132) (zI σ 131 2 : Int32).toNatClampNeg (vp_nar (zAty 13) (((x1 >>> (x2 &&& 31)) : Int32).toInt8.toInt32)))) 131 (upd (zI σ 131) 2 ((zI σ 131 2) + 1))) Q))) := by
  refine Iff.trans (zw_iload_n (show decode cX12_put 3 = .ok (.iload_n 2, 1) by decide +kernel) rfl) ?_
  refine Iff.trans (zw_if_lt (t := 49) (show decode cX12_put 4 = .ok (.ifCond .lt 45, 3) by decide +kernel) (by decide)) ?_
  refine zw_ite ?_ ?_
  · exact zw_ret (show decode cX12_put 49 = .ok (.return_, 1) by decide +kernel) rfl
  · refine Iff.trans (zw_iload_n (show decode cX12_put 7 = .ok (.iload_n 1, 1) by decide +kernel) rfl) ?_
    refine Iff.trans (zw_iload_n (show decode cX12_put 8 = .ok (.iload_n 2, 1) by decide +kernel) rfl) ?_
    refine Iff.trans (zw_ishr (show decode cX12_put 9 = .ok (.ishr, 1) by decide +kernel)) ?_
    refine Iff.trans (zw_sipush (x := 255) (show decode cX12_put 10 = .ok (.sipush 255, 3) by decide +kernel) (by decide)) ?_
    refine Iff.trans (zw_iand (show decode cX12_put 13 = .ok (.iand, 1) by decide +kernel)) ?_
    refine Iff.trans (zw_if_ne (t := 20) (show decode cX12_put 14 = .ok (.ifCond .ne 6, 3) by decide +kernel) (by decide)) ?_
    refine zw_ite ?_ ?_
    · refine Iff.trans (zw_goto (t := 43) (show decode cX12_put 17 = .ok (.goto 26, 3) by decide +kernel) (by decide)) ?_
      refine Iff.trans (zw_iinc (w := (-8)) (ls' := [.ref 131, .int x1, .int (x2 + (-8))]) (show decode cX12_put 43 = .ok (.iinc 2 (-8), 3) by decide +kernel) rfl (by decide) (zset_s (Nat.le_of_ble_eq_true rfl) rfl)) ?_
      refine Iff.trans (zw_goto (t := 3) (show decode cX12_put 46 = .ok (.goto (-43), 3) by decide +kernel) (by decide)) ?_
      exact Iff.rfl
    · refine Iff.trans (zw_aload_n (show decode cX12_put 20 = .ok (.aload_n 0, 1) by decide +kernel) rfl) ?_
      refine Iff.trans (zw_get (show decode cX12_put 21 = .ok (.getfield 9, 3) by decide +kernel) (by decide +kernel : zfld 12 9 = some (12, 1)) (hl.k2 zk_131) (hl.n2 zk_131) (zgetR (v := 132) (hl.r zrt_131_1) rfl)) ?_
      refine Iff.trans (zw_aload_n (show decode cX12_put 24 = .ok (.aload_n 0, 1) by decide +kernel) rfl) ?_
      refine Iff.trans (zw_getI (show decode cX12_put 25 = .ok (.getfield 127, 3) by decide +kernel) (by decide +kernel : zfld 12 127 = some (12, 2)) (hl.k2 zk_131) (hl.n2 zk_131) (Or.inl rfl) (w := zI σ 131 2) rfl) ?_
      refine Iff.trans (zw_iload_n (show decode cX12_put 28 = .ok (.iload_n 1, 1) by decide +kernel) rfl) ?_
      refine Iff.trans (zw_iload_n (show decode cX12_put 29 = .ok (.iload_n 2, 1) by decide +kernel) rfl) ?_
      refine Iff.trans (zw_ishr (show decode cX12_put 30 = .ok (.ishr, 1) by decide +kernel)) ?_
      refine Iff.trans (zw_i2b (show decode cX12_put 31 = .ok (.i2b, 1) by decide +kernel)) ?_
      refine Iff.trans (zw_bast2 (show decode cX12_put 32 = .ok (.bastore, 1) by decide +kernel) (hl.k2 zk_132) (by decide) (hl.n2 zk_132) (hl.l2 zk_132 zl_132) (σ' := (zsI σ 132 (upd (zI σ 132) (zI σ 131 2 : Int32).toNatClampNeg (vp_nar (zAty 13) (((x1 >>> (x2 &&& 31)) : Int32).toInt8.toInt32))))) rfl) ?_
      refine zw_and ?_
      refine Iff.trans (zw_aload_n (show decode cX12_put 33 = .ok (.aload_n 0, 1) by decide +kernel) rfl) ?_
      refine Iff.trans (zw_dup (show decode cX12_put 34 = .ok (.dup, 1) by decide +kernel) rfl) ?_
      refine Iff.trans (zw_getI (show decode cX12_put 35 = .ok (.getfield 127, 3) by decide +kernel) (by decide +kernel : zfld 12 127 = some (12, 2)) (hl.I.k2 zk_131) (hl.I.n2 zk_131) (Or.inl rfl) (w := zI σ 131 2) (congrFun (zI_ne (by decide)) 2)) ?_
      refine Iff.trans (zw_iconst (x := 1) (show decode cX12_put 38 = .ok (.iconst 1, 1) by decide +kernel) (by decide)) ?_
      refine Iff.trans (zw_iadd (show decode cX12_put 39 = .ok (.iadd, 1) by decide +kernel)) ?_
      refine Iff.trans (zw_putI (show decode cX12_put 40 = .ok (.putfield 127, 3) by decide +kernel) (by decide +kernel : zfld 12 127 = some (12, 2)) (hl.I.k2 zk_131) (hl.I.n2 zk_131) rfl (Or.inl rfl) (σ' := (zsI (zsI σ 132 (upd (zI σ 132) (zI σ 131 2 : Int32).toNatClampNeg (vp_nar (zAty 13) (((x1 >>> (x2 &&& 31)) : Int32).toInt8.toInt32)))) 131 (upd (zI σ 131) 2 ((zI σ 131 2) + 1)))) (congrArg (fun f => zsI (zsI σ 132 (upd (zI σ 132) (zI σ 131 2 : Int32).toNatClampNeg (vp_nar (zAty 13) (((x1 >>> (x2 &&& 31)) : Int32).toInt8.toInt32)))) 131 (upd f 2 ((zI σ 131 2) + 1))) (zI_ne (by decide)))) ?_
      refine Iff.trans (zw_iinc (w := (-8)) (ls' := [.ref 131, .int x1, .int (x2 + (-8))]) (show decode cX12_put 43 = .ok (.iinc 2 (-8), 3) by decide +kernel) rfl (by decide) (zset_s (Nat.le_of_ble_eq_true rfl) rfl)) ?_
      refine Iff.trans (zw_goto (t := 3) (show decode cX12_put 46 = .ok (.goto (-43), 3) by decide +kernel) (by decide)) ?_
      exact Iff.rfl

theorem bX12_go_0 {d : Nat} {σ : zS} {Q : Option Value → zS → Prop} (hl : zLay σ) {x1 : Int32} : zCall (d + 1) kX12_go [.ref 131, .int x1] σ Q ↔ zCall d kX12_isInEddy [.ref 131, .int x1] σ (fun r σ' => zisN r = true ∧ zW (d + 1) kX12_go 5 [.ref 131, .int x1, .retAddr 0] (zRstk r ++ []) σ' Q) := by
  show zW (d + 1) kX12_go 0 [.ref 131, .int x1, .retAddr 0] [] σ Q ↔ _
  refine Iff.trans (zw_aload_n (show decode cX12_go 0 = .ok (.aload_n 0, 1) by decide +kernel) rfl) ?_
  refine Iff.trans (zw_iload_n (show decode cX12_go 1 = .ok (.iload_n 1, 1) by decide +kernel) rfl) ?_
  refine Iff.trans (zw_invV (K' := kX12_isInEddy) (as' := [.int x1]) (rest := []) (show decode cX12_go 2 = .ok (.invokevirtual 286, 3) by decide +kernel) (by rfl) rfl rfl rfl (hl.k2 zk_131) (by decide) (hl.n2 zk_131) ⟨Nat.le_of_ble_eq_true rfl, Nat.le_of_ble_eq_true rfl, Nat.le_of_ble_eq_true rfl⟩) ?_
  exact Iff.rfl

theorem bX12_go_5 {d : Nat} {σ : zS} {Q : Option Value → zS → Prop} (hl : zLay σ) {x1 y0 : Int32} : zW (d + 1) kX12_go 5 [.ref 131, .int x1, .retAddr 0] [.int y0] σ Q ↔ (if y0 = (0 : Int32) then zW (d + 1) kX12_go 44 [.ref 131, .int x1, .retAddr 0] [] σ Q else zCall d kX12_draw [.ref 131] σ (fun r σ' => zisN r = true ∧ zW (d + 1) kX12_go 12 [.ref 131, .int x1, .retAddr 0] (zRstk r ++ []) σ' Q)) := by
  refine Iff.trans (zw_if_eq (t := 44) (show decode cX12_go 5 = .ok (.ifCond .eq 39, 3) by decide +kernel) (by decide)) ?_
  refine zw_ite ?_ ?_
  · exact Iff.rfl
  · refine Iff.trans (zw_aload_n (show decode cX12_go 8 = .ok (.aload_n 0, 1) by decide +kernel) rfl) ?_
    refine Iff.trans (zw_invV (K' := kX12_draw) (as' := []) (rest := []) (show decode cX12_go 9 = .ok (.invokevirtual 289, 3) by decide +kernel) (by rfl) rfl rfl rfl (hl.k2 zk_131) (by decide) (hl.n2 zk_131) ⟨Nat.le_of_ble_eq_true rfl, Nat.le_of_ble_eq_true rfl, Nat.le_of_ble_eq_true rfl⟩) ?_
    exact Iff.rfl

theorem bX12_go_12 {d : Nat} {σ : zS} {Q : Option Value → zS → Prop} (hl : zLay σ) {x1 y0 : Int32} : zW (d + 1) kX12_go 12 [.ref 131, .int x1, .retAddr 0] [.int y0] σ Q ↔ (if (zI σ 131 15) ≤ y0 then zW (d + 1) kX12_go 44 [.ref 131, .int x1, .retAddr 0] [] σ Q else zCall d kX12_set [.ref 131, .int x1, .int 6, .int 0] σ (fun r σ' => zisN r = true ∧ zW (d + 1) kX12_go 27 [.ref 131, .int x1, .retAddr 0] (zRstk r ++ []) σ' Q)) := by
  refine Iff.trans (zw_aload_n (show decode cX12_go 12 = .ok (.aload_n 0, 1) by decide +kernel) rfl) ?_
  refine Iff.trans (zw_getI (show decode cX12_go 13 = .ok (.getfield 32, 3) by decide +kernel) (by decide +kernel : zfld 12 32 = some (12, 15)) (hl.k2 zk_131) (hl.n2 zk_131) (Or.inl rfl) (w := zI σ 131 15) rfl) ?_
  refine Iff.trans (zw_icmp_ge (t := 44) (show decode cX12_go 16 = .ok (.if_icmp .ge 28, 3) by decide +kernel) (by decide)) ?_
  refine zw_ite ?_ ?_
  · exact Iff.rfl
  · refine Iff.trans (zw_aload_n (show decode cX12_go 19 = .ok (.aload_n 0, 1) by decide +kernel) rfl) ?_
    refine Iff.trans (zw_iload_n (show decode cX12_go 20 = .ok (.iload_n 1, 1) by decide +kernel) rfl) ?_
    refine Iff.trans (zw_bipush (x := 6) (show decode cX12_go 21 = .ok (.bipush 6, 2) by decide +kernel) (by decide)) ?_
    refine Iff.trans (zw_iconst (x := 0) (show decode cX12_go 23 = .ok (.iconst 0, 1) by decide +kernel) (by decide)) ?_
    refine Iff.trans (zw_invV (K' := kX12_set) (as' := [.int x1, .int 6, .int 0]) (rest := []) (show decode cX12_go 24 = .ok (.invokevirtual 225, 3) by decide +kernel) (by rfl) rfl rfl rfl (hl.k2 zk_131) (by decide) (hl.n2 zk_131) ⟨Nat.le_of_ble_eq_true rfl, Nat.le_of_ble_eq_true rfl, Nat.le_of_ble_eq_true rfl⟩) ?_
    exact Iff.rfl

theorem bX12_go_27 {d : Nat} {σ : zS} {Q : Option Value → zS → Prop} (hl : zLay σ) {x1 : Int32} : zW (d + 1) kX12_go 27 [.ref 131, .int x1, .retAddr 0] [] σ Q ↔ zCall d kX12_of [.ref 131, .int x1, .int 9] σ (fun r σ' => zisN r = true ∧ zW (d + 1) kX12_go 38 [.ref 131, .int x1, .retAddr 0] (zRstk r ++ [.int 9, .int x1, .ref 131]) σ' Q) := by
  refine Iff.trans (zw_aload_n (show decode cX12_go 27 = .ok (.aload_n 0, 1) by decide +kernel) rfl) ?_
  refine Iff.trans (zw_iload_n (show decode cX12_go 28 = .ok (.iload_n 1, 1) by decide +kernel) rfl) ?_
  refine Iff.trans (zw_bipush (x := 9) (show decode cX12_go 29 = .ok (.bipush 9, 2) by decide +kernel) (by decide)) ?_
  refine Iff.trans (zw_aload_n (show decode cX12_go 31 = .ok (.aload_n 0, 1) by decide +kernel) rfl) ?_
  refine Iff.trans (zw_iload_n (show decode cX12_go 32 = .ok (.iload_n 1, 1) by decide +kernel) rfl) ?_
  refine Iff.trans (zw_bipush (x := 9) (show decode cX12_go 33 = .ok (.bipush 9, 2) by decide +kernel) (by decide)) ?_
  refine Iff.trans (zw_invV (K' := kX12_of) (as' := [.int x1, .int 9]) (rest := [.int 9, .int x1, .ref 131]) (show decode cX12_go 35 = .ok (.invokevirtual 229, 3) by decide +kernel) (by rfl) rfl rfl rfl (hl.k2 zk_131) (by decide) (hl.n2 zk_131) ⟨Nat.le_of_ble_eq_true rfl, Nat.le_of_ble_eq_true rfl, Nat.le_of_ble_eq_true rfl⟩) ?_
  exact Iff.rfl

theorem bX12_go_38 {d : Nat} {σ : zS} {Q : Option Value → zS → Prop} (hl : zLay σ) {x1 y0 y1 y2 : Int32} : zW (d + 1) kX12_go 38 [.ref 131, .int x1, .retAddr 0] [.int y0, .int y1, .int y2, .ref 131] σ Q ↔ zCall d kX12_set [.ref 131, .int y2, .int y1, .int (y0 + 1)] σ (fun r σ' => zisN r = true ∧ zW (d + 1) kX12_go 43 [.ref 131, .int x1, .retAddr 0] (zRstk r ++ []) σ' Q) := by
  refine Iff.trans (zw_iconst (x := 1) (show decode cX12_go 38 = .ok (.iconst 1, 1) by decide +kernel) (by decide)) ?_
  refine Iff.trans (zw_iadd (show decode cX12_go 39 = .ok (.iadd, 1) by decide +kernel)) ?_
  refine Iff.trans (zw_invV (K' := kX12_set) (as' := [.int y2, .int y1, .int (y0 + 1)]) (rest := []) (show decode cX12_go 40 = .ok (.invokevirtual 225, 3) by decide +kernel) (by rfl) rfl rfl rfl (hl.k2 zk_131) (by decide) (hl.n2 zk_131) ⟨Nat.le_of_ble_eq_true rfl, Nat.le_of_ble_eq_true rfl, Nat.le_of_ble_eq_true rfl⟩) ?_
  exact Iff.rfl

theorem bX12_go_43 {d : Nat} {σ : zS} {Q : Option Value → zS → Prop} (hl : zLay σ) {x1 : Int32} : zW (d + 1) kX12_go 43 [.ref 131, .int x1, .retAddr 0] [] σ Q ↔ Q none σ := by
  exact zw_ret (show decode cX12_go 43 = .ok (.return_, 1) by decide +kernel) rfl

theorem bX12_go_44 {d : Nat} {σ : zS} {Q : Option Value → zS → Prop} (hl : zLay σ) {x1 : Int32} : zW (d + 1) kX12_go 44 [.ref 131, .int x1, .retAddr 0] [] σ Q ↔ zCall d kX12_of [.ref 131, .int x1, .int 6] σ (fun r σ' => zisN r = true ∧ zW (d + 1) kX12_go 55 [.ref 131, .int x1, .retAddr 0] (zRstk r ++ [.int 6, .int x1, .ref 131]) σ' Q) := by
  refine Iff.trans (zw_aload_n (show decode cX12_go 44 = .ok (.aload_n 0, 1) by decide +kernel) rfl) ?_
  refine Iff.trans (zw_iload_n (show decode cX12_go 45 = .ok (.iload_n 1, 1) by decide +kernel) rfl) ?_
  refine Iff.trans (zw_bipush (x := 6) (show decode cX12_go 46 = .ok (.bipush 6, 2) by decide +kernel) (by decide)) ?_
  refine Iff.trans (zw_aload_n (show decode cX12_go 48 = .ok (.aload_n 0, 1) by decide +kernel) rfl) ?_
  refine Iff.trans (zw_iload_n (show decode cX12_go 49 = .ok (.iload_n 1, 1) by decide +kernel) rfl) ?_
  refine Iff.trans (zw_bipush (x := 6) (show decode cX12_go 50 = .ok (.bipush 6, 2) by decide +kernel) (by decide)) ?_
  refine Iff.trans (zw_invV (K' := kX12_of) (as' := [.int x1, .int 6]) (rest := [.int 6, .int x1, .ref 131]) (show decode cX12_go 52 = .ok (.invokevirtual 229, 3) by decide +kernel) (by rfl) rfl rfl rfl (hl.k2 zk_131) (by decide) (hl.n2 zk_131) ⟨Nat.le_of_ble_eq_true rfl, Nat.le_of_ble_eq_true rfl, Nat.le_of_ble_eq_true rfl⟩) ?_
  exact Iff.rfl

theorem bX12_go_55 {d : Nat} {σ : zS} {Q : Option Value → zS → Prop} (hl : zLay σ) {x1 y0 y1 y2 : Int32} : zW (d + 1) kX12_go 55 [.ref 131, .int x1, .retAddr 0] [.int y0, .int y1, .int y2, .ref 131] σ Q ↔ zCall d kX12_pullOf [.ref 131, .int x1] σ (fun r σ' => zisN r = true ∧ zW (d + 1) kX12_go 60 [.ref 131, .int x1, .retAddr 0] (zRstk r ++ [.int y0, .int y1, .int y2, .ref 131]) σ' Q) := by
  refine Iff.trans (zw_aload_n (show decode cX12_go 55 = .ok (.aload_n 0, 1) by decide +kernel) rfl) ?_
  refine Iff.trans (zw_iload_n (show decode cX12_go 56 = .ok (.iload_n 1, 1) by decide +kernel) rfl) ?_
  refine Iff.trans (zw_invV (K' := kX12_pullOf) (as' := [.int x1]) (rest := [.int y0, .int y1, .int y2, .ref 131]) (show decode cX12_go 57 = .ok (.invokevirtual 292, 3) by decide +kernel) (by rfl) rfl rfl rfl (hl.k2 zk_131) (by decide) (hl.n2 zk_131) ⟨Nat.le_of_ble_eq_true rfl, Nat.le_of_ble_eq_true rfl, Nat.le_of_ble_eq_true rfl⟩) ?_
  exact Iff.rfl

theorem bX12_go_60 {d : Nat} {σ : zS} {Q : Option Value → zS → Prop} (hl : zLay σ) {x1 y0 y1 y2 y3 : Int32} : zW (d + 1) kX12_go 60 [.ref 131, .int x1, .retAddr 0] [.int y0, .int y1, .int y2, .int y3, .ref 131] σ Q ↔ zCall d kX12_hasWave [.ref 131, .int x1] σ (fun r σ' => zisN r = true ∧ zW (d + 1) kX12_go 66 [.ref 131, .int x1, .retAddr 0] (zRstk r ++ [.int (y1 + y0), .int y2, .int y3, .ref 131]) σ' Q) := by
  refine Iff.trans (zw_iadd (show decode cX12_go 60 = .ok (.iadd, 1) by decide +kernel)) ?_
  refine Iff.trans (zw_aload_n (show decode cX12_go 61 = .ok (.aload_n 0, 1) by decide +kernel) rfl) ?_
  refine Iff.trans (zw_iload_n (show decode cX12_go 62 = .ok (.iload_n 1, 1) by decide +kernel) rfl) ?_
  refine Iff.trans (zw_invV (K' := kX12_hasWave) (as' := [.int x1]) (rest := [.int (y1 + y0), .int y2, .int y3, .ref 131]) (show decode cX12_go 63 = .ok (.invokevirtual 295, 3) by decide +kernel) (by rfl) rfl rfl rfl (hl.k2 zk_131) (by decide) (hl.n2 zk_131) ⟨Nat.le_of_ble_eq_true rfl, Nat.le_of_ble_eq_true rfl, Nat.le_of_ble_eq_true rfl⟩) ?_
  exact Iff.rfl

theorem bX12_go_66 {d : Nat} {σ : zS} {Q : Option Value → zS → Prop} (hl : zLay σ) {x1 y0 y1 y2 y3 : Int32} : zW (d + 1) kX12_go 66 [.ref 131, .int x1, .retAddr 0] [.int y0, .int y1, .int y2, .int y3, .ref 131] σ Q ↔ (if y0 = (0 : Int32) then zW (d + 1) kX12_go 74 [.ref 131, .int x1, .retAddr 0] [.int 0, .int y1, .int y2, .int y3, .ref 131] σ Q else zW (d + 1) kX12_go 74 [.ref 131, .int x1, .retAddr 0] [.int 1, .int y1, .int y2, .int y3, .ref 131] σ Q) := by
  refine Iff.trans (zw_if_eq (t := 73) (show decode cX12_go 66 = .ok (.ifCond .eq 7, 3) by decide +kernel) (by decide)) ?_
  refine zw_ite ?_ ?_
  · refine Iff.trans (zw_iconst (x := 0) (show decode cX12_go 73 = .ok (.iconst 0, 1) by decide +kernel) (by decide)) ?_
    exact Iff.rfl
  · refine Iff.trans (zw_iconst (x := 1) (show decode cX12_go 69 = .ok (.iconst 1, 1) by decide +kernel) (by decide)) ?_
    refine Iff.trans (zw_goto (t := 74) (show decode cX12_go 70 = .ok (.goto 4, 3) by decide +kernel) (by decide)) ?_
    exact Iff.rfl

theorem bX12_go_74 {d : Nat} {σ : zS} {Q : Option Value → zS → Prop} (hl : zLay σ) {x1 y0 y1 y2 y3 : Int32} : zW (d + 1) kX12_go 74 [.ref 131, .int x1, .retAddr 0] [.int y0, .int y1, .int y2, .int y3, .ref 131] σ Q ↔ zCall d kX12_set [.ref 131, .int y3, .int y2, .int (y1 + y0)] σ (fun r σ' => zisN r = true ∧ zW (d + 1) kX12_go 78 [.ref 131, .int x1, .retAddr 0] (zRstk r ++ []) σ' Q) := by
  refine Iff.trans (zw_iadd (show decode cX12_go 74 = .ok (.iadd, 1) by decide +kernel)) ?_
  refine Iff.trans (zw_invV (K' := kX12_set) (as' := [.int y3, .int y2, .int (y1 + y0)]) (rest := []) (show decode cX12_go 75 = .ok (.invokevirtual 225, 3) by decide +kernel) (by rfl) rfl rfl rfl (hl.k2 zk_131) (by decide) (hl.n2 zk_131) ⟨Nat.le_of_ble_eq_true rfl, Nat.le_of_ble_eq_true rfl, Nat.le_of_ble_eq_true rfl⟩) ?_
  exact Iff.rfl

theorem bX12_go_78 {d : Nat} {σ : zS} {Q : Option Value → zS → Prop} (hl : zLay σ) {x1 : Int32} {v2 : Value} (hv2 : v2.category = 1) : zW (d + 1) kX12_go 78 [.ref 131, .int x1, v2] [] σ Q ↔ zCall d kX12_of [.ref 131, .int x1, .int 6] σ (fun r σ' => zisN r = true ∧ zW (d + 1) kX12_go 85 [.ref 131, .int x1, v2] (zRstk r ++ []) σ' Q) := by
  refine Iff.trans (zw_aload_n (show decode cX12_go 78 = .ok (.aload_n 0, 1) by decide +kernel) rfl) ?_
  refine Iff.trans (zw_iload_n (show decode cX12_go 79 = .ok (.iload_n 1, 1) by decide +kernel) rfl) ?_
  refine Iff.trans (zw_bipush (x := 6) (show decode cX12_go 80 = .ok (.bipush 6, 2) by decide +kernel) (by decide)) ?_
  refine Iff.trans (zw_invV (K' := kX12_of) (as' := [.int x1, .int 6]) (rest := []) (show decode cX12_go 82 = .ok (.invokevirtual 229, 3) by decide +kernel) (by rfl) rfl rfl rfl (hl.k2 zk_131) (by decide) (hl.n2 zk_131) ⟨Nat.le_of_ble_eq_true rfl, Nat.le_of_ble_eq_true rfl, Nat.le_of_ble_eq_true rfl⟩) ?_
  exact Iff.rfl

theorem bX12_go_85 {d : Nat} {σ : zS} {Q : Option Value → zS → Prop} (hl : zLay σ) {x1 y0 : Int32} {v2 : Value} (hv2 : v2.category = 1) : zW (d + 1) kX12_go 85 [.ref 131, .int x1, v2] [.int y0] σ Q ↔ (if y0 < 4 then (if (zI σ 131 13) = (0 : Int32) then zW (d + 1) kX12_go 278 [.ref 131, .int x1, v2] [] σ Q else zCall d kX12_of [.ref 131, .int x1, .int 2] σ (fun r σ' => zisN r = true ∧ zW (d + 1) kX12_go 241 [.ref 131, .int x1, v2] (zRstk r ++ []) σ' Q)) else zCall d kX12_of [.ref 131, .int x1, .int 6] σ (fun r σ' => zisN r = true ∧ zW (d + 1) kX12_go 100 [.ref 131, .int x1, v2] (zRstk r ++ [.int 6, .int x1, .ref 131]) σ' Q)) := by
  refine Iff.trans (zw_iconst (x := 4) (show decode cX12_go 85 = .ok (.iconst 4, 1) by decide +kernel) (by decide)) ?_
  refine Iff.trans (zw_icmp_lt (t := 228) (show decode cX12_go 86 = .ok (.if_icmp .lt 142, 3) by decide +kernel) (by decide)) ?_
  refine zw_ite ?_ ?_
  · refine Iff.trans (zw_aload_n (show decode cX12_go 228 = .ok (.aload_n 0, 1) by decide +kernel) rfl) ?_
    refine Iff.trans (zw_getI (show decode cX12_go 229 = .ok (.getfield 212, 3) by decide +kernel) (by decide +kernel : zfld 12 212 = some (12, 13)) (hl.k2 zk_131) (hl.n2 zk_131) (Or.inl rfl) (w := zI σ 131 13) rfl) ?_
    refine Iff.trans (zw_if_eq (t := 278) (show decode cX12_go 232 = .ok (.ifCond .eq 46, 3) by decide +kernel) (by decide)) ?_
    refine zw_ite ?_ ?_
    · exact Iff.rfl
    · refine Iff.trans (zw_aload_n (show decode cX12_go 235 = .ok (.aload_n 0, 1) by decide +kernel) rfl) ?_
      refine Iff.trans (zw_iload_n (show decode cX12_go 236 = .ok (.iload_n 1, 1) by decide +kernel) rfl) ?_
      refine Iff.trans (zw_iconst (x := 2) (show decode cX12_go 237 = .ok (.iconst 2, 1) by decide +kernel) (by decide)) ?_
      refine Iff.trans (zw_invV (K' := kX12_of) (as' := [.int x1, .int 2]) (rest := []) (show decode cX12_go 238 = .ok (.invokevirtual 229, 3) by decide +kernel) (by rfl) rfl rfl rfl (hl.k2 zk_131) (by decide) (hl.n2 zk_131) ⟨Nat.le_of_ble_eq_true rfl, Nat.le_of_ble_eq_true rfl, Nat.le_of_ble_eq_true rfl⟩) ?_
      exact Iff.rfl
  · refine Iff.trans (zw_aload_n (show decode cX12_go 89 = .ok (.aload_n 0, 1) by decide +kernel) rfl) ?_
    refine Iff.trans (zw_iload_n (show decode cX12_go 90 = .ok (.iload_n 1, 1) by decide +kernel) rfl) ?_
    refine Iff.trans (zw_bipush (x := 6) (show decode cX12_go 91 = .ok (.bipush 6, 2) by decide +kernel) (by decide)) ?_
    refine Iff.trans (zw_aload_n (show decode cX12_go 93 = .ok (.aload_n 0, 1) by decide +kernel) rfl) ?_
    refine Iff.trans (zw_iload_n (show decode cX12_go 94 = .ok (.iload_n 1, 1) by decide +kernel) rfl) ?_
    refine Iff.trans (zw_bipush (x := 6) (show decode cX12_go 95 = .ok (.bipush 6, 2) by decide +kernel) (by decide)) ?_
    refine Iff.trans (zw_invV (K' := kX12_of) (as' := [.int x1, .int 6]) (rest := [.int 6, .int x1, .ref 131]) (show decode cX12_go 97 = .ok (.invokevirtual 229, 3) by decide +kernel) (by rfl) rfl rfl rfl (hl.k2 zk_131) (by decide) (hl.n2 zk_131) ⟨Nat.le_of_ble_eq_true rfl, Nat.le_of_ble_eq_true rfl, Nat.le_of_ble_eq_true rfl⟩) ?_
    exact Iff.rfl

theorem bX12_go_100 {d : Nat} {σ : zS} {Q : Option Value → zS → Prop} (hl : zLay σ) {x1 y0 y1 y2 : Int32} {v2 : Value} (hv2 : v2.category = 1) : zW (d + 1) kX12_go 100 [.ref 131, .int x1, v2] [.int y0, .int y1, .int y2, .ref 131] σ Q ↔ zCall d kX12_set [.ref 131, .int y2, .int y1, .int (y0 - 4)] σ (fun r σ' => zisN r = true ∧ zW (d + 1) kX12_go 105 [.ref 131, .int x1, v2] (zRstk r ++ []) σ' Q) := by
  refine Iff.trans (zw_iconst (x := 4) (show decode cX12_go 100 = .ok (.iconst 4, 1) by decide +kernel) (by decide)) ?_
  refine Iff.trans (zw_isub (show decode cX12_go 101 = .ok (.isub, 1) by decide +kernel)) ?_
  refine Iff.trans (zw_invV (K' := kX12_set) (as' := [.int y2, .int y1, .int (y0 - 4)]) (rest := []) (show decode cX12_go 102 = .ok (.invokevirtual 225, 3) by decide +kernel) (by rfl) rfl rfl rfl (hl.k2 zk_131) (by decide) (hl.n2 zk_131) ⟨Nat.le_of_ble_eq_true rfl, Nat.le_of_ble_eq_true rfl, Nat.le_of_ble_eq_true rfl⟩) ?_
  exact Iff.rfl

theorem bX12_go_105 {d : Nat} {σ : zS} {Q : Option Value → zS → Prop} (hl : zLay σ) {x1 : Int32} {v2 : Value} (hv2 : v2.category = 1) : zW (d + 1) kX12_go 105 [.ref 131, .int x1, v2] [] σ Q ↔ zCall d kX12_of [.ref 131, .int x1, .int 4] σ (fun r σ' => zisN r = true ∧ zW (d + 1) kX12_go 111 [.ref 131, .int x1, v2] (zRstk r ++ []) σ' Q) := by
  refine Iff.trans (zw_aload_n (show decode cX12_go 105 = .ok (.aload_n 0, 1) by decide +kernel) rfl) ?_
  refine Iff.trans (zw_iload_n (show decode cX12_go 106 = .ok (.iload_n 1, 1) by decide +kernel) rfl) ?_
  refine Iff.trans (zw_iconst (x := 4) (show decode cX12_go 107 = .ok (.iconst 4, 1) by decide +kernel) (by decide)) ?_
  refine Iff.trans (zw_invV (K' := kX12_of) (as' := [.int x1, .int 4]) (rest := []) (show decode cX12_go 108 = .ok (.invokevirtual 229, 3) by decide +kernel) (by rfl) rfl rfl rfl (hl.k2 zk_131) (by decide) (hl.n2 zk_131) ⟨Nat.le_of_ble_eq_true rfl, Nat.le_of_ble_eq_true rfl, Nat.le_of_ble_eq_true rfl⟩) ?_
  exact Iff.rfl

theorem bX12_go_111 {d : Nat} {σ : zS} {Q : Option Value → zS → Prop} (hl : zLay σ) {x1 y0 : Int32} {v2 : Value} (hv2 : v2.category = 1) : zW (d + 1) kX12_go 111 [.ref 131, .int x1, v2] [.int y0] σ Q ↔ (vp_in (zI σ 131 19) 7 ∧ (if (y0 + 1) = (zI σ 135 (zI σ 131 19 : Int32).toNatClampNeg) then zCall d kX12_set [.ref 131, .int x1, .int 4, .int (y0 + 1)] σ (fun r σ' => zisN r = true ∧ zW (d + 1) kX12_go 134 [.ref 131, .int x1, .int (y0 + 1)] (zRstk r ++ []) σ' Q) else zCall d kX12_of [.ref 131, .int x1, .int 0] σ (fun r σ' => zisN r = true ∧ zW (d + 1) kX12_go 178 [.ref 131, .int x1, .int (y0 + 1)] (zRstk r ++ [.int (zI σ 131 19), .ref 131]) σ' Q))) := by
  refine Iff.trans (zw_iconst (x := 1) (show decode cX12_go 111 = .ok (.iconst 1, 1) by decide +kernel) (by decide)) ?_
  refine Iff.trans (zw_iadd (show decode cX12_go 112 = .ok (.iadd, 1) by decide +kernel)) ?_
  refine Iff.trans (zw_istore_n (ls' := [.ref 131, .int x1, .int (y0 + 1)]) (show decode cX12_go 113 = .ok (.istore_n 2, 1) by decide +kernel) (zset_s (Nat.le_of_ble_eq_true rfl) rfl)) ?_
  refine Iff.trans (zw_iload_n (show decode cX12_go 114 = .ok (.iload_n 2, 1) by decide +kernel) rfl) ?_
  refine Iff.trans (zw_aload_n (show decode cX12_go 115 = .ok (.aload_n 0, 1) by decide +kernel) rfl) ?_
  refine Iff.trans (zw_get (show decode cX12_go 116 = .ok (.getfield 20, 3) by decide +kernel) (by decide +kernel : zfld 12 20 = some (12, 7)) (hl.k2 zk_131) (hl.n2 zk_131) (zgetR (v := 135) (hl.r zrt_131_7) rfl)) ?_
  refine Iff.trans (zw_aload_n (show decode cX12_go 119 = .ok (.aload_n 0, 1) by decide +kernel) rfl) ?_
  refine Iff.trans (zw_getI (show decode cX12_go 120 = .ok (.getfield 45, 3) by decide +kernel) (by decide +kernel : zfld 12 45 = some (12, 19)) (hl.k2 zk_131) (hl.n2 zk_131) (Or.inl rfl) (w := zI σ 131 19) rfl) ?_
  refine Iff.trans (zw_iald2 (show decode cX12_go 123 = .ok (.iaload, 1) by decide +kernel) (hl.k2 zk_135) (hl.n2 zk_135) (hl.l2 zk_135 zl_135) (w := zI σ 135 (zI σ 131 19 : Int32).toNatClampNeg) rfl) ?_
  refine zw_and ?_
  refine Iff.trans (zw_icmp_ne (t := 167) (show decode cX12_go 124 = .ok (.if_icmp .ne 43, 3) by decide +kernel) (by decide)) ?_
  refine zw_ite ?_ ?_
  · refine Iff.trans (zw_aload_n (show decode cX12_go 127 = .ok (.aload_n 0, 1) by decide +kernel) rfl) ?_
    refine Iff.trans (zw_iload_n (show decode cX12_go 128 = .ok (.iload_n 1, 1) by decide +kernel) rfl) ?_
    refine Iff.trans (zw_iconst (x := 4) (show decode cX12_go 129 = .ok (.iconst 4, 1) by decide +kernel) (by decide)) ?_
    refine Iff.trans (zw_iload_n (show decode cX12_go 130 = .ok (.iload_n 2, 1) by decide +kernel) rfl) ?_
    refine Iff.trans (zw_invV (K' := kX12_set) (as' := [.int x1, .int 4, .int (y0 + 1)]) (rest := []) (show decode cX12_go 131 = .ok (.invokevirtual 225, 3) by decide +kernel) (by rfl) rfl rfl rfl (hl.k2 zk_131) (by decide) (hl.n2 zk_131) ⟨Nat.le_of_ble_eq_true rfl, Nat.le_of_ble_eq_true rfl, Nat.le_of_ble_eq_true rfl⟩) ?_
    exact Iff.rfl
  · refine Iff.trans (zw_aload_n (show decode cX12_go 167 = .ok (.aload_n 0, 1) by decide +kernel) rfl) ?_
    refine Iff.trans (zw_aload_n (show decode cX12_go 168 = .ok (.aload_n 0, 1) by decide +kernel) rfl) ?_
    refine Iff.trans (zw_getI (show decode cX12_go 169 = .ok (.getfield 45, 3) by decide +kernel) (by decide +kernel : zfld 12 45 = some (12, 19)) (hl.k2 zk_131) (hl.n2 zk_131) (Or.inl rfl) (w := zI σ 131 19) rfl) ?_
    refine Iff.trans (zw_aload_n (show decode cX12_go 172 = .ok (.aload_n 0, 1) by decide +kernel) rfl) ?_
    refine Iff.trans (zw_iload_n (show decode cX12_go 173 = .ok (.iload_n 1, 1) by decide +kernel) rfl) ?_
    refine Iff.trans (zw_iconst (x := 0) (show decode cX12_go 174 = .ok (.iconst 0, 1) by decide +kernel) (by decide)) ?_
    refine Iff.trans (zw_invV (K' := kX12_of) (as' := [.int x1, .int 0]) (rest := [.int (zI σ 131 19), .ref 131]) (show decode cX12_go 175 = .ok (.invokevirtual 229, 3) by decide +kernel) (by rfl) rfl rfl rfl (hl.k2 zk_131) (by decide) (hl.n2 zk_131) ⟨Nat.le_of_ble_eq_true rfl, Nat.le_of_ble_eq_true rfl, Nat.le_of_ble_eq_true rfl⟩) ?_
    exact Iff.rfl

theorem bX12_go_134 {d : Nat} {σ : zS} {Q : Option Value → zS → Prop} (hl : zLay σ) {x1 x2 : Int32} : zW (d + 1) kX12_go 134 [.ref 131, .int x1, .int x2] [] σ Q ↔ zCall d kX12_set [.ref 131, .int x1, .int 7, .int (zI σ 131 21)] σ (fun r σ' => zisN r = true ∧ zW (d + 1) kX12_go 145 [.ref 131, .int x1, .int x2] (zRstk r ++ []) σ' Q) := by
  refine Iff.trans (zw_aload_n (show decode cX12_go 134 = .ok (.aload_n 0, 1) by decide +kernel) rfl) ?_
  refine Iff.trans (zw_iload_n (show decode cX12_go 135 = .ok (.iload_n 1, 1) by decide +kernel) rfl) ?_
  refine Iff.trans (zw_bipush (x := 7) (show decode cX12_go 136 = .ok (.bipush 7, 2) by decide +kernel) (by decide)) ?_
  refine Iff.trans (zw_aload_n (show decode cX12_go 138 = .ok (.aload_n 0, 1) by decide +kernel) rfl) ?_
  refine Iff.trans (zw_getI (show decode cX12_go 139 = .ok (.getfield 48, 3) by decide +kernel) (by decide +kernel : zfld 12 48 = some (12, 21)) (hl.k2 zk_131) (hl.n2 zk_131) (Or.inl rfl) (w := zI σ 131 21) rfl) ?_
  refine Iff.trans (zw_invV (K' := kX12_set) (as' := [.int x1, .int 7, .int (zI σ 131 21)]) (rest := []) (show decode cX12_go 142 = .ok (.invokevirtual 225, 3) by decide +kernel) (by rfl) rfl rfl rfl (hl.k2 zk_131) (by decide) (hl.n2 zk_131) ⟨Nat.le_of_ble_eq_true rfl, Nat.le_of_ble_eq_true rfl, Nat.le_of_ble_eq_true rfl⟩) ?_
  exact Iff.rfl

theorem bX12_go_145 {d : Nat} {σ : zS} {Q : Option Value → zS → Prop} (hl : zLay σ) {x1 x2 : Int32} : zW (d + 1) kX12_go 145 [.ref 131, .int x1, .int x2] [] σ Q ↔ zCall d kX12_set [.ref 131, .int x1, .int 8, .int (zI σ 131 22)] σ (fun r σ' => zisN r = true ∧ zW (d + 1) kX12_go 156 [.ref 131, .int x1, .int x2] (zRstk r ++ []) σ' Q) := by
  refine Iff.trans (zw_aload_n (show decode cX12_go 145 = .ok (.aload_n 0, 1) by decide +kernel) rfl) ?_
  refine Iff.trans (zw_iload_n (show decode cX12_go 146 = .ok (.iload_n 1, 1) by decide +kernel) rfl) ?_
  refine Iff.trans (zw_bipush (x := 8) (show decode cX12_go 147 = .ok (.bipush 8, 2) by decide +kernel) (by decide)) ?_
  refine Iff.trans (zw_aload_n (show decode cX12_go 149 = .ok (.aload_n 0, 1) by decide +kernel) rfl) ?_
  refine Iff.trans (zw_getI (show decode cX12_go 150 = .ok (.getfield 252, 3) by decide +kernel) (by decide +kernel : zfld 12 252 = some (12, 22)) (hl.k2 zk_131) (hl.n2 zk_131) (Or.inl rfl) (w := zI σ 131 22) rfl) ?_
  refine Iff.trans (zw_invV (K' := kX12_set) (as' := [.int x1, .int 8, .int (zI σ 131 22)]) (rest := []) (show decode cX12_go 153 = .ok (.invokevirtual 225, 3) by decide +kernel) (by rfl) rfl rfl rfl (hl.k2 zk_131) (by decide) (hl.n2 zk_131) ⟨Nat.le_of_ble_eq_true rfl, Nat.le_of_ble_eq_true rfl, Nat.le_of_ble_eq_true rfl⟩) ?_
  exact Iff.rfl

theorem bX12_go_156 {d : Nat} {σ : zS} {Q : Option Value → zS → Prop} (hl : zLay σ) {x1 x2 : Int32} : zW (d + 1) kX12_go 156 [.ref 131, .int x1, .int x2] [] σ Q ↔ Q none (zsI σ 131 (upd (zI σ 131) 22 ((zI σ 131 22) + 1))) := by
  refine Iff.trans (zw_aload_n (show decode cX12_go 156 = .ok (.aload_n 0, 1) by decide +kernel) rfl) ?_
  refine Iff.trans (zw_dup (show decode cX12_go 157 = .ok (.dup, 1) by decide +kernel) rfl) ?_
  refine Iff.trans (zw_getI (show decode cX12_go 158 = .ok (.getfield 252, 3) by decide +kernel) (by decide +kernel : zfld 12 252 = some (12, 22)) (hl.k2 zk_131) (hl.n2 zk_131) (Or.inl rfl) (w := zI σ 131 22) rfl) ?_
  refine Iff.trans (zw_iconst (x := 1) (show decode cX12_go 161 = .ok (.iconst 1, 1) by decide +kernel) (by decide)) ?_
  refine Iff.trans (zw_iadd (show decode cX12_go 162 = .ok (.iadd, 1) by decide +kernel)) ?_
  refine Iff.trans (zw_putI (show decode cX12_go 163 = .ok (.putfield 252, 3) by decide +kernel) (by decide +kernel : zfld 12 252 = some (12, 22)) (hl.k2 zk_131) (hl.n2 zk_131) rfl (Or.inl rfl) (σ' := (zsI σ 131 (upd (zI σ 131) 22 ((zI σ 131 22) + 1)))) rfl) ?_
  exact zw_ret (show decode cX12_go 166 = .ok (.return_, 1) by decide +kernel) rfl

theorem bX12_go_178 {d : Nat} {σ : zS} {Q : Option Value → zS → Prop} (hl : zLay σ) {x1 x2 y0 y1 : Int32} : zW (d + 1) kX12_go 178 [.ref 131, .int x1, .int x2] [.int y0, .int y1, .ref 131] σ Q ↔ zCall d kX12_of [.ref 131, .int x1, .int 5] σ (fun r σ' => zisN r = true ∧ zW (d + 1) kX12_go 185 [.ref 131, .int x1, .int x2] (zRstk r ++ [.int x2, .int y0, .int y1, .ref 131]) σ' Q) := by
  refine Iff.trans (zw_iload_n (show decode cX12_go 178 = .ok (.iload_n 2, 1) by decide +kernel) rfl) ?_
  refine Iff.trans (zw_aload_n (show decode cX12_go 179 = .ok (.aload_n 0, 1) by decide +kernel) rfl) ?_
  refine Iff.trans (zw_iload_n (show decode cX12_go 180 = .ok (.iload_n 1, 1) by decide +kernel) rfl) ?_
  refine Iff.trans (zw_iconst (x := 5) (show decode cX12_go 181 = .ok (.iconst 5, 1) by decide +kernel) (by decide)) ?_
  refine Iff.trans (zw_invV (K' := kX12_of) (as' := [.int x1, .int 5]) (rest := [.int x2, .int y0, .int y1, .ref 131]) (show decode cX12_go 182 = .ok (.invokevirtual 229, 3) by decide +kernel) (by rfl) rfl rfl rfl (hl.k2 zk_131) (by decide) (hl.n2 zk_131) ⟨Nat.le_of_ble_eq_true rfl, Nat.le_of_ble_eq_true rfl, Nat.le_of_ble_eq_true rfl⟩) ?_
  exact Iff.rfl

theorem bX12_go_185 {d : Nat} {σ : zS} {Q : Option Value → zS → Prop} (hl : zLay σ) {x1 x2 y0 y1 y2 y3 : Int32} : zW (d + 1) kX12_go 185 [.ref 131, .int x1, .int x2] [.int y0, .int y1, .int y2, .int y3, .ref 131] σ Q ↔ zCall d kX12_canLie [.ref 131, .int y3, .int y2, .int y1, .int y0] σ (fun r σ' => zisN r = true ∧ zW (d + 1) kX12_go 188 [.ref 131, .int x1, .int x2] (zRstk r ++ []) σ' Q) := by
  refine Iff.trans (zw_invV (K' := kX12_canLie) (as' := [.int y3, .int y2, .int y1, .int y0]) (rest := []) (show decode cX12_go 185 = .ok (.invokevirtual 218, 3) by decide +kernel) (by rfl) rfl rfl rfl (hl.k2 zk_131) (by decide) (hl.n2 zk_131) ⟨Nat.le_of_ble_eq_true rfl, Nat.le_of_ble_eq_true rfl, Nat.le_of_ble_eq_true rfl⟩) ?_
  exact Iff.rfl

theorem bX12_go_188 {d : Nat} {σ : zS} {Q : Option Value → zS → Prop} (hl : zLay σ) {x1 x2 y0 : Int32} : zW (d + 1) kX12_go 188 [.ref 131, .int x1, .int x2] [.int y0] σ Q ↔ (if y0 = (0 : Int32) then zW (d + 1) kX12_go 212 [.ref 131, .int x1, .int x2] [] σ Q else zCall d kX12_of [.ref 131, .int x1, .int 0] σ (fun r σ' => zisN r = true ∧ zW (d + 1) kX12_go 199 [.ref 131, .int x1, .int x2] (zRstk r ++ [.int x1, .ref 131]) σ' Q)) := by
  refine Iff.trans (zw_if_eq (t := 212) (show decode cX12_go 188 = .ok (.ifCond .eq 24, 3) by decide +kernel) (by decide)) ?_
  refine zw_ite ?_ ?_
  · exact Iff.rfl
  · refine Iff.trans (zw_aload_n (show decode cX12_go 191 = .ok (.aload_n 0, 1) by decide +kernel) rfl) ?_
    refine Iff.trans (zw_iload_n (show decode cX12_go 192 = .ok (.iload_n 1, 1) by decide +kernel) rfl) ?_
    refine Iff.trans (zw_aload_n (show decode cX12_go 193 = .ok (.aload_n 0, 1) by decide +kernel) rfl) ?_
    refine Iff.trans (zw_iload_n (show decode cX12_go 194 = .ok (.iload_n 1, 1) by decide +kernel) rfl) ?_
    refine Iff.trans (zw_iconst (x := 0) (show decode cX12_go 195 = .ok (.iconst 0, 1) by decide +kernel) (by decide)) ?_
    refine Iff.trans (zw_invV (K' := kX12_of) (as' := [.int x1, .int 0]) (rest := [.int x1, .ref 131]) (show decode cX12_go 196 = .ok (.invokevirtual 229, 3) by decide +kernel) (by rfl) rfl rfl rfl (hl.k2 zk_131) (by decide) (hl.n2 zk_131) ⟨Nat.le_of_ble_eq_true rfl, Nat.le_of_ble_eq_true rfl, Nat.le_of_ble_eq_true rfl⟩) ?_
    exact Iff.rfl

theorem bX12_go_199 {d : Nat} {σ : zS} {Q : Option Value → zS → Prop} (hl : zLay σ) {x1 x2 y0 y1 : Int32} : zW (d + 1) kX12_go 199 [.ref 131, .int x1, .int x2] [.int y0, .int y1, .ref 131] σ Q ↔ zCall d kX12_of [.ref 131, .int x1, .int 5] σ (fun r σ' => zisN r = true ∧ zW (d + 1) kX12_go 206 [.ref 131, .int x1, .int x2] (zRstk r ++ [.int x2, .int y0, .int y1, .ref 131]) σ' Q) := by
  refine Iff.trans (zw_iload_n (show decode cX12_go 199 = .ok (.iload_n 2, 1) by decide +kernel) rfl) ?_
  refine Iff.trans (zw_aload_n (show decode cX12_go 200 = .ok (.aload_n 0, 1) by decide +kernel) rfl) ?_
  refine Iff.trans (zw_iload_n (show decode cX12_go 201 = .ok (.iload_n 1, 1) by decide +kernel) rfl) ?_
  refine Iff.trans (zw_iconst (x := 5) (show decode cX12_go 202 = .ok (.iconst 5, 1) by decide +kernel) (by decide)) ?_
  refine Iff.trans (zw_invV (K' := kX12_of) (as' := [.int x1, .int 5]) (rest := [.int x2, .int y0, .int y1, .ref 131]) (show decode cX12_go 203 = .ok (.invokevirtual 229, 3) by decide +kernel) (by rfl) rfl rfl rfl (hl.k2 zk_131) (by decide) (hl.n2 zk_131) ⟨Nat.le_of_ble_eq_true rfl, Nat.le_of_ble_eq_true rfl, Nat.le_of_ble_eq_true rfl⟩) ?_
  exact Iff.rfl

theorem bX12_go_206 {d : Nat} {σ : zS} {Q : Option Value → zS → Prop} (hl : zLay σ) {x1 x2 y0 y1 y2 y3 : Int32} : zW (d + 1) kX12_go 206 [.ref 131, .int x1, .int x2] [.int y0, .int y1, .int y2, .int y3, .ref 131] σ Q ↔ zCall d kX12_isFree [.ref 131, .int y3, .int y2, .int y1, .int y0] σ (fun r σ' => zisN r = true ∧ zW (d + 1) kX12_go 209 [.ref 131, .int x1, .int x2] (zRstk r ++ []) σ' Q) := by
  refine Iff.trans (zw_invV (K' := kX12_isFree) (as' := [.int y3, .int y2, .int y1, .int y0]) (rest := []) (show decode cX12_go 206 = .ok (.invokevirtual 241, 3) by decide +kernel) (by rfl) rfl rfl rfl (hl.k2 zk_131) (by decide) (hl.n2 zk_131) ⟨Nat.le_of_ble_eq_true rfl, Nat.le_of_ble_eq_true rfl, Nat.le_of_ble_eq_true rfl⟩) ?_
  exact Iff.rfl

theorem bX12_go_209 {d : Nat} {σ : zS} {Q : Option Value → zS → Prop} (hl : zLay σ) {x1 x2 y0 : Int32} : zW (d + 1) kX12_go 209 [.ref 131, .int x1, .int x2] [.int y0] σ Q ↔ (if y0 = (0 : Int32) then zW (d + 1) kX12_go 212 [.ref 131, .int x1, .int x2] [] σ Q else zCall d kX12_set [.ref 131, .int x1, .int 4, .int x2] σ (fun r σ' => zisN r = true ∧ zW (d + 1) kX12_go 225 [.ref 131, .int x1, .int x2] (zRstk r ++ []) σ' Q)) := by
  refine Iff.trans (zw_if_ne (t := 218) (show decode cX12_go 209 = .ok (.ifCond .ne 9, 3) by decide +kernel) (by decide)) ?_
  refine zw_ite ?_ ?_
  · exact Iff.rfl
  · refine Iff.trans (zw_aload_n (show decode cX12_go 218 = .ok (.aload_n 0, 1) by decide +kernel) rfl) ?_
    refine Iff.trans (zw_iload_n (show decode cX12_go 219 = .ok (.iload_n 1, 1) by decide +kernel) rfl) ?_
    refine Iff.trans (zw_iconst (x := 4) (show decode cX12_go 220 = .ok (.iconst 4, 1) by decide +kernel) (by decide)) ?_
    refine Iff.trans (zw_iload_n (show decode cX12_go 221 = .ok (.iload_n 2, 1) by decide +kernel) rfl) ?_
    refine Iff.trans (zw_invV (K' := kX12_set) (as' := [.int x1, .int 4, .int x2]) (rest := []) (show decode cX12_go 222 = .ok (.invokevirtual 225, 3) by decide +kernel) (by rfl) rfl rfl rfl (hl.k2 zk_131) (by decide) (hl.n2 zk_131) ⟨Nat.le_of_ble_eq_true rfl, Nat.le_of_ble_eq_true rfl, Nat.le_of_ble_eq_true rfl⟩) ?_
    exact Iff.rfl

theorem bX12_go_212 {d : Nat} {σ : zS} {Q : Option Value → zS → Prop} (hl : zLay σ) {x1 x2 : Int32} : zW (d + 1) kX12_go 212 [.ref 131, .int x1, .int x2] [] σ Q ↔ zCall d kX12_strike [.ref 131, .int x1] σ (fun r σ' => zisN r = true ∧ zW (d + 1) kX12_go 217 [.ref 131, .int x1, .int x2] (zRstk r ++ []) σ' Q) := by
  refine Iff.trans (zw_aload_n (show decode cX12_go 212 = .ok (.aload_n 0, 1) by decide +kernel) rfl) ?_
  refine Iff.trans (zw_iload_n (show decode cX12_go 213 = .ok (.iload_n 1, 1) by decide +kernel) rfl) ?_
  refine Iff.trans (zw_invV (K' := kX12_strike) (as' := [.int x1]) (rest := []) (show decode cX12_go 214 = .ok (.invokevirtual 298, 3) by decide +kernel) (by rfl) rfl rfl rfl (hl.k2 zk_131) (by decide) (hl.n2 zk_131) ⟨Nat.le_of_ble_eq_true rfl, Nat.le_of_ble_eq_true rfl, Nat.le_of_ble_eq_true rfl⟩) ?_
  exact Iff.rfl

theorem bX12_go_217 {d : Nat} {σ : zS} {Q : Option Value → zS → Prop} (hl : zLay σ) {x1 x2 : Int32} : zW (d + 1) kX12_go 217 [.ref 131, .int x1, .int x2] [] σ Q ↔ Q none σ := by
  exact zw_ret (show decode cX12_go 217 = .ok (.return_, 1) by decide +kernel) rfl

theorem bX12_go_225 {d : Nat} {σ : zS} {Q : Option Value → zS → Prop} (hl : zLay σ) {x1 x2 : Int32} : zW (d + 1) kX12_go 225 [.ref 131, .int x1, .int x2] [] σ Q ↔ zW (d + 1) kX12_go 78 [.ref 131, .int x1, .int x2] [] σ Q := by
  refine Iff.trans (zw_goto (t := 78) (show decode cX12_go 225 = .ok (.goto (-147), 3) by decide +kernel) (by decide)) ?_
  exact Iff.rfl

theorem bX12_go_241 {d : Nat} {σ : zS} {Q : Option Value → zS → Prop} (hl : zLay σ) {x1 y0 : Int32} {v2 : Value} (hv2 : v2.category = 1) : zW (d + 1) kX12_go 241 [.ref 131, .int x1, v2] [.int y0] σ Q ↔ (if (y0 * (if 0 ≤ (zI σ 131 13) then (zI σ 131 13) else 0 - (zI σ 131 13))) < 9 then zW (d + 1) kX12_go 278 [.ref 131, .int x1, v2] [] σ Q else zCall d kX12_of [.ref 131, .int x1, .int 5] σ (fun r σ' => zisN r = true ∧ zW (d + 1) kX12_go 262 [.ref 131, .int x1, v2] (zRstk r ++ [.int x1, .ref 131]) σ' Q)) := by
  refine Iff.trans (zw_aload_n (show decode cX12_go 241 = .ok (.aload_n 0, 1) by decide +kernel) rfl) ?_
  refine Iff.trans (zw_getI (show decode cX12_go 242 = .ok (.getfield 212, 3) by decide +kernel) (by decide +kernel : zfld 12 212 = some (12, 13)) (hl.k2 zk_131) (hl.n2 zk_131) (Or.inl rfl) (w := zI σ 131 13) rfl) ?_
  refine Iff.trans (zw_nabs (show decode cX12_go 245 = .ok (.invokestatic 301, 3) by decide +kernel) (by rfl) (Nat.le_of_ble_eq_true rfl)) ?_
  refine Iff.trans (zw_imul (show decode cX12_go 248 = .ok (.imul, 1) by decide +kernel)) ?_
  refine Iff.trans (zw_bipush (x := 9) (show decode cX12_go 249 = .ok (.bipush 9, 2) by decide +kernel) (by decide)) ?_
  refine Iff.trans (zw_icmp_lt (t := 278) (show decode cX12_go 251 = .ok (.if_icmp .lt 27, 3) by decide +kernel) (by decide)) ?_
  refine zw_ite ?_ ?_
  · exact Iff.rfl
  · refine Iff.trans (zw_aload_n (show decode cX12_go 254 = .ok (.aload_n 0, 1) by decide +kernel) rfl) ?_
    refine Iff.trans (zw_iload_n (show decode cX12_go 255 = .ok (.iload_n 1, 1) by decide +kernel) rfl) ?_
    refine Iff.trans (zw_aload_n (show decode cX12_go 256 = .ok (.aload_n 0, 1) by decide +kernel) rfl) ?_
    refine Iff.trans (zw_iload_n (show decode cX12_go 257 = .ok (.iload_n 1, 1) by decide +kernel) rfl) ?_
    refine Iff.trans (zw_iconst (x := 5) (show decode cX12_go 258 = .ok (.iconst 5, 1) by decide +kernel) (by decide)) ?_
    refine Iff.trans (zw_invV (K' := kX12_of) (as' := [.int x1, .int 5]) (rest := [.int x1, .ref 131]) (show decode cX12_go 259 = .ok (.invokevirtual 229, 3) by decide +kernel) (by rfl) rfl rfl rfl (hl.k2 zk_131) (by decide) (hl.n2 zk_131) ⟨Nat.le_of_ble_eq_true rfl, Nat.le_of_ble_eq_true rfl, Nat.le_of_ble_eq_true rfl⟩) ?_
    exact Iff.rfl

theorem bX12_go_262 {d : Nat} {σ : zS} {Q : Option Value → zS → Prop} (hl : zLay σ) {x1 y0 y1 : Int32} {v2 : Value} (hv2 : v2.category = 1) : zW (d + 1) kX12_go 262 [.ref 131, .int x1, v2] [.int y0, .int y1, .ref 131] σ Q ↔ (if (zI σ 131 13) ≤ (0 : Int32) then zW (d + 1) kX12_go 274 [.ref 131, .int x1, v2] [.int (-1), .int y0, .int y1, .ref 131] σ Q else zW (d + 1) kX12_go 274 [.ref 131, .int x1, v2] [.int 1, .int y0, .int y1, .ref 131] σ Q) := by
  refine Iff.trans (zw_aload_n (show decode cX12_go 262 = .ok (.aload_n 0, 1) by decide +kernel) rfl) ?_
  refine Iff.trans (zw_getI (show decode cX12_go 263 = .ok (.getfield 212, 3) by decide +kernel) (by decide +kernel : zfld 12 212 = some (12, 13)) (hl.k2 zk_131) (hl.n2 zk_131) (Or.inl rfl) (w := zI σ 131 13) rfl) ?_
  refine Iff.trans (zw_if_le (t := 273) (show decode cX12_go 266 = .ok (.ifCond .le 7, 3) by decide +kernel) (by decide)) ?_
  refine zw_ite ?_ ?_
  · refine Iff.trans (zw_iconst (x := (-1)) (show decode cX12_go 273 = .ok (.iconst (-1), 1) by decide +kernel) (by decide)) ?_
    exact Iff.rfl
  · refine Iff.trans (zw_iconst (x := 1) (show decode cX12_go 269 = .ok (.iconst 1, 1) by decide +kernel) (by decide)) ?_
    refine Iff.trans (zw_goto (t := 274) (show decode cX12_go 270 = .ok (.goto 4, 3) by decide +kernel) (by decide)) ?_
    exact Iff.rfl

theorem bX12_go_274 {d : Nat} {σ : zS} {Q : Option Value → zS → Prop} (hl : zLay σ) {x1 y0 y1 y2 : Int32} {v2 : Value} (hv2 : v2.category = 1) : zW (d + 1) kX12_go 274 [.ref 131, .int x1, v2] [.int y0, .int y1, .int y2, .ref 131] σ Q ↔ zCall d kX12_goAside [.ref 131, .int y2, .int (y1 + y0)] σ (fun r σ' => zisN r = true ∧ zW (d + 1) kX12_go 278 [.ref 131, .int x1, v2] (zRstk r ++ []) σ' Q) := by
  refine Iff.trans (zw_iadd (show decode cX12_go 274 = .ok (.iadd, 1) by decide +kernel)) ?_
  refine Iff.trans (zw_invV (K' := kX12_goAside) (as' := [.int y2, .int (y1 + y0)]) (rest := []) (show decode cX12_go 275 = .ok (.invokevirtual 278, 3) by decide +kernel) (by rfl) rfl rfl rfl (hl.k2 zk_131) (by decide) (hl.n2 zk_131) ⟨Nat.le_of_ble_eq_true rfl, Nat.le_of_ble_eq_true rfl, Nat.le_of_ble_eq_true rfl⟩) ?_
  exact Iff.rfl

theorem bX12_go_278 {d : Nat} {σ : zS} {Q : Option Value → zS → Prop} (hl : zLay σ) {x1 : Int32} {v2 : Value} (hv2 : v2.category = 1) : zW (d + 1) kX12_go 278 [.ref 131, .int x1, v2] [] σ Q ↔ Q none σ := by
  exact zw_ret (show decode cX12_go 278 = .ok (.return_, 1) by decide +kernel) rfl

theorem bX12_strike_0 {d : Nat} {σ : zS} {Q : Option Value → zS → Prop} (hl : zLay σ) {x1 : Int32} : zCall (d + 1) kX12_strike [.ref 131, .int x1] σ Q ↔ zCall d kX12_of [.ref 131, .int x1, .int 4] σ (fun r σ' => zisN r = true ∧ zW (d + 1) kX12_strike 6 [.ref 131, .int x1, .retAddr 0, .retAddr 0, .retAddr 0] (zRstk r ++ []) σ' Q) := by
  show zW (d + 1) kX12_strike 0 [.ref 131, .int x1, .retAddr 0, .retAddr 0, .retAddr 0] [] σ Q ↔ _
  refine Iff.trans (zw_aload_n (show decode cX12_strike 0 = .ok (.aload_n 0, 1) by decide +kernel) rfl) ?_
  refine Iff.trans (zw_iload_n (show decode cX12_strike 1 = .ok (.iload_n 1, 1) by decide +kernel) rfl) ?_
  refine Iff.trans (zw_iconst (x := 4) (show decode cX12_strike 2 = .ok (.iconst 4, 1) by decide +kernel) (by decide)) ?_
  refine Iff.trans (zw_invV (K' := kX12_of) (as' := [.int x1, .int 4]) (rest := []) (show decode cX12_strike 3 = .ok (.invokevirtual 229, 3) by decide +kernel) (by rfl) rfl rfl rfl (hl.k2 zk_131) (by decide) (hl.n2 zk_131) ⟨Nat.le_of_ble_eq_true rfl, Nat.le_of_ble_eq_true rfl, Nat.le_of_ble_eq_true rfl⟩) ?_
  exact Iff.rfl

theorem bX12_strike_6 {d : Nat} {σ : zS} {Q : Option Value → zS → Prop} (hl : zLay σ) {x1 y0 : Int32} : zW (d + 1) kX12_strike 6 [.ref 131, .int x1, .retAddr 0, .retAddr 0, .retAddr 0] [.int y0] σ Q ↔ zCall d kX12_of [.ref 131, .int x1, .int 5] σ (fun r σ' => zisN r = true ∧ zW (d + 1) kX12_strike 15 [.ref 131, .int x1, .int (y0 + 1), .retAddr 0, .retAddr 0] (zRstk r ++ []) σ' Q) := by
  refine Iff.trans (zw_iconst (x := 1) (show decode cX12_strike 6 = .ok (.iconst 1, 1) by decide +kernel) (by decide)) ?_
  refine Iff.trans (zw_iadd (show decode cX12_strike 7 = .ok (.iadd, 1) by decide +kernel)) ?_
  refine Iff.trans (zw_istore_n (ls' := [.ref 131, .int x1, .int (y0 + 1), .retAddr 0, .retAddr 0]) (show decode cX12_strike 8 = .ok (.istore_n 2, 1) by decide +kernel) (zset_s (Nat.le_of_ble_eq_true rfl) rfl)) ?_
  refine Iff.trans (zw_aload_n (show decode cX12_strike 9 = .ok (.aload_n 0, 1) by decide +kernel) rfl) ?_
  refine Iff.trans (zw_iload_n (show decode cX12_strike 10 = .ok (.iload_n 1, 1) by decide +kernel) rfl) ?_
  refine Iff.trans (zw_iconst (x := 5) (show decode cX12_strike 11 = .ok (.iconst 5, 1) by decide +kernel) (by decide)) ?_
  refine Iff.trans (zw_invV (K' := kX12_of) (as' := [.int x1, .int 5]) (rest := []) (show decode cX12_strike 12 = .ok (.invokevirtual 229, 3) by decide +kernel) (by rfl) rfl rfl rfl (hl.k2 zk_131) (by decide) (hl.n2 zk_131) ⟨Nat.le_of_ble_eq_true rfl, Nat.le_of_ble_eq_true rfl, Nat.le_of_ble_eq_true rfl⟩) ?_
  exact Iff.rfl

theorem bX12_strike_15 {d : Nat} {σ : zS} {Q : Option Value → zS → Prop} (hl : zLay σ) {x1 x2 y0 : Int32} : zW (d + 1) kX12_strike 15 [.ref 131, .int x1, .int x2, .retAddr 0, .retAddr 0] [.int y0] σ Q ↔ zW (d + 1) kX12_strike 19 [.ref 131, .int x1, .int x2, .int y0, .int y0] [] σ Q := by
  refine Iff.trans (zw_istore_n (ls' := [.ref 131, .int x1, .int x2, .int y0, .retAddr 0]) (show decode cX12_strike 15 = .ok (.istore_n 3, 1) by decide +kernel) (zset_s (Nat.le_of_ble_eq_true rfl) rfl)) ?_
  refine Iff.trans (zw_iload_n (show decode cX12_strike 16 = .ok (.iload_n 3, 1) by decide +kernel) rfl) ?_
  refine Iff.trans (zw_istore (ls' := [.ref 131, .int x1, .int x2, .int y0, .int y0]) (show decode cX12_strike 17 = .ok (.istore 4, 2) by decide +kernel) (zset_s (Nat.le_of_ble_eq_true rfl) rfl)) ?_
  exact Iff.rfl

theorem bX12_strike_19 {d : Nat} {σ : zS} {Q : Option Value → zS → Prop} (hl : zLay σ) {x1 x2 x3 x4 : Int32} : zW (d + 1) kX12_strike 19 [.ref 131, .int x1, .int x2, .int x3, .int x4] [] σ Q ↔ zCall d kX12_bars [.ref 131, .int (zI σ 131 19), .int x2, .int x4] σ (fun r σ' => zisN r = true ∧ zW (d + 1) kX12_strike 30 [.ref 131, .int x1, .int x2, .int x3, .int x4] (zRstk r ++ []) σ' Q) := by
  refine Iff.trans (zw_aload_n (show decode cX12_strike 19 = .ok (.aload_n 0, 1) by decide +kernel) rfl) ?_
  refine Iff.trans (zw_aload_n (show decode cX12_strike 20 = .ok (.aload_n 0, 1) by decide +kernel) rfl) ?_
  refine Iff.trans (zw_getI (show decode cX12_strike 21 = .ok (.getfield 45, 3) by decide +kernel) (by decide +kernel : zfld 12 45 = some (12, 19)) (hl.k2 zk_131) (hl.n2 zk_131) (Or.inl rfl) (w := zI σ 131 19) rfl) ?_
  refine Iff.trans (zw_iload_n (show decode cX12_strike 24 = .ok (.iload_n 2, 1) by decide +kernel) rfl) ?_
  refine Iff.trans (zw_iload (show decode cX12_strike 25 = .ok (.iload 4, 2) by decide +kernel) rfl) ?_
  refine Iff.trans (zw_invV (K' := kX12_bars) (as' := [.int (zI σ 131 19), .int x2, .int x4]) (rest := []) (show decode cX12_strike 27 = .ok (.invokevirtual 215, 3) by decide +kernel) (by rfl) rfl rfl rfl (hl.k2 zk_131) (by decide) (hl.n2 zk_131) ⟨Nat.le_of_ble_eq_true rfl, Nat.le_of_ble_eq_true rfl, Nat.le_of_ble_eq_true rfl⟩) ?_
  exact Iff.rfl

theorem bX12_strike_30 {d : Nat} {σ : zS} {Q : Option Value → zS → Prop} (hl : zLay σ) {x1 x2 x3 x4 y0 : Int32} : zW (d + 1) kX12_strike 30 [.ref 131, .int x1, .int x2, .int x3, .int x4] [.int y0] σ Q ↔ (if y0 = (0 : Int32) then zCall d kX12_whoIs [.ref 131, .int x2, .int x4, .int x1] σ (fun r σ' => zisN r = true ∧ zW (d + 1) kX12_strike 41 [.ref 131, .int x1, .int x2, .int x3, .int x4] (zRstk r ++ []) σ' Q) else zW (d + 1) kX12_strike 51 [.ref 131, .int x1, .int x2, .int x3, .int x4] [] σ Q) := by
  refine Iff.trans (zw_if_ne (t := 51) (show decode cX12_strike 30 = .ok (.ifCond .ne 21, 3) by decide +kernel) (by decide)) ?_
  refine zw_ite ?_ ?_
  · refine Iff.trans (zw_aload_n (show decode cX12_strike 33 = .ok (.aload_n 0, 1) by decide +kernel) rfl) ?_
    refine Iff.trans (zw_iload_n (show decode cX12_strike 34 = .ok (.iload_n 2, 1) by decide +kernel) rfl) ?_
    refine Iff.trans (zw_iload (show decode cX12_strike 35 = .ok (.iload 4, 2) by decide +kernel) rfl) ?_
    refine Iff.trans (zw_iload_n (show decode cX12_strike 37 = .ok (.iload_n 1, 1) by decide +kernel) rfl) ?_
    refine Iff.trans (zw_invV (K' := kX12_whoIs) (as' := [.int x2, .int x4, .int x1]) (rest := []) (show decode cX12_strike 38 = .ok (.invokevirtual 238, 3) by decide +kernel) (by rfl) rfl rfl rfl (hl.k2 zk_131) (by decide) (hl.n2 zk_131) ⟨Nat.le_of_ble_eq_true rfl, Nat.le_of_ble_eq_true rfl, Nat.le_of_ble_eq_true rfl⟩) ?_
    exact Iff.rfl
  · exact Iff.rfl

theorem bX12_strike_41 {d : Nat} {σ : zS} {Q : Option Value → zS → Prop} (hl : zLay σ) {x1 x2 x3 x4 y0 : Int32} : zW (d + 1) kX12_strike 41 [.ref 131, .int x1, .int x2, .int x3, .int x4] [.int y0] σ Q ↔ (if y0 = (-1) then zW (d + 1) kX12_strike 19 [.ref 131, .int x1, .int x2, .int x3, .int (x4 + 1)] [] σ Q else zW (d + 1) kX12_strike 51 [.ref 131, .int x1, .int x2, .int x3, .int x4] [] σ Q) := by
  refine Iff.trans (zw_iconst (x := (-1)) (show decode cX12_strike 41 = .ok (.iconst (-1), 1) by decide +kernel) (by decide)) ?_
  refine Iff.trans (zw_icmp_ne (t := 51) (show decode cX12_strike 42 = .ok (.if_icmp .ne 9, 3) by decide +kernel) (by decide)) ?_
  refine zw_ite ?_ ?_
  · refine Iff.trans (zw_iinc (w := 1) (ls' := [.ref 131, .int x1, .int x2, .int x3, .int (x4 + 1)]) (show decode cX12_strike 45 = .ok (.iinc 4 1, 3) by decide +kernel) rfl (by decide) (zset_s (Nat.le_of_ble_eq_true rfl) rfl)) ?_
    refine Iff.trans (zw_goto (t := 19) (show decode cX12_strike 48 = .ok (.goto (-29), 3) by decide +kernel) (by decide)) ?_
    exact Iff.rfl
  · exact Iff.rfl

theorem bX12_strike_51 {d : Nat} {σ : zS} {Q : Option Value → zS → Prop} (hl : zLay σ) {x1 x2 x3 x4 : Int32} : zW (d + 1) kX12_strike 51 [.ref 131, .int x1, .int x2, .int x3, .int x4] [] σ Q ↔ zCall d kX12_of [.ref 131, .int x1, .int 0] σ (fun r σ' => zisN r = true ∧ zW (d + 1) kX12_strike 65 [.ref 131, .int x1, .int x2, .int x3, .int x4] (zRstk r ++ [.int (2 * (x4 - x3)), .int x1, .ref 131]) σ' Q) := by
  refine Iff.trans (zw_aload_n (show decode cX12_strike 51 = .ok (.aload_n 0, 1) by decide +kernel) rfl) ?_
  refine Iff.trans (zw_iload_n (show decode cX12_strike 52 = .ok (.iload_n 1, 1) by decide +kernel) rfl) ?_
  refine Iff.trans (zw_iconst (x := 2) (show decode cX12_strike 53 = .ok (.iconst 2, 1) by decide +kernel) (by decide)) ?_
  refine Iff.trans (zw_iload (show decode cX12_strike 54 = .ok (.iload 4, 2) by decide +kernel) rfl) ?_
  refine Iff.trans (zw_iload_n (show decode cX12_strike 56 = .ok (.iload_n 3, 1) by decide +kernel) rfl) ?_
  refine Iff.trans (zw_isub (show decode cX12_strike 57 = .ok (.isub, 1) by decide +kernel)) ?_
  refine Iff.trans (zw_imul (show decode cX12_strike 58 = .ok (.imul, 1) by decide +kernel)) ?_
  refine Iff.trans (zw_aload_n (show decode cX12_strike 59 = .ok (.aload_n 0, 1) by decide +kernel) rfl) ?_
  refine Iff.trans (zw_iload_n (show decode cX12_strike 60 = .ok (.iload_n 1, 1) by decide +kernel) rfl) ?_
  refine Iff.trans (zw_iconst (x := 0) (show decode cX12_strike 61 = .ok (.iconst 0, 1) by decide +kernel) (by decide)) ?_
  refine Iff.trans (zw_invV (K' := kX12_of) (as' := [.int x1, .int 0]) (rest := [.int (2 * (x4 - x3)), .int x1, .ref 131]) (show decode cX12_strike 62 = .ok (.invokevirtual 229, 3) by decide +kernel) (by rfl) rfl rfl rfl (hl.k2 zk_131) (by decide) (hl.n2 zk_131) ⟨Nat.le_of_ble_eq_true rfl, Nat.le_of_ble_eq_true rfl, Nat.le_of_ble_eq_true rfl⟩) ?_
  exact Iff.rfl

theorem bX12_strike_65 {d : Nat} {σ : zS} {Q : Option Value → zS → Prop} (hl : zLay σ) {x1 x2 x3 x4 y0 y1 y2 : Int32} : zW (d + 1) kX12_strike 65 [.ref 131, .int x1, .int x2, .int x3, .int x4] [.int y0, .int y1, .int y2, .ref 131] σ Q ↔ (if y0 ≤ y1 then zW (d + 1) kX12_strike 77 [.ref 131, .int x1, .int x2, .int x3, .int x4] [.int (x3 - 1), .int y2, .ref 131] σ Q else zW (d + 1) kX12_strike 77 [.ref 131, .int x1, .int x2, .int x3, .int x4] [.int (x3 + 1), .int y2, .ref 131] σ Q) := by
  refine Iff.trans (zw_icmp_ge (t := 74) (show decode cX12_strike 65 = .ok (.if_icmp .ge 9, 3) by decide +kernel) (by decide)) ?_
  refine zw_ite ?_ ?_
  · refine Iff.trans (zw_iload_n (show decode cX12_strike 74 = .ok (.iload_n 3, 1) by decide +kernel) rfl) ?_
    refine Iff.trans (zw_iconst (x := 1) (show decode cX12_strike 75 = .ok (.iconst 1, 1) by decide +kernel) (by decide)) ?_
    refine Iff.trans (zw_isub (show decode cX12_strike 76 = .ok (.isub, 1) by decide +kernel)) ?_
    exact Iff.rfl
  · refine Iff.trans (zw_iload_n (show decode cX12_strike 68 = .ok (.iload_n 3, 1) by decide +kernel) rfl) ?_
    refine Iff.trans (zw_iconst (x := 1) (show decode cX12_strike 69 = .ok (.iconst 1, 1) by decide +kernel) (by decide)) ?_
    refine Iff.trans (zw_iadd (show decode cX12_strike 70 = .ok (.iadd, 1) by decide +kernel)) ?_
    refine Iff.trans (zw_goto (t := 77) (show decode cX12_strike 71 = .ok (.goto 6, 3) by decide +kernel) (by decide)) ?_
    exact Iff.rfl

theorem bX12_strike_77 {d : Nat} {σ : zS} {Q : Option Value → zS → Prop} (hl : zLay σ) {x1 x2 x3 x4 y0 y1 : Int32} : zW (d + 1) kX12_strike 77 [.ref 131, .int x1, .int x2, .int x3, .int x4] [.int y0, .int y1, .ref 131] σ Q ↔ zCall d kX12_goAside [.ref 131, .int y1, .int y0] σ (fun r σ' => zisN r = true ∧ zW (d + 1) kX12_strike 80 [.ref 131, .int x1, .int x2, .int x3, .int x4] (zRstk r ++ []) σ' Q) := by
  refine Iff.trans (zw_invV (K' := kX12_goAside) (as' := [.int y1, .int y0]) (rest := []) (show decode cX12_strike 77 = .ok (.invokevirtual 278, 3) by decide +kernel) (by rfl) rfl rfl rfl (hl.k2 zk_131) (by decide) (hl.n2 zk_131) ⟨Nat.le_of_ble_eq_true rfl, Nat.le_of_ble_eq_true rfl, Nat.le_of_ble_eq_true rfl⟩) ?_
  exact Iff.rfl

theorem bX12_strike_80 {d : Nat} {σ : zS} {Q : Option Value → zS → Prop} (hl : zLay σ) {x1 x2 x3 x4 : Int32} : zW (d + 1) kX12_strike 80 [.ref 131, .int x1, .int x2, .int x3, .int x4] [] σ Q ↔ zCall d kX12_set [.ref 131, .int x1, .int 6, .int 0] σ (fun r σ' => zisN r = true ∧ zW (d + 1) kX12_strike 88 [.ref 131, .int x1, .int x2, .int x3, .int x4] (zRstk r ++ []) σ' Q) := by
  refine Iff.trans (zw_aload_n (show decode cX12_strike 80 = .ok (.aload_n 0, 1) by decide +kernel) rfl) ?_
  refine Iff.trans (zw_iload_n (show decode cX12_strike 81 = .ok (.iload_n 1, 1) by decide +kernel) rfl) ?_
  refine Iff.trans (zw_bipush (x := 6) (show decode cX12_strike 82 = .ok (.bipush 6, 2) by decide +kernel) (by decide)) ?_
  refine Iff.trans (zw_iconst (x := 0) (show decode cX12_strike 84 = .ok (.iconst 0, 1) by decide +kernel) (by decide)) ?_
  refine Iff.trans (zw_invV (K' := kX12_set) (as' := [.int x1, .int 6, .int 0]) (rest := []) (show decode cX12_strike 85 = .ok (.invokevirtual 225, 3) by decide +kernel) (by rfl) rfl rfl rfl (hl.k2 zk_131) (by decide) (hl.n2 zk_131) ⟨Nat.le_of_ble_eq_true rfl, Nat.le_of_ble_eq_true rfl, Nat.le_of_ble_eq_true rfl⟩) ?_
  exact Iff.rfl

theorem bX12_strike_88 {d : Nat} {σ : zS} {Q : Option Value → zS → Prop} (hl : zLay σ) {x1 x2 x3 x4 : Int32} : zW (d + 1) kX12_strike 88 [.ref 131, .int x1, .int x2, .int x3, .int x4] [] σ Q ↔ zCall d kX12_of [.ref 131, .int x1, .int 10] σ (fun r σ' => zisN r = true ∧ zW (d + 1) kX12_strike 99 [.ref 131, .int x1, .int x2, .int x3, .int x4] (zRstk r ++ [.int 10, .int x1, .ref 131]) σ' Q) := by
  refine Iff.trans (zw_aload_n (show decode cX12_strike 88 = .ok (.aload_n 0, 1) by decide +kernel) rfl) ?_
  refine Iff.trans (zw_iload_n (show decode cX12_strike 89 = .ok (.iload_n 1, 1) by decide +kernel) rfl) ?_
  refine Iff.trans (zw_bipush (x := 10) (show decode cX12_strike 90 = .ok (.bipush 10, 2) by decide +kernel) (by decide)) ?_
  refine Iff.trans (zw_aload_n (show decode cX12_strike 92 = .ok (.aload_n 0, 1) by decide +kernel) rfl) ?_
  refine Iff.trans (zw_iload_n (show decode cX12_strike 93 = .ok (.iload_n 1, 1) by decide +kernel) rfl) ?_
  refine Iff.trans (zw_bipush (x := 10) (show decode cX12_strike 94 = .ok (.bipush 10, 2) by decide +kernel) (by decide)) ?_
  refine Iff.trans (zw_invV (K' := kX12_of) (as' := [.int x1, .int 10]) (rest := [.int 10, .int x1, .ref 131]) (show decode cX12_strike 96 = .ok (.invokevirtual 229, 3) by decide +kernel) (by rfl) rfl rfl rfl (hl.k2 zk_131) (by decide) (hl.n2 zk_131) ⟨Nat.le_of_ble_eq_true rfl, Nat.le_of_ble_eq_true rfl, Nat.le_of_ble_eq_true rfl⟩) ?_
  exact Iff.rfl

theorem bX12_strike_99 {d : Nat} {σ : zS} {Q : Option Value → zS → Prop} (hl : zLay σ) {x1 x2 x3 x4 y0 y1 y2 : Int32} : zW (d + 1) kX12_strike 99 [.ref 131, .int x1, .int x2, .int x3, .int x4] [.int y0, .int y1, .int y2, .ref 131] σ Q ↔ zCall d kX12_set [.ref 131, .int y2, .int y1, .int (y0 + 1)] σ (fun r σ' => zisN r = true ∧ zW (d + 1) kX12_strike 104 [.ref 131, .int x1, .int x2, .int x3, .int x4] (zRstk r ++ []) σ' Q) := by
  refine Iff.trans (zw_iconst (x := 1) (show decode cX12_strike 99 = .ok (.iconst 1, 1) by decide +kernel) (by decide)) ?_
  refine Iff.trans (zw_iadd (show decode cX12_strike 100 = .ok (.iadd, 1) by decide +kernel)) ?_
  refine Iff.trans (zw_invV (K' := kX12_set) (as' := [.int y2, .int y1, .int (y0 + 1)]) (rest := []) (show decode cX12_strike 101 = .ok (.invokevirtual 225, 3) by decide +kernel) (by rfl) rfl rfl rfl (hl.k2 zk_131) (by decide) (hl.n2 zk_131) ⟨Nat.le_of_ble_eq_true rfl, Nat.le_of_ble_eq_true rfl, Nat.le_of_ble_eq_true rfl⟩) ?_
  exact Iff.rfl

theorem bX12_strike_104 {d : Nat} {σ : zS} {Q : Option Value → zS → Prop} (hl : zLay σ) {x1 x2 x3 x4 : Int32} : zW (d + 1) kX12_strike 104 [.ref 131, .int x1, .int x2, .int x3, .int x4] [] σ Q ↔ (if (zI σ 131 43) = (0 : Int32) then Q none σ else (vp_in (x2 - 1) 16 ∧ (vp_in (x2 - 1) 16 ∧ Q none (zsI σ 145 (upd (zI σ 145) (x2 - 1 : Int32).toNatClampNeg ((zI σ 145 (x2 - 1 : Int32).toNatClampNeg) + 1)))))) := by
  refine Iff.trans (zw_aload_n (show decode cX12_strike 104 = .ok (.aload_n 0, 1) by decide +kernel) rfl) ?_
  refine Iff.trans (zw_getI (show decode cX12_strike 105 = .ok (.getfield 282, 3) by decide +kernel) (by decide +kernel : zfld 12 282 = some (12, 43)) (hl.k2 zk_131) (hl.n2 zk_131) (Or.inr rfl) (w := zI σ 131 43) rfl) ?_
  refine Iff.trans (zw_if_eq (t := 123) (show decode cX12_strike 108 = .ok (.ifCond .eq 15, 3) by decide +kernel) (by decide)) ?_
  refine zw_ite ?_ ?_
  · exact zw_ret (show decode cX12_strike 123 = .ok (.return_, 1) by decide +kernel) rfl
  · refine Iff.trans (zw_aload_n (show decode cX12_strike 111 = .ok (.aload_n 0, 1) by decide +kernel) rfl) ?_
    refine Iff.trans (zw_get (show decode cX12_strike 112 = .ok (.getfield 60, 3) by decide +kernel) (by decide +kernel : zfld 12 60 = some (12, 38)) (hl.k2 zk_131) (hl.n2 zk_131) (zgetR (v := 145) (hl.r zrt_131_38) rfl)) ?_
    refine Iff.trans (zw_iload_n (show decode cX12_strike 115 = .ok (.iload_n 2, 1) by decide +kernel) rfl) ?_
    refine Iff.trans (zw_iconst (x := 1) (show decode cX12_strike 116 = .ok (.iconst 1, 1) by decide +kernel) (by decide)) ?_
    refine Iff.trans (zw_isub (show decode cX12_strike 117 = .ok (.isub, 1) by decide +kernel)) ?_
    refine Iff.trans (zw_dup2 (show decode cX12_strike 118 = .ok (.dup2, 1) by decide +kernel) ⟨rfl, rfl⟩) ?_
    refine Iff.trans (zw_iald2 (show decode cX12_strike 119 = .ok (.iaload, 1) by decide +kernel) (hl.k2 zk_145) (hl.n2 zk_145) (hl.l2 zk_145 zl_145) (w := zI σ 145 (x2 - 1 : Int32).toNatClampNeg) rfl) ?_
    refine zw_and ?_
    refine Iff.trans (zw_iconst (x := 1) (show decode cX12_strike 120 = .ok (.iconst 1, 1) by decide +kernel) (by decide)) ?_
    refine Iff.trans (zw_iadd (show decode cX12_strike 121 = .ok (.iadd, 1) by decide +kernel)) ?_
    refine Iff.trans (zw_iast2 (show decode cX12_strike 122 = .ok (.iastore, 1) by decide +kernel) (hl.k2 zk_145) (hl.n2 zk_145) (hl.l2 zk_145 zl_145) (σ' := (zsI σ 145 (upd (zI σ 145) (x2 - 1 : Int32).toNatClampNeg ((zI σ 145 (x2 - 1 : Int32).toNatClampNeg) + 1)))) rfl) ?_
    refine zw_and ?_
    exact zw_ret (show decode cX12_strike 123 = .ok (.return_, 1) by decide +kernel) rfl

