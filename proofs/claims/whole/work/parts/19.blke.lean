theorem bX12_isOut_0 {d : Nat} {σ : zS} {Q : Option Value → zS → Prop} (hl : zLay σ) {x1 : Int32} : zCall (d + 1) kX12_isOut [.ref 131, .int x1] σ Q ↔ zCall d kX12_of [.ref 131, .int x1, .int 7] σ (fun r σ' => zisN r = true ∧ zW (d + 1) kX12_isOut 7 [.ref 131, .int x1] (zRstk r ++ []) σ' Q) := by
  show zW (d + 1) kX12_isOut 0 [.ref 131, .int x1] [] σ Q ↔ _
  refine Iff.trans (zw_aload_n (show decode cX12_isOut 0 = .ok (.aload_n 0, 1) by decide +kernel) rfl) ?_
  refine Iff.trans (zw_iload_n (show decode cX12_isOut 1 = .ok (.iload_n 1, 1) by decide +kernel) rfl) ?_
  refine Iff.trans (zw_bipush (x := 7) (show decode cX12_isOut 2 = .ok (.bipush 7, 2) by decide +kernel) (by decide)) ?_
  refine Iff.trans (zw_invV (K' := kX12_of) (as' := [.int x1, .int 7]) (rest := []) (show decode cX12_isOut 4 = .ok (.invokevirtual 229, 3) by decide +kernel) (by rfl) rfl rfl rfl (hl.k2 zk_131) (by decide) (hl.n2 zk_131) ⟨Nat.le_of_ble_eq_true rfl, Nat.le_of_ble_eq_true rfl, Nat.le_of_ble_eq_true rfl⟩) ?_
  exact Iff.rfl

theorem bX12_isOut_7 {d : Nat} {σ : zS} {Q : Option Value → zS → Prop} (hl : zLay σ) {x1 y0 : Int32} : zW (d + 1) kX12_isOut 7 [.ref 131, .int x1] [.int y0] σ Q ↔ (if y0 = (-1) then Q (some (.int 0)) σ else Q (some (.int 1)) σ) := by
  refine Iff.trans (zw_iconst (x := (-1)) (show decode cX12_isOut 7 = .ok (.iconst (-1), 1) by decide +kernel) (by decide)) ?_
  refine Iff.trans (zw_icmp_eq (t := 15) (show decode cX12_isOut 8 = .ok (.if_icmp .eq 7, 3) by decide +kernel) (by decide)) ?_
  refine zw_ite ?_ ?_
  · refine Iff.trans (zw_iconst (x := 0) (show decode cX12_isOut 15 = .ok (.iconst 0, 1) by decide +kernel) (by decide)) ?_
    exact zw_iret2c (show decode cX12_isOut 16 = .ok (.ireturn, 1) by decide +kernel) rfl (Or.inl rfl)
  · refine Iff.trans (zw_iconst (x := 1) (show decode cX12_isOut 11 = .ok (.iconst 1, 1) by decide +kernel) (by decide)) ?_
    refine Iff.trans (zw_goto (t := 16) (show decode cX12_isOut 12 = .ok (.goto 4, 3) by decide +kernel) (by decide)) ?_
    exact zw_iret2c (show decode cX12_isOut 16 = .ok (.ireturn, 1) by decide +kernel) rfl (Or.inr rfl)

theorem bX12_whoIs_0 {d : Nat} {σ : zS} {Q : Option Value → zS → Prop} (hl : zLay σ) {x1 x2 x3 : Int32} : zCall (d + 1) kX12_whoIs [.ref 131, .int x1, .int x2, .int x3] σ Q ↔ zW (d + 1) kX12_whoIs 3 [.ref 131, .int x1, .int x2, .int x3, .int 0] [] σ Q := by
  show zW (d + 1) kX12_whoIs 0 [.ref 131, .int x1, .int x2, .int x3, .retAddr 0] [] σ Q ↔ _
  refine Iff.trans (zw_iconst (x := 0) (show decode cX12_whoIs 0 = .ok (.iconst 0, 1) by decide +kernel) (by decide)) ?_
  refine Iff.trans (zw_istore (ls' := [.ref 131, .int x1, .int x2, .int x3, .int 0]) (show decode cX12_whoIs 1 = .ok (.istore 4, 2) by decide +kernel) (zset_s (Nat.le_of_ble_eq_true rfl) rfl)) ?_
  exact Iff.rfl

theorem bX12_whoIs_3 {d : Nat} {σ : zS} {Q : Option Value → zS → Prop} (hl : zLay σ) {x1 x2 x3 x4 : Int32} : zW (d + 1) kX12_whoIs 3 [.ref 131, .int x1, .int x2, .int x3, .int x4] [] σ Q ↔ (if (zI σ 131 20) ≤ x4 then Q (some (.int (-1))) σ else (if x4 = x3 then zW (d + 1) kX12_whoIs 3 [.ref 131, .int x1, .int x2, .int x3, .int (x4 + 1)] [] σ Q else zCall d kX12_isOut [.ref 131, .int x4] σ (fun r σ' => zisN r = true ∧ zW (d + 1) kX12_whoIs 24 [.ref 131, .int x1, .int x2, .int x3, .int x4] (zRstk r ++ []) σ' Q))) := by
  refine Iff.trans (zw_iload (show decode cX12_whoIs 3 = .ok (.iload 4, 2) by decide +kernel) rfl) ?_
  refine Iff.trans (zw_aload_n (show decode cX12_whoIs 5 = .ok (.aload_n 0, 1) by decide +kernel) rfl) ?_
  refine Iff.trans (zw_getI (show decode cX12_whoIs 6 = .ok (.getfield 222, 3) by decide +kernel) (by decide +kernel : zfld 12 222 = some (12, 20)) (hl.k2 zk_131) (hl.n2 zk_131) (Or.inl rfl) (w := zI σ 131 20) rfl) ?_
  refine Iff.trans (zw_icmp_ge (t := 78) (show decode cX12_whoIs 9 = .ok (.if_icmp .ge 69, 3) by decide +kernel) (by decide)) ?_
  refine zw_ite ?_ ?_
  · refine Iff.trans (zw_iconst (x := (-1)) (show decode cX12_whoIs 78 = .ok (.iconst (-1), 1) by decide +kernel) (by decide)) ?_
    exact zw_iret1 (show decode cX12_whoIs 79 = .ok (.ireturn, 1) by decide +kernel) rfl
  · refine Iff.trans (zw_iload (show decode cX12_whoIs 12 = .ok (.iload 4, 2) by decide +kernel) rfl) ?_
    refine Iff.trans (zw_iload_n (show decode cX12_whoIs 14 = .ok (.iload_n 3, 1) by decide +kernel) rfl) ?_
    refine Iff.trans (zw_icmp_eq (t := 72) (show decode cX12_whoIs 15 = .ok (.if_icmp .eq 57, 3) by decide +kernel) (by decide)) ?_
    refine zw_ite ?_ ?_
    · refine Iff.trans (zw_iinc (w := 1) (ls' := [.ref 131, .int x1, .int x2, .int x3, .int (x4 + 1)]) (show decode cX12_whoIs 72 = .ok (.iinc 4 1, 3) by decide +kernel) rfl (by decide) (zset_s (Nat.le_of_ble_eq_true rfl) rfl)) ?_
      refine Iff.trans (zw_goto (t := 3) (show decode cX12_whoIs 75 = .ok (.goto (-72), 3) by decide +kernel) (by decide)) ?_
      exact Iff.rfl
    · refine Iff.trans (zw_aload_n (show decode cX12_whoIs 18 = .ok (.aload_n 0, 1) by decide +kernel) rfl) ?_
      refine Iff.trans (zw_iload (show decode cX12_whoIs 19 = .ok (.iload 4, 2) by decide +kernel) rfl) ?_
      refine Iff.trans (zw_invV (K' := kX12_isOut) (as' := [.int x4]) (rest := []) (show decode cX12_whoIs 21 = .ok (.invokevirtual 235, 3) by decide +kernel) (by rfl) rfl rfl rfl (hl.k2 zk_131) (by decide) (hl.n2 zk_131) ⟨Nat.le_of_ble_eq_true rfl, Nat.le_of_ble_eq_true rfl, Nat.le_of_ble_eq_true rfl⟩) ?_
      exact Iff.rfl

theorem bX12_whoIs_24 {d : Nat} {σ : zS} {Q : Option Value → zS → Prop} (hl : zLay σ) {x1 x2 x3 x4 y0 : Int32} : zW (d + 1) kX12_whoIs 24 [.ref 131, .int x1, .int x2, .int x3, .int x4] [.int y0] σ Q ↔ (if y0 = (0 : Int32) then zCall d kX12_of [.ref 131, .int x4, .int 4] σ (fun r σ' => zisN r = true ∧ zW (d + 1) kX12_whoIs 34 [.ref 131, .int x1, .int x2, .int x3, .int x4] (zRstk r ++ []) σ' Q) else zW (d + 1) kX12_whoIs 3 [.ref 131, .int x1, .int x2, .int x3, .int (x4 + 1)] [] σ Q) := by
  refine Iff.trans (zw_if_ne (t := 72) (show decode cX12_whoIs 24 = .ok (.ifCond .ne 48, 3) by decide +kernel) (by decide)) ?_
  refine zw_ite ?_ ?_
  · refine Iff.trans (zw_aload_n (show decode cX12_whoIs 27 = .ok (.aload_n 0, 1) by decide +kernel) rfl) ?_
    refine Iff.trans (zw_iload (show decode cX12_whoIs 28 = .ok (.iload 4, 2) by decide +kernel) rfl) ?_
    refine Iff.trans (zw_iconst (x := 4) (show decode cX12_whoIs 30 = .ok (.iconst 4, 1) by decide +kernel) (by decide)) ?_
    refine Iff.trans (zw_invV (K' := kX12_of) (as' := [.int x4, .int 4]) (rest := []) (show decode cX12_whoIs 31 = .ok (.invokevirtual 229, 3) by decide +kernel) (by rfl) rfl rfl rfl (hl.k2 zk_131) (by decide) (hl.n2 zk_131) ⟨Nat.le_of_ble_eq_true rfl, Nat.le_of_ble_eq_true rfl, Nat.le_of_ble_eq_true rfl⟩) ?_
    exact Iff.rfl
  · refine Iff.trans (zw_iinc (w := 1) (ls' := [.ref 131, .int x1, .int x2, .int x3, .int (x4 + 1)]) (show decode cX12_whoIs 72 = .ok (.iinc 4 1, 3) by decide +kernel) rfl (by decide) (zset_s (Nat.le_of_ble_eq_true rfl) rfl)) ?_
    refine Iff.trans (zw_goto (t := 3) (show decode cX12_whoIs 75 = .ok (.goto (-72), 3) by decide +kernel) (by decide)) ?_
    exact Iff.rfl

theorem bX12_whoIs_34 {d : Nat} {σ : zS} {Q : Option Value → zS → Prop} (hl : zLay σ) {x1 x2 x3 x4 y0 : Int32} : zW (d + 1) kX12_whoIs 34 [.ref 131, .int x1, .int x2, .int x3, .int x4] [.int y0] σ Q ↔ (if y0 = x1 then zCall d kX12_of [.ref 131, .int x4, .int 5] σ (fun r σ' => zisN r = true ∧ zW (d + 1) kX12_whoIs 46 [.ref 131, .int x1, .int x2, .int x3, .int x4] (zRstk r ++ [.int x2]) σ' Q) else zW (d + 1) kX12_whoIs 3 [.ref 131, .int x1, .int x2, .int x3, .int (x4 + 1)] [] σ Q) := by
  refine Iff.trans (zw_iload_n (show decode cX12_whoIs 34 = .ok (.iload_n 1, 1) by decide +kernel) rfl) ?_
  refine Iff.trans (zw_icmp_ne (t := 72) (show decode cX12_whoIs 35 = .ok (.if_icmp .ne 37, 3) by decide +kernel) (by decide)) ?_
  refine zw_ite ?_ ?_
  · refine Iff.trans (zw_iload_n (show decode cX12_whoIs 38 = .ok (.iload_n 2, 1) by decide +kernel) rfl) ?_
    refine Iff.trans (zw_aload_n (show decode cX12_whoIs 39 = .ok (.aload_n 0, 1) by decide +kernel) rfl) ?_
    refine Iff.trans (zw_iload (show decode cX12_whoIs 40 = .ok (.iload 4, 2) by decide +kernel) rfl) ?_
    refine Iff.trans (zw_iconst (x := 5) (show decode cX12_whoIs 42 = .ok (.iconst 5, 1) by decide +kernel) (by decide)) ?_
    refine Iff.trans (zw_invV (K' := kX12_of) (as' := [.int x4, .int 5]) (rest := [.int x2]) (show decode cX12_whoIs 43 = .ok (.invokevirtual 229, 3) by decide +kernel) (by rfl) rfl rfl rfl (hl.k2 zk_131) (by decide) (hl.n2 zk_131) ⟨Nat.le_of_ble_eq_true rfl, Nat.le_of_ble_eq_true rfl, Nat.le_of_ble_eq_true rfl⟩) ?_
    exact Iff.rfl
  · refine Iff.trans (zw_iinc (w := 1) (ls' := [.ref 131, .int x1, .int x2, .int x3, .int (x4 + 1)]) (show decode cX12_whoIs 72 = .ok (.iinc 4 1, 3) by decide +kernel) rfl (by decide) (zset_s (Nat.le_of_ble_eq_true rfl) rfl)) ?_
    refine Iff.trans (zw_goto (t := 3) (show decode cX12_whoIs 75 = .ok (.goto (-72), 3) by decide +kernel) (by decide)) ?_
    exact Iff.rfl

theorem bX12_whoIs_46 {d : Nat} {σ : zS} {Q : Option Value → zS → Prop} (hl : zLay σ) {x1 x2 x3 x4 y0 y1 : Int32} : zW (d + 1) kX12_whoIs 46 [.ref 131, .int x1, .int x2, .int x3, .int x4] [.int y0, .int y1] σ Q ↔ zCall d kX12_of [.ref 131, .int x4, .int 5] σ (fun r σ' => zisN r = true ∧ zW (d + 1) kX12_whoIs 53 [.ref 131, .int x1, .int x2, .int x3, .int x4] (zRstk r ++ [.int y0, .int y1]) σ' Q) := by
  refine Iff.trans (zw_aload_n (show decode cX12_whoIs 46 = .ok (.aload_n 0, 1) by decide +kernel) rfl) ?_
  refine Iff.trans (zw_iload (show decode cX12_whoIs 47 = .ok (.iload 4, 2) by decide +kernel) rfl) ?_
  refine Iff.trans (zw_iconst (x := 5) (show decode cX12_whoIs 49 = .ok (.iconst 5, 1) by decide +kernel) (by decide)) ?_
  refine Iff.trans (zw_invV (K' := kX12_of) (as' := [.int x4, .int 5]) (rest := [.int y0, .int y1]) (show decode cX12_whoIs 50 = .ok (.invokevirtual 229, 3) by decide +kernel) (by rfl) rfl rfl rfl (hl.k2 zk_131) (by decide) (hl.n2 zk_131) ⟨Nat.le_of_ble_eq_true rfl, Nat.le_of_ble_eq_true rfl, Nat.le_of_ble_eq_true rfl⟩) ?_
  exact Iff.rfl

theorem bX12_whoIs_53 {d : Nat} {σ : zS} {Q : Option Value → zS → Prop} (hl : zLay σ) {x1 x2 x3 x4 y0 y1 y2 : Int32} : zW (d + 1) kX12_whoIs 53 [.ref 131, .int x1, .int x2, .int x3, .int x4] [.int y0, .int y1, .int y2] σ Q ↔ zCall d kX12_of [.ref 131, .int x4, .int 0] σ (fun r σ' => zisN r = true ∧ zW (d + 1) kX12_whoIs 60 [.ref 131, .int x1, .int x2, .int x3, .int x4] (zRstk r ++ [.int y0, .int y1, .int y2]) σ' Q) := by
  refine Iff.trans (zw_aload_n (show decode cX12_whoIs 53 = .ok (.aload_n 0, 1) by decide +kernel) rfl) ?_
  refine Iff.trans (zw_iload (show decode cX12_whoIs 54 = .ok (.iload 4, 2) by decide +kernel) rfl) ?_
  refine Iff.trans (zw_iconst (x := 0) (show decode cX12_whoIs 56 = .ok (.iconst 0, 1) by decide +kernel) (by decide)) ?_
  refine Iff.trans (zw_invV (K' := kX12_of) (as' := [.int x4, .int 0]) (rest := [.int y0, .int y1, .int y2]) (show decode cX12_whoIs 57 = .ok (.invokevirtual 229, 3) by decide +kernel) (by rfl) rfl rfl rfl (hl.k2 zk_131) (by decide) (hl.n2 zk_131) ⟨Nat.le_of_ble_eq_true rfl, Nat.le_of_ble_eq_true rfl, Nat.le_of_ble_eq_true rfl⟩) ?_
  exact Iff.rfl

theorem bX12_whoIs_60 {d : Nat} {σ : zS} {Q : Option Value → zS → Prop} (hl : zLay σ) {x1 x2 x3 x4 y0 y1 y2 y3 : Int32} : zW (d + 1) kX12_whoIs 60 [.ref 131, .int x1, .int x2, .int x3, .int x4] [.int y0, .int y1, .int y2, .int y3] σ Q ↔ zCall d kX12_isIn [.int y3, .int y2, .int ((y1 + y0) - 1)] σ (fun r σ' => zisN r = true ∧ zW (d + 1) kX12_whoIs 66 [.ref 131, .int x1, .int x2, .int x3, .int x4] (zRstk r ++ []) σ' Q) := by
  refine Iff.trans (zw_iadd (show decode cX12_whoIs 60 = .ok (.iadd, 1) by decide +kernel)) ?_
  refine Iff.trans (zw_iconst (x := 1) (show decode cX12_whoIs 61 = .ok (.iconst 1, 1) by decide +kernel) (by decide)) ?_
  refine Iff.trans (zw_isub (show decode cX12_whoIs 62 = .ok (.isub, 1) by decide +kernel)) ?_
  refine Iff.trans (zw_invS (K' := kX12_isIn) (as := [.int y3, .int y2, .int ((y1 + y0) - 1)]) (rest := []) (show decode cX12_whoIs 63 = .ok (.invokestatic 163, 3) by decide +kernel) (by rfl) rfl rfl rfl ⟨Nat.le_of_ble_eq_true rfl, Nat.le_of_ble_eq_true rfl, Nat.le_of_ble_eq_true rfl⟩) ?_
  exact Iff.rfl

theorem bX12_whoIs_66 {d : Nat} {σ : zS} {Q : Option Value → zS → Prop} (hl : zLay σ) {x1 x2 x3 x4 y0 : Int32} : zW (d + 1) kX12_whoIs 66 [.ref 131, .int x1, .int x2, .int x3, .int x4] [.int y0] σ Q ↔ (if y0 = (0 : Int32) then zW (d + 1) kX12_whoIs 3 [.ref 131, .int x1, .int x2, .int x3, .int (x4 + 1)] [] σ Q else Q (some (.int x4)) σ) := by
  refine Iff.trans (zw_if_eq (t := 72) (show decode cX12_whoIs 66 = .ok (.ifCond .eq 6, 3) by decide +kernel) (by decide)) ?_
  refine zw_ite ?_ ?_
  · refine Iff.trans (zw_iinc (w := 1) (ls' := [.ref 131, .int x1, .int x2, .int x3, .int (x4 + 1)]) (show decode cX12_whoIs 72 = .ok (.iinc 4 1, 3) by decide +kernel) rfl (by decide) (zset_s (Nat.le_of_ble_eq_true rfl) rfl)) ?_
    refine Iff.trans (zw_goto (t := 3) (show decode cX12_whoIs 75 = .ok (.goto (-72), 3) by decide +kernel) (by decide)) ?_
    exact Iff.rfl
  · refine Iff.trans (zw_iload (show decode cX12_whoIs 69 = .ok (.iload 4, 2) by decide +kernel) rfl) ?_
    exact zw_iret1 (show decode cX12_whoIs 71 = .ok (.ireturn, 1) by decide +kernel) rfl

theorem bX12_isFree_0 {d : Nat} {σ : zS} {Q : Option Value → zS → Prop} (hl : zLay σ) {x1 x2 x3 x4 : Int32} : zCall (d + 1) kX12_isFree [.ref 131, .int x1, .int x2, .int x3, .int x4] σ Q ↔ zW (d + 1) kX12_isFree 4 [.ref 131, .int x1, .int x2, .int x3, .int x4, .int x4] [] σ Q := by
  show zW (d + 1) kX12_isFree 0 [.ref 131, .int x1, .int x2, .int x3, .int x4, .retAddr 0] [] σ Q ↔ _
  refine Iff.trans (zw_iload (show decode cX12_isFree 0 = .ok (.iload 4, 2) by decide +kernel) rfl) ?_
  refine Iff.trans (zw_istore (ls' := [.ref 131, .int x1, .int x2, .int x3, .int x4, .int x4]) (show decode cX12_isFree 2 = .ok (.istore 5, 2) by decide +kernel) (zset_s (Nat.le_of_ble_eq_true rfl) rfl)) ?_
  exact Iff.rfl

theorem bX12_isFree_4 {d : Nat} {σ : zS} {Q : Option Value → zS → Prop} (hl : zLay σ) {x1 x2 x3 x4 x5 : Int32} : zW (d + 1) kX12_isFree 4 [.ref 131, .int x1, .int x2, .int x3, .int x4, .int x5] [] σ Q ↔ (if (x4 + x2) ≤ x5 then Q (some (.int 1)) σ else zCall d kX12_whoIs [.ref 131, .int x3, .int x5, .int x1] σ (fun r σ' => zisN r = true ∧ zW (d + 1) kX12_isFree 21 [.ref 131, .int x1, .int x2, .int x3, .int x4, .int x5] (zRstk r ++ []) σ' Q)) := by
  refine Iff.trans (zw_iload (show decode cX12_isFree 4 = .ok (.iload 5, 2) by decide +kernel) rfl) ?_
  refine Iff.trans (zw_iload (show decode cX12_isFree 6 = .ok (.iload 4, 2) by decide +kernel) rfl) ?_
  refine Iff.trans (zw_iload_n (show decode cX12_isFree 8 = .ok (.iload_n 2, 1) by decide +kernel) rfl) ?_
  refine Iff.trans (zw_iadd (show decode cX12_isFree 9 = .ok (.iadd, 1) by decide +kernel)) ?_
  refine Iff.trans (zw_icmp_ge (t := 33) (show decode cX12_isFree 10 = .ok (.if_icmp .ge 23, 3) by decide +kernel) (by decide)) ?_
  refine zw_ite ?_ ?_
  · refine Iff.trans (zw_iconst (x := 1) (show decode cX12_isFree 33 = .ok (.iconst 1, 1) by decide +kernel) (by decide)) ?_
    exact zw_iret2c (show decode cX12_isFree 34 = .ok (.ireturn, 1) by decide +kernel) rfl (Or.inr rfl)
  · refine Iff.trans (zw_aload_n (show decode cX12_isFree 13 = .ok (.aload_n 0, 1) by decide +kernel) rfl) ?_
    refine Iff.trans (zw_iload_n (show decode cX12_isFree 14 = .ok (.iload_n 3, 1) by decide +kernel) rfl) ?_
    refine Iff.trans (zw_iload (show decode cX12_isFree 15 = .ok (.iload 5, 2) by decide +kernel) rfl) ?_
    refine Iff.trans (zw_iload_n (show decode cX12_isFree 17 = .ok (.iload_n 1, 1) by decide +kernel) rfl) ?_
    refine Iff.trans (zw_invV (K' := kX12_whoIs) (as' := [.int x3, .int x5, .int x1]) (rest := []) (show decode cX12_isFree 18 = .ok (.invokevirtual 238, 3) by decide +kernel) (by rfl) rfl rfl rfl (hl.k2 zk_131) (by decide) (hl.n2 zk_131) ⟨Nat.le_of_ble_eq_true rfl, Nat.le_of_ble_eq_true rfl, Nat.le_of_ble_eq_true rfl⟩) ?_
    exact Iff.rfl

theorem bX12_isFree_21 {d : Nat} {σ : zS} {Q : Option Value → zS → Prop} (hl : zLay σ) {x1 x2 x3 x4 x5 y0 : Int32} : zW (d + 1) kX12_isFree 21 [.ref 131, .int x1, .int x2, .int x3, .int x4, .int x5] [.int y0] σ Q ↔ (if y0 = (-1) then zW (d + 1) kX12_isFree 4 [.ref 131, .int x1, .int x2, .int x3, .int x4, .int (x5 + 1)] [] σ Q else Q (some (.int 0)) σ) := by
  refine Iff.trans (zw_iconst (x := (-1)) (show decode cX12_isFree 21 = .ok (.iconst (-1), 1) by decide +kernel) (by decide)) ?_
  refine Iff.trans (zw_icmp_eq (t := 27) (show decode cX12_isFree 22 = .ok (.if_icmp .eq 5, 3) by decide +kernel) (by decide)) ?_
  refine zw_ite ?_ ?_
  · refine Iff.trans (zw_iinc (w := 1) (ls' := [.ref 131, .int x1, .int x2, .int x3, .int x4, .int (x5 + 1)]) (show decode cX12_isFree 27 = .ok (.iinc 5 1, 3) by decide +kernel) rfl (by decide) (zset_s (Nat.le_of_ble_eq_true rfl) rfl)) ?_
    refine Iff.trans (zw_goto (t := 4) (show decode cX12_isFree 30 = .ok (.goto (-26), 3) by decide +kernel) (by decide)) ?_
    exact Iff.rfl
  · refine Iff.trans (zw_iconst (x := 0) (show decode cX12_isFree 25 = .ok (.iconst 0, 1) by decide +kernel) (by decide)) ?_
    exact zw_iret2c (show decode cX12_isFree 26 = .ok (.ireturn, 1) by decide +kernel) rfl (Or.inl rfl)

theorem bX12_runner_0 {d : Nat} {σ : zS} {Q : Option Value → zS → Prop} (hl : zLay σ) {x1 x2 : Int32} : zCall (d + 1) kX12_runner [.ref 131, .int x1, .int x2] σ Q ↔ (if (zI σ 131 19) = (-1) then Q (some (.int (-1))) (zsI σ 131 (upd (zI σ 131) 0 0)) else (if (zI σ 131 21) = (-1) then (if (zI σ 131 20) = 6 then Q (some (.int (-1))) (zsI σ 131 (upd (zI σ 131) 0 0)) else zCall d kX12_isStick [.ref 131, .int x1] (zsI σ 131 (upd (zI σ 131) 0 0)) (fun r σ' => zisN r = true ∧ zW (d + 1) kX12_runner 35 [.ref 131, .int x1, .int x2] (zRstk r ++ []) σ' Q)) else Q (some (.int (-1))) (zsI σ 131 (upd (zI σ 131) 0 0)))) := by
  show zW (d + 1) kX12_runner 0 [.ref 131, .int x1, .int x2] [] σ Q ↔ _
  refine Iff.trans (zw_aload_n (show decode cX12_runner 0 = .ok (.aload_n 0, 1) by decide +kernel) rfl) ?_
  refine Iff.trans (zw_iconst (x := 0) (show decode cX12_runner 1 = .ok (.iconst 0, 1) by decide +kernel) (by decide)) ?_
  refine Iff.trans (zw_putI (show decode cX12_runner 2 = .ok (.putfield 118, 3) by decide +kernel) (by decide +kernel : zfld 12 118 = some (12, 0)) (hl.k2 zk_131) (hl.n2 zk_131) rfl (Or.inl rfl) (σ' := (zsI σ 131 (upd (zI σ 131) 0 0))) rfl) ?_
  refine Iff.trans (zw_aload_n (show decode cX12_runner 5 = .ok (.aload_n 0, 1) by decide +kernel) rfl) ?_
  refine Iff.trans (zw_getI (show decode cX12_runner 6 = .ok (.getfield 45, 3) by decide +kernel) (by decide +kernel : zfld 12 45 = some (12, 19)) (hl.I.k2 zk_131) (hl.I.n2 zk_131) (Or.inl rfl) (w := zI σ 131 19) (congrFun zI_self 19)) ?_
  refine Iff.trans (zw_iconst (x := (-1)) (show decode cX12_runner 9 = .ok (.iconst (-1), 1) by decide +kernel) (by decide)) ?_
  refine Iff.trans (zw_icmp_eq (t := 73) (show decode cX12_runner 10 = .ok (.if_icmp .eq 63, 3) by decide +kernel) (by decide)) ?_
  refine zw_ite ?_ ?_
  · refine Iff.trans (zw_iconst (x := (-1)) (show decode cX12_runner 73 = .ok (.iconst (-1), 1) by decide +kernel) (by decide)) ?_
    exact zw_iret1 (show decode cX12_runner 74 = .ok (.ireturn, 1) by decide +kernel) rfl
  · refine Iff.trans (zw_aload_n (show decode cX12_runner 13 = .ok (.aload_n 0, 1) by decide +kernel) rfl) ?_
    refine Iff.trans (zw_getI (show decode cX12_runner 14 = .ok (.getfield 48, 3) by decide +kernel) (by decide +kernel : zfld 12 48 = some (12, 21)) (hl.I.k2 zk_131) (hl.I.n2 zk_131) (Or.inl rfl) (w := zI σ 131 21) (congrFun zI_self 21)) ?_
    refine Iff.trans (zw_iconst (x := (-1)) (show decode cX12_runner 17 = .ok (.iconst (-1), 1) by decide +kernel) (by decide)) ?_
    refine Iff.trans (zw_icmp_ne (t := 73) (show decode cX12_runner 18 = .ok (.if_icmp .ne 55, 3) by decide +kernel) (by decide)) ?_
    refine zw_ite ?_ ?_
    · refine Iff.trans (zw_aload_n (show decode cX12_runner 21 = .ok (.aload_n 0, 1) by decide +kernel) rfl) ?_
      refine Iff.trans (zw_getI (show decode cX12_runner 22 = .ok (.getfield 222, 3) by decide +kernel) (by decide +kernel : zfld 12 222 = some (12, 20)) (hl.I.k2 zk_131) (hl.I.n2 zk_131) (Or.inl rfl) (w := zI σ 131 20) (congrFun zI_self 20)) ?_
      refine Iff.trans (zw_bipush (x := 6) (show decode cX12_runner 25 = .ok (.bipush 6, 2) by decide +kernel) (by decide)) ?_
      refine Iff.trans (zw_icmp_eq (t := 73) (show decode cX12_runner 27 = .ok (.if_icmp .eq 46, 3) by decide +kernel) (by decide)) ?_
      refine zw_ite ?_ ?_
      · refine Iff.trans (zw_iconst (x := (-1)) (show decode cX12_runner 73 = .ok (.iconst (-1), 1) by decide +kernel) (by decide)) ?_
        exact zw_iret1 (show decode cX12_runner 74 = .ok (.ireturn, 1) by decide +kernel) rfl
      · refine Iff.trans (zw_aload_n (show decode cX12_runner 30 = .ok (.aload_n 0, 1) by decide +kernel) rfl) ?_
        refine Iff.trans (zw_iload_n (show decode cX12_runner 31 = .ok (.iload_n 1, 1) by decide +kernel) rfl) ?_
        refine Iff.trans (zw_invV (K' := kX12_isStick) (as' := [.int x1]) (rest := []) (show decode cX12_runner 32 = .ok (.invokevirtual 209, 3) by decide +kernel) (by rfl) rfl rfl rfl (hl.I.k2 zk_131) (by decide) (hl.I.n2 zk_131) ⟨Nat.le_of_ble_eq_true rfl, Nat.le_of_ble_eq_true rfl, Nat.le_of_ble_eq_true rfl⟩) ?_
        exact Iff.rfl
    · refine Iff.trans (zw_iconst (x := (-1)) (show decode cX12_runner 73 = .ok (.iconst (-1), 1) by decide +kernel) (by decide)) ?_
      exact zw_iret1 (show decode cX12_runner 74 = .ok (.ireturn, 1) by decide +kernel) rfl

theorem bX12_runner_35 {d : Nat} {σ : zS} {Q : Option Value → zS → Prop} (hl : zLay σ) {x1 x2 y0 : Int32} : zW (d + 1) kX12_runner 35 [.ref 131, .int x1, .int x2] [.int y0] σ Q ↔ (if y0 = (0 : Int32) then Q (some (.int (-1))) σ else (vp_in x1 11 ∧ zCall d kX12_canLie [.ref 131, .int (zI σ 131 19), .int (zI σ 136 (x1 : Int32).toNatClampNeg), .int 0, .int x2] σ (fun r σ' => zisN r = true ∧ zW (d + 1) kX12_runner 54 [.ref 131, .int x1, .int x2] (zRstk r ++ []) σ' Q))) := by
  refine Iff.trans (zw_if_eq (t := 73) (show decode cX12_runner 35 = .ok (.ifCond .eq 38, 3) by decide +kernel) (by decide)) ?_
  refine zw_ite ?_ ?_
  · refine Iff.trans (zw_iconst (x := (-1)) (show decode cX12_runner 73 = .ok (.iconst (-1), 1) by decide +kernel) (by decide)) ?_
    exact zw_iret1 (show decode cX12_runner 74 = .ok (.ireturn, 1) by decide +kernel) rfl
  · refine Iff.trans (zw_aload_n (show decode cX12_runner 38 = .ok (.aload_n 0, 1) by decide +kernel) rfl) ?_
    refine Iff.trans (zw_aload_n (show decode cX12_runner 39 = .ok (.aload_n 0, 1) by decide +kernel) rfl) ?_
    refine Iff.trans (zw_getI (show decode cX12_runner 40 = .ok (.getfield 45, 3) by decide +kernel) (by decide +kernel : zfld 12 45 = some (12, 19)) (hl.k2 zk_131) (hl.n2 zk_131) (Or.inl rfl) (w := zI σ 131 19) rfl) ?_
    refine Iff.trans (zw_aload_n (show decode cX12_runner 43 = .ok (.aload_n 0, 1) by decide +kernel) rfl) ?_
    refine Iff.trans (zw_get (show decode cX12_runner 44 = .ok (.getfield 23, 3) by decide +kernel) (by decide +kernel : zfld 12 23 = some (12, 8)) (hl.k2 zk_131) (hl.n2 zk_131) (zgetR (v := 136) (hl.r zrt_131_8) rfl)) ?_
    refine Iff.trans (zw_iload_n (show decode cX12_runner 47 = .ok (.iload_n 1, 1) by decide +kernel) rfl) ?_
    refine Iff.trans (zw_iald2 (show decode cX12_runner 48 = .ok (.iaload, 1) by decide +kernel) (hl.k2 zk_136) (hl.n2 zk_136) (hl.l2 zk_136 zl_136) (w := zI σ 136 (x1 : Int32).toNatClampNeg) rfl) ?_
    refine zw_and ?_
    refine Iff.trans (zw_iconst (x := 0) (show decode cX12_runner 49 = .ok (.iconst 0, 1) by decide +kernel) (by decide)) ?_
    refine Iff.trans (zw_iload_n (show decode cX12_runner 50 = .ok (.iload_n 2, 1) by decide +kernel) rfl) ?_
    refine Iff.trans (zw_invV (K' := kX12_canLie) (as' := [.int (zI σ 131 19), .int (zI σ 136 (x1 : Int32).toNatClampNeg), .int 0, .int x2]) (rest := []) (show decode cX12_runner 51 = .ok (.invokevirtual 218, 3) by decide +kernel) (by rfl) rfl rfl rfl (hl.k2 zk_131) (by decide) (hl.n2 zk_131) ⟨Nat.le_of_ble_eq_true rfl, Nat.le_of_ble_eq_true rfl, Nat.le_of_ble_eq_true rfl⟩) ?_
    exact Iff.rfl

theorem bX12_runner_54 {d : Nat} {σ : zS} {Q : Option Value → zS → Prop} (hl : zLay σ) {x1 x2 y0 : Int32} : zW (d + 1) kX12_runner 54 [.ref 131, .int x1, .int x2] [.int y0] σ Q ↔ (if y0 = (0 : Int32) then Q (some (.int (-1))) σ else (vp_in x1 11 ∧ zCall d kX12_isFree [.ref 131, .int (-1), .int (zI σ 136 (x1 : Int32).toNatClampNeg), .int 0, .int x2] σ (fun r σ' => zisN r = true ∧ zW (d + 1) kX12_runner 70 [.ref 131, .int x1, .int x2] (zRstk r ++ []) σ' Q))) := by
  refine Iff.trans (zw_if_eq (t := 73) (show decode cX12_runner 54 = .ok (.ifCond .eq 19, 3) by decide +kernel) (by decide)) ?_
  refine zw_ite ?_ ?_
  · refine Iff.trans (zw_iconst (x := (-1)) (show decode cX12_runner 73 = .ok (.iconst (-1), 1) by decide +kernel) (by decide)) ?_
    exact zw_iret1 (show decode cX12_runner 74 = .ok (.ireturn, 1) by decide +kernel) rfl
  · refine Iff.trans (zw_aload_n (show decode cX12_runner 57 = .ok (.aload_n 0, 1) by decide +kernel) rfl) ?_
    refine Iff.trans (zw_iconst (x := (-1)) (show decode cX12_runner 58 = .ok (.iconst (-1), 1) by decide +kernel) (by decide)) ?_
    refine Iff.trans (zw_aload_n (show decode cX12_runner 59 = .ok (.aload_n 0, 1) by decide +kernel) rfl) ?_
    refine Iff.trans (zw_get (show decode cX12_runner 60 = .ok (.getfield 23, 3) by decide +kernel) (by decide +kernel : zfld 12 23 = some (12, 8)) (hl.k2 zk_131) (hl.n2 zk_131) (zgetR (v := 136) (hl.r zrt_131_8) rfl)) ?_
    refine Iff.trans (zw_iload_n (show decode cX12_runner 63 = .ok (.iload_n 1, 1) by decide +kernel) rfl) ?_
    refine Iff.trans (zw_iald2 (show decode cX12_runner 64 = .ok (.iaload, 1) by decide +kernel) (hl.k2 zk_136) (hl.n2 zk_136) (hl.l2 zk_136 zl_136) (w := zI σ 136 (x1 : Int32).toNatClampNeg) rfl) ?_
    refine zw_and ?_
    refine Iff.trans (zw_iconst (x := 0) (show decode cX12_runner 65 = .ok (.iconst 0, 1) by decide +kernel) (by decide)) ?_
    refine Iff.trans (zw_iload_n (show decode cX12_runner 66 = .ok (.iload_n 2, 1) by decide +kernel) rfl) ?_
    refine Iff.trans (zw_invV (K' := kX12_isFree) (as' := [.int (-1), .int (zI σ 136 (x1 : Int32).toNatClampNeg), .int 0, .int x2]) (rest := []) (show decode cX12_runner 67 = .ok (.invokevirtual 241, 3) by decide +kernel) (by rfl) rfl rfl rfl (hl.k2 zk_131) (by decide) (hl.n2 zk_131) ⟨Nat.le_of_ble_eq_true rfl, Nat.le_of_ble_eq_true rfl, Nat.le_of_ble_eq_true rfl⟩) ?_
    exact Iff.rfl

theorem bX12_runner_70 {d : Nat} {σ : zS} {Q : Option Value → zS → Prop} (hl : zLay σ) {x1 x2 y0 : Int32} : zW (d + 1) kX12_runner 70 [.ref 131, .int x1, .int x2] [.int y0] σ Q ↔ (if y0 = (0 : Int32) then Q (some (.int (-1))) σ else (vp_in x1 11 ∧ (vp_in x1 11 ∧ (vp_in x1 11 ∧ zCall d kX12_join [.ref 131, .int (zI σ 136 (x1 : Int32).toNatClampNeg), .int (zI σ 137 (x1 : Int32).toNatClampNeg), .int (zI σ 138 (x1 : Int32).toNatClampNeg), .int x2] σ (fun r σ' => zisN r = true ∧ zW (d + 1) kX12_runner 98 [.ref 131, .int x1, .int x2] (zRstk r ++ []) σ' Q))))) := by
  refine Iff.trans (zw_if_ne (t := 75) (show decode cX12_runner 70 = .ok (.ifCond .ne 5, 3) by decide +kernel) (by decide)) ?_
  refine zw_ite ?_ ?_
  · refine Iff.trans (zw_iconst (x := (-1)) (show decode cX12_runner 73 = .ok (.iconst (-1), 1) by decide +kernel) (by decide)) ?_
    exact zw_iret1 (show decode cX12_runner 74 = .ok (.ireturn, 1) by decide +kernel) rfl
  · refine Iff.trans (zw_aload_n (show decode cX12_runner 75 = .ok (.aload_n 0, 1) by decide +kernel) rfl) ?_
    refine Iff.trans (zw_aload_n (show decode cX12_runner 76 = .ok (.aload_n 0, 1) by decide +kernel) rfl) ?_
    refine Iff.trans (zw_get (show decode cX12_runner 77 = .ok (.getfield 23, 3) by decide +kernel) (by decide +kernel : zfld 12 23 = some (12, 8)) (hl.k2 zk_131) (hl.n2 zk_131) (zgetR (v := 136) (hl.r zrt_131_8) rfl)) ?_
    refine Iff.trans (zw_iload_n (show decode cX12_runner 80 = .ok (.iload_n 1, 1) by decide +kernel) rfl) ?_
    refine Iff.trans (zw_iald2 (show decode cX12_runner 81 = .ok (.iaload, 1) by decide +kernel) (hl.k2 zk_136) (hl.n2 zk_136) (hl.l2 zk_136 zl_136) (w := zI σ 136 (x1 : Int32).toNatClampNeg) rfl) ?_
    refine zw_and ?_
    refine Iff.trans (zw_aload_n (show decode cX12_runner 82 = .ok (.aload_n 0, 1) by decide +kernel) rfl) ?_
    refine Iff.trans (zw_get (show decode cX12_runner 83 = .ok (.getfield 26, 3) by decide +kernel) (by decide +kernel : zfld 12 26 = some (12, 9)) (hl.k2 zk_131) (hl.n2 zk_131) (zgetR (v := 137) (hl.r zrt_131_9) rfl)) ?_
    refine Iff.trans (zw_iload_n (show decode cX12_runner 86 = .ok (.iload_n 1, 1) by decide +kernel) rfl) ?_
    refine Iff.trans (zw_iald2 (show decode cX12_runner 87 = .ok (.iaload, 1) by decide +kernel) (hl.k2 zk_137) (hl.n2 zk_137) (hl.l2 zk_137 zl_137) (w := zI σ 137 (x1 : Int32).toNatClampNeg) rfl) ?_
    refine zw_and ?_
    refine Iff.trans (zw_aload_n (show decode cX12_runner 88 = .ok (.aload_n 0, 1) by decide +kernel) rfl) ?_
    refine Iff.trans (zw_get (show decode cX12_runner 89 = .ok (.getfield 29, 3) by decide +kernel) (by decide +kernel : zfld 12 29 = some (12, 10)) (hl.k2 zk_131) (hl.n2 zk_131) (zgetR (v := 138) (hl.r zrt_131_10) rfl)) ?_
    refine Iff.trans (zw_iload_n (show decode cX12_runner 92 = .ok (.iload_n 1, 1) by decide +kernel) rfl) ?_
    refine Iff.trans (zw_iald2 (show decode cX12_runner 93 = .ok (.iaload, 1) by decide +kernel) (hl.k2 zk_138) (hl.n2 zk_138) (hl.l2 zk_138 zl_138) (w := zI σ 138 (x1 : Int32).toNatClampNeg) rfl) ?_
    refine zw_and ?_
    refine Iff.trans (zw_iload_n (show decode cX12_runner 94 = .ok (.iload_n 2, 1) by decide +kernel) rfl) ?_
    refine Iff.trans (zw_invV (K' := kX12_join) (as' := [.int (zI σ 136 (x1 : Int32).toNatClampNeg), .int (zI σ 137 (x1 : Int32).toNatClampNeg), .int (zI σ 138 (x1 : Int32).toNatClampNeg), .int x2]) (rest := []) (show decode cX12_runner 95 = .ok (.invokevirtual 244, 3) by decide +kernel) (by rfl) rfl rfl rfl (hl.k2 zk_131) (by decide) (hl.n2 zk_131) ⟨Nat.le_of_ble_eq_true rfl, Nat.le_of_ble_eq_true rfl, Nat.le_of_ble_eq_true rfl⟩) ?_
    exact Iff.rfl

theorem bX12_runner_98 {d : Nat} {σ : zS} {Q : Option Value → zS → Prop} (hl : zLay σ) {x1 x2 : Int32} : zW (d + 1) kX12_runner 98 [.ref 131, .int x1, .int x2] [] σ Q ↔ Q (some (.int ((zI σ 131 20) - 1))) σ := by
  refine Iff.trans (zw_aload_n (show decode cX12_runner 98 = .ok (.aload_n 0, 1) by decide +kernel) rfl) ?_
  refine Iff.trans (zw_getI (show decode cX12_runner 99 = .ok (.getfield 222, 3) by decide +kernel) (by decide +kernel : zfld 12 222 = some (12, 20)) (hl.k2 zk_131) (hl.n2 zk_131) (Or.inl rfl) (w := zI σ 131 20) rfl) ?_
  refine Iff.trans (zw_iconst (x := 1) (show decode cX12_runner 102 = .ok (.iconst 1, 1) by decide +kernel) (by decide)) ?_
  refine Iff.trans (zw_isub (show decode cX12_runner 103 = .ok (.isub, 1) by decide +kernel)) ?_
  exact zw_iret1 (show decode cX12_runner 104 = .ok (.ireturn, 1) by decide +kernel) rfl

theorem bX12_canStart_0 {d : Nat} {σ : zS} {Q : Option Value → zS → Prop} (hl : zLay σ) : zCall (d + 1) kX12_canStart [.ref 131] σ Q ↔ zW (d + 1) kX12_canStart 2 [.ref 131, .int 0] [] σ Q := by
  show zW (d + 1) kX12_canStart 0 [.ref 131, .retAddr 0] [] σ Q ↔ _
  refine Iff.trans (zw_iconst (x := 0) (show decode cX12_canStart 0 = .ok (.iconst 0, 1) by decide +kernel) (by decide)) ?_
  refine Iff.trans (zw_istore_n (ls' := [.ref 131, .int 0]) (show decode cX12_canStart 1 = .ok (.istore_n 1, 1) by decide +kernel) (zset_s (Nat.le_of_ble_eq_true rfl) rfl)) ?_
  exact Iff.rfl

theorem bX12_canStart_2 {d : Nat} {σ : zS} {Q : Option Value → zS → Prop} (hl : zLay σ) {x1 : Int32} : zW (d + 1) kX12_canStart 2 [.ref 131, .int x1] [] σ Q ↔ (if (zI σ 131 20) ≤ x1 then (if (zI σ 131 20) ≤ (0 : Int32) then Q (some (.int 0)) σ else Q (some (.int 1)) σ) else zCall d kX12_of [.ref 131, .int x1, .int 0] σ (fun r σ' => zisN r = true ∧ zW (d + 1) kX12_canStart 21 [.ref 131, .int x1] (zRstk r ++ [.int (zI σ 131 19), .ref 131]) σ' Q)) := by
  refine Iff.trans (zw_iload_n (show decode cX12_canStart 2 = .ok (.iload_n 1, 1) by decide +kernel) rfl) ?_
  refine Iff.trans (zw_aload_n (show decode cX12_canStart 3 = .ok (.aload_n 0, 1) by decide +kernel) rfl) ?_
  refine Iff.trans (zw_getI (show decode cX12_canStart 4 = .ok (.getfield 222, 3) by decide +kernel) (by decide +kernel : zfld 12 222 = some (12, 20)) (hl.k2 zk_131) (hl.n2 zk_131) (Or.inl rfl) (w := zI σ 131 20) rfl) ?_
  refine Iff.trans (zw_icmp_ge (t := 42) (show decode cX12_canStart 7 = .ok (.if_icmp .ge 35, 3) by decide +kernel) (by decide)) ?_
  refine zw_ite ?_ ?_
  · refine Iff.trans (zw_aload_n (show decode cX12_canStart 42 = .ok (.aload_n 0, 1) by decide +kernel) rfl) ?_
    refine Iff.trans (zw_getI (show decode cX12_canStart 43 = .ok (.getfield 222, 3) by decide +kernel) (by decide +kernel : zfld 12 222 = some (12, 20)) (hl.k2 zk_131) (hl.n2 zk_131) (Or.inl rfl) (w := zI σ 131 20) rfl) ?_
    refine Iff.trans (zw_if_le (t := 53) (show decode cX12_canStart 46 = .ok (.ifCond .le 7, 3) by decide +kernel) (by decide)) ?_
    refine zw_ite ?_ ?_
    · refine Iff.trans (zw_iconst (x := 0) (show decode cX12_canStart 53 = .ok (.iconst 0, 1) by decide +kernel) (by decide)) ?_
      exact zw_iret2c (show decode cX12_canStart 54 = .ok (.ireturn, 1) by decide +kernel) rfl (Or.inl rfl)
    · refine Iff.trans (zw_iconst (x := 1) (show decode cX12_canStart 49 = .ok (.iconst 1, 1) by decide +kernel) (by decide)) ?_
      refine Iff.trans (zw_goto (t := 54) (show decode cX12_canStart 50 = .ok (.goto 4, 3) by decide +kernel) (by decide)) ?_
      exact zw_iret2c (show decode cX12_canStart 54 = .ok (.ireturn, 1) by decide +kernel) rfl (Or.inr rfl)
  · refine Iff.trans (zw_aload_n (show decode cX12_canStart 10 = .ok (.aload_n 0, 1) by decide +kernel) rfl) ?_
    refine Iff.trans (zw_aload_n (show decode cX12_canStart 11 = .ok (.aload_n 0, 1) by decide +kernel) rfl) ?_
    refine Iff.trans (zw_getI (show decode cX12_canStart 12 = .ok (.getfield 45, 3) by decide +kernel) (by decide +kernel : zfld 12 45 = some (12, 19)) (hl.k2 zk_131) (hl.n2 zk_131) (Or.inl rfl) (w := zI σ 131 19) rfl) ?_
    refine Iff.trans (zw_aload_n (show decode cX12_canStart 15 = .ok (.aload_n 0, 1) by decide +kernel) rfl) ?_
    refine Iff.trans (zw_iload_n (show decode cX12_canStart 16 = .ok (.iload_n 1, 1) by decide +kernel) rfl) ?_
    refine Iff.trans (zw_iconst (x := 0) (show decode cX12_canStart 17 = .ok (.iconst 0, 1) by decide +kernel) (by decide)) ?_
    refine Iff.trans (zw_invV (K' := kX12_of) (as' := [.int x1, .int 0]) (rest := [.int (zI σ 131 19), .ref 131]) (show decode cX12_canStart 18 = .ok (.invokevirtual 229, 3) by decide +kernel) (by rfl) rfl rfl rfl (hl.k2 zk_131) (by decide) (hl.n2 zk_131) ⟨Nat.le_of_ble_eq_true rfl, Nat.le_of_ble_eq_true rfl, Nat.le_of_ble_eq_true rfl⟩) ?_
    exact Iff.rfl

theorem bX12_canStart_21 {d : Nat} {σ : zS} {Q : Option Value → zS → Prop} (hl : zLay σ) {x1 y0 y1 : Int32} : zW (d + 1) kX12_canStart 21 [.ref 131, .int x1] [.int y0, .int y1, .ref 131] σ Q ↔ zCall d kX12_of [.ref 131, .int x1, .int 3] σ (fun r σ' => zisN r = true ∧ zW (d + 1) kX12_canStart 28 [.ref 131, .int x1] (zRstk r ++ [.int 0, .int y0, .int y1, .ref 131]) σ' Q) := by
  refine Iff.trans (zw_iconst (x := 0) (show decode cX12_canStart 21 = .ok (.iconst 0, 1) by decide +kernel) (by decide)) ?_
  refine Iff.trans (zw_aload_n (show decode cX12_canStart 22 = .ok (.aload_n 0, 1) by decide +kernel) rfl) ?_
  refine Iff.trans (zw_iload_n (show decode cX12_canStart 23 = .ok (.iload_n 1, 1) by decide +kernel) rfl) ?_
  refine Iff.trans (zw_iconst (x := 3) (show decode cX12_canStart 24 = .ok (.iconst 3, 1) by decide +kernel) (by decide)) ?_
  refine Iff.trans (zw_invV (K' := kX12_of) (as' := [.int x1, .int 3]) (rest := [.int 0, .int y0, .int y1, .ref 131]) (show decode cX12_canStart 25 = .ok (.invokevirtual 229, 3) by decide +kernel) (by rfl) rfl rfl rfl (hl.k2 zk_131) (by decide) (hl.n2 zk_131) ⟨Nat.le_of_ble_eq_true rfl, Nat.le_of_ble_eq_true rfl, Nat.le_of_ble_eq_true rfl⟩) ?_
  exact Iff.rfl

theorem bX12_canStart_28 {d : Nat} {σ : zS} {Q : Option Value → zS → Prop} (hl : zLay σ) {x1 y0 y1 y2 y3 : Int32} : zW (d + 1) kX12_canStart 28 [.ref 131, .int x1] [.int y0, .int y1, .int y2, .int y3, .ref 131] σ Q ↔ zCall d kX12_canLie [.ref 131, .int y3, .int y2, .int y1, .int y0] σ (fun r σ' => zisN r = true ∧ zW (d + 1) kX12_canStart 31 [.ref 131, .int x1] (zRstk r ++ []) σ' Q) := by
  refine Iff.trans (zw_invV (K' := kX12_canLie) (as' := [.int y3, .int y2, .int y1, .int y0]) (rest := []) (show decode cX12_canStart 28 = .ok (.invokevirtual 218, 3) by decide +kernel) (by rfl) rfl rfl rfl (hl.k2 zk_131) (by decide) (hl.n2 zk_131) ⟨Nat.le_of_ble_eq_true rfl, Nat.le_of_ble_eq_true rfl, Nat.le_of_ble_eq_true rfl⟩) ?_
  exact Iff.rfl

theorem bX12_canStart_31 {d : Nat} {σ : zS} {Q : Option Value → zS → Prop} (hl : zLay σ) {x1 y0 : Int32} : zW (d + 1) kX12_canStart 31 [.ref 131, .int x1] [.int y0] σ Q ↔ (if y0 = (0 : Int32) then Q (some (.int 0)) σ else zW (d + 1) kX12_canStart 2 [.ref 131, .int (x1 + 1)] [] σ Q) := by
  refine Iff.trans (zw_if_ne (t := 36) (show decode cX12_canStart 31 = .ok (.ifCond .ne 5, 3) by decide +kernel) (by decide)) ?_
  refine zw_ite ?_ ?_
  · refine Iff.trans (zw_iconst (x := 0) (show decode cX12_canStart 34 = .ok (.iconst 0, 1) by decide +kernel) (by decide)) ?_
    exact zw_iret2c (show decode cX12_canStart 35 = .ok (.ireturn, 1) by decide +kernel) rfl (Or.inl rfl)
  · refine Iff.trans (zw_iinc (w := 1) (ls' := [.ref 131, .int (x1 + 1)]) (show decode cX12_canStart 36 = .ok (.iinc 1 1, 3) by decide +kernel) rfl (by decide) (zset_s (Nat.le_of_ble_eq_true rfl) rfl)) ?_
    refine Iff.trans (zw_goto (t := 2) (show decode cX12_canStart 39 = .ok (.goto (-37), 3) by decide +kernel) (by decide)) ?_
    exact Iff.rfl

theorem bX12_begin__0 {d : Nat} {σ : zS} {Q : Option Value → zS → Prop} (hl : zLay σ) {j1 : Int64} : zCall (d + 1) kX12_begin_ [.ref 131, .long j1] σ Q ↔ zW (d + 1) kX12_begin_ 2 [.ref 131, .long j1, .retAddr 1, .int 0] [] σ Q := by
  show zW (d + 1) kX12_begin_ 0 [.ref 131, .long j1, .retAddr 1, .retAddr 0] [] σ Q ↔ _
  refine Iff.trans (zw_iconst (x := 0) (show decode cX12_begin_ 0 = .ok (.iconst 0, 1) by decide +kernel) (by decide)) ?_
  refine Iff.trans (zw_istore_n (ls' := [.ref 131, .long j1, .retAddr 1, .int 0]) (show decode cX12_begin_ 1 = .ok (.istore_n 3, 1) by decide +kernel) (zset_s (Nat.le_of_ble_eq_true rfl) rfl)) ?_
  exact Iff.rfl

theorem bX12_begin__2 {d : Nat} {σ : zS} {Q : Option Value → zS → Prop} (hl : zLay σ) {j1 : Int64} {x3 : Int32} : zW (d + 1) kX12_begin_ 2 [.ref 131, .long j1, .retAddr 1, .int x3] [] σ Q ↔ (if (zI σ 131 20) ≤ x3 then Q none (zsI (zsL σ 131 (vp_updL (zL σ 131) 31 j1)) 131 (upd (upd (zI σ 131) 21 0) 22 0)) else zCall d kX12_place [.ref 131, .int x3] σ (fun r σ' => zisN r = true ∧ zW (d + 1) kX12_begin_ 15 [.ref 131, .long j1, .retAddr 1, .int x3] (zRstk r ++ []) σ' Q)) := by
  refine Iff.trans (zw_iload_n (show decode cX12_begin_ 2 = .ok (.iload_n 3, 1) by decide +kernel) rfl) ?_
  refine Iff.trans (zw_aload_n (show decode cX12_begin_ 3 = .ok (.aload_n 0, 1) by decide +kernel) rfl) ?_
  refine Iff.trans (zw_getI (show decode cX12_begin_ 4 = .ok (.getfield 222, 3) by decide +kernel) (by decide +kernel : zfld 12 222 = some (12, 20)) (hl.k2 zk_131) (hl.n2 zk_131) (Or.inl rfl) (w := zI σ 131 20) rfl) ?_
  refine Iff.trans (zw_icmp_ge (t := 21) (show decode cX12_begin_ 7 = .ok (.if_icmp .ge 14, 3) by decide +kernel) (by decide)) ?_
  refine zw_ite ?_ ?_
  · refine Iff.trans (zw_aload_n (show decode cX12_begin_ 21 = .ok (.aload_n 0, 1) by decide +kernel) rfl) ?_
    refine Iff.trans (zw_lload_n (show decode cX12_begin_ 22 = .ok (.lload_n 1, 1) by decide +kernel) rfl) ?_
    refine Iff.trans (zw_putL (show decode cX12_begin_ 23 = .ok (.putfield 248, 3) by decide +kernel) (by decide +kernel : zfld 12 248 = some (12, 31)) (hl.k2 zk_131) (hl.n2 zk_131) rfl rfl (σ' := (zsL σ 131 (vp_updL (zL σ 131) 31 j1))) rfl) ?_
    refine Iff.trans (zw_aload_n (show decode cX12_begin_ 26 = .ok (.aload_n 0, 1) by decide +kernel) rfl) ?_
    refine Iff.trans (zw_iconst (x := 0) (show decode cX12_begin_ 27 = .ok (.iconst 0, 1) by decide +kernel) (by decide)) ?_
    refine Iff.trans (zw_putI (show decode cX12_begin_ 28 = .ok (.putfield 48, 3) by decide +kernel) (by decide +kernel : zfld 12 48 = some (12, 21)) (hl.L.k2 zk_131) (hl.L.n2 zk_131) rfl (Or.inl rfl) (σ' := (zsI (zsL σ 131 (vp_updL (zL σ 131) 31 j1)) 131 (upd (zI σ 131) 21 0))) rfl) ?_
    refine Iff.trans (zw_aload_n (show decode cX12_begin_ 31 = .ok (.aload_n 0, 1) by decide +kernel) rfl) ?_
    refine Iff.trans (zw_iconst (x := 0) (show decode cX12_begin_ 32 = .ok (.iconst 0, 1) by decide +kernel) (by decide)) ?_
    refine Iff.trans (zw_putI (show decode cX12_begin_ 33 = .ok (.putfield 252, 3) by decide +kernel) (by decide +kernel : zfld 12 252 = some (12, 22)) (hl.L.I.k2 zk_131) (hl.L.I.n2 zk_131) rfl (Or.inl rfl) (σ' := (zsI (zsL σ 131 (vp_updL (zL σ 131) 31 j1)) 131 (upd (upd (zI σ 131) 21 0) 22 0))) (Eq.trans (congrArg (fun f => zsI (zsI (zsL σ 131 (vp_updL (zL σ 131) 31 j1)) 131 (upd (zI σ 131) 21 0)) 131 (upd f 22 0)) zI_self) zsI_s)) ?_
    exact zw_ret (show decode cX12_begin_ 36 = .ok (.return_, 1) by decide +kernel) rfl
  · refine Iff.trans (zw_aload_n (show decode cX12_begin_ 10 = .ok (.aload_n 0, 1) by decide +kernel) rfl) ?_
    refine Iff.trans (zw_iload_n (show decode cX12_begin_ 11 = .ok (.iload_n 3, 1) by decide +kernel) rfl) ?_
    refine Iff.trans (zw_invV (K' := kX12_place) (as' := [.int x3]) (rest := []) (show decode cX12_begin_ 12 = .ok (.invokevirtual 232, 3) by decide +kernel) (by rfl) rfl rfl rfl (hl.k2 zk_131) (by decide) (hl.n2 zk_131) ⟨Nat.le_of_ble_eq_true rfl, Nat.le_of_ble_eq_true rfl, Nat.le_of_ble_eq_true rfl⟩) ?_
    exact Iff.rfl

theorem bX12_begin__15 {d : Nat} {σ : zS} {Q : Option Value → zS → Prop} (hl : zLay σ) {j1 : Int64} {x3 : Int32} : zW (d + 1) kX12_begin_ 15 [.ref 131, .long j1, .retAddr 1, .int x3] [] σ Q ↔ zW (d + 1) kX12_begin_ 2 [.ref 131, .long j1, .retAddr 1, .int (x3 + 1)] [] σ Q := by
  refine Iff.trans (zw_iinc (w := 1) (ls' := [.ref 131, .long j1, .retAddr 1, .int (x3 + 1)]) (show decode cX12_begin_ 15 = .ok (.iinc 3 1, 3) by decide +kernel) rfl (by decide) (zset_s (Nat.le_of_ble_eq_true rfl) rfl)) ?_
  refine Iff.trans (zw_goto (t := 2) (show decode cX12_begin_ 18 = .ok (.goto (-16), 3) by decide +kernel) (by decide)) ?_
  exact Iff.rfl

theorem bX12_start_0 {d : Nat} {σ : zS} {Q : Option Value → zS → Prop} (hl : zLay σ) {j1 : Int64} : zCall (d + 1) kX12_start [.ref 131, .long j1] σ Q ↔ zCall d kX12_canStart [.ref 131] (zsI σ 131 (upd (zI σ 131) 0 0)) (fun r σ' => zisN r = true ∧ zW (d + 1) kX12_start 9 [.ref 131, .long j1, .retAddr 1, .retAddr 0] (zRstk r ++ []) σ' Q) := by
  show zW (d + 1) kX12_start 0 [.ref 131, .long j1, .retAddr 1, .retAddr 0] [] σ Q ↔ _
  refine Iff.trans (zw_aload_n (show decode cX12_start 0 = .ok (.aload_n 0, 1) by decide +kernel) rfl) ?_
  refine Iff.trans (zw_iconst (x := 0) (show decode cX12_start 1 = .ok (.iconst 0, 1) by decide +kernel) (by decide)) ?_
  refine Iff.trans (zw_putI (show decode cX12_start 2 = .ok (.putfield 118, 3) by decide +kernel) (by decide +kernel : zfld 12 118 = some (12, 0)) (hl.k2 zk_131) (hl.n2 zk_131) rfl (Or.inl rfl) (σ' := (zsI σ 131 (upd (zI σ 131) 0 0))) rfl) ?_
  refine Iff.trans (zw_aload_n (show decode cX12_start 5 = .ok (.aload_n 0, 1) by decide +kernel) rfl) ?_
  refine Iff.trans (zw_invV (K' := kX12_canStart) (as' := []) (rest := []) (show decode cX12_start 6 = .ok (.invokevirtual 255, 3) by decide +kernel) (by rfl) rfl rfl rfl (hl.I.k2 zk_131) (by decide) (hl.I.n2 zk_131) ⟨Nat.le_of_ble_eq_true rfl, Nat.le_of_ble_eq_true rfl, Nat.le_of_ble_eq_true rfl⟩) ?_
  exact Iff.rfl

theorem bX12_start_9 {d : Nat} {σ : zS} {Q : Option Value → zS → Prop} (hl : zLay σ) {j1 : Int64} {y0 : Int32} : zW (d + 1) kX12_start 9 [.ref 131, .long j1, .retAddr 1, .retAddr 0] [.int y0] σ Q ↔ (if y0 = (0 : Int32) then Q (some (.int 0)) σ else zCall d kX12_begin_ [.ref 131, .long j1] σ (fun r σ' => zisN r = true ∧ zW (d + 1) kX12_start 19 [.ref 131, .long j1, .retAddr 1, .retAddr 0] (zRstk r ++ []) σ' Q)) := by
  refine Iff.trans (zw_if_ne (t := 14) (show decode cX12_start 9 = .ok (.ifCond .ne 5, 3) by decide +kernel) (by decide)) ?_
  refine zw_ite ?_ ?_
  · refine Iff.trans (zw_iconst (x := 0) (show decode cX12_start 12 = .ok (.iconst 0, 1) by decide +kernel) (by decide)) ?_
    exact zw_iret2c (show decode cX12_start 13 = .ok (.ireturn, 1) by decide +kernel) rfl (Or.inl rfl)
  · refine Iff.trans (zw_aload_n (show decode cX12_start 14 = .ok (.aload_n 0, 1) by decide +kernel) rfl) ?_
    refine Iff.trans (zw_lload_n (show decode cX12_start 15 = .ok (.lload_n 1, 1) by decide +kernel) rfl) ?_
    refine Iff.trans (zw_invV (K' := kX12_begin_) (as' := [.long j1]) (rest := []) (show decode cX12_start 16 = .ok (.invokevirtual 258, 3) by decide +kernel) (by rfl) rfl rfl rfl (hl.k2 zk_131) (by decide) (hl.n2 zk_131) ⟨Nat.le_of_ble_eq_true rfl, Nat.le_of_ble_eq_true rfl, Nat.le_of_ble_eq_true rfl⟩) ?_
    exact Iff.rfl

theorem bX12_start_19 {d : Nat} {σ : zS} {Q : Option Value → zS → Prop} (hl : zLay σ) {j1 : Int64} : zW (d + 1) kX12_start 19 [.ref 131, .long j1, .retAddr 1, .retAddr 0] [] σ Q ↔ zW (d + 1) kX12_start 21 [.ref 131, .long j1, .retAddr 1, .int 0] [] σ Q := by
  refine Iff.trans (zw_iconst (x := 0) (show decode cX12_start 19 = .ok (.iconst 0, 1) by decide +kernel) (by decide)) ?_
  refine Iff.trans (zw_istore_n (ls' := [.ref 131, .long j1, .retAddr 1, .int 0]) (show decode cX12_start 20 = .ok (.istore_n 3, 1) by decide +kernel) (zset_s (Nat.le_of_ble_eq_true rfl) rfl)) ?_
  exact Iff.rfl

theorem bX12_start_21 {d : Nat} {σ : zS} {Q : Option Value → zS → Prop} (hl : zLay σ) {j1 : Int64} {x3 : Int32} : zW (d + 1) kX12_start 21 [.ref 131, .long j1, .retAddr 1, .int x3] [] σ Q ↔ (if 16 ≤ x3 then zCall d kX12_record [.ref 131] σ (fun r σ' => zisN r = true ∧ zW (d + 1) kX12_start 44 [.ref 131, .long j1, .retAddr 1, .int x3] (zRstk r ++ []) σ' Q) else (vp_in x3 16 ∧ zW (d + 1) kX12_start 21 [.ref 131, .long j1, .retAddr 1, .int (x3 + 1)] [] (zsI σ 145 (upd (zI σ 145) (x3 : Int32).toNatClampNeg 0)) Q)) := by
  refine Iff.trans (zw_iload_n (show decode cX12_start 21 = .ok (.iload_n 3, 1) by decide +kernel) rfl) ?_
  refine Iff.trans (zw_bipush (x := 16) (show decode cX12_start 22 = .ok (.bipush 16, 2) by decide +kernel) (by decide)) ?_
  refine Iff.trans (zw_icmp_ge (t := 40) (show decode cX12_start 24 = .ok (.if_icmp .ge 16, 3) by decide +kernel) (by decide)) ?_
  refine zw_ite ?_ ?_
  · refine Iff.trans (zw_aload_n (show decode cX12_start 40 = .ok (.aload_n 0, 1) by decide +kernel) rfl) ?_
    refine Iff.trans (zw_invV (K' := kX12_record) (as' := []) (rest := []) (show decode cX12_start 41 = .ok (.invokevirtual 261, 3) by decide +kernel) (by rfl) rfl rfl rfl (hl.k2 zk_131) (by decide) (hl.n2 zk_131) ⟨Nat.le_of_ble_eq_true rfl, Nat.le_of_ble_eq_true rfl, Nat.le_of_ble_eq_true rfl⟩) ?_
    exact Iff.rfl
  · refine Iff.trans (zw_aload_n (show decode cX12_start 27 = .ok (.aload_n 0, 1) by decide +kernel) rfl) ?_
    refine Iff.trans (zw_get (show decode cX12_start 28 = .ok (.getfield 60, 3) by decide +kernel) (by decide +kernel : zfld 12 60 = some (12, 38)) (hl.k2 zk_131) (hl.n2 zk_131) (zgetR (v := 145) (hl.r zrt_131_38) rfl)) ?_
    refine Iff.trans (zw_iload_n (show decode cX12_start 31 = .ok (.iload_n 3, 1) by decide +kernel) rfl) ?_
    refine Iff.trans (zw_iconst (x := 0) (show decode cX12_start 32 = .ok (.iconst 0, 1) by decide +kernel) (by decide)) ?_
    refine Iff.trans (zw_iast2 (show decode cX12_start 33 = .ok (.iastore, 1) by decide +kernel) (hl.k2 zk_145) (hl.n2 zk_145) (hl.l2 zk_145 zl_145) (σ' := (zsI σ 145 (upd (zI σ 145) (x3 : Int32).toNatClampNeg 0))) rfl) ?_
    refine zw_and ?_
    refine Iff.trans (zw_iinc (w := 1) (ls' := [.ref 131, .long j1, .retAddr 1, .int (x3 + 1)]) (show decode cX12_start 34 = .ok (.iinc 3 1, 3) by decide +kernel) rfl (by decide) (zset_s (Nat.le_of_ble_eq_true rfl) rfl)) ?_
    refine Iff.trans (zw_goto (t := 21) (show decode cX12_start 37 = .ok (.goto (-16), 3) by decide +kernel) (by decide)) ?_
    exact Iff.rfl

theorem bX12_start_44 {d : Nat} {σ : zS} {Q : Option Value → zS → Prop} (hl : zLay σ) {j1 : Int64} {x3 : Int32} : zW (d + 1) kX12_start 44 [.ref 131, .long j1, .retAddr 1, .int x3] [] σ Q ↔ Q (some (.int 1)) σ := by
  refine Iff.trans (zw_iconst (x := 1) (show decode cX12_start 44 = .ok (.iconst 1, 1) by decide +kernel) (by decide)) ?_
  exact zw_iret2c (show decode cX12_start 45 = .ok (.ireturn, 1) by decide +kernel) rfl (Or.inr rfl)

theorem bX12_leaderNow_0 {d : Nat} {σ : zS} {Q : Option Value → zS → Prop} (hl : zLay σ) : zCall (d + 1) kX12_leaderNow [.ref 131] σ Q ↔ zW (d + 1) kX12_leaderNow 4 [.ref 131, .int 0, .int 0] [] σ Q := by
  show zW (d + 1) kX12_leaderNow 0 [.ref 131, .retAddr 0, .retAddr 0] [] σ Q ↔ _
  refine Iff.trans (zw_iconst (x := 0) (show decode cX12_leaderNow 0 = .ok (.iconst 0, 1) by decide +kernel) (by decide)) ?_
  refine Iff.trans (zw_istore_n (ls' := [.ref 131, .int 0, .retAddr 0]) (show decode cX12_leaderNow 1 = .ok (.istore_n 1, 1) by decide +kernel) (zset_s (Nat.le_of_ble_eq_true rfl) rfl)) ?_
  refine Iff.trans (zw_iconst (x := 0) (show decode cX12_leaderNow 2 = .ok (.iconst 0, 1) by decide +kernel) (by decide)) ?_
  refine Iff.trans (zw_istore_n (ls' := [.ref 131, .int 0, .int 0]) (show decode cX12_leaderNow 3 = .ok (.istore_n 2, 1) by decide +kernel) (zset_s (Nat.le_of_ble_eq_true rfl) rfl)) ?_
  exact Iff.rfl

theorem bX12_leaderNow_4 {d : Nat} {σ : zS} {Q : Option Value → zS → Prop} (hl : zLay σ) {x1 x2 : Int32} : zW (d + 1) kX12_leaderNow 4 [.ref 131, .int x1, .int x2] [] σ Q ↔ (if (zI σ 131 20) ≤ x2 then Q (some (.int x1)) σ else zCall d kX12_isOut [.ref 131, .int x2] σ (fun r σ' => zisN r = true ∧ zW (d + 1) kX12_leaderNow 17 [.ref 131, .int x1, .int x2] (zRstk r ++ []) σ' Q)) := by
  refine Iff.trans (zw_iload_n (show decode cX12_leaderNow 4 = .ok (.iload_n 2, 1) by decide +kernel) rfl) ?_
  refine Iff.trans (zw_aload_n (show decode cX12_leaderNow 5 = .ok (.aload_n 0, 1) by decide +kernel) rfl) ?_
  refine Iff.trans (zw_getI (show decode cX12_leaderNow 6 = .ok (.getfield 222, 3) by decide +kernel) (by decide +kernel : zfld 12 222 = some (12, 20)) (hl.k2 zk_131) (hl.n2 zk_131) (Or.inl rfl) (w := zI σ 131 20) rfl) ?_
  refine Iff.trans (zw_icmp_ge (t := 55) (show decode cX12_leaderNow 9 = .ok (.if_icmp .ge 46, 3) by decide +kernel) (by decide)) ?_
  refine zw_ite ?_ ?_
  · refine Iff.trans (zw_iload_n (show decode cX12_leaderNow 55 = .ok (.iload_n 1, 1) by decide +kernel) rfl) ?_
    exact zw_iret1 (show decode cX12_leaderNow 56 = .ok (.ireturn, 1) by decide +kernel) rfl
  · refine Iff.trans (zw_aload_n (show decode cX12_leaderNow 12 = .ok (.aload_n 0, 1) by decide +kernel) rfl) ?_
    refine Iff.trans (zw_iload_n (show decode cX12_leaderNow 13 = .ok (.iload_n 2, 1) by decide +kernel) rfl) ?_
    refine Iff.trans (zw_invV (K' := kX12_isOut) (as' := [.int x2]) (rest := []) (show decode cX12_leaderNow 14 = .ok (.invokevirtual 235, 3) by decide +kernel) (by rfl) rfl rfl rfl (hl.k2 zk_131) (by decide) (hl.n2 zk_131) ⟨Nat.le_of_ble_eq_true rfl, Nat.le_of_ble_eq_true rfl, Nat.le_of_ble_eq_true rfl⟩) ?_
    exact Iff.rfl

theorem bX12_leaderNow_17 {d : Nat} {σ : zS} {Q : Option Value → zS → Prop} (hl : zLay σ) {x1 x2 y0 : Int32} : zW (d + 1) kX12_leaderNow 17 [.ref 131, .int x1, .int x2] [.int y0] σ Q ↔ (if y0 = (0 : Int32) then zW (d + 1) kX12_leaderNow 32 [.ref 131, .int x1, .int x2] [] σ Q else zCall d kX12_of [.ref 131, .int x2, .int 8] σ (fun r σ' => zisN r = true ∧ zW (d + 1) kX12_leaderNow 27 [.ref 131, .int x1, .int x2] (zRstk r ++ []) σ' Q)) := by
  refine Iff.trans (zw_if_eq (t := 32) (show decode cX12_leaderNow 17 = .ok (.ifCond .eq 15, 3) by decide +kernel) (by decide)) ?_
  refine zw_ite ?_ ?_
  · exact Iff.rfl
  · refine Iff.trans (zw_aload_n (show decode cX12_leaderNow 20 = .ok (.aload_n 0, 1) by decide +kernel) rfl) ?_
    refine Iff.trans (zw_iload_n (show decode cX12_leaderNow 21 = .ok (.iload_n 2, 1) by decide +kernel) rfl) ?_
    refine Iff.trans (zw_bipush (x := 8) (show decode cX12_leaderNow 22 = .ok (.bipush 8, 2) by decide +kernel) (by decide)) ?_
    refine Iff.trans (zw_invV (K' := kX12_of) (as' := [.int x2, .int 8]) (rest := []) (show decode cX12_leaderNow 24 = .ok (.invokevirtual 229, 3) by decide +kernel) (by rfl) rfl rfl rfl (hl.k2 zk_131) (by decide) (hl.n2 zk_131) ⟨Nat.le_of_ble_eq_true rfl, Nat.le_of_ble_eq_true rfl, Nat.le_of_ble_eq_true rfl⟩) ?_
    exact Iff.rfl

theorem bX12_leaderNow_27 {d : Nat} {σ : zS} {Q : Option Value → zS → Prop} (hl : zLay σ) {x1 x2 y0 : Int32} : zW (d + 1) kX12_leaderNow 27 [.ref 131, .int x1, .int x2] [.int y0] σ Q ↔ (if y0 = (0 : Int32) then Q (some (.int x2)) σ else zW (d + 1) kX12_leaderNow 32 [.ref 131, .int x1, .int x2] [] σ Q) := by
  refine Iff.trans (zw_if_ne (t := 32) (show decode cX12_leaderNow 27 = .ok (.ifCond .ne 5, 3) by decide +kernel) (by decide)) ?_
  refine zw_ite ?_ ?_
  · refine Iff.trans (zw_iload_n (show decode cX12_leaderNow 30 = .ok (.iload_n 2, 1) by decide +kernel) rfl) ?_
    exact zw_iret1 (show decode cX12_leaderNow 31 = .ok (.ireturn, 1) by decide +kernel) rfl
  · exact Iff.rfl

theorem bX12_leaderNow_32 {d : Nat} {σ : zS} {Q : Option Value → zS → Prop} (hl : zLay σ) {x1 x2 : Int32} : zW (d + 1) kX12_leaderNow 32 [.ref 131, .int x1, .int x2] [] σ Q ↔ zCall d kX12_of [.ref 131, .int x2, .int 4] σ (fun r σ' => zisN r = true ∧ zW (d + 1) kX12_leaderNow 38 [.ref 131, .int x1, .int x2] (zRstk r ++ []) σ' Q) := by
  refine Iff.trans (zw_aload_n (show decode cX12_leaderNow 32 = .ok (.aload_n 0, 1) by decide +kernel) rfl) ?_
  refine Iff.trans (zw_iload_n (show decode cX12_leaderNow 33 = .ok (.iload_n 2, 1) by decide +kernel) rfl) ?_
  refine Iff.trans (zw_iconst (x := 4) (show decode cX12_leaderNow 34 = .ok (.iconst 4, 1) by decide +kernel) (by decide)) ?_
  refine Iff.trans (zw_invV (K' := kX12_of) (as' := [.int x2, .int 4]) (rest := []) (show decode cX12_leaderNow 35 = .ok (.invokevirtual 229, 3) by decide +kernel) (by rfl) rfl rfl rfl (hl.k2 zk_131) (by decide) (hl.n2 zk_131) ⟨Nat.le_of_ble_eq_true rfl, Nat.le_of_ble_eq_true rfl, Nat.le_of_ble_eq_true rfl⟩) ?_
  exact Iff.rfl

theorem bX12_leaderNow_38 {d : Nat} {σ : zS} {Q : Option Value → zS → Prop} (hl : zLay σ) {x1 x2 y0 : Int32} : zW (d + 1) kX12_leaderNow 38 [.ref 131, .int x1, .int x2] [.int y0] σ Q ↔ zCall d kX12_of [.ref 131, .int x1, .int 4] σ (fun r σ' => zisN r = true ∧ zW (d + 1) kX12_leaderNow 44 [.ref 131, .int x1, .int x2] (zRstk r ++ [.int y0]) σ' Q) := by
  refine Iff.trans (zw_aload_n (show decode cX12_leaderNow 38 = .ok (.aload_n 0, 1) by decide +kernel) rfl) ?_
  refine Iff.trans (zw_iload_n (show decode cX12_leaderNow 39 = .ok (.iload_n 1, 1) by decide +kernel) rfl) ?_
  refine Iff.trans (zw_iconst (x := 4) (show decode cX12_leaderNow 40 = .ok (.iconst 4, 1) by decide +kernel) (by decide)) ?_
  refine Iff.trans (zw_invV (K' := kX12_of) (as' := [.int x1, .int 4]) (rest := [.int y0]) (show decode cX12_leaderNow 41 = .ok (.invokevirtual 229, 3) by decide +kernel) (by rfl) rfl rfl rfl (hl.k2 zk_131) (by decide) (hl.n2 zk_131) ⟨Nat.le_of_ble_eq_true rfl, Nat.le_of_ble_eq_true rfl, Nat.le_of_ble_eq_true rfl⟩) ?_
  exact Iff.rfl

theorem bX12_leaderNow_44 {d : Nat} {σ : zS} {Q : Option Value → zS → Prop} (hl : zLay σ) {x1 x2 y0 y1 : Int32} : zW (d + 1) kX12_leaderNow 44 [.ref 131, .int x1, .int x2] [.int y0, .int y1] σ Q ↔ (if y1 ≤ y0 then zW (d + 1) kX12_leaderNow 4 [.ref 131, .int x1, .int (x2 + 1)] [] σ Q else zW (d + 1) kX12_leaderNow 4 [.ref 131, .int x2, .int (x2 + 1)] [] σ Q) := by
  refine Iff.trans (zw_icmp_le (t := 49) (show decode cX12_leaderNow 44 = .ok (.if_icmp .le 5, 3) by decide +kernel) (by decide)) ?_
  refine zw_ite ?_ ?_
  · refine Iff.trans (zw_iinc (w := 1) (ls' := [.ref 131, .int x1, .int (x2 + 1)]) (show decode cX12_leaderNow 49 = .ok (.iinc 2 1, 3) by decide +kernel) rfl (by decide) (zset_s (Nat.le_of_ble_eq_true rfl) rfl)) ?_
    refine Iff.trans (zw_goto (t := 4) (show decode cX12_leaderNow 52 = .ok (.goto (-48), 3) by decide +kernel) (by decide)) ?_
    exact Iff.rfl
  · refine Iff.trans (zw_iload_n (show decode cX12_leaderNow 47 = .ok (.iload_n 2, 1) by decide +kernel) rfl) ?_
    refine Iff.trans (zw_istore_n (ls' := [.ref 131, .int x2, .int x2]) (show decode cX12_leaderNow 48 = .ok (.istore_n 1, 1) by decide +kernel) (zset_s (Nat.le_of_ble_eq_true rfl) rfl)) ?_
    refine Iff.trans (zw_iinc (w := 1) (ls' := [.ref 131, .int x2, .int (x2 + 1)]) (show decode cX12_leaderNow 49 = .ok (.iinc 2 1, 3) by decide +kernel) rfl (by decide) (zset_s (Nat.le_of_ble_eq_true rfl) rfl)) ?_
    refine Iff.trans (zw_goto (t := 4) (show decode cX12_leaderNow 52 = .ok (.goto (-48), 3) by decide +kernel) (by decide)) ?_
    exact Iff.rfl

theorem bX12_record_0 {d : Nat} {σ : zS} {Q : Option Value → zS → Prop} (hl : zLay σ) : zCall (d + 1) kX12_record [.ref 131] σ Q ↔ zW (d + 1) kX12_record 2 [.ref 131, .int 0] [] σ Q := by
  show zW (d + 1) kX12_record 0 [.ref 131, .retAddr 0] [] σ Q ↔ _
  refine Iff.trans (zw_iconst (x := 0) (show decode cX12_record 0 = .ok (.iconst 0, 1) by decide +kernel) (by decide)) ?_
  refine Iff.trans (zw_istore_n (ls' := [.ref 131, .int 0]) (show decode cX12_record 1 = .ok (.istore_n 1, 1) by decide +kernel) (zset_s (Nat.le_of_ble_eq_true rfl) rfl)) ?_
  exact Iff.rfl

theorem bX12_record_2 {d : Nat} {σ : zS} {Q : Option Value → zS → Prop} (hl : zLay σ) {x1 : Int32} : zW (d + 1) kX12_record 2 [.ref 131, .int x1] [] σ Q ↔ (if (zI σ 131 20) ≤ x1 then zCall d kX12_leaderNow [.ref 131] σ (fun r σ' => zisN r = true ∧ zW (d + 1) kX12_record 68 [.ref 131, .int x1] (zRstk r ++ [.int (zI σ 131 21), .ref 144]) σ' Q) else zCall d kX12_of [.ref 131, .int x1, .int 4] σ (fun r σ' => zisN r = true ∧ zW (d + 1) kX12_record 29 [.ref 131, .int x1] (zRstk r ++ [.int ((6 * (zI σ 131 21)) + x1), .ref 142]) σ' Q)) := by
  refine Iff.trans (zw_iload_n (show decode cX12_record 2 = .ok (.iload_n 1, 1) by decide +kernel) rfl) ?_
  refine Iff.trans (zw_aload_n (show decode cX12_record 3 = .ok (.aload_n 0, 1) by decide +kernel) rfl) ?_
  refine Iff.trans (zw_getI (show decode cX12_record 4 = .ok (.getfield 222, 3) by decide +kernel) (by decide +kernel : zfld 12 222 = some (12, 20)) (hl.k2 zk_131) (hl.n2 zk_131) (Or.inl rfl) (w := zI σ 131 20) rfl) ?_
  refine Iff.trans (zw_icmp_ge (t := 56) (show decode cX12_record 7 = .ok (.if_icmp .ge 49, 3) by decide +kernel) (by decide)) ?_
  refine zw_ite ?_ ?_
  · refine Iff.trans (zw_aload_n (show decode cX12_record 56 = .ok (.aload_n 0, 1) by decide +kernel) rfl) ?_
    refine Iff.trans (zw_get (show decode cX12_record 57 = .ok (.getfield 57, 3) by decide +kernel) (by decide +kernel : zfld 12 57 = some (12, 37)) (hl.k2 zk_131) (hl.n2 zk_131) (zgetR (v := 144) (hl.r zrt_131_37) rfl)) ?_
    refine Iff.trans (zw_aload_n (show decode cX12_record 60 = .ok (.aload_n 0, 1) by decide +kernel) rfl) ?_
    refine Iff.trans (zw_getI (show decode cX12_record 61 = .ok (.getfield 48, 3) by decide +kernel) (by decide +kernel : zfld 12 48 = some (12, 21)) (hl.k2 zk_131) (hl.n2 zk_131) (Or.inl rfl) (w := zI σ 131 21) rfl) ?_
    refine Iff.trans (zw_aload_n (show decode cX12_record 64 = .ok (.aload_n 0, 1) by decide +kernel) rfl) ?_
    refine Iff.trans (zw_invV (K' := kX12_leaderNow) (as' := []) (rest := [.int (zI σ 131 21), .ref 144]) (show decode cX12_record 65 = .ok (.invokevirtual 264, 3) by decide +kernel) (by rfl) rfl rfl rfl (hl.k2 zk_131) (by decide) (hl.n2 zk_131) ⟨Nat.le_of_ble_eq_true rfl, Nat.le_of_ble_eq_true rfl, Nat.le_of_ble_eq_true rfl⟩) ?_
    exact Iff.rfl
  · refine Iff.trans (zw_aload_n (show decode cX12_record 10 = .ok (.aload_n 0, 1) by decide +kernel) rfl) ?_
    refine Iff.trans (zw_get (show decode cX12_record 11 = .ok (.getfield 51, 3) by decide +kernel) (by decide +kernel : zfld 12 51 = some (12, 35)) (hl.k2 zk_131) (hl.n2 zk_131) (zgetR (v := 142) (hl.r zrt_131_35) rfl)) ?_
    refine Iff.trans (zw_bipush (x := 6) (show decode cX12_record 14 = .ok (.bipush 6, 2) by decide +kernel) (by decide)) ?_
    refine Iff.trans (zw_aload_n (show decode cX12_record 16 = .ok (.aload_n 0, 1) by decide +kernel) rfl) ?_
    refine Iff.trans (zw_getI (show decode cX12_record 17 = .ok (.getfield 48, 3) by decide +kernel) (by decide +kernel : zfld 12 48 = some (12, 21)) (hl.k2 zk_131) (hl.n2 zk_131) (Or.inl rfl) (w := zI σ 131 21) rfl) ?_
    refine Iff.trans (zw_imul (show decode cX12_record 20 = .ok (.imul, 1) by decide +kernel)) ?_
    refine Iff.trans (zw_iload_n (show decode cX12_record 21 = .ok (.iload_n 1, 1) by decide +kernel) rfl) ?_
    refine Iff.trans (zw_iadd (show decode cX12_record 22 = .ok (.iadd, 1) by decide +kernel)) ?_
    refine Iff.trans (zw_aload_n (show decode cX12_record 23 = .ok (.aload_n 0, 1) by decide +kernel) rfl) ?_
    refine Iff.trans (zw_iload_n (show decode cX12_record 24 = .ok (.iload_n 1, 1) by decide +kernel) rfl) ?_
    refine Iff.trans (zw_iconst (x := 4) (show decode cX12_record 25 = .ok (.iconst 4, 1) by decide +kernel) (by decide)) ?_
    refine Iff.trans (zw_invV (K' := kX12_of) (as' := [.int x1, .int 4]) (rest := [.int ((6 * (zI σ 131 21)) + x1), .ref 142]) (show decode cX12_record 26 = .ok (.invokevirtual 229, 3) by decide +kernel) (by rfl) rfl rfl rfl (hl.k2 zk_131) (by decide) (hl.n2 zk_131) ⟨Nat.le_of_ble_eq_true rfl, Nat.le_of_ble_eq_true rfl, Nat.le_of_ble_eq_true rfl⟩) ?_
    exact Iff.rfl

theorem bX12_record_29 {d : Nat} {σ : zS} {Q : Option Value → zS → Prop} (hl : zLay σ) {x1 y0 y1 : Int32} : zW (d + 1) kX12_record 29 [.ref 131, .int x1] [.int y0, .int y1, .ref 142] σ Q ↔ (vp_in y1 366 ∧ zCall d kX12_of [.ref 131, .int x1, .int 5] (zsI σ 142 (upd (zI σ 142) (y1 : Int32).toNatClampNeg y0)) (fun r σ' => zisN r = true ∧ zW (d + 1) kX12_record 49 [.ref 131, .int x1] (zRstk r ++ [.int ((6 * (zI σ 131 21)) + x1), .ref 143]) σ' Q)) := by
  refine Iff.trans (zw_iast2 (show decode cX12_record 29 = .ok (.iastore, 1) by decide +kernel) (hl.k2 zk_142) (hl.n2 zk_142) (hl.l2 zk_142 zl_142) (σ' := (zsI σ 142 (upd (zI σ 142) (y1 : Int32).toNatClampNeg y0))) rfl) ?_
  refine zw_and ?_
  refine Iff.trans (zw_aload_n (show decode cX12_record 30 = .ok (.aload_n 0, 1) by decide +kernel) rfl) ?_
  refine Iff.trans (zw_get (show decode cX12_record 31 = .ok (.getfield 54, 3) by decide +kernel) (by decide +kernel : zfld 12 54 = some (12, 36)) (hl.I.k2 zk_131) (hl.I.n2 zk_131) (zgetR (v := 143) (hl.I.r zrt_131_36) rfl)) ?_
  refine Iff.trans (zw_bipush (x := 6) (show decode cX12_record 34 = .ok (.bipush 6, 2) by decide +kernel) (by decide)) ?_
  refine Iff.trans (zw_aload_n (show decode cX12_record 36 = .ok (.aload_n 0, 1) by decide +kernel) rfl) ?_
  refine Iff.trans (zw_getI (show decode cX12_record 37 = .ok (.getfield 48, 3) by decide +kernel) (by decide +kernel : zfld 12 48 = some (12, 21)) (hl.I.k2 zk_131) (hl.I.n2 zk_131) (Or.inl rfl) (w := zI σ 131 21) (congrFun (zI_ne (by decide)) 21)) ?_
  refine Iff.trans (zw_imul (show decode cX12_record 40 = .ok (.imul, 1) by decide +kernel)) ?_
  refine Iff.trans (zw_iload_n (show decode cX12_record 41 = .ok (.iload_n 1, 1) by decide +kernel) rfl) ?_
  refine Iff.trans (zw_iadd (show decode cX12_record 42 = .ok (.iadd, 1) by decide +kernel)) ?_
  refine Iff.trans (zw_aload_n (show decode cX12_record 43 = .ok (.aload_n 0, 1) by decide +kernel) rfl) ?_
  refine Iff.trans (zw_iload_n (show decode cX12_record 44 = .ok (.iload_n 1, 1) by decide +kernel) rfl) ?_
  refine Iff.trans (zw_iconst (x := 5) (show decode cX12_record 45 = .ok (.iconst 5, 1) by decide +kernel) (by decide)) ?_
  refine Iff.trans (zw_invV (K' := kX12_of) (as' := [.int x1, .int 5]) (rest := [.int ((6 * (zI σ 131 21)) + x1), .ref 143]) (show decode cX12_record 46 = .ok (.invokevirtual 229, 3) by decide +kernel) (by rfl) rfl rfl rfl (hl.I.k2 zk_131) (by decide) (hl.I.n2 zk_131) ⟨Nat.le_of_ble_eq_true rfl, Nat.le_of_ble_eq_true rfl, Nat.le_of_ble_eq_true rfl⟩) ?_
  exact Iff.rfl

theorem bX12_record_49 {d : Nat} {σ : zS} {Q : Option Value → zS → Prop} (hl : zLay σ) {x1 y0 y1 : Int32} : zW (d + 1) kX12_record 49 [.ref 131, .int x1] [.int y0, .int y1, .ref 143] σ Q ↔ (vp_in y1 366 ∧ zW (d + 1) kX12_record 2 [.ref 131, .int (x1 + 1)] [] (zsI σ 143 (upd (zI σ 143) (y1 : Int32).toNatClampNeg y0)) Q) := by
  refine Iff.trans (zw_iast2 (show decode cX12_record 49 = .ok (.iastore, 1) by decide +kernel) (hl.k2 zk_143) (hl.n2 zk_143) (hl.l2 zk_143 zl_143) (σ' := (zsI σ 143 (upd (zI σ 143) (y1 : Int32).toNatClampNeg y0))) rfl) ?_
  refine zw_and ?_
  refine Iff.trans (zw_iinc (w := 1) (ls' := [.ref 131, .int (x1 + 1)]) (show decode cX12_record 50 = .ok (.iinc 1 1, 3) by decide +kernel) rfl (by decide) (zset_s (Nat.le_of_ble_eq_true rfl) rfl)) ?_
  refine Iff.trans (zw_goto (t := 2) (show decode cX12_record 53 = .ok (.goto (-51), 3) by decide +kernel) (by decide)) ?_
  exact Iff.rfl

theorem bX12_record_68 {d : Nat} {σ : zS} {Q : Option Value → zS → Prop} (hl : zLay σ) {x1 y0 y1 : Int32} : zW (d + 1) kX12_record 68 [.ref 131, .int x1] [.int y0, .int y1, .ref 144] σ Q ↔ (vp_in y1 61 ∧ Q none (zsI σ 144 (upd (zI σ 144) (y1 : Int32).toNatClampNeg y0))) := by
  refine Iff.trans (zw_iast2 (show decode cX12_record 68 = .ok (.iastore, 1) by decide +kernel) (hl.k2 zk_144) (hl.n2 zk_144) (hl.l2 zk_144 zl_144) (σ' := (zsI σ 144 (upd (zI σ 144) (y1 : Int32).toNatClampNeg y0))) rfl) ?_
  refine zw_and ?_
  exact zw_ret (show decode cX12_record 69 = .ok (.return_, 1) by decide +kernel) rfl

theorem bX12_draw_0 {d : Nat} {σ : zS} {Q : Option Value → zS → Prop} (hl : zLay σ) : zCall d kX12_draw [.ref 131] σ Q ↔ (¬ 10 = (0 : Int64) ∧ Q (some (.int ((((((((((zL σ 131) 31) * 6364136223846793005) + 1442695040888963407) : Int64).toUInt64 >>> ((33 : Int32).toInt64.toUInt64 &&& Int64.toUInt64 63)).toInt64) - (((((((zL σ 131) 31) * 6364136223846793005) + 1442695040888963407) : Int64).toUInt64 >>> ((33 : Int32).toInt64.toUInt64 &&& Int64.toUInt64 63)).toInt64) / 10 * 10) : Int64).toInt32))) (zsL σ 131 (vp_updL (zL σ 131) 31 ((((zL σ 131) 31) * 6364136223846793005) + 1442695040888963407)))) := by
  show zW d kX12_draw 0 [.ref 131] [] σ Q ↔ _
  refine Iff.trans (zw_aload_n (show decode cX12_draw 0 = .ok (.aload_n 0, 1) by decide +kernel) rfl) ?_
  refine Iff.trans (zw_aload_n (show decode cX12_draw 1 = .ok (.aload_n 0, 1) by decide +kernel) rfl) ?_
  refine Iff.trans (zw_getL (show decode cX12_draw 2 = .ok (.getfield 248, 3) by decide +kernel) (by decide +kernel : zfld 12 248 = some (12, 31)) (hl.k2 zk_131) (hl.n2 zk_131) rfl (w := (zL σ 131) 31) rfl) ?_
  refine Iff.trans (zw_ldc2_w (x := 6364136223846793005) (show decode cX12_draw 5 = .ok (.ldc2_w 267, 3) by decide +kernel) (by decide +kernel)) ?_
  refine Iff.trans (zw_lmul (show decode cX12_draw 8 = .ok (.lmul, 1) by decide +kernel)) ?_
  refine Iff.trans (zw_ldc2_w (x := 1442695040888963407) (show decode cX12_draw 9 = .ok (.ldc2_w 269, 3) by decide +kernel) (by decide +kernel)) ?_
  refine Iff.trans (zw_ladd (show decode cX12_draw 12 = .ok (.ladd, 1) by decide +kernel)) ?_
  refine Iff.trans (zw_putL (show decode cX12_draw 13 = .ok (.putfield 248, 3) by decide +kernel) (by decide +kernel : zfld 12 248 = some (12, 31)) (hl.k2 zk_131) (hl.n2 zk_131) rfl rfl (σ' := (zsL σ 131 (vp_updL (zL σ 131) 31 ((((zL σ 131) 31) * 6364136223846793005) + 1442695040888963407)))) rfl) ?_
  refine Iff.trans (zw_aload_n (show decode cX12_draw 16 = .ok (.aload_n 0, 1) by decide +kernel) rfl) ?_
  refine Iff.trans (zw_getL (show decode cX12_draw 17 = .ok (.getfield 248, 3) by decide +kernel) (by decide +kernel : zfld 12 248 = some (12, 31)) (hl.L.k2 zk_131) (hl.L.n2 zk_131) rfl (w := ((((zL σ 131) 31) * 6364136223846793005) + 1442695040888963407)) (congrFun zL_self 31)) ?_
  refine Iff.trans (zw_bipush (x := 33) (show decode cX12_draw 20 = .ok (.bipush 33, 2) by decide +kernel) (by decide)) ?_
  refine Iff.trans (zw_lushr (show decode cX12_draw 22 = .ok (.lushr, 1) by decide +kernel)) ?_
  refine Iff.trans (zw_ldc2_w (x := 10) (show decode cX12_draw 23 = .ok (.ldc2_w 271, 3) by decide +kernel) (by decide +kernel)) ?_
  refine Iff.trans (zw_lrem (show decode cX12_draw 26 = .ok (.lrem, 1) by decide +kernel)) ?_
  refine zw_and ?_
  refine Iff.trans (zw_l2i (show decode cX12_draw 27 = .ok (.l2i, 1) by decide +kernel)) ?_
  exact zw_iret1 (show decode cX12_draw 28 = .ok (.ireturn, 1) by decide +kernel) rfl

theorem bX12_pullOf_0 {d : Nat} {σ : zS} {Q : Option Value → zS → Prop} (hl : zLay σ) {x1 : Int32} : zCall (d + 1) kX12_pullOf [.ref 131, .int x1] σ Q ↔ zW (d + 1) kX12_pullOf 7 [.ref 131, .int x1, .int 0, .int 0, .int 0, .retAddr 0] [] σ Q := by
  show zW (d + 1) kX12_pullOf 0 [.ref 131, .int x1, .retAddr 0, .retAddr 0, .retAddr 0, .retAddr 0] [] σ Q ↔ _
  refine Iff.trans (zw_iconst (x := 0) (show decode cX12_pullOf 0 = .ok (.iconst 0, 1) by decide +kernel) (by decide)) ?_
  refine Iff.trans (zw_istore_n (ls' := [.ref 131, .int x1, .int 0, .retAddr 0, .retAddr 0, .retAddr 0]) (show decode cX12_pullOf 1 = .ok (.istore_n 2, 1) by decide +kernel) (zset_s (Nat.le_of_ble_eq_true rfl) rfl)) ?_
  refine Iff.trans (zw_iconst (x := 0) (show decode cX12_pullOf 2 = .ok (.iconst 0, 1) by decide +kernel) (by decide)) ?_
  refine Iff.trans (zw_istore_n (ls' := [.ref 131, .int x1, .int 0, .int 0, .retAddr 0, .retAddr 0]) (show decode cX12_pullOf 3 = .ok (.istore_n 3, 1) by decide +kernel) (zset_s (Nat.le_of_ble_eq_true rfl) rfl)) ?_
  refine Iff.trans (zw_iconst (x := 0) (show decode cX12_pullOf 4 = .ok (.iconst 0, 1) by decide +kernel) (by decide)) ?_
  refine Iff.trans (zw_istore (ls' := [.ref 131, .int x1, .int 0, .int 0, .int 0, .retAddr 0]) (show decode cX12_pullOf 5 = .ok (.istore 4, 2) by decide +kernel) (zset_s (Nat.le_of_ble_eq_true rfl) rfl)) ?_
  exact Iff.rfl

theorem bX12_pullOf_7 {d : Nat} {σ : zS} {Q : Option Value → zS → Prop} (hl : zLay σ) {x1 x2 x3 x4 : Int32} {v5 : Value} (hv5 : v5.category = 1) : zW (d + 1) kX12_pullOf 7 [.ref 131, .int x1, .int x2, .int x3, .int x4, v5] [] σ Q ↔ zCall d kX12_of [.ref 131, .int x1, .int 0] σ (fun r σ' => zisN r = true ∧ zW (d + 1) kX12_pullOf 15 [.ref 131, .int x1, .int x2, .int x3, .int x4, v5] (zRstk r ++ [.int x4]) σ' Q) := by
  refine Iff.trans (zw_iload (show decode cX12_pullOf 7 = .ok (.iload 4, 2) by decide +kernel) rfl) ?_
  refine Iff.trans (zw_aload_n (show decode cX12_pullOf 9 = .ok (.aload_n 0, 1) by decide +kernel) rfl) ?_
  refine Iff.trans (zw_iload_n (show decode cX12_pullOf 10 = .ok (.iload_n 1, 1) by decide +kernel) rfl) ?_
  refine Iff.trans (zw_iconst (x := 0) (show decode cX12_pullOf 11 = .ok (.iconst 0, 1) by decide +kernel) (by decide)) ?_
  refine Iff.trans (zw_invV (K' := kX12_of) (as' := [.int x1, .int 0]) (rest := [.int x4]) (show decode cX12_pullOf 12 = .ok (.invokevirtual 229, 3) by decide +kernel) (by rfl) rfl rfl rfl (hl.k2 zk_131) (by decide) (hl.n2 zk_131) ⟨Nat.le_of_ble_eq_true rfl, Nat.le_of_ble_eq_true rfl, Nat.le_of_ble_eq_true rfl⟩) ?_
  exact Iff.rfl

theorem bX12_pullOf_15 {d : Nat} {σ : zS} {Q : Option Value → zS → Prop} (hl : zLay σ) {x1 x2 x3 x4 y0 y1 : Int32} {v5 : Value} (hv5 : v5.category = 1) : zW (d + 1) kX12_pullOf 15 [.ref 131, .int x1, .int x2, .int x3, .int x4, v5] [.int y0, .int y1] σ Q ↔ (if y0 ≤ y1 then zCall d kX12_of [.ref 131, .int x1, .int 0] σ (fun r σ' => zisN r = true ∧ zW (d + 1) kX12_pullOf 67 [.ref 131, .int x1, .int x2, .int x3, .int x4, v5] (zRstk r ++ []) σ' Q) else zCall d kX12_of [.ref 131, .int x1, .int 4] σ (fun r σ' => zisN r = true ∧ zW (d + 1) kX12_pullOf 29 [.ref 131, .int x1, .int x2, .int x3, .int x4, v5] (zRstk r ++ [.int (zI σ 131 19), .ref 131]) σ' Q)) := by
  refine Iff.trans (zw_icmp_ge (t := 61) (show decode cX12_pullOf 15 = .ok (.if_icmp .ge 46, 3) by decide +kernel) (by decide)) ?_
  refine zw_ite ?_ ?_
  · refine Iff.trans (zw_aload_n (show decode cX12_pullOf 61 = .ok (.aload_n 0, 1) by decide +kernel) rfl) ?_
    refine Iff.trans (zw_iload_n (show decode cX12_pullOf 62 = .ok (.iload_n 1, 1) by decide +kernel) rfl) ?_
    refine Iff.trans (zw_iconst (x := 0) (show decode cX12_pullOf 63 = .ok (.iconst 0, 1) by decide +kernel) (by decide)) ?_
    refine Iff.trans (zw_invV (K' := kX12_of) (as' := [.int x1, .int 0]) (rest := []) (show decode cX12_pullOf 64 = .ok (.invokevirtual 229, 3) by decide +kernel) (by rfl) rfl rfl rfl (hl.k2 zk_131) (by decide) (hl.n2 zk_131) ⟨Nat.le_of_ble_eq_true rfl, Nat.le_of_ble_eq_true rfl, Nat.le_of_ble_eq_true rfl⟩) ?_
    exact Iff.rfl
  · refine Iff.trans (zw_aload_n (show decode cX12_pullOf 18 = .ok (.aload_n 0, 1) by decide +kernel) rfl) ?_
    refine Iff.trans (zw_aload_n (show decode cX12_pullOf 19 = .ok (.aload_n 0, 1) by decide +kernel) rfl) ?_
    refine Iff.trans (zw_getI (show decode cX12_pullOf 20 = .ok (.getfield 45, 3) by decide +kernel) (by decide +kernel : zfld 12 45 = some (12, 19)) (hl.k2 zk_131) (hl.n2 zk_131) (Or.inl rfl) (w := zI σ 131 19) rfl) ?_
    refine Iff.trans (zw_aload_n (show decode cX12_pullOf 23 = .ok (.aload_n 0, 1) by decide +kernel) rfl) ?_
    refine Iff.trans (zw_iload_n (show decode cX12_pullOf 24 = .ok (.iload_n 1, 1) by decide +kernel) rfl) ?_
    refine Iff.trans (zw_iconst (x := 4) (show decode cX12_pullOf 25 = .ok (.iconst 4, 1) by decide +kernel) (by decide)) ?_
    refine Iff.trans (zw_invV (K' := kX12_of) (as' := [.int x1, .int 4]) (rest := [.int (zI σ 131 19), .ref 131]) (show decode cX12_pullOf 26 = .ok (.invokevirtual 229, 3) by decide +kernel) (by rfl) rfl rfl rfl (hl.k2 zk_131) (by decide) (hl.n2 zk_131) ⟨Nat.le_of_ble_eq_true rfl, Nat.le_of_ble_eq_true rfl, Nat.le_of_ble_eq_true rfl⟩) ?_
    exact Iff.rfl

theorem bX12_pullOf_29 {d : Nat} {σ : zS} {Q : Option Value → zS → Prop} (hl : zLay σ) {x1 x2 x3 x4 y0 y1 : Int32} {v5 : Value} (hv5 : v5.category = 1) : zW (d + 1) kX12_pullOf 29 [.ref 131, .int x1, .int x2, .int x3, .int x4, v5] [.int y0, .int y1, .ref 131] σ Q ↔ zCall d kX12_of [.ref 131, .int x1, .int 5] σ (fun r σ' => zisN r = true ∧ zW (d + 1) kX12_pullOf 35 [.ref 131, .int x1, .int x2, .int x3, .int x4, v5] (zRstk r ++ [.int y0, .int y1, .ref 131]) σ' Q) := by
  refine Iff.trans (zw_aload_n (show decode cX12_pullOf 29 = .ok (.aload_n 0, 1) by decide +kernel) rfl) ?_
  refine Iff.trans (zw_iload_n (show decode cX12_pullOf 30 = .ok (.iload_n 1, 1) by decide +kernel) rfl) ?_
  refine Iff.trans (zw_iconst (x := 5) (show decode cX12_pullOf 31 = .ok (.iconst 5, 1) by decide +kernel) (by decide)) ?_
  refine Iff.trans (zw_invV (K' := kX12_of) (as' := [.int x1, .int 5]) (rest := [.int y0, .int y1, .ref 131]) (show decode cX12_pullOf 32 = .ok (.invokevirtual 229, 3) by decide +kernel) (by rfl) rfl rfl rfl (hl.k2 zk_131) (by decide) (hl.n2 zk_131) ⟨Nat.le_of_ble_eq_true rfl, Nat.le_of_ble_eq_true rfl, Nat.le_of_ble_eq_true rfl⟩) ?_
  exact Iff.rfl

theorem bX12_pullOf_35 {d : Nat} {σ : zS} {Q : Option Value → zS → Prop} (hl : zLay σ) {x1 x2 x3 x4 y0 y1 y2 : Int32} {v5 : Value} (hv5 : v5.category = 1) : zW (d + 1) kX12_pullOf 35 [.ref 131, .int x1, .int x2, .int x3, .int x4, v5] [.int y0, .int y1, .int y2, .ref 131] σ Q ↔ zCall d kX12_paceOf [.ref 131, .int y2, .int y1, .int (y0 + x4)] σ (fun r σ' => zisN r = true ∧ zW (d + 1) kX12_pullOf 41 [.ref 131, .int x1, .int x2, .int x3, .int x4, v5] (zRstk r ++ []) σ' Q) := by
  refine Iff.trans (zw_iload (show decode cX12_pullOf 35 = .ok (.iload 4, 2) by decide +kernel) rfl) ?_
  refine Iff.trans (zw_iadd (show decode cX12_pullOf 37 = .ok (.iadd, 1) by decide +kernel)) ?_
  refine Iff.trans (zw_invV (K' := kX12_paceOf) (as' := [.int y2, .int y1, .int (y0 + x4)]) (rest := []) (show decode cX12_pullOf 38 = .ok (.invokevirtual 206, 3) by decide +kernel) (by rfl) rfl rfl rfl (hl.k2 zk_131) (by decide) (hl.n2 zk_131) ⟨Nat.le_of_ble_eq_true rfl, Nat.le_of_ble_eq_true rfl, Nat.le_of_ble_eq_true rfl⟩) ?_
  exact Iff.rfl

theorem bX12_pullOf_41 {d : Nat} {σ : zS} {Q : Option Value → zS → Prop} (hl : zLay σ) {x1 x2 x3 x4 y0 : Int32} {v5 : Value} (hv5 : v5.category = 1) : zW (d + 1) kX12_pullOf 41 [.ref 131, .int x1, .int x2, .int x3, .int x4, v5] [.int y0] σ Q ↔ zW (d + 1) kX12_pullOf 7 [.ref 131, .int x1, .int (x2 + y0), .int (if x3 < y0 then y0 else x3), .int (x4 + 1), .int y0] [] σ Q := by
  refine Iff.trans (zw_istore (ls' := [.ref 131, .int x1, .int x2, .int x3, .int x4, .int y0]) (show decode cX12_pullOf 41 = .ok (.istore 5, 2) by decide +kernel) (zset_s (Nat.le_of_ble_eq_true rfl) rfl)) ?_
  refine Iff.trans (zw_iload_n (show decode cX12_pullOf 43 = .ok (.iload_n 2, 1) by decide +kernel) rfl) ?_
  refine Iff.trans (zw_iload (show decode cX12_pullOf 44 = .ok (.iload 5, 2) by decide +kernel) rfl) ?_
  refine Iff.trans (zw_iadd (show decode cX12_pullOf 46 = .ok (.iadd, 1) by decide +kernel)) ?_
  refine Iff.trans (zw_istore_n (ls' := [.ref 131, .int x1, .int (x2 + y0), .int x3, .int x4, .int y0]) (show decode cX12_pullOf 47 = .ok (.istore_n 2, 1) by decide +kernel) (zset_s (Nat.le_of_ble_eq_true rfl) rfl)) ?_
  refine Iff.trans (zw_iload_n (show decode cX12_pullOf 48 = .ok (.iload_n 3, 1) by decide +kernel) rfl) ?_
  refine Iff.trans (zw_iload (show decode cX12_pullOf 49 = .ok (.iload 5, 2) by decide +kernel) rfl) ?_
  refine Iff.trans (zw_nmax (show decode cX12_pullOf 51 = .ok (.invokestatic 273, 3) by decide +kernel) (by rfl) (Nat.le_of_ble_eq_true rfl)) ?_
  refine Iff.trans (zw_istore_n (ls' := [.ref 131, .int x1, .int (x2 + y0), .int (if x3 < y0 then y0 else x3), .int x4, .int y0]) (show decode cX12_pullOf 54 = .ok (.istore_n 3, 1) by decide +kernel) (zset_s (Nat.le_of_ble_eq_true rfl) rfl)) ?_
  refine Iff.trans (zw_iinc (w := 1) (ls' := [.ref 131, .int x1, .int (x2 + y0), .int (if x3 < y0 then y0 else x3), .int (x4 + 1), .int y0]) (show decode cX12_pullOf 55 = .ok (.iinc 4 1, 3) by decide +kernel) rfl (by decide) (zset_s (Nat.le_of_ble_eq_true rfl) rfl)) ?_
  refine Iff.trans (zw_goto (t := 7) (show decode cX12_pullOf 58 = .ok (.goto (-51), 3) by decide +kernel) (by decide)) ?_
  exact Iff.rfl

theorem bX12_pullOf_67 {d : Nat} {σ : zS} {Q : Option Value → zS → Prop} (hl : zLay σ) {x1 x2 x3 x4 y0 : Int32} {v5 : Value} (hv5 : v5.category = 1) : zW (d + 1) kX12_pullOf 67 [.ref 131, .int x1, .int x2, .int x3, .int x4, v5] [.int y0] σ Q ↔ (if 3 ≤ y0 then zCall d kX12_of [.ref 131, .int x1, .int 0] σ (fun r σ' => zisN r = true ∧ zW (d + 1) kX12_pullOf 82 [.ref 131, .int x1, .int x2, .int x3, .int x4, v5] (zRstk r ++ [.int x2]) σ' Q) else zW (d + 1) kX12_pullOf 83 [.ref 131, .int x1, .int x2, .int x3, .int x4, v5] [.int x3] σ Q) := by
  refine Iff.trans (zw_iconst (x := 3) (show decode cX12_pullOf 67 = .ok (.iconst 3, 1) by decide +kernel) (by decide)) ?_
  refine Iff.trans (zw_icmp_ge (t := 75) (show decode cX12_pullOf 68 = .ok (.if_icmp .ge 7, 3) by decide +kernel) (by decide)) ?_
  refine zw_ite ?_ ?_
  · refine Iff.trans (zw_iload_n (show decode cX12_pullOf 75 = .ok (.iload_n 2, 1) by decide +kernel) rfl) ?_
    refine Iff.trans (zw_aload_n (show decode cX12_pullOf 76 = .ok (.aload_n 0, 1) by decide +kernel) rfl) ?_
    refine Iff.trans (zw_iload_n (show decode cX12_pullOf 77 = .ok (.iload_n 1, 1) by decide +kernel) rfl) ?_
    refine Iff.trans (zw_iconst (x := 0) (show decode cX12_pullOf 78 = .ok (.iconst 0, 1) by decide +kernel) (by decide)) ?_
    refine Iff.trans (zw_invV (K' := kX12_of) (as' := [.int x1, .int 0]) (rest := [.int x2]) (show decode cX12_pullOf 79 = .ok (.invokevirtual 229, 3) by decide +kernel) (by rfl) rfl rfl rfl (hl.k2 zk_131) (by decide) (hl.n2 zk_131) ⟨Nat.le_of_ble_eq_true rfl, Nat.le_of_ble_eq_true rfl, Nat.le_of_ble_eq_true rfl⟩) ?_
    exact Iff.rfl
  · refine Iff.trans (zw_iload_n (show decode cX12_pullOf 71 = .ok (.iload_n 3, 1) by decide +kernel) rfl) ?_
    refine Iff.trans (zw_goto (t := 83) (show decode cX12_pullOf 72 = .ok (.goto 11, 3) by decide +kernel) (by decide)) ?_
    exact Iff.rfl

theorem bX12_pullOf_82 {d : Nat} {σ : zS} {Q : Option Value → zS → Prop} (hl : zLay σ) {x1 x2 x3 x4 y0 y1 : Int32} {v5 : Value} (hv5 : v5.category = 1) : zW (d + 1) kX12_pullOf 82 [.ref 131, .int x1, .int x2, .int x3, .int x4, v5] [.int y0, .int y1] σ Q ↔ (¬ y0 = (0 : Int32) ∧ zW (d + 1) kX12_pullOf 83 [.ref 131, .int x1, .int x2, .int x3, .int x4, v5] [.int (y1 / y0)] σ Q) := by
  refine Iff.trans (zw_idiv (show decode cX12_pullOf 82 = .ok (.idiv, 1) by decide +kernel)) ?_
  refine zw_and ?_
  exact Iff.rfl

theorem bX12_pullOf_83 {d : Nat} {σ : zS} {Q : Option Value → zS → Prop} (hl : zLay σ) {x1 x2 x3 x4 y0 : Int32} {v5 : Value} (hv5 : v5.category = 1) : zW (d + 1) kX12_pullOf 83 [.ref 131, .int x1, .int x2, .int x3, .int x4, v5] [.int y0] σ Q ↔ zCall d kX12_of [.ref 131, .int x1, .int 1] σ (fun r σ' => zisN r = true ∧ zW (d + 1) kX12_pullOf 95 [.ref 131, .int x1, .int x2, .int x3, .int y0, v5] (zRstk r ++ [.int 0, .int y0, .int 0]) σ' Q) := by
  refine Iff.trans (zw_istore (ls' := [.ref 131, .int x1, .int x2, .int x3, .int y0, v5]) (show decode cX12_pullOf 83 = .ok (.istore 4, 2) by decide +kernel) (zset_s (Nat.le_of_ble_eq_true rfl) rfl)) ?_
  refine Iff.trans (zw_iconst (x := 0) (show decode cX12_pullOf 85 = .ok (.iconst 0, 1) by decide +kernel) (by decide)) ?_
  refine Iff.trans (zw_iload (show decode cX12_pullOf 86 = .ok (.iload 4, 2) by decide +kernel) rfl) ?_
  refine Iff.trans (zw_iconst (x := 0) (show decode cX12_pullOf 88 = .ok (.iconst 0, 1) by decide +kernel) (by decide)) ?_
  refine Iff.trans (zw_aload_n (show decode cX12_pullOf 89 = .ok (.aload_n 0, 1) by decide +kernel) rfl) ?_
  refine Iff.trans (zw_iload_n (show decode cX12_pullOf 90 = .ok (.iload_n 1, 1) by decide +kernel) rfl) ?_
  refine Iff.trans (zw_iconst (x := 1) (show decode cX12_pullOf 91 = .ok (.iconst 1, 1) by decide +kernel) (by decide)) ?_
  refine Iff.trans (zw_invV (K' := kX12_of) (as' := [.int x1, .int 1]) (rest := [.int 0, .int y0, .int 0]) (show decode cX12_pullOf 92 = .ok (.invokevirtual 229, 3) by decide +kernel) (by rfl) rfl rfl rfl (hl.k2 zk_131) (by decide) (hl.n2 zk_131) ⟨Nat.le_of_ble_eq_true rfl, Nat.le_of_ble_eq_true rfl, Nat.le_of_ble_eq_true rfl⟩) ?_
  exact Iff.rfl

theorem bX12_pullOf_95 {d : Nat} {σ : zS} {Q : Option Value → zS → Prop} (hl : zLay σ) {x1 x2 x3 x4 y0 y1 y2 y3 : Int32} {v5 : Value} (hv5 : v5.category = 1) : zW (d + 1) kX12_pullOf 95 [.ref 131, .int x1, .int x2, .int x3, .int x4, v5] [.int y0, .int y1, .int y2, .int y3] σ Q ↔ (¬ 2 = (0 : Int32) ∧ Q (some (.int (if y3 < (y2 - ((if y1 < (y0 - 5) then (y0 - 5) else y1) / 2)) then (y2 - ((if y1 < (y0 - 5) then (y0 - 5) else y1) / 2)) else y3))) σ) := by
  refine Iff.trans (zw_iconst (x := 5) (show decode cX12_pullOf 95 = .ok (.iconst 5, 1) by decide +kernel) (by decide)) ?_
  refine Iff.trans (zw_isub (show decode cX12_pullOf 96 = .ok (.isub, 1) by decide +kernel)) ?_
  refine Iff.trans (zw_nmax (show decode cX12_pullOf 97 = .ok (.invokestatic 273, 3) by decide +kernel) (by rfl) (Nat.le_of_ble_eq_true rfl)) ?_
  refine Iff.trans (zw_iconst (x := 2) (show decode cX12_pullOf 100 = .ok (.iconst 2, 1) by decide +kernel) (by decide)) ?_
  refine Iff.trans (zw_idiv (show decode cX12_pullOf 101 = .ok (.idiv, 1) by decide +kernel)) ?_
  refine zw_and ?_
  refine Iff.trans (zw_isub (show decode cX12_pullOf 102 = .ok (.isub, 1) by decide +kernel)) ?_
  refine Iff.trans (zw_nmax (show decode cX12_pullOf 103 = .ok (.invokestatic 273, 3) by decide +kernel) (by rfl) (Nat.le_of_ble_eq_true rfl)) ?_
  exact zw_iret1 (show decode cX12_pullOf 106 = .ok (.ireturn, 1) by decide +kernel) rfl

theorem bX12_isInEddy_0 {d : Nat} {σ : zS} {Q : Option Value → zS → Prop} (hl : zLay σ) {x1 : Int32} : zCall (d + 1) kX12_isInEddy [.ref 131, .int x1] σ Q ↔ zW (d + 1) kX12_isInEddy 2 [.ref 131, .int x1, .int 0] [] σ Q := by
  show zW (d + 1) kX12_isInEddy 0 [.ref 131, .int x1, .retAddr 0] [] σ Q ↔ _
  refine Iff.trans (zw_iconst (x := 0) (show decode cX12_isInEddy 0 = .ok (.iconst 0, 1) by decide +kernel) (by decide)) ?_
  refine Iff.trans (zw_istore_n (ls' := [.ref 131, .int x1, .int 0]) (show decode cX12_isInEddy 1 = .ok (.istore_n 2, 1) by decide +kernel) (zset_s (Nat.le_of_ble_eq_true rfl) rfl)) ?_
  exact Iff.rfl

theorem bX12_isInEddy_2 {d : Nat} {σ : zS} {Q : Option Value → zS → Prop} (hl : zLay σ) {x1 x2 : Int32} : zW (d + 1) kX12_isInEddy 2 [.ref 131, .int x1, .int x2] [] σ Q ↔ zCall d kX12_of [.ref 131, .int x1, .int 0] σ (fun r σ' => zisN r = true ∧ zW (d + 1) kX12_isInEddy 9 [.ref 131, .int x1, .int x2] (zRstk r ++ [.int x2]) σ' Q) := by
  refine Iff.trans (zw_iload_n (show decode cX12_isInEddy 2 = .ok (.iload_n 2, 1) by decide +kernel) rfl) ?_
  refine Iff.trans (zw_aload_n (show decode cX12_isInEddy 3 = .ok (.aload_n 0, 1) by decide +kernel) rfl) ?_
  refine Iff.trans (zw_iload_n (show decode cX12_isInEddy 4 = .ok (.iload_n 1, 1) by decide +kernel) rfl) ?_
  refine Iff.trans (zw_iconst (x := 0) (show decode cX12_isInEddy 5 = .ok (.iconst 0, 1) by decide +kernel) (by decide)) ?_
  refine Iff.trans (zw_invV (K' := kX12_of) (as' := [.int x1, .int 0]) (rest := [.int x2]) (show decode cX12_isInEddy 6 = .ok (.invokevirtual 229, 3) by decide +kernel) (by rfl) rfl rfl rfl (hl.k2 zk_131) (by decide) (hl.n2 zk_131) ⟨Nat.le_of_ble_eq_true rfl, Nat.le_of_ble_eq_true rfl, Nat.le_of_ble_eq_true rfl⟩) ?_
  exact Iff.rfl

theorem bX12_isInEddy_9 {d : Nat} {σ : zS} {Q : Option Value → zS → Prop} (hl : zLay σ) {x1 x2 y0 y1 : Int32} : zW (d + 1) kX12_isInEddy 9 [.ref 131, .int x1, .int x2] [.int y0, .int y1] σ Q ↔ (if y0 ≤ y1 then Q (some (.int 0)) σ else zCall d kX12_of [.ref 131, .int x1, .int 4] σ (fun r σ' => zisN r = true ∧ zW (d + 1) kX12_isInEddy 23 [.ref 131, .int x1, .int x2] (zRstk r ++ [.int (zI σ 131 19), .ref 131]) σ' Q)) := by
  refine Iff.trans (zw_icmp_ge (t := 47) (show decode cX12_isInEddy 9 = .ok (.if_icmp .ge 38, 3) by decide +kernel) (by decide)) ?_
  refine zw_ite ?_ ?_
  · refine Iff.trans (zw_iconst (x := 0) (show decode cX12_isInEddy 47 = .ok (.iconst 0, 1) by decide +kernel) (by decide)) ?_
    exact zw_iret2c (show decode cX12_isInEddy 48 = .ok (.ireturn, 1) by decide +kernel) rfl (Or.inl rfl)
  · refine Iff.trans (zw_aload_n (show decode cX12_isInEddy 12 = .ok (.aload_n 0, 1) by decide +kernel) rfl) ?_
    refine Iff.trans (zw_aload_n (show decode cX12_isInEddy 13 = .ok (.aload_n 0, 1) by decide +kernel) rfl) ?_
    refine Iff.trans (zw_getI (show decode cX12_isInEddy 14 = .ok (.getfield 45, 3) by decide +kernel) (by decide +kernel : zfld 12 45 = some (12, 19)) (hl.k2 zk_131) (hl.n2 zk_131) (Or.inl rfl) (w := zI σ 131 19) rfl) ?_
    refine Iff.trans (zw_aload_n (show decode cX12_isInEddy 17 = .ok (.aload_n 0, 1) by decide +kernel) rfl) ?_
    refine Iff.trans (zw_iload_n (show decode cX12_isInEddy 18 = .ok (.iload_n 1, 1) by decide +kernel) rfl) ?_
    refine Iff.trans (zw_iconst (x := 4) (show decode cX12_isInEddy 19 = .ok (.iconst 4, 1) by decide +kernel) (by decide)) ?_
    refine Iff.trans (zw_invV (K' := kX12_of) (as' := [.int x1, .int 4]) (rest := [.int (zI σ 131 19), .ref 131]) (show decode cX12_isInEddy 20 = .ok (.invokevirtual 229, 3) by decide +kernel) (by rfl) rfl rfl rfl (hl.k2 zk_131) (by decide) (hl.n2 zk_131) ⟨Nat.le_of_ble_eq_true rfl, Nat.le_of_ble_eq_true rfl, Nat.le_of_ble_eq_true rfl⟩) ?_
    exact Iff.rfl

theorem bX12_isInEddy_23 {d : Nat} {σ : zS} {Q : Option Value → zS → Prop} (hl : zLay σ) {x1 x2 y0 y1 : Int32} : zW (d + 1) kX12_isInEddy 23 [.ref 131, .int x1, .int x2] [.int y0, .int y1, .ref 131] σ Q ↔ zCall d kX12_of [.ref 131, .int x1, .int 5] σ (fun r σ' => zisN r = true ∧ zW (d + 1) kX12_isInEddy 29 [.ref 131, .int x1, .int x2] (zRstk r ++ [.int y0, .int y1, .ref 131]) σ' Q) := by
  refine Iff.trans (zw_aload_n (show decode cX12_isInEddy 23 = .ok (.aload_n 0, 1) by decide +kernel) rfl) ?_
  refine Iff.trans (zw_iload_n (show decode cX12_isInEddy 24 = .ok (.iload_n 1, 1) by decide +kernel) rfl) ?_
  refine Iff.trans (zw_iconst (x := 5) (show decode cX12_isInEddy 25 = .ok (.iconst 5, 1) by decide +kernel) (by decide)) ?_
  refine Iff.trans (zw_invV (K' := kX12_of) (as' := [.int x1, .int 5]) (rest := [.int y0, .int y1, .ref 131]) (show decode cX12_isInEddy 26 = .ok (.invokevirtual 229, 3) by decide +kernel) (by rfl) rfl rfl rfl (hl.k2 zk_131) (by decide) (hl.n2 zk_131) ⟨Nat.le_of_ble_eq_true rfl, Nat.le_of_ble_eq_true rfl, Nat.le_of_ble_eq_true rfl⟩) ?_
  exact Iff.rfl

theorem bX12_isInEddy_29 {d : Nat} {σ : zS} {Q : Option Value → zS → Prop} (hl : zLay σ) {x1 x2 y0 y1 y2 : Int32} : zW (d + 1) kX12_isInEddy 29 [.ref 131, .int x1, .int x2] [.int y0, .int y1, .int y2, .ref 131] σ Q ↔ zCall d kX12_sign [.ref 131, .int y2, .int y1, .int (y0 + x2)] σ (fun r σ' => zisN r = true ∧ zW (d + 1) kX12_isInEddy 34 [.ref 131, .int x1, .int x2] (zRstk r ++ []) σ' Q) := by
  refine Iff.trans (zw_iload_n (show decode cX12_isInEddy 29 = .ok (.iload_n 2, 1) by decide +kernel) rfl) ?_
  refine Iff.trans (zw_iadd (show decode cX12_isInEddy 30 = .ok (.iadd, 1) by decide +kernel)) ?_
  refine Iff.trans (zw_invV (K' := kX12_sign) (as' := [.int y2, .int y1, .int (y0 + x2)]) (rest := []) (show decode cX12_isInEddy 31 = .ok (.invokevirtual 189, 3) by decide +kernel) (by rfl) rfl rfl rfl (hl.k2 zk_131) (by decide) (hl.n2 zk_131) ⟨Nat.le_of_ble_eq_true rfl, Nat.le_of_ble_eq_true rfl, Nat.le_of_ble_eq_true rfl⟩) ?_
  exact Iff.rfl

theorem bX12_isInEddy_34 {d : Nat} {σ : zS} {Q : Option Value → zS → Prop} (hl : zLay σ) {x1 x2 y0 : Int32} : zW (d + 1) kX12_isInEddy 34 [.ref 131, .int x1, .int x2] [.int y0] σ Q ↔ (if y0 = 10 then Q (some (.int 1)) σ else zW (d + 1) kX12_isInEddy 2 [.ref 131, .int x1, .int (x2 + 1)] [] σ Q) := by
  refine Iff.trans (zw_bipush (x := 10) (show decode cX12_isInEddy 34 = .ok (.bipush 10, 2) by decide +kernel) (by decide)) ?_
  refine Iff.trans (zw_icmp_ne (t := 41) (show decode cX12_isInEddy 36 = .ok (.if_icmp .ne 5, 3) by decide +kernel) (by decide)) ?_
  refine zw_ite ?_ ?_
  · refine Iff.trans (zw_iconst (x := 1) (show decode cX12_isInEddy 39 = .ok (.iconst 1, 1) by decide +kernel) (by decide)) ?_
    exact zw_iret2c (show decode cX12_isInEddy 40 = .ok (.ireturn, 1) by decide +kernel) rfl (Or.inr rfl)
  · refine Iff.trans (zw_iinc (w := 1) (ls' := [.ref 131, .int x1, .int (x2 + 1)]) (show decode cX12_isInEddy 41 = .ok (.iinc 2 1, 3) by decide +kernel) rfl (by decide) (zset_s (Nat.le_of_ble_eq_true rfl) rfl)) ?_
    refine Iff.trans (zw_goto (t := 2) (show decode cX12_isInEddy 44 = .ok (.goto (-42), 3) by decide +kernel) (by decide)) ?_
    exact Iff.rfl

theorem bX12_hasWave_0 {d : Nat} {σ : zS} {Q : Option Value → zS → Prop} (hl : zLay σ) {x1 : Int32} : zCall (d + 1) kX12_hasWave [.ref 131, .int x1] σ Q ↔ zW (d + 1) kX12_hasWave 2 [.ref 131, .int x1, .int 0, .retAddr 0] [] σ Q := by
  show zW (d + 1) kX12_hasWave 0 [.ref 131, .int x1, .retAddr 0, .retAddr 0] [] σ Q ↔ _
  refine Iff.trans (zw_iconst (x := 0) (show decode cX12_hasWave 0 = .ok (.iconst 0, 1) by decide +kernel) (by decide)) ?_
  refine Iff.trans (zw_istore_n (ls' := [.ref 131, .int x1, .int 0, .retAddr 0]) (show decode cX12_hasWave 1 = .ok (.istore_n 2, 1) by decide +kernel) (zset_s (Nat.le_of_ble_eq_true rfl) rfl)) ?_
  exact Iff.rfl

theorem bX12_hasWave_2 {d : Nat} {σ : zS} {Q : Option Value → zS → Prop} (hl : zLay σ) {x1 x2 : Int32} {v3 : Value} (hv3 : v3.category = 1) : zW (d + 1) kX12_hasWave 2 [.ref 131, .int x1, .int x2, v3] [] σ Q ↔ (if (zI σ 131 20) ≤ x2 then Q (some (.int 0)) σ else zCall d kX12_of [.ref 131, .int x2, .int 4] σ (fun r σ' => zisN r = true ∧ zW (d + 1) kX12_hasWave 16 [.ref 131, .int x1, .int x2, v3] (zRstk r ++ []) σ' Q)) := by
  refine Iff.trans (zw_iload_n (show decode cX12_hasWave 2 = .ok (.iload_n 2, 1) by decide +kernel) rfl) ?_
  refine Iff.trans (zw_aload_n (show decode cX12_hasWave 3 = .ok (.aload_n 0, 1) by decide +kernel) rfl) ?_
  refine Iff.trans (zw_getI (show decode cX12_hasWave 4 = .ok (.getfield 222, 3) by decide +kernel) (by decide +kernel : zfld 12 222 = some (12, 20)) (hl.k2 zk_131) (hl.n2 zk_131) (Or.inl rfl) (w := zI σ 131 20) rfl) ?_
  refine Iff.trans (zw_icmp_ge (t := 102) (show decode cX12_hasWave 7 = .ok (.if_icmp .ge 95, 3) by decide +kernel) (by decide)) ?_
  refine zw_ite ?_ ?_
  · refine Iff.trans (zw_iconst (x := 0) (show decode cX12_hasWave 102 = .ok (.iconst 0, 1) by decide +kernel) (by decide)) ?_
    exact zw_iret2c (show decode cX12_hasWave 103 = .ok (.ireturn, 1) by decide +kernel) rfl (Or.inl rfl)
  · refine Iff.trans (zw_aload_n (show decode cX12_hasWave 10 = .ok (.aload_n 0, 1) by decide +kernel) rfl) ?_
    refine Iff.trans (zw_iload_n (show decode cX12_hasWave 11 = .ok (.iload_n 2, 1) by decide +kernel) rfl) ?_
    refine Iff.trans (zw_iconst (x := 4) (show decode cX12_hasWave 12 = .ok (.iconst 4, 1) by decide +kernel) (by decide)) ?_
    refine Iff.trans (zw_invV (K' := kX12_of) (as' := [.int x2, .int 4]) (rest := []) (show decode cX12_hasWave 13 = .ok (.invokevirtual 229, 3) by decide +kernel) (by rfl) rfl rfl rfl (hl.k2 zk_131) (by decide) (hl.n2 zk_131) ⟨Nat.le_of_ble_eq_true rfl, Nat.le_of_ble_eq_true rfl, Nat.le_of_ble_eq_true rfl⟩) ?_
    exact Iff.rfl

theorem bX12_hasWave_16 {d : Nat} {σ : zS} {Q : Option Value → zS → Prop} (hl : zLay σ) {x1 x2 y0 : Int32} {v3 : Value} (hv3 : v3.category = 1) : zW (d + 1) kX12_hasWave 16 [.ref 131, .int x1, .int x2, v3] [.int y0] σ Q ↔ zCall d kX12_of [.ref 131, .int x1, .int 4] σ (fun r σ' => zisN r = true ∧ zW (d + 1) kX12_hasWave 22 [.ref 131, .int x1, .int x2, v3] (zRstk r ++ [.int y0]) σ' Q) := by
  refine Iff.trans (zw_aload_n (show decode cX12_hasWave 16 = .ok (.aload_n 0, 1) by decide +kernel) rfl) ?_
  refine Iff.trans (zw_iload_n (show decode cX12_hasWave 17 = .ok (.iload_n 1, 1) by decide +kernel) rfl) ?_
  refine Iff.trans (zw_iconst (x := 4) (show decode cX12_hasWave 18 = .ok (.iconst 4, 1) by decide +kernel) (by decide)) ?_
  refine Iff.trans (zw_invV (K' := kX12_of) (as' := [.int x1, .int 4]) (rest := [.int y0]) (show decode cX12_hasWave 19 = .ok (.invokevirtual 229, 3) by decide +kernel) (by rfl) rfl rfl rfl (hl.k2 zk_131) (by decide) (hl.n2 zk_131) ⟨Nat.le_of_ble_eq_true rfl, Nat.le_of_ble_eq_true rfl, Nat.le_of_ble_eq_true rfl⟩) ?_
  exact Iff.rfl

theorem bX12_hasWave_22 {d : Nat} {σ : zS} {Q : Option Value → zS → Prop} (hl : zLay σ) {x1 x2 y0 y1 : Int32} {v3 : Value} (hv3 : v3.category = 1) : zW (d + 1) kX12_hasWave 22 [.ref 131, .int x1, .int x2, v3] [.int y0, .int y1] σ Q ↔ (if x2 = x1 then zW (d + 1) kX12_hasWave 2 [.ref 131, .int x1, .int (x2 + 1), .int (y1 - y0)] [] σ Q else zCall d kX12_isOut [.ref 131, .int x2] σ (fun r σ' => zisN r = true ∧ zW (d + 1) kX12_hasWave 34 [.ref 131, .int x1, .int x2, .int (y1 - y0)] (zRstk r ++ []) σ' Q)) := by
  refine Iff.trans (zw_isub (show decode cX12_hasWave 22 = .ok (.isub, 1) by decide +kernel)) ?_
  refine Iff.trans (zw_istore_n (ls' := [.ref 131, .int x1, .int x2, .int (y1 - y0)]) (show decode cX12_hasWave 23 = .ok (.istore_n 3, 1) by decide +kernel) (zset_s (Nat.le_of_ble_eq_true rfl) rfl)) ?_
  refine Iff.trans (zw_iload_n (show decode cX12_hasWave 24 = .ok (.iload_n 2, 1) by decide +kernel) rfl) ?_
  refine Iff.trans (zw_iload_n (show decode cX12_hasWave 25 = .ok (.iload_n 1, 1) by decide +kernel) rfl) ?_
  refine Iff.trans (zw_icmp_eq (t := 96) (show decode cX12_hasWave 26 = .ok (.if_icmp .eq 70, 3) by decide +kernel) (by decide)) ?_
  refine zw_ite ?_ ?_
  · refine Iff.trans (zw_iinc (w := 1) (ls' := [.ref 131, .int x1, .int (x2 + 1), .int (y1 - y0)]) (show decode cX12_hasWave 96 = .ok (.iinc 2 1, 3) by decide +kernel) rfl (by decide) (zset_s (Nat.le_of_ble_eq_true rfl) rfl)) ?_
    refine Iff.trans (zw_goto (t := 2) (show decode cX12_hasWave 99 = .ok (.goto (-97), 3) by decide +kernel) (by decide)) ?_
    exact Iff.rfl
  · refine Iff.trans (zw_aload_n (show decode cX12_hasWave 29 = .ok (.aload_n 0, 1) by decide +kernel) rfl) ?_
    refine Iff.trans (zw_iload_n (show decode cX12_hasWave 30 = .ok (.iload_n 2, 1) by decide +kernel) rfl) ?_
    refine Iff.trans (zw_invV (K' := kX12_isOut) (as' := [.int x2]) (rest := []) (show decode cX12_hasWave 31 = .ok (.invokevirtual 235, 3) by decide +kernel) (by rfl) rfl rfl rfl (hl.k2 zk_131) (by decide) (hl.n2 zk_131) ⟨Nat.le_of_ble_eq_true rfl, Nat.le_of_ble_eq_true rfl, Nat.le_of_ble_eq_true rfl⟩) ?_
    exact Iff.rfl

theorem bX12_hasWave_34 {d : Nat} {σ : zS} {Q : Option Value → zS → Prop} (hl : zLay σ) {x1 x2 x3 y0 : Int32} : zW (d + 1) kX12_hasWave 34 [.ref 131, .int x1, .int x2, .int x3] [.int y0] σ Q ↔ (if y0 = (0 : Int32) then (if x3 < 1 then zW (d + 1) kX12_hasWave 2 [.ref 131, .int x1, .int (x2 + 1), .int x3] [] σ Q else (if x3 ≤ 2 then zCall d kX12_of [.ref 131, .int x2, .int 5] σ (fun r σ' => zisN r = true ∧ zW (d + 1) kX12_hasWave 56 [.ref 131, .int x1, .int x2, .int x3] (zRstk r ++ []) σ' Q) else zW (d + 1) kX12_hasWave 2 [.ref 131, .int x1, .int (x2 + 1), .int x3] [] σ Q)) else zW (d + 1) kX12_hasWave 2 [.ref 131, .int x1, .int (x2 + 1), .int x3] [] σ Q) := by
  refine Iff.trans (zw_if_ne (t := 96) (show decode cX12_hasWave 34 = .ok (.ifCond .ne 62, 3) by decide +kernel) (by decide)) ?_
  refine zw_ite ?_ ?_
  · refine Iff.trans (zw_iload_n (show decode cX12_hasWave 37 = .ok (.iload_n 3, 1) by decide +kernel) rfl) ?_
    refine Iff.trans (zw_iconst (x := 1) (show decode cX12_hasWave 38 = .ok (.iconst 1, 1) by decide +kernel) (by decide)) ?_
    refine Iff.trans (zw_icmp_lt (t := 96) (show decode cX12_hasWave 39 = .ok (.if_icmp .lt 57, 3) by decide +kernel) (by decide)) ?_
    refine zw_ite ?_ ?_
    · refine Iff.trans (zw_iinc (w := 1) (ls' := [.ref 131, .int x1, .int (x2 + 1), .int x3]) (show decode cX12_hasWave 96 = .ok (.iinc 2 1, 3) by decide +kernel) rfl (by decide) (zset_s (Nat.le_of_ble_eq_true rfl) rfl)) ?_
      refine Iff.trans (zw_goto (t := 2) (show decode cX12_hasWave 99 = .ok (.goto (-97), 3) by decide +kernel) (by decide)) ?_
      exact Iff.rfl
    · refine Iff.trans (zw_iload_n (show decode cX12_hasWave 42 = .ok (.iload_n 3, 1) by decide +kernel) rfl) ?_
      refine Iff.trans (zw_iconst (x := 2) (show decode cX12_hasWave 43 = .ok (.iconst 2, 1) by decide +kernel) (by decide)) ?_
      refine Iff.trans (zw_icmp_le (t := 50) (show decode cX12_hasWave 44 = .ok (.if_icmp .le 6, 3) by decide +kernel) (by decide)) ?_
      refine zw_ite ?_ ?_
      · refine Iff.trans (zw_aload_n (show decode cX12_hasWave 50 = .ok (.aload_n 0, 1) by decide +kernel) rfl) ?_
        refine Iff.trans (zw_iload_n (show decode cX12_hasWave 51 = .ok (.iload_n 2, 1) by decide +kernel) rfl) ?_
        refine Iff.trans (zw_iconst (x := 5) (show decode cX12_hasWave 52 = .ok (.iconst 5, 1) by decide +kernel) (by decide)) ?_
        refine Iff.trans (zw_invV (K' := kX12_of) (as' := [.int x2, .int 5]) (rest := []) (show decode cX12_hasWave 53 = .ok (.invokevirtual 229, 3) by decide +kernel) (by rfl) rfl rfl rfl (hl.k2 zk_131) (by decide) (hl.n2 zk_131) ⟨Nat.le_of_ble_eq_true rfl, Nat.le_of_ble_eq_true rfl, Nat.le_of_ble_eq_true rfl⟩) ?_
        exact Iff.rfl
      · refine Iff.trans (zw_goto (t := 96) (show decode cX12_hasWave 47 = .ok (.goto 49, 3) by decide +kernel) (by decide)) ?_
        refine Iff.trans (zw_iinc (w := 1) (ls' := [.ref 131, .int x1, .int (x2 + 1), .int x3]) (show decode cX12_hasWave 96 = .ok (.iinc 2 1, 3) by decide +kernel) rfl (by decide) (zset_s (Nat.le_of_ble_eq_true rfl) rfl)) ?_
        refine Iff.trans (zw_goto (t := 2) (show decode cX12_hasWave 99 = .ok (.goto (-97), 3) by decide +kernel) (by decide)) ?_
        exact Iff.rfl
  · refine Iff.trans (zw_iinc (w := 1) (ls' := [.ref 131, .int x1, .int (x2 + 1), .int x3]) (show decode cX12_hasWave 96 = .ok (.iinc 2 1, 3) by decide +kernel) rfl (by decide) (zset_s (Nat.le_of_ble_eq_true rfl) rfl)) ?_
    refine Iff.trans (zw_goto (t := 2) (show decode cX12_hasWave 99 = .ok (.goto (-97), 3) by decide +kernel) (by decide)) ?_
    exact Iff.rfl

theorem bX12_hasWave_56 {d : Nat} {σ : zS} {Q : Option Value → zS → Prop} (hl : zLay σ) {x1 x2 x3 y0 : Int32} : zW (d + 1) kX12_hasWave 56 [.ref 131, .int x1, .int x2, .int x3] [.int y0] σ Q ↔ zCall d kX12_of [.ref 131, .int x1, .int 5] σ (fun r σ' => zisN r = true ∧ zW (d + 1) kX12_hasWave 62 [.ref 131, .int x1, .int x2, .int x3] (zRstk r ++ [.int y0]) σ' Q) := by
  refine Iff.trans (zw_aload_n (show decode cX12_hasWave 56 = .ok (.aload_n 0, 1) by decide +kernel) rfl) ?_
  refine Iff.trans (zw_iload_n (show decode cX12_hasWave 57 = .ok (.iload_n 1, 1) by decide +kernel) rfl) ?_
  refine Iff.trans (zw_iconst (x := 5) (show decode cX12_hasWave 58 = .ok (.iconst 5, 1) by decide +kernel) (by decide)) ?_
  refine Iff.trans (zw_invV (K' := kX12_of) (as' := [.int x1, .int 5]) (rest := [.int y0]) (show decode cX12_hasWave 59 = .ok (.invokevirtual 229, 3) by decide +kernel) (by rfl) rfl rfl rfl (hl.k2 zk_131) (by decide) (hl.n2 zk_131) ⟨Nat.le_of_ble_eq_true rfl, Nat.le_of_ble_eq_true rfl, Nat.le_of_ble_eq_true rfl⟩) ?_
  exact Iff.rfl

theorem bX12_hasWave_62 {d : Nat} {σ : zS} {Q : Option Value → zS → Prop} (hl : zLay σ) {x1 x2 x3 y0 y1 : Int32} : zW (d + 1) kX12_hasWave 62 [.ref 131, .int x1, .int x2, .int x3] [.int y0, .int y1] σ Q ↔ zCall d kX12_of [.ref 131, .int x1, .int 0] σ (fun r σ' => zisN r = true ∧ zW (d + 1) kX12_hasWave 68 [.ref 131, .int x1, .int x2, .int x3] (zRstk r ++ [.int y0, .int y1]) σ' Q) := by
  refine Iff.trans (zw_aload_n (show decode cX12_hasWave 62 = .ok (.aload_n 0, 1) by decide +kernel) rfl) ?_
  refine Iff.trans (zw_iload_n (show decode cX12_hasWave 63 = .ok (.iload_n 1, 1) by decide +kernel) rfl) ?_
  refine Iff.trans (zw_iconst (x := 0) (show decode cX12_hasWave 64 = .ok (.iconst 0, 1) by decide +kernel) (by decide)) ?_
  refine Iff.trans (zw_invV (K' := kX12_of) (as' := [.int x1, .int 0]) (rest := [.int y0, .int y1]) (show decode cX12_hasWave 65 = .ok (.invokevirtual 229, 3) by decide +kernel) (by rfl) rfl rfl rfl (hl.k2 zk_131) (by decide) (hl.n2 zk_131) ⟨Nat.le_of_ble_eq_true rfl, Nat.le_of_ble_eq_true rfl, Nat.le_of_ble_eq_true rfl⟩) ?_
  exact Iff.rfl

theorem bX12_hasWave_68 {d : Nat} {σ : zS} {Q : Option Value → zS → Prop} (hl : zLay σ) {x1 x2 x3 y0 y1 y2 : Int32} : zW (d + 1) kX12_hasWave 68 [.ref 131, .int x1, .int x2, .int x3] [.int y0, .int y1, .int y2] σ Q ↔ (if (y1 + y0) ≤ y2 then zW (d + 1) kX12_hasWave 2 [.ref 131, .int x1, .int (x2 + 1), .int x3] [] σ Q else zCall d kX12_of [.ref 131, .int x1, .int 5] σ (fun r σ' => zisN r = true ∧ zW (d + 1) kX12_hasWave 78 [.ref 131, .int x1, .int x2, .int x3] (zRstk r ++ []) σ' Q)) := by
  refine Iff.trans (zw_iadd (show decode cX12_hasWave 68 = .ok (.iadd, 1) by decide +kernel)) ?_
  refine Iff.trans (zw_icmp_ge (t := 96) (show decode cX12_hasWave 69 = .ok (.if_icmp .ge 27, 3) by decide +kernel) (by decide)) ?_
  refine zw_ite ?_ ?_
  · refine Iff.trans (zw_iinc (w := 1) (ls' := [.ref 131, .int x1, .int (x2 + 1), .int x3]) (show decode cX12_hasWave 96 = .ok (.iinc 2 1, 3) by decide +kernel) rfl (by decide) (zset_s (Nat.le_of_ble_eq_true rfl) rfl)) ?_
    refine Iff.trans (zw_goto (t := 2) (show decode cX12_hasWave 99 = .ok (.goto (-97), 3) by decide +kernel) (by decide)) ?_
    exact Iff.rfl
  · refine Iff.trans (zw_aload_n (show decode cX12_hasWave 72 = .ok (.aload_n 0, 1) by decide +kernel) rfl) ?_
    refine Iff.trans (zw_iload_n (show decode cX12_hasWave 73 = .ok (.iload_n 1, 1) by decide +kernel) rfl) ?_
    refine Iff.trans (zw_iconst (x := 5) (show decode cX12_hasWave 74 = .ok (.iconst 5, 1) by decide +kernel) (by decide)) ?_
    refine Iff.trans (zw_invV (K' := kX12_of) (as' := [.int x1, .int 5]) (rest := []) (show decode cX12_hasWave 75 = .ok (.invokevirtual 229, 3) by decide +kernel) (by rfl) rfl rfl rfl (hl.k2 zk_131) (by decide) (hl.n2 zk_131) ⟨Nat.le_of_ble_eq_true rfl, Nat.le_of_ble_eq_true rfl, Nat.le_of_ble_eq_true rfl⟩) ?_
    exact Iff.rfl

theorem bX12_hasWave_78 {d : Nat} {σ : zS} {Q : Option Value → zS → Prop} (hl : zLay σ) {x1 x2 x3 y0 : Int32} : zW (d + 1) kX12_hasWave 78 [.ref 131, .int x1, .int x2, .int x3] [.int y0] σ Q ↔ zCall d kX12_of [.ref 131, .int x2, .int 5] σ (fun r σ' => zisN r = true ∧ zW (d + 1) kX12_hasWave 84 [.ref 131, .int x1, .int x2, .int x3] (zRstk r ++ [.int y0]) σ' Q) := by
  refine Iff.trans (zw_aload_n (show decode cX12_hasWave 78 = .ok (.aload_n 0, 1) by decide +kernel) rfl) ?_
  refine Iff.trans (zw_iload_n (show decode cX12_hasWave 79 = .ok (.iload_n 2, 1) by decide +kernel) rfl) ?_
  refine Iff.trans (zw_iconst (x := 5) (show decode cX12_hasWave 80 = .ok (.iconst 5, 1) by decide +kernel) (by decide)) ?_
  refine Iff.trans (zw_invV (K' := kX12_of) (as' := [.int x2, .int 5]) (rest := [.int y0]) (show decode cX12_hasWave 81 = .ok (.invokevirtual 229, 3) by decide +kernel) (by rfl) rfl rfl rfl (hl.k2 zk_131) (by decide) (hl.n2 zk_131) ⟨Nat.le_of_ble_eq_true rfl, Nat.le_of_ble_eq_true rfl, Nat.le_of_ble_eq_true rfl⟩) ?_
  exact Iff.rfl

theorem bX12_hasWave_84 {d : Nat} {σ : zS} {Q : Option Value → zS → Prop} (hl : zLay σ) {x1 x2 x3 y0 y1 : Int32} : zW (d + 1) kX12_hasWave 84 [.ref 131, .int x1, .int x2, .int x3] [.int y0, .int y1] σ Q ↔ zCall d kX12_of [.ref 131, .int x2, .int 0] σ (fun r σ' => zisN r = true ∧ zW (d + 1) kX12_hasWave 90 [.ref 131, .int x1, .int x2, .int x3] (zRstk r ++ [.int y0, .int y1]) σ' Q) := by
  refine Iff.trans (zw_aload_n (show decode cX12_hasWave 84 = .ok (.aload_n 0, 1) by decide +kernel) rfl) ?_
  refine Iff.trans (zw_iload_n (show decode cX12_hasWave 85 = .ok (.iload_n 2, 1) by decide +kernel) rfl) ?_
  refine Iff.trans (zw_iconst (x := 0) (show decode cX12_hasWave 86 = .ok (.iconst 0, 1) by decide +kernel) (by decide)) ?_
  refine Iff.trans (zw_invV (K' := kX12_of) (as' := [.int x2, .int 0]) (rest := [.int y0, .int y1]) (show decode cX12_hasWave 87 = .ok (.invokevirtual 229, 3) by decide +kernel) (by rfl) rfl rfl rfl (hl.k2 zk_131) (by decide) (hl.n2 zk_131) ⟨Nat.le_of_ble_eq_true rfl, Nat.le_of_ble_eq_true rfl, Nat.le_of_ble_eq_true rfl⟩) ?_
  exact Iff.rfl

theorem bX12_hasWave_90 {d : Nat} {σ : zS} {Q : Option Value → zS → Prop} (hl : zLay σ) {x1 x2 x3 y0 y1 y2 : Int32} : zW (d + 1) kX12_hasWave 90 [.ref 131, .int x1, .int x2, .int x3] [.int y0, .int y1, .int y2] σ Q ↔ (if (y1 + y0) ≤ y2 then zW (d + 1) kX12_hasWave 2 [.ref 131, .int x1, .int (x2 + 1), .int x3] [] σ Q else Q (some (.int 1)) σ) := by
  refine Iff.trans (zw_iadd (show decode cX12_hasWave 90 = .ok (.iadd, 1) by decide +kernel)) ?_
  refine Iff.trans (zw_icmp_ge (t := 96) (show decode cX12_hasWave 91 = .ok (.if_icmp .ge 5, 3) by decide +kernel) (by decide)) ?_
  refine zw_ite ?_ ?_
  · refine Iff.trans (zw_iinc (w := 1) (ls' := [.ref 131, .int x1, .int (x2 + 1), .int x3]) (show decode cX12_hasWave 96 = .ok (.iinc 2 1, 3) by decide +kernel) rfl (by decide) (zset_s (Nat.le_of_ble_eq_true rfl) rfl)) ?_
    refine Iff.trans (zw_goto (t := 2) (show decode cX12_hasWave 99 = .ok (.goto (-97), 3) by decide +kernel) (by decide)) ?_
    exact Iff.rfl
  · refine Iff.trans (zw_iconst (x := 1) (show decode cX12_hasWave 94 = .ok (.iconst 1, 1) by decide +kernel) (by decide)) ?_
    exact zw_iret2c (show decode cX12_hasWave 95 = .ok (.ireturn, 1) by decide +kernel) rfl (Or.inr rfl)

theorem bX12_goAside_0 {d : Nat} {σ : zS} {Q : Option Value → zS → Prop} (hl : zLay σ) {x1 x2 : Int32} : zCall (d + 1) kX12_goAside [.ref 131, .int x1, .int x2] σ Q ↔ zCall d kX12_of [.ref 131, .int x1, .int 0] σ (fun r σ' => zisN r = true ∧ zW (d + 1) kX12_goAside 11 [.ref 131, .int x1, .int x2] (zRstk r ++ [.int (zI σ 131 19), .ref 131]) σ' Q) := by
  show zW (d + 1) kX12_goAside 0 [.ref 131, .int x1, .int x2] [] σ Q ↔ _
  refine Iff.trans (zw_aload_n (show decode cX12_goAside 0 = .ok (.aload_n 0, 1) by decide +kernel) rfl) ?_
  refine Iff.trans (zw_aload_n (show decode cX12_goAside 1 = .ok (.aload_n 0, 1) by decide +kernel) rfl) ?_
  refine Iff.trans (zw_getI (show decode cX12_goAside 2 = .ok (.getfield 45, 3) by decide +kernel) (by decide +kernel : zfld 12 45 = some (12, 19)) (hl.k2 zk_131) (hl.n2 zk_131) (Or.inl rfl) (w := zI σ 131 19) rfl) ?_
  refine Iff.trans (zw_aload_n (show decode cX12_goAside 5 = .ok (.aload_n 0, 1) by decide +kernel) rfl) ?_
  refine Iff.trans (zw_iload_n (show decode cX12_goAside 6 = .ok (.iload_n 1, 1) by decide +kernel) rfl) ?_
  refine Iff.trans (zw_iconst (x := 0) (show decode cX12_goAside 7 = .ok (.iconst 0, 1) by decide +kernel) (by decide)) ?_
  refine Iff.trans (zw_invV (K' := kX12_of) (as' := [.int x1, .int 0]) (rest := [.int (zI σ 131 19), .ref 131]) (show decode cX12_goAside 8 = .ok (.invokevirtual 229, 3) by decide +kernel) (by rfl) rfl rfl rfl (hl.k2 zk_131) (by decide) (hl.n2 zk_131) ⟨Nat.le_of_ble_eq_true rfl, Nat.le_of_ble_eq_true rfl, Nat.le_of_ble_eq_true rfl⟩) ?_
  exact Iff.rfl

theorem bX12_goAside_11 {d : Nat} {σ : zS} {Q : Option Value → zS → Prop} (hl : zLay σ) {x1 x2 y0 y1 : Int32} : zW (d + 1) kX12_goAside 11 [.ref 131, .int x1, .int x2] [.int y0, .int y1, .ref 131] σ Q ↔ zCall d kX12_of [.ref 131, .int x1, .int 4] σ (fun r σ' => zisN r = true ∧ zW (d + 1) kX12_goAside 17 [.ref 131, .int x1, .int x2] (zRstk r ++ [.int y0, .int y1, .ref 131]) σ' Q) := by
  refine Iff.trans (zw_aload_n (show decode cX12_goAside 11 = .ok (.aload_n 0, 1) by decide +kernel) rfl) ?_
  refine Iff.trans (zw_iload_n (show decode cX12_goAside 12 = .ok (.iload_n 1, 1) by decide +kernel) rfl) ?_
  refine Iff.trans (zw_iconst (x := 4) (show decode cX12_goAside 13 = .ok (.iconst 4, 1) by decide +kernel) (by decide)) ?_
  refine Iff.trans (zw_invV (K' := kX12_of) (as' := [.int x1, .int 4]) (rest := [.int y0, .int y1, .ref 131]) (show decode cX12_goAside 14 = .ok (.invokevirtual 229, 3) by decide +kernel) (by rfl) rfl rfl rfl (hl.k2 zk_131) (by decide) (hl.n2 zk_131) ⟨Nat.le_of_ble_eq_true rfl, Nat.le_of_ble_eq_true rfl, Nat.le_of_ble_eq_true rfl⟩) ?_
  exact Iff.rfl

theorem bX12_goAside_17 {d : Nat} {σ : zS} {Q : Option Value → zS → Prop} (hl : zLay σ) {x1 x2 y0 y1 y2 : Int32} : zW (d + 1) kX12_goAside 17 [.ref 131, .int x1, .int x2] [.int y0, .int y1, .int y2, .ref 131] σ Q ↔ zCall d kX12_canLie [.ref 131, .int y2, .int y1, .int y0, .int x2] σ (fun r σ' => zisN r = true ∧ zW (d + 1) kX12_goAside 21 [.ref 131, .int x1, .int x2] (zRstk r ++ []) σ' Q) := by
  refine Iff.trans (zw_iload_n (show decode cX12_goAside 17 = .ok (.iload_n 2, 1) by decide +kernel) rfl) ?_
  refine Iff.trans (zw_invV (K' := kX12_canLie) (as' := [.int y2, .int y1, .int y0, .int x2]) (rest := []) (show decode cX12_goAside 18 = .ok (.invokevirtual 218, 3) by decide +kernel) (by rfl) rfl rfl rfl (hl.k2 zk_131) (by decide) (hl.n2 zk_131) ⟨Nat.le_of_ble_eq_true rfl, Nat.le_of_ble_eq_true rfl, Nat.le_of_ble_eq_true rfl⟩) ?_
  exact Iff.rfl

theorem bX12_goAside_21 {d : Nat} {σ : zS} {Q : Option Value → zS → Prop} (hl : zLay σ) {x1 x2 y0 : Int32} : zW (d + 1) kX12_goAside 21 [.ref 131, .int x1, .int x2] [.int y0] σ Q ↔ (if y0 = (0 : Int32) then zW (d + 1) kX12_goAside 52 [.ref 131, .int x1, .int x2] [] σ Q else zCall d kX12_of [.ref 131, .int x1, .int 0] σ (fun r σ' => zisN r = true ∧ zW (d + 1) kX12_goAside 32 [.ref 131, .int x1, .int x2] (zRstk r ++ [.int x1, .ref 131]) σ' Q)) := by
  refine Iff.trans (zw_if_eq (t := 52) (show decode cX12_goAside 21 = .ok (.ifCond .eq 31, 3) by decide +kernel) (by decide)) ?_
  refine zw_ite ?_ ?_
  · exact Iff.rfl
  · refine Iff.trans (zw_aload_n (show decode cX12_goAside 24 = .ok (.aload_n 0, 1) by decide +kernel) rfl) ?_
    refine Iff.trans (zw_iload_n (show decode cX12_goAside 25 = .ok (.iload_n 1, 1) by decide +kernel) rfl) ?_
    refine Iff.trans (zw_aload_n (show decode cX12_goAside 26 = .ok (.aload_n 0, 1) by decide +kernel) rfl) ?_
    refine Iff.trans (zw_iload_n (show decode cX12_goAside 27 = .ok (.iload_n 1, 1) by decide +kernel) rfl) ?_
    refine Iff.trans (zw_iconst (x := 0) (show decode cX12_goAside 28 = .ok (.iconst 0, 1) by decide +kernel) (by decide)) ?_
    refine Iff.trans (zw_invV (K' := kX12_of) (as' := [.int x1, .int 0]) (rest := [.int x1, .ref 131]) (show decode cX12_goAside 29 = .ok (.invokevirtual 229, 3) by decide +kernel) (by rfl) rfl rfl rfl (hl.k2 zk_131) (by decide) (hl.n2 zk_131) ⟨Nat.le_of_ble_eq_true rfl, Nat.le_of_ble_eq_true rfl, Nat.le_of_ble_eq_true rfl⟩) ?_
    exact Iff.rfl

theorem bX12_goAside_32 {d : Nat} {σ : zS} {Q : Option Value → zS → Prop} (hl : zLay σ) {x1 x2 y0 y1 : Int32} : zW (d + 1) kX12_goAside 32 [.ref 131, .int x1, .int x2] [.int y0, .int y1, .ref 131] σ Q ↔ zCall d kX12_of [.ref 131, .int x1, .int 4] σ (fun r σ' => zisN r = true ∧ zW (d + 1) kX12_goAside 38 [.ref 131, .int x1, .int x2] (zRstk r ++ [.int y0, .int y1, .ref 131]) σ' Q) := by
  refine Iff.trans (zw_aload_n (show decode cX12_goAside 32 = .ok (.aload_n 0, 1) by decide +kernel) rfl) ?_
  refine Iff.trans (zw_iload_n (show decode cX12_goAside 33 = .ok (.iload_n 1, 1) by decide +kernel) rfl) ?_
  refine Iff.trans (zw_iconst (x := 4) (show decode cX12_goAside 34 = .ok (.iconst 4, 1) by decide +kernel) (by decide)) ?_
  refine Iff.trans (zw_invV (K' := kX12_of) (as' := [.int x1, .int 4]) (rest := [.int y0, .int y1, .ref 131]) (show decode cX12_goAside 35 = .ok (.invokevirtual 229, 3) by decide +kernel) (by rfl) rfl rfl rfl (hl.k2 zk_131) (by decide) (hl.n2 zk_131) ⟨Nat.le_of_ble_eq_true rfl, Nat.le_of_ble_eq_true rfl, Nat.le_of_ble_eq_true rfl⟩) ?_
  exact Iff.rfl

theorem bX12_goAside_38 {d : Nat} {σ : zS} {Q : Option Value → zS → Prop} (hl : zLay σ) {x1 x2 y0 y1 y2 : Int32} : zW (d + 1) kX12_goAside 38 [.ref 131, .int x1, .int x2] [.int y0, .int y1, .int y2, .ref 131] σ Q ↔ zCall d kX12_isFree [.ref 131, .int y2, .int y1, .int y0, .int x2] σ (fun r σ' => zisN r = true ∧ zW (d + 1) kX12_goAside 42 [.ref 131, .int x1, .int x2] (zRstk r ++ []) σ' Q) := by
  refine Iff.trans (zw_iload_n (show decode cX12_goAside 38 = .ok (.iload_n 2, 1) by decide +kernel) rfl) ?_
  refine Iff.trans (zw_invV (K' := kX12_isFree) (as' := [.int y2, .int y1, .int y0, .int x2]) (rest := []) (show decode cX12_goAside 39 = .ok (.invokevirtual 241, 3) by decide +kernel) (by rfl) rfl rfl rfl (hl.k2 zk_131) (by decide) (hl.n2 zk_131) ⟨Nat.le_of_ble_eq_true rfl, Nat.le_of_ble_eq_true rfl, Nat.le_of_ble_eq_true rfl⟩) ?_
  exact Iff.rfl

theorem bX12_goAside_42 {d : Nat} {σ : zS} {Q : Option Value → zS → Prop} (hl : zLay σ) {x1 x2 y0 : Int32} : zW (d + 1) kX12_goAside 42 [.ref 131, .int x1, .int x2] [.int y0] σ Q ↔ (if y0 = (0 : Int32) then zW (d + 1) kX12_goAside 52 [.ref 131, .int x1, .int x2] [] σ Q else zCall d kX12_set [.ref 131, .int x1, .int 5, .int x2] σ (fun r σ' => zisN r = true ∧ zW (d + 1) kX12_goAside 52 [.ref 131, .int x1, .int x2] (zRstk r ++ []) σ' Q)) := by
  refine Iff.trans (zw_if_eq (t := 52) (show decode cX12_goAside 42 = .ok (.ifCond .eq 10, 3) by decide +kernel) (by decide)) ?_
  refine zw_ite ?_ ?_
  · exact Iff.rfl
  · refine Iff.trans (zw_aload_n (show decode cX12_goAside 45 = .ok (.aload_n 0, 1) by decide +kernel) rfl) ?_
    refine Iff.trans (zw_iload_n (show decode cX12_goAside 46 = .ok (.iload_n 1, 1) by decide +kernel) rfl) ?_
    refine Iff.trans (zw_iconst (x := 5) (show decode cX12_goAside 47 = .ok (.iconst 5, 1) by decide +kernel) (by decide)) ?_
    refine Iff.trans (zw_iload_n (show decode cX12_goAside 48 = .ok (.iload_n 2, 1) by decide +kernel) rfl) ?_
    refine Iff.trans (zw_invV (K' := kX12_set) (as' := [.int x1, .int 5, .int x2]) (rest := []) (show decode cX12_goAside 49 = .ok (.invokevirtual 225, 3) by decide +kernel) (by rfl) rfl rfl rfl (hl.k2 zk_131) (by decide) (hl.n2 zk_131) ⟨Nat.le_of_ble_eq_true rfl, Nat.le_of_ble_eq_true rfl, Nat.le_of_ble_eq_true rfl⟩) ?_
    exact Iff.rfl

theorem bX12_goAside_52 {d : Nat} {σ : zS} {Q : Option Value → zS → Prop} (hl : zLay σ) {x1 x2 : Int32} : zW (d + 1) kX12_goAside 52 [.ref 131, .int x1, .int x2] [] σ Q ↔ Q none σ := by
  exact zw_ret (show decode cX12_goAside 52 = .ok (.return_, 1) by decide +kernel) rfl

theorem bX12_strike_0 {d : Nat} {σ : zS} {Q : Option Value → zS → Prop} (hl : zLay σ) {x1 : Int32} : zCall (d + 1) kX12_strike [.ref 131, .int x1] σ Q ↔ zCall d kX12_of [.ref 131, .int x1, .int 4] σ (fun r σ' => zisN r = true ∧ zW (d + 1) kX12_strike 6 [.ref 131, .int x1, .retAddr 0, .retAddr 0, .retAddr 0] (zRstk r ++ []) σ' Q) := by
  show zW (d + 1) kX12_strike 0 [.ref 131, .int x1, .retAddr 0, .retAddr 0, .retAddr 0] [] σ Q ↔ _
  refine Iff.trans (zw_aload_n (show decode cX12_strike 0 = .ok (.aload_n 0, 1) by decide +kernel) rfl) ?_
  refine Iff.trans (zw_iload_n (show decode cX12_strike 1 = .ok (.iload_n 1, 1) by decide +kernel) rfl) ?_
  refine Iff.trans (zw_iconst (x := 4) (show decode cX12_strike 2 = .ok (.iconst 4, 1) by decide +kernel) (by decide)) ?_
  refine Iff.trans (zw_invV (K' := kX12_of) (as' := [.int x1, .int 4]) (rest := []) (show decode cX12_strike 3 = .ok (.invokevirtual 229, 3) by decide +kernel) (by rfl) rfl rfl rfl (hl.k2 zk_131) (by decide) (hl.n2 zk_131) ⟨Nat.le_of_ble_eq_true rfl, Nat.le_of_ble_eq_true rfl, Nat.le_of_ble_eq_true rfl⟩) ?_
  exact Iff.rfl

theorem bX12_strike_6 {d : Nat} {σ : zS} {Q : Option Value → zS → Prop} (hl : zLay σ) {x1 y0 : Int32} : zW (d + 1) kX12_strike 6 [.ref 131, .int x1, .retAddr 0, .retAddr 0, .retAddr 0] [.int y0] σ Q ↔ zCall d kX12_of [.ref 131, .int x1, .int 5] σ (fun r σ' => zisN r = true ∧ zW (d + 1) kX12_strike 15 [.ref 131, .int x1, .int (y0 + 1), .retAddr 0, .retAddr 0] (zRstk r ++ []) σ' Q) := by
  refine Iff.trans (zw_iconst (x := 1) (show decode cX12_strike 6 = .ok (.iconst 1, 1) by decide +kernel) (by decide)) ?_
  refine Iff.trans (zw_iadd (show decode cX12_strike 7 = .ok (.iadd, 1) by decide +kernel)) ?_
  refine Iff.trans (zw_istore_n (ls' := [.ref 131, .int x1, .int (y0 + 1), .retAddr 0, .retAddr 0]) (show decode cX12_strike 8 = .ok (.istore_n 2, 1) by decide +kernel) (zset_s (Nat.le_of_ble_eq_true rfl) rfl)) ?_
  refine Iff.trans (zw_aload_n (show decode cX12_strike 9 = .ok (.aload_n 0, 1) by decide +kernel) rfl) ?_
  refine Iff.trans (zw_iload_n (show decode cX12_strike 10 = .ok (.iload_n 1, 1) by decide +kernel) rfl) ?_
  refine Iff.trans (zw_iconst (x := 5) (show decode cX12_strike 11 = .ok (.iconst 5, 1) by decide +kernel) (by decide)) ?_
  refine Iff.trans (zw_invV (K' := kX12_of) (as' := [.int x1, .int 5]) (rest := []) (show decode cX12_strike 12 = .ok (.invokevirtual 229, 3) by decide +kernel) (by rfl) rfl rfl rfl (hl.k2 zk_131) (by decide) (hl.n2 zk_131) ⟨Nat.le_of_ble_eq_true rfl, Nat.le_of_ble_eq_true rfl, Nat.le_of_ble_eq_true rfl⟩) ?_
  exact Iff.rfl

theorem bX12_strike_15 {d : Nat} {σ : zS} {Q : Option Value → zS → Prop} (hl : zLay σ) {x1 x2 y0 : Int32} : zW (d + 1) kX12_strike 15 [.ref 131, .int x1, .int x2, .retAddr 0, .retAddr 0] [.int y0] σ Q ↔ zW (d + 1) kX12_strike 19 [.ref 131, .int x1, .int x2, .int y0, .int y0] [] σ Q := by
  refine Iff.trans (zw_istore_n (ls' := [.ref 131, .int x1, .int x2, .int y0, .retAddr 0]) (show decode cX12_strike 15 = .ok (.istore_n 3, 1) by decide +kernel) (zset_s (Nat.le_of_ble_eq_true rfl) rfl)) ?_
  refine Iff.trans (zw_iload_n (show decode cX12_strike 16 = .ok (.iload_n 3, 1) by decide +kernel) rfl) ?_
  refine Iff.trans (zw_istore (ls' := [.ref 131, .int x1, .int x2, .int y0, .int y0]) (show decode cX12_strike 17 = .ok (.istore 4, 2) by decide +kernel) (zset_s (Nat.le_of_ble_eq_true rfl) rfl)) ?_
  exact Iff.rfl

theorem bX12_strike_19 {d : Nat} {σ : zS} {Q : Option Value → zS → Prop} (hl : zLay σ) {x1 x2 x3 x4 : Int32} : zW (d + 1) kX12_strike 19 [.ref 131, .int x1, .int x2, .int x3, .int x4] [] σ Q ↔ zCall d kX12_bars [.ref 131, .int (zI σ 131 19), .int x2, .int x4] σ (fun r σ' => zisN r = true ∧ zW (d + 1) kX12_strike 30 [.ref 131, .int x1, .int x2, .int x3, .int x4] (zRstk r ++ []) σ' Q) := by
  refine Iff.trans (zw_aload_n (show decode cX12_strike 19 = .ok (.aload_n 0, 1) by decide +kernel) rfl) ?_
  refine Iff.trans (zw_aload_n (show decode cX12_strike 20 = .ok (.aload_n 0, 1) by decide +kernel) rfl) ?_
  refine Iff.trans (zw_getI (show decode cX12_strike 21 = .ok (.getfield 45, 3) by decide +kernel) (by decide +kernel : zfld 12 45 = some (12, 19)) (hl.k2 zk_131) (hl.n2 zk_131) (Or.inl rfl) (w := zI σ 131 19) rfl) ?_
  refine Iff.trans (zw_iload_n (show decode cX12_strike 24 = .ok (.iload_n 2, 1) by decide +kernel) rfl) ?_
  refine Iff.trans (zw_iload (show decode cX12_strike 25 = .ok (.iload 4, 2) by decide +kernel) rfl) ?_
  refine Iff.trans (zw_invV (K' := kX12_bars) (as' := [.int (zI σ 131 19), .int x2, .int x4]) (rest := []) (show decode cX12_strike 27 = .ok (.invokevirtual 215, 3) by decide +kernel) (by rfl) rfl rfl rfl (hl.k2 zk_131) (by decide) (hl.n2 zk_131) ⟨Nat.le_of_ble_eq_true rfl, Nat.le_of_ble_eq_true rfl, Nat.le_of_ble_eq_true rfl⟩) ?_
  exact Iff.rfl

theorem bX12_strike_30 {d : Nat} {σ : zS} {Q : Option Value → zS → Prop} (hl : zLay σ) {x1 x2 x3 x4 y0 : Int32} : zW (d + 1) kX12_strike 30 [.ref 131, .int x1, .int x2, .int x3, .int x4] [.int y0] σ Q ↔ (if y0 = (0 : Int32) then zCall d kX12_whoIs [.ref 131, .int x2, .int x4, .int x1] σ (fun r σ' => zisN r = true ∧ zW (d + 1) kX12_strike 41 [.ref 131, .int x1, .int x2, .int x3, .int x4] (zRstk r ++ []) σ' Q) else zW (d + 1) kX12_strike 51 [.ref 131, .int x1, .int x2, .int x3, .int x4] [] σ Q) := by
  refine Iff.trans (zw_if_ne (t := 51) (show decode cX12_strike 30 = .ok (.ifCond .ne 21, 3) by decide +kernel) (by decide)) ?_
  refine zw_ite ?_ ?_
  · refine Iff.trans (zw_aload_n (show decode cX12_strike 33 = .ok (.aload_n 0, 1) by decide +kernel) rfl) ?_
    refine Iff.trans (zw_iload_n (show decode cX12_strike 34 = .ok (.iload_n 2, 1) by decide +kernel) rfl) ?_
    refine Iff.trans (zw_iload (show decode cX12_strike 35 = .ok (.iload 4, 2) by decide +kernel) rfl) ?_
    refine Iff.trans (zw_iload_n (show decode cX12_strike 37 = .ok (.iload_n 1, 1) by decide +kernel) rfl) ?_
    refine Iff.trans (zw_invV (K' := kX12_whoIs) (as' := [.int x2, .int x4, .int x1]) (rest := []) (show decode cX12_strike 38 = .ok (.invokevirtual 238, 3) by decide +kernel) (by rfl) rfl rfl rfl (hl.k2 zk_131) (by decide) (hl.n2 zk_131) ⟨Nat.le_of_ble_eq_true rfl, Nat.le_of_ble_eq_true rfl, Nat.le_of_ble_eq_true rfl⟩) ?_
    exact Iff.rfl
  · exact Iff.rfl

theorem bX12_strike_41 {d : Nat} {σ : zS} {Q : Option Value → zS → Prop} (hl : zLay σ) {x1 x2 x3 x4 y0 : Int32} : zW (d + 1) kX12_strike 41 [.ref 131, .int x1, .int x2, .int x3, .int x4] [.int y0] σ Q ↔ (if y0 = (-1) then zW (d + 1) kX12_strike 19 [.ref 131, .int x1, .int x2, .int x3, .int (x4 + 1)] [] σ Q else zW (d + 1) kX12_strike 51 [.ref 131, .int x1, .int x2, .int x3, .int x4] [] σ Q) := by
  refine Iff.trans (zw_iconst (x := (-1)) (show decode cX12_strike 41 = .ok (.iconst (-1), 1) by decide +kernel) (by decide)) ?_
  refine Iff.trans (zw_icmp_ne (t := 51) (show decode cX12_strike 42 = .ok (.if_icmp .ne 9, 3) by decide +kernel) (by decide)) ?_
  refine zw_ite ?_ ?_
  · refine Iff.trans (zw_iinc (w := 1) (ls' := [.ref 131, .int x1, .int x2, .int x3, .int (x4 + 1)]) (show decode cX12_strike 45 = .ok (.iinc 4 1, 3) by decide +kernel) rfl (by decide) (zset_s (Nat.le_of_ble_eq_true rfl) rfl)) ?_
    refine Iff.trans (zw_goto (t := 19) (show decode cX12_strike 48 = .ok (.goto (-29), 3) by decide +kernel) (by decide)) ?_
    exact Iff.rfl
  · exact Iff.rfl

theorem bX12_strike_51 {d : Nat} {σ : zS} {Q : Option Value → zS → Prop} (hl : zLay σ) {x1 x2 x3 x4 : Int32} : zW (d + 1) kX12_strike 51 [.ref 131, .int x1, .int x2, .int x3, .int x4] [] σ Q ↔ zCall d kX12_of [.ref 131, .int x1, .int 0] σ (fun r σ' => zisN r = true ∧ zW (d + 1) kX12_strike 65 [.ref 131, .int x1, .int x2, .int x3, .int x4] (zRstk r ++ [.int (2 * (x4 - x3)), .int x1, .ref 131]) σ' Q) := by
  refine Iff.trans (zw_aload_n (show decode cX12_strike 51 = .ok (.aload_n 0, 1) by decide +kernel) rfl) ?_
  refine Iff.trans (zw_iload_n (show decode cX12_strike 52 = .ok (.iload_n 1, 1) by decide +kernel) rfl) ?_
  refine Iff.trans (zw_iconst (x := 2) (show decode cX12_strike 53 = .ok (.iconst 2, 1) by decide +kernel) (by decide)) ?_
  refine Iff.trans (zw_iload (show decode cX12_strike 54 = .ok (.iload 4, 2) by decide +kernel) rfl) ?_
  refine Iff.trans (zw_iload_n (show decode cX12_strike 56 = .ok (.iload_n 3, 1) by decide +kernel) rfl) ?_
  refine Iff.trans (zw_isub (show decode cX12_strike 57 = .ok (.isub, 1) by decide +kernel)) ?_
  refine Iff.trans (zw_imul (show decode cX12_strike 58 = .ok (.imul, 1) by decide +kernel)) ?_
  refine Iff.trans (zw_aload_n (show decode cX12_strike 59 = .ok (.aload_n 0, 1) by decide +kernel) rfl) ?_
  refine Iff.trans (zw_iload_n (show decode cX12_strike 60 = .ok (.iload_n 1, 1) by decide +kernel) rfl) ?_
  refine Iff.trans (zw_iconst (x := 0) (show decode cX12_strike 61 = .ok (.iconst 0, 1) by decide +kernel) (by decide)) ?_
  refine Iff.trans (zw_invV (K' := kX12_of) (as' := [.int x1, .int 0]) (rest := [.int (2 * (x4 - x3)), .int x1, .ref 131]) (show decode cX12_strike 62 = .ok (.invokevirtual 229, 3) by decide +kernel) (by rfl) rfl rfl rfl (hl.k2 zk_131) (by decide) (hl.n2 zk_131) ⟨Nat.le_of_ble_eq_true rfl, Nat.le_of_ble_eq_true rfl, Nat.le_of_ble_eq_true rfl⟩) ?_
  exact Iff.rfl

theorem bX12_strike_65 {d : Nat} {σ : zS} {Q : Option Value → zS → Prop} (hl : zLay σ) {x1 x2 x3 x4 y0 y1 y2 : Int32} : zW (d + 1) kX12_strike 65 [.ref 131, .int x1, .int x2, .int x3, .int x4] [.int y0, .int y1, .int y2, .ref 131] σ Q ↔ (if y0 ≤ y1 then zW (d + 1) kX12_strike 77 [.ref 131, .int x1, .int x2, .int x3, .int x4] [.int (x3 - 1), .int y2, .ref 131] σ Q else zW (d + 1) kX12_strike 77 [.ref 131, .int x1, .int x2, .int x3, .int x4] [.int (x3 + 1), .int y2, .ref 131] σ Q) := by
  refine Iff.trans (zw_icmp_ge (t := 74) (show decode cX12_strike 65 = .ok (.if_icmp .ge 9, 3) by decide +kernel) (by decide)) ?_
  refine zw_ite ?_ ?_
  · refine Iff.trans (zw_iload_n (show decode cX12_strike 74 = .ok (.iload_n 3, 1) by decide +kernel) rfl) ?_
    refine Iff.trans (zw_iconst (x := 1) (show decode cX12_strike 75 = .ok (.iconst 1, 1) by decide +kernel) (by decide)) ?_
    refine Iff.trans (zw_isub (show decode cX12_strike 76 = .ok (.isub, 1) by decide +kernel)) ?_
    exact Iff.rfl
  · refine Iff.trans (zw_iload_n (show decode cX12_strike 68 = .ok (.iload_n 3, 1) by decide +kernel) rfl) ?_
    refine Iff.trans (zw_iconst (x := 1) (show decode cX12_strike 69 = .ok (.iconst 1, 1) by decide +kernel) (by decide)) ?_
    refine Iff.trans (zw_iadd (show decode cX12_strike 70 = .ok (.iadd, 1) by decide +kernel)) ?_
    refine Iff.trans (zw_goto (t := 77) (show decode cX12_strike 71 = .ok (.goto 6, 3) by decide +kernel) (by decide)) ?_
    exact Iff.rfl

theorem bX12_strike_77 {d : Nat} {σ : zS} {Q : Option Value → zS → Prop} (hl : zLay σ) {x1 x2 x3 x4 y0 y1 : Int32} : zW (d + 1) kX12_strike 77 [.ref 131, .int x1, .int x2, .int x3, .int x4] [.int y0, .int y1, .ref 131] σ Q ↔ zCall d kX12_goAside [.ref 131, .int y1, .int y0] σ (fun r σ' => zisN r = true ∧ zW (d + 1) kX12_strike 80 [.ref 131, .int x1, .int x2, .int x3, .int x4] (zRstk r ++ []) σ' Q) := by
  refine Iff.trans (zw_invV (K' := kX12_goAside) (as' := [.int y1, .int y0]) (rest := []) (show decode cX12_strike 77 = .ok (.invokevirtual 278, 3) by decide +kernel) (by rfl) rfl rfl rfl (hl.k2 zk_131) (by decide) (hl.n2 zk_131) ⟨Nat.le_of_ble_eq_true rfl, Nat.le_of_ble_eq_true rfl, Nat.le_of_ble_eq_true rfl⟩) ?_
  exact Iff.rfl

theorem bX12_strike_80 {d : Nat} {σ : zS} {Q : Option Value → zS → Prop} (hl : zLay σ) {x1 x2 x3 x4 : Int32} : zW (d + 1) kX12_strike 80 [.ref 131, .int x1, .int x2, .int x3, .int x4] [] σ Q ↔ zCall d kX12_set [.ref 131, .int x1, .int 6, .int 0] σ (fun r σ' => zisN r = true ∧ zW (d + 1) kX12_strike 88 [.ref 131, .int x1, .int x2, .int x3, .int x4] (zRstk r ++ []) σ' Q) := by
  refine Iff.trans (zw_aload_n (show decode cX12_strike 80 = .ok (.aload_n 0, 1) by decide +kernel) rfl) ?_
  refine Iff.trans (zw_iload_n (show decode cX12_strike 81 = .ok (.iload_n 1, 1) by decide +kernel) rfl) ?_
  refine Iff.trans (zw_bipush (x := 6) (show decode cX12_strike 82 = .ok (.bipush 6, 2) by decide +kernel) (by decide)) ?_
  refine Iff.trans (zw_iconst (x := 0) (show decode cX12_strike 84 = .ok (.iconst 0, 1) by decide +kernel) (by decide)) ?_
  refine Iff.trans (zw_invV (K' := kX12_set) (as' := [.int x1, .int 6, .int 0]) (rest := []) (show decode cX12_strike 85 = .ok (.invokevirtual 225, 3) by decide +kernel) (by rfl) rfl rfl rfl (hl.k2 zk_131) (by decide) (hl.n2 zk_131) ⟨Nat.le_of_ble_eq_true rfl, Nat.le_of_ble_eq_true rfl, Nat.le_of_ble_eq_true rfl⟩) ?_
  exact Iff.rfl

theorem bX12_strike_88 {d : Nat} {σ : zS} {Q : Option Value → zS → Prop} (hl : zLay σ) {x1 x2 x3 x4 : Int32} : zW (d + 1) kX12_strike 88 [.ref 131, .int x1, .int x2, .int x3, .int x4] [] σ Q ↔ zCall d kX12_of [.ref 131, .int x1, .int 10] σ (fun r σ' => zisN r = true ∧ zW (d + 1) kX12_strike 99 [.ref 131, .int x1, .int x2, .int x3, .int x4] (zRstk r ++ [.int 10, .int x1, .ref 131]) σ' Q) := by
  refine Iff.trans (zw_aload_n (show decode cX12_strike 88 = .ok (.aload_n 0, 1) by decide +kernel) rfl) ?_
  refine Iff.trans (zw_iload_n (show decode cX12_strike 89 = .ok (.iload_n 1, 1) by decide +kernel) rfl) ?_
  refine Iff.trans (zw_bipush (x := 10) (show decode cX12_strike 90 = .ok (.bipush 10, 2) by decide +kernel) (by decide)) ?_
  refine Iff.trans (zw_aload_n (show decode cX12_strike 92 = .ok (.aload_n 0, 1) by decide +kernel) rfl) ?_
  refine Iff.trans (zw_iload_n (show decode cX12_strike 93 = .ok (.iload_n 1, 1) by decide +kernel) rfl) ?_
  refine Iff.trans (zw_bipush (x := 10) (show decode cX12_strike 94 = .ok (.bipush 10, 2) by decide +kernel) (by decide)) ?_
  refine Iff.trans (zw_invV (K' := kX12_of) (as' := [.int x1, .int 10]) (rest := [.int 10, .int x1, .ref 131]) (show decode cX12_strike 96 = .ok (.invokevirtual 229, 3) by decide +kernel) (by rfl) rfl rfl rfl (hl.k2 zk_131) (by decide) (hl.n2 zk_131) ⟨Nat.le_of_ble_eq_true rfl, Nat.le_of_ble_eq_true rfl, Nat.le_of_ble_eq_true rfl⟩) ?_
  exact Iff.rfl

theorem bX12_strike_99 {d : Nat} {σ : zS} {Q : Option Value → zS → Prop} (hl : zLay σ) {x1 x2 x3 x4 y0 y1 y2 : Int32} : zW (d + 1) kX12_strike 99 [.ref 131, .int x1, .int x2, .int x3, .int x4] [.int y0, .int y1, .int y2, .ref 131] σ Q ↔ zCall d kX12_set [.ref 131, .int y2, .int y1, .int (y0 + 1)] σ (fun r σ' => zisN r = true ∧ zW (d + 1) kX12_strike 104 [.ref 131, .int x1, .int x2, .int x3, .int x4] (zRstk r ++ []) σ' Q) := by
  refine Iff.trans (zw_iconst (x := 1) (show decode cX12_strike 99 = .ok (.iconst 1, 1) by decide +kernel) (by decide)) ?_
  refine Iff.trans (zw_iadd (show decode cX12_strike 100 = .ok (.iadd, 1) by decide +kernel)) ?_
  refine Iff.trans (zw_invV (K' := kX12_set) (as' := [.int y2, .int y1, .int (y0 + 1)]) (rest := []) (show decode cX12_strike 101 = .ok (.invokevirtual 225, 3) by decide +kernel) (by rfl) rfl rfl rfl (hl.k2 zk_131) (by decide) (hl.n2 zk_131) ⟨Nat.le_of_ble_eq_true rfl, Nat.le_of_ble_eq_true rfl, Nat.le_of_ble_eq_true rfl⟩) ?_
  exact Iff.rfl

theorem bX12_strike_104 {d : Nat} {σ : zS} {Q : Option Value → zS → Prop} (hl : zLay σ) {x1 x2 x3 x4 : Int32} : zW (d + 1) kX12_strike 104 [.ref 131, .int x1, .int x2, .int x3, .int x4] [] σ Q ↔ (if (zI σ 131 43) = (0 : Int32) then Q none σ else (vp_in (x2 - 1) 16 ∧ (vp_in (x2 - 1) 16 ∧ Q none (zsI σ 145 (upd (zI σ 145) (x2 - 1 : Int32).toNatClampNeg ((zI σ 145 (x2 - 1 : Int32).toNatClampNeg) + 1)))))) := by
  refine Iff.trans (zw_aload_n (show decode cX12_strike 104 = .ok (.aload_n 0, 1) by decide +kernel) rfl) ?_
  refine Iff.trans (zw_getI (show decode cX12_strike 105 = .ok (.getfield 282, 3) by decide +kernel) (by decide +kernel : zfld 12 282 = some (12, 43)) (hl.k2 zk_131) (hl.n2 zk_131) (Or.inr rfl) (w := zI σ 131 43) rfl) ?_
  refine Iff.trans (zw_if_eq (t := 123) (show decode cX12_strike 108 = .ok (.ifCond .eq 15, 3) by decide +kernel) (by decide)) ?_
  refine zw_ite ?_ ?_
  · exact zw_ret (show decode cX12_strike 123 = .ok (.return_, 1) by decide +kernel) rfl
  · refine Iff.trans (zw_aload_n (show decode cX12_strike 111 = .ok (.aload_n 0, 1) by decide +kernel) rfl) ?_
    refine Iff.trans (zw_get (show decode cX12_strike 112 = .ok (.getfield 60, 3) by decide +kernel) (by decide +kernel : zfld 12 60 = some (12, 38)) (hl.k2 zk_131) (hl.n2 zk_131) (zgetR (v := 145) (hl.r zrt_131_38) rfl)) ?_
    refine Iff.trans (zw_iload_n (show decode cX12_strike 115 = .ok (.iload_n 2, 1) by decide +kernel) rfl) ?_
    refine Iff.trans (zw_iconst (x := 1) (show decode cX12_strike 116 = .ok (.iconst 1, 1) by decide +kernel) (by decide)) ?_
    refine Iff.trans (zw_isub (show decode cX12_strike 117 = .ok (.isub, 1) by decide +kernel)) ?_
    refine Iff.trans (zw_dup2 (show decode cX12_strike 118 = .ok (.dup2, 1) by decide +kernel) ⟨rfl, rfl⟩) ?_
    refine Iff.trans (zw_iald2 (show decode cX12_strike 119 = .ok (.iaload, 1) by decide +kernel) (hl.k2 zk_145) (hl.n2 zk_145) (hl.l2 zk_145 zl_145) (w := zI σ 145 (x2 - 1 : Int32).toNatClampNeg) rfl) ?_
    refine zw_and ?_
    refine Iff.trans (zw_iconst (x := 1) (show decode cX12_strike 120 = .ok (.iconst 1, 1) by decide +kernel) (by decide)) ?_
    refine Iff.trans (zw_iadd (show decode cX12_strike 121 = .ok (.iadd, 1) by decide +kernel)) ?_
    refine Iff.trans (zw_iast2 (show decode cX12_strike 122 = .ok (.iastore, 1) by decide +kernel) (hl.k2 zk_145) (hl.n2 zk_145) (hl.l2 zk_145 zl_145) (σ' := (zsI σ 145 (upd (zI σ 145) (x2 - 1 : Int32).toNatClampNeg ((zI σ 145 (x2 - 1 : Int32).toNatClampNeg) + 1)))) rfl) ?_
    refine zw_and ?_
    exact zw_ret (show decode cX12_strike 123 = .ok (.return_, 1) by decide +kernel) rfl

theorem bX12_go_0 {d : Nat} {σ : zS} {Q : Option Value → zS → Prop} (hl : zLay σ) {x1 : Int32} : zCall (d + 1) kX12_go [.ref 131, .int x1] σ Q ↔ zCall d kX12_isInEddy [.ref 131, .int x1] σ (fun r σ' => zisN r = true ∧ zW (d + 1) kX12_go 5 [.ref 131, .int x1, .retAddr 0] (zRstk r ++ []) σ' Q) := by
  show zW (d + 1) kX12_go 0 [.ref 131, .int x1, .retAddr 0] [] σ Q ↔ _
  refine Iff.trans (zw_aload_n (show decode cX12_go 0 = .ok (.aload_n 0, 1) by decide +kernel) rfl) ?_
  refine Iff.trans (zw_iload_n (show decode cX12_go 1 = .ok (.iload_n 1, 1) by decide +kernel) rfl) ?_
  refine Iff.trans (zw_invV (K' := kX12_isInEddy) (as' := [.int x1]) (rest := []) (show decode cX12_go 2 = .ok (.invokevirtual 286, 3) by decide +kernel) (by rfl) rfl rfl rfl (hl.k2 zk_131) (by decide) (hl.n2 zk_131) ⟨Nat.le_of_ble_eq_true rfl, Nat.le_of_ble_eq_true rfl, Nat.le_of_ble_eq_true rfl⟩) ?_
  exact Iff.rfl

theorem bX12_go_5 {d : Nat} {σ : zS} {Q : Option Value → zS → Prop} (hl : zLay σ) {x1 y0 : Int32} : zW (d + 1) kX12_go 5 [.ref 131, .int x1, .retAddr 0] [.int y0] σ Q ↔ (if y0 = (0 : Int32) then zW (d + 1) kX12_go 44 [.ref 131, .int x1, .retAddr 0] [] σ Q else zCall d kX12_draw [.ref 131] σ (fun r σ' => zisN r = true ∧ zW (d + 1) kX12_go 12 [.ref 131, .int x1, .retAddr 0] (zRstk r ++ []) σ' Q)) := by
  refine Iff.trans (zw_if_eq (t := 44) (show decode cX12_go 5 = .ok (.ifCond .eq 39, 3) by decide +kernel) (by decide)) ?_
  refine zw_ite ?_ ?_
  · exact Iff.rfl
  · refine Iff.trans (zw_aload_n (show decode cX12_go 8 = .ok (.aload_n 0, 1) by decide +kernel) rfl) ?_
    refine Iff.trans (zw_invV (K' := kX12_draw) (as' := []) (rest := []) (show decode cX12_go 9 = .ok (.invokevirtual 289, 3) by decide +kernel) (by rfl) rfl rfl rfl (hl.k2 zk_131) (by decide) (hl.n2 zk_131) ⟨Nat.le_of_ble_eq_true rfl, Nat.le_of_ble_eq_true rfl, Nat.le_of_ble_eq_true rfl⟩) ?_
    exact Iff.rfl

theorem bX12_go_12 {d : Nat} {σ : zS} {Q : Option Value → zS → Prop} (hl : zLay σ) {x1 y0 : Int32} : zW (d + 1) kX12_go 12 [.ref 131, .int x1, .retAddr 0] [.int y0] σ Q ↔ (if (zI σ 131 15) ≤ y0 then zW (d + 1) kX12_go 44 [.ref 131, .int x1, .retAddr 0] [] σ Q else zCall d kX12_set [.ref 131, .int x1, .int 6, .int 0] σ (fun r σ' => zisN r = true ∧ zW (d + 1) kX12_go 27 [.ref 131, .int x1, .retAddr 0] (zRstk r ++ []) σ' Q)) := by
  refine Iff.trans (zw_aload_n (show decode cX12_go 12 = .ok (.aload_n 0, 1) by decide +kernel) rfl) ?_
  refine Iff.trans (zw_getI (show decode cX12_go 13 = .ok (.getfield 32, 3) by decide +kernel) (by decide +kernel : zfld 12 32 = some (12, 15)) (hl.k2 zk_131) (hl.n2 zk_131) (Or.inl rfl) (w := zI σ 131 15) rfl) ?_
  refine Iff.trans (zw_icmp_ge (t := 44) (show decode cX12_go 16 = .ok (.if_icmp .ge 28, 3) by decide +kernel) (by decide)) ?_
  refine zw_ite ?_ ?_
  · exact Iff.rfl
  · refine Iff.trans (zw_aload_n (show decode cX12_go 19 = .ok (.aload_n 0, 1) by decide +kernel) rfl) ?_
    refine Iff.trans (zw_iload_n (show decode cX12_go 20 = .ok (.iload_n 1, 1) by decide +kernel) rfl) ?_
    refine Iff.trans (zw_bipush (x := 6) (show decode cX12_go 21 = .ok (.bipush 6, 2) by decide +kernel) (by decide)) ?_
    refine Iff.trans (zw_iconst (x := 0) (show decode cX12_go 23 = .ok (.iconst 0, 1) by decide +kernel) (by decide)) ?_
    refine Iff.trans (zw_invV (K' := kX12_set) (as' := [.int x1, .int 6, .int 0]) (rest := []) (show decode cX12_go 24 = .ok (.invokevirtual 225, 3) by decide +kernel) (by rfl) rfl rfl rfl (hl.k2 zk_131) (by decide) (hl.n2 zk_131) ⟨Nat.le_of_ble_eq_true rfl, Nat.le_of_ble_eq_true rfl, Nat.le_of_ble_eq_true rfl⟩) ?_
    exact Iff.rfl

theorem bX12_go_27 {d : Nat} {σ : zS} {Q : Option Value → zS → Prop} (hl : zLay σ) {x1 : Int32} : zW (d + 1) kX12_go 27 [.ref 131, .int x1, .retAddr 0] [] σ Q ↔ zCall d kX12_of [.ref 131, .int x1, .int 9] σ (fun r σ' => zisN r = true ∧ zW (d + 1) kX12_go 38 [.ref 131, .int x1, .retAddr 0] (zRstk r ++ [.int 9, .int x1, .ref 131]) σ' Q) := by
  refine Iff.trans (zw_aload_n (show decode cX12_go 27 = .ok (.aload_n 0, 1) by decide +kernel) rfl) ?_
  refine Iff.trans (zw_iload_n (show decode cX12_go 28 = .ok (.iload_n 1, 1) by decide +kernel) rfl) ?_
  refine Iff.trans (zw_bipush (x := 9) (show decode cX12_go 29 = .ok (.bipush 9, 2) by decide +kernel) (by decide)) ?_
  refine Iff.trans (zw_aload_n (show decode cX12_go 31 = .ok (.aload_n 0, 1) by decide +kernel) rfl) ?_
  refine Iff.trans (zw_iload_n (show decode cX12_go 32 = .ok (.iload_n 1, 1) by decide +kernel) rfl) ?_
  refine Iff.trans (zw_bipush (x := 9) (show decode cX12_go 33 = .ok (.bipush 9, 2) by decide +kernel) (by decide)) ?_
  refine Iff.trans (zw_invV (K' := kX12_of) (as' := [.int x1, .int 9]) (rest := [.int 9, .int x1, .ref 131]) (show decode cX12_go 35 = .ok (.invokevirtual 229, 3) by decide +kernel) (by rfl) rfl rfl rfl (hl.k2 zk_131) (by decide) (hl.n2 zk_131) ⟨Nat.le_of_ble_eq_true rfl, Nat.le_of_ble_eq_true rfl, Nat.le_of_ble_eq_true rfl⟩) ?_
  exact Iff.rfl

theorem bX12_go_38 {d : Nat} {σ : zS} {Q : Option Value → zS → Prop} (hl : zLay σ) {x1 y0 y1 y2 : Int32} : zW (d + 1) kX12_go 38 [.ref 131, .int x1, .retAddr 0] [.int y0, .int y1, .int y2, .ref 131] σ Q ↔ zCall d kX12_set [.ref 131, .int y2, .int y1, .int (y0 + 1)] σ (fun r σ' => zisN r = true ∧ zW (d + 1) kX12_go 43 [.ref 131, .int x1, .retAddr 0] (zRstk r ++ []) σ' Q) := by
  refine Iff.trans (zw_iconst (x := 1) (show decode cX12_go 38 = .ok (.iconst 1, 1) by decide +kernel) (by decide)) ?_
  refine Iff.trans (zw_iadd (show decode cX12_go 39 = .ok (.iadd, 1) by decide +kernel)) ?_
  refine Iff.trans (zw_invV (K' := kX12_set) (as' := [.int y2, .int y1, .int (y0 + 1)]) (rest := []) (show decode cX12_go 40 = .ok (.invokevirtual 225, 3) by decide +kernel) (by rfl) rfl rfl rfl (hl.k2 zk_131) (by decide) (hl.n2 zk_131) ⟨Nat.le_of_ble_eq_true rfl, Nat.le_of_ble_eq_true rfl, Nat.le_of_ble_eq_true rfl⟩) ?_
  exact Iff.rfl

theorem bX12_go_43 {d : Nat} {σ : zS} {Q : Option Value → zS → Prop} (hl : zLay σ) {x1 : Int32} : zW (d + 1) kX12_go 43 [.ref 131, .int x1, .retAddr 0] [] σ Q ↔ Q none σ := by
  exact zw_ret (show decode cX12_go 43 = .ok (.return_, 1) by decide +kernel) rfl

theorem bX12_go_44 {d : Nat} {σ : zS} {Q : Option Value → zS → Prop} (hl : zLay σ) {x1 : Int32} : zW (d + 1) kX12_go 44 [.ref 131, .int x1, .retAddr 0] [] σ Q ↔ zCall d kX12_of [.ref 131, .int x1, .int 6] σ (fun r σ' => zisN r = true ∧ zW (d + 1) kX12_go 55 [.ref 131, .int x1, .retAddr 0] (zRstk r ++ [.int 6, .int x1, .ref 131]) σ' Q) := by
  refine Iff.trans (zw_aload_n (show decode cX12_go 44 = .ok (.aload_n 0, 1) by decide +kernel) rfl) ?_
  refine Iff.trans (zw_iload_n (show decode cX12_go 45 = .ok (.iload_n 1, 1) by decide +kernel) rfl) ?_
  refine Iff.trans (zw_bipush (x := 6) (show decode cX12_go 46 = .ok (.bipush 6, 2) by decide +kernel) (by decide)) ?_
  refine Iff.trans (zw_aload_n (show decode cX12_go 48 = .ok (.aload_n 0, 1) by decide +kernel) rfl) ?_
  refine Iff.trans (zw_iload_n (show decode cX12_go 49 = .ok (.iload_n 1, 1) by decide +kernel) rfl) ?_
  refine Iff.trans (zw_bipush (x := 6) (show decode cX12_go 50 = .ok (.bipush 6, 2) by decide +kernel) (by decide)) ?_
  refine Iff.trans (zw_invV (K' := kX12_of) (as' := [.int x1, .int 6]) (rest := [.int 6, .int x1, .ref 131]) (show decode cX12_go 52 = .ok (.invokevirtual 229, 3) by decide +kernel) (by rfl) rfl rfl rfl (hl.k2 zk_131) (by decide) (hl.n2 zk_131) ⟨Nat.le_of_ble_eq_true rfl, Nat.le_of_ble_eq_true rfl, Nat.le_of_ble_eq_true rfl⟩) ?_
  exact Iff.rfl

theorem bX12_go_55 {d : Nat} {σ : zS} {Q : Option Value → zS → Prop} (hl : zLay σ) {x1 y0 y1 y2 : Int32} : zW (d + 1) kX12_go 55 [.ref 131, .int x1, .retAddr 0] [.int y0, .int y1, .int y2, .ref 131] σ Q ↔ zCall d kX12_pullOf [.ref 131, .int x1] σ (fun r σ' => zisN r = true ∧ zW (d + 1) kX12_go 60 [.ref 131, .int x1, .retAddr 0] (zRstk r ++ [.int y0, .int y1, .int y2, .ref 131]) σ' Q) := by
  refine Iff.trans (zw_aload_n (show decode cX12_go 55 = .ok (.aload_n 0, 1) by decide +kernel) rfl) ?_
  refine Iff.trans (zw_iload_n (show decode cX12_go 56 = .ok (.iload_n 1, 1) by decide +kernel) rfl) ?_
  refine Iff.trans (zw_invV (K' := kX12_pullOf) (as' := [.int x1]) (rest := [.int y0, .int y1, .int y2, .ref 131]) (show decode cX12_go 57 = .ok (.invokevirtual 292, 3) by decide +kernel) (by rfl) rfl rfl rfl (hl.k2 zk_131) (by decide) (hl.n2 zk_131) ⟨Nat.le_of_ble_eq_true rfl, Nat.le_of_ble_eq_true rfl, Nat.le_of_ble_eq_true rfl⟩) ?_
  exact Iff.rfl

theorem bX12_go_60 {d : Nat} {σ : zS} {Q : Option Value → zS → Prop} (hl : zLay σ) {x1 y0 y1 y2 y3 : Int32} : zW (d + 1) kX12_go 60 [.ref 131, .int x1, .retAddr 0] [.int y0, .int y1, .int y2, .int y3, .ref 131] σ Q ↔ zCall d kX12_hasWave [.ref 131, .int x1] σ (fun r σ' => zisN r = true ∧ zW (d + 1) kX12_go 66 [.ref 131, .int x1, .retAddr 0] (zRstk r ++ [.int (y1 + y0), .int y2, .int y3, .ref 131]) σ' Q) := by
  refine Iff.trans (zw_iadd (show decode cX12_go 60 = .ok (.iadd, 1) by decide +kernel)) ?_
  refine Iff.trans (zw_aload_n (show decode cX12_go 61 = .ok (.aload_n 0, 1) by decide +kernel) rfl) ?_
  refine Iff.trans (zw_iload_n (show decode cX12_go 62 = .ok (.iload_n 1, 1) by decide +kernel) rfl) ?_
  refine Iff.trans (zw_invV (K' := kX12_hasWave) (as' := [.int x1]) (rest := [.int (y1 + y0), .int y2, .int y3, .ref 131]) (show decode cX12_go 63 = .ok (.invokevirtual 295, 3) by decide +kernel) (by rfl) rfl rfl rfl (hl.k2 zk_131) (by decide) (hl.n2 zk_131) ⟨Nat.le_of_ble_eq_true rfl, Nat.le_of_ble_eq_true rfl, Nat.le_of_ble_eq_true rfl⟩) ?_
  exact Iff.rfl

theorem bX12_go_66 {d : Nat} {σ : zS} {Q : Option Value → zS → Prop} (hl : zLay σ) {x1 y0 y1 y2 y3 : Int32} : zW (d + 1) kX12_go 66 [.ref 131, .int x1, .retAddr 0] [.int y0, .int y1, .int y2, .int y3, .ref 131] σ Q ↔ (if y0 = (0 : Int32) then zW (d + 1) kX12_go 74 [.ref 131, .int x1, .retAddr 0] [.int 0, .int y1, .int y2, .int y3, .ref 131] σ Q else zW (d + 1) kX12_go 74 [.ref 131, .int x1, .retAddr 0] [.int 1, .int y1, .int y2, .int y3, .ref 131] σ Q) := by
  refine Iff.trans (zw_if_eq (t := 73) (show decode cX12_go 66 = .ok (.ifCond .eq 7, 3) by decide +kernel) (by decide)) ?_
  refine zw_ite ?_ ?_
  · refine Iff.trans (zw_iconst (x := 0) (show decode cX12_go 73 = .ok (.iconst 0, 1) by decide +kernel) (by decide)) ?_
    exact Iff.rfl
  · refine Iff.trans (zw_iconst (x := 1) (show decode cX12_go 69 = .ok (.iconst 1, 1) by decide +kernel) (by decide)) ?_
    refine Iff.trans (zw_goto (t := 74) (show decode cX12_go 70 = .ok (.goto 4, 3) by decide +kernel) (by decide)) ?_
    exact Iff.rfl

theorem bX12_go_74 {d : Nat} {σ : zS} {Q : Option Value → zS → Prop} (hl : zLay σ) {x1 y0 y1 y2 y3 : Int32} : zW (d + 1) kX12_go 74 [.ref 131, .int x1, .retAddr 0] [.int y0, .int y1, .int y2, .int y3, .ref 131] σ Q ↔ zCall d kX12_set [.ref 131, .int y3, .int y2, .int (y1 + y0)] σ (fun r σ' => zisN r = true ∧ zW (d + 1) kX12_go 78 [.ref 131, .int x1, .retAddr 0] (zRstk r ++ []) σ' Q) := by
  refine Iff.trans (zw_iadd (show decode cX12_go 74 = .ok (.iadd, 1) by decide +kernel)) ?_
  refine Iff.trans (zw_invV (K' := kX12_set) (as' := [.int y3, .int y2, .int (y1 + y0)]) (rest := []) (show decode cX12_go 75 = .ok (.invokevirtual 225, 3) by decide +kernel) (by rfl) rfl rfl rfl (hl.k2 zk_131) (by decide) (hl.n2 zk_131) ⟨Nat.le_of_ble_eq_true rfl, Nat.le_of_ble_eq_true rfl, Nat.le_of_ble_eq_true rfl⟩) ?_
  exact Iff.rfl

theorem bX12_go_78 {d : Nat} {σ : zS} {Q : Option Value → zS → Prop} (hl : zLay σ) {x1 : Int32} {v2 : Value} (hv2 : v2.category = 1) : zW (d + 1) kX12_go 78 [.ref 131, .int x1, v2] [] σ Q ↔ zCall d kX12_of [.ref 131, .int x1, .int 6] σ (fun r σ' => zisN r = true ∧ zW (d + 1) kX12_go 85 [.ref 131, .int x1, v2] (zRstk r ++ []) σ' Q) := by
  refine Iff.trans (zw_aload_n (show decode cX12_go 78 = .ok (.aload_n 0, 1) by decide +kernel) rfl) ?_
  refine Iff.trans (zw_iload_n (show decode cX12_go 79 = .ok (.iload_n 1, 1) by decide +kernel) rfl) ?_
  refine Iff.trans (zw_bipush (x := 6) (show decode cX12_go 80 = .ok (.bipush 6, 2) by decide +kernel) (by decide)) ?_
  refine Iff.trans (zw_invV (K' := kX12_of) (as' := [.int x1, .int 6]) (rest := []) (show decode cX12_go 82 = .ok (.invokevirtual 229, 3) by decide +kernel) (by rfl) rfl rfl rfl (hl.k2 zk_131) (by decide) (hl.n2 zk_131) ⟨Nat.le_of_ble_eq_true rfl, Nat.le_of_ble_eq_true rfl, Nat.le_of_ble_eq_true rfl⟩) ?_
  exact Iff.rfl

theorem bX12_go_85 {d : Nat} {σ : zS} {Q : Option Value → zS → Prop} (hl : zLay σ) {x1 y0 : Int32} {v2 : Value} (hv2 : v2.category = 1) : zW (d + 1) kX12_go 85 [.ref 131, .int x1, v2] [.int y0] σ Q ↔ (if y0 < 4 then (if (zI σ 131 13) = (0 : Int32) then zW (d + 1) kX12_go 278 [.ref 131, .int x1, v2] [] σ Q else zCall d kX12_of [.ref 131, .int x1, .int 2] σ (fun r σ' => zisN r = true ∧ zW (d + 1) kX12_go 241 [.ref 131, .int x1, v2] (zRstk r ++ []) σ' Q)) else zCall d kX12_of [.ref 131, .int x1, .int 6] σ (fun r σ' => zisN r = true ∧ zW (d + 1) kX12_go 100 [.ref 131, .int x1, v2] (zRstk r ++ [.int 6, .int x1, .ref 131]) σ' Q)) := by
  refine Iff.trans (zw_iconst (x := 4) (show decode cX12_go 85 = .ok (.iconst 4, 1) by decide +kernel) (by decide)) ?_
  refine Iff.trans (zw_icmp_lt (t := 228) (show decode cX12_go 86 = .ok (.if_icmp .lt 142, 3) by decide +kernel) (by decide)) ?_
  refine zw_ite ?_ ?_
  · refine Iff.trans (zw_aload_n (show decode cX12_go 228 = .ok (.aload_n 0, 1) by decide +kernel) rfl) ?_
    refine Iff.trans (zw_getI (show decode cX12_go 229 = .ok (.getfield 212, 3) by decide +kernel) (by decide +kernel : zfld 12 212 = some (12, 13)) (hl.k2 zk_131) (hl.n2 zk_131) (Or.inl rfl) (w := zI σ 131 13) rfl) ?_
    refine Iff.trans (zw_if_eq (t := 278) (show decode cX12_go 232 = .ok (.ifCond .eq 46, 3) by decide +kernel) (by decide)) ?_
    refine zw_ite ?_ ?_
    · exact Iff.rfl
    · refine Iff.trans (zw_aload_n (show decode cX12_go 235 = .ok (.aload_n 0, 1) by decide +kernel) rfl) ?_
      refine Iff.trans (zw_iload_n (show decode cX12_go 236 = .ok (.iload_n 1, 1) by decide +kernel) rfl) ?_
      refine Iff.trans (zw_iconst (x := 2) (show decode cX12_go 237 = .ok (.iconst 2, 1) by decide +kernel) (by decide)) ?_
      refine Iff.trans (zw_invV (K' := kX12_of) (as' := [.int x1, .int 2]) (rest := []) (show decode cX12_go 238 = .ok (.invokevirtual 229, 3) by decide +kernel) (by rfl) rfl rfl rfl (hl.k2 zk_131) (by decide) (hl.n2 zk_131) ⟨Nat.le_of_ble_eq_true rfl, Nat.le_of_ble_eq_true rfl, Nat.le_of_ble_eq_true rfl⟩) ?_
      exact Iff.rfl
  · refine Iff.trans (zw_aload_n (show decode cX12_go 89 = .ok (.aload_n 0, 1) by decide +kernel) rfl) ?_
    refine Iff.trans (zw_iload_n (show decode cX12_go 90 = .ok (.iload_n 1, 1) by decide +kernel) rfl) ?_
    refine Iff.trans (zw_bipush (x := 6) (show decode cX12_go 91 = .ok (.bipush 6, 2) by decide +kernel) (by decide)) ?_
    refine Iff.trans (zw_aload_n (show decode cX12_go 93 = .ok (.aload_n 0, 1) by decide +kernel) rfl) ?_
    refine Iff.trans (zw_iload_n (show decode cX12_go 94 = .ok (.iload_n 1, 1) by decide +kernel) rfl) ?_
    refine Iff.trans (zw_bipush (x := 6) (show decode cX12_go 95 = .ok (.bipush 6, 2) by decide +kernel) (by decide)) ?_
    refine Iff.trans (zw_invV (K' := kX12_of) (as' := [.int x1, .int 6]) (rest := [.int 6, .int x1, .ref 131]) (show decode cX12_go 97 = .ok (.invokevirtual 229, 3) by decide +kernel) (by rfl) rfl rfl rfl (hl.k2 zk_131) (by decide) (hl.n2 zk_131) ⟨Nat.le_of_ble_eq_true rfl, Nat.le_of_ble_eq_true rfl, Nat.le_of_ble_eq_true rfl⟩) ?_
    exact Iff.rfl

theorem bX12_go_100 {d : Nat} {σ : zS} {Q : Option Value → zS → Prop} (hl : zLay σ) {x1 y0 y1 y2 : Int32} {v2 : Value} (hv2 : v2.category = 1) : zW (d + 1) kX12_go 100 [.ref 131, .int x1, v2] [.int y0, .int y1, .int y2, .ref 131] σ Q ↔ zCall d kX12_set [.ref 131, .int y2, .int y1, .int (y0 - 4)] σ (fun r σ' => zisN r = true ∧ zW (d + 1) kX12_go 105 [.ref 131, .int x1, v2] (zRstk r ++ []) σ' Q) := by
  refine Iff.trans (zw_iconst (x := 4) (show decode cX12_go 100 = .ok (.iconst 4, 1) by decide +kernel) (by decide)) ?_
  refine Iff.trans (zw_isub (show decode cX12_go 101 = .ok (.isub, 1) by decide +kernel)) ?_
  refine Iff.trans (zw_invV (K' := kX12_set) (as' := [.int y2, .int y1, .int (y0 - 4)]) (rest := []) (show decode cX12_go 102 = .ok (.invokevirtual 225, 3) by decide +kernel) (by rfl) rfl rfl rfl (hl.k2 zk_131) (by decide) (hl.n2 zk_131) ⟨Nat.le_of_ble_eq_true rfl, Nat.le_of_ble_eq_true rfl, Nat.le_of_ble_eq_true rfl⟩) ?_
  exact Iff.rfl

theorem bX12_go_105 {d : Nat} {σ : zS} {Q : Option Value → zS → Prop} (hl : zLay σ) {x1 : Int32} {v2 : Value} (hv2 : v2.category = 1) : zW (d + 1) kX12_go 105 [.ref 131, .int x1, v2] [] σ Q ↔ zCall d kX12_of [.ref 131, .int x1, .int 4] σ (fun r σ' => zisN r = true ∧ zW (d + 1) kX12_go 111 [.ref 131, .int x1, v2] (zRstk r ++ []) σ' Q) := by
  refine Iff.trans (zw_aload_n (show decode cX12_go 105 = .ok (.aload_n 0, 1) by decide +kernel) rfl) ?_
  refine Iff.trans (zw_iload_n (show decode cX12_go 106 = .ok (.iload_n 1, 1) by decide +kernel) rfl) ?_
  refine Iff.trans (zw_iconst (x := 4) (show decode cX12_go 107 = .ok (.iconst 4, 1) by decide +kernel) (by decide)) ?_
  refine Iff.trans (zw_invV (K' := kX12_of) (as' := [.int x1, .int 4]) (rest := []) (show decode cX12_go 108 = .ok (.invokevirtual 229, 3) by decide +kernel) (by rfl) rfl rfl rfl (hl.k2 zk_131) (by decide) (hl.n2 zk_131) ⟨Nat.le_of_ble_eq_true rfl, Nat.le_of_ble_eq_true rfl, Nat.le_of_ble_eq_true rfl⟩) ?_
  exact Iff.rfl

theorem bX12_go_111 {d : Nat} {σ : zS} {Q : Option Value → zS → Prop} (hl : zLay σ) {x1 y0 : Int32} {v2 : Value} (hv2 : v2.category = 1) : zW (d + 1) kX12_go 111 [.ref 131, .int x1, v2] [.int y0] σ Q ↔ (vp_in (zI σ 131 19) 7 ∧ (if (y0 + 1) = (zI σ 135 (zI σ 131 19 : Int32).toNatClampNeg) then zCall d kX12_set [.ref 131, .int x1, .int 4, .int (y0 + 1)] σ (fun r σ' => zisN r = true ∧ zW (d + 1) kX12_go 134 [.ref 131, .int x1, .int (y0 + 1)] (zRstk r ++ []) σ' Q) else zCall d kX12_of [.ref 131, .int x1, .int 0] σ (fun r σ' => zisN r = true ∧ zW (d + 1) kX12_go 178 [.ref 131, .int x1, .int (y0 + 1)] (zRstk r ++ [.int (zI σ 131 19), .ref 131]) σ' Q))) := by
  refine Iff.trans (zw_iconst (x := 1) (show decode cX12_go 111 = .ok (.iconst 1, 1) by decide +kernel) (by decide)) ?_
  refine Iff.trans (zw_iadd (show decode cX12_go 112 = .ok (.iadd, 1) by decide +kernel)) ?_
  refine Iff.trans (zw_istore_n (ls' := [.ref 131, .int x1, .int (y0 + 1)]) (show decode cX12_go 113 = .ok (.istore_n 2, 1) by decide +kernel) (zset_s (Nat.le_of_ble_eq_true rfl) rfl)) ?_
  refine Iff.trans (zw_iload_n (show decode cX12_go 114 = .ok (.iload_n 2, 1) by decide +kernel) rfl) ?_
  refine Iff.trans (zw_aload_n (show decode cX12_go 115 = .ok (.aload_n 0, 1) by decide +kernel) rfl) ?_
  refine Iff.trans (zw_get (show decode cX12_go 116 = .ok (.getfield 20, 3) by decide +kernel) (by decide +kernel : zfld 12 20 = some (12, 7)) (hl.k2 zk_131) (hl.n2 zk_131) (zgetR (v := 135) (hl.r zrt_131_7) rfl)) ?_
  refine Iff.trans (zw_aload_n (show decode cX12_go 119 = .ok (.aload_n 0, 1) by decide +kernel) rfl) ?_
  refine Iff.trans (zw_getI (show decode cX12_go 120 = .ok (.getfield 45, 3) by decide +kernel) (by decide +kernel : zfld 12 45 = some (12, 19)) (hl.k2 zk_131) (hl.n2 zk_131) (Or.inl rfl) (w := zI σ 131 19) rfl) ?_
  refine Iff.trans (zw_iald2 (show decode cX12_go 123 = .ok (.iaload, 1) by decide +kernel) (hl.k2 zk_135) (hl.n2 zk_135) (hl.l2 zk_135 zl_135) (w := zI σ 135 (zI σ 131 19 : Int32).toNatClampNeg) rfl) ?_
  refine zw_and ?_
  refine Iff.trans (zw_icmp_ne (t := 167) (show decode cX12_go 124 = .ok (.if_icmp .ne 43, 3) by decide +kernel) (by decide)) ?_
  refine zw_ite ?_ ?_
  · refine Iff.trans (zw_aload_n (show decode cX12_go 127 = .ok (.aload_n 0, 1) by decide +kernel) rfl) ?_
    refine Iff.trans (zw_iload_n (show decode cX12_go 128 = .ok (.iload_n 1, 1) by decide +kernel) rfl) ?_
    refine Iff.trans (zw_iconst (x := 4) (show decode cX12_go 129 = .ok (.iconst 4, 1) by decide +kernel) (by decide)) ?_
    refine Iff.trans (zw_iload_n (show decode cX12_go 130 = .ok (.iload_n 2, 1) by decide +kernel) rfl) ?_
    refine Iff.trans (zw_invV (K' := kX12_set) (as' := [.int x1, .int 4, .int (y0 + 1)]) (rest := []) (show decode cX12_go 131 = .ok (.invokevirtual 225, 3) by decide +kernel) (by rfl) rfl rfl rfl (hl.k2 zk_131) (by decide) (hl.n2 zk_131) ⟨Nat.le_of_ble_eq_true rfl, Nat.le_of_ble_eq_true rfl, Nat.le_of_ble_eq_true rfl⟩) ?_
    exact Iff.rfl
  · refine Iff.trans (zw_aload_n (show decode cX12_go 167 = .ok (.aload_n 0, 1) by decide +kernel) rfl) ?_
    refine Iff.trans (zw_aload_n (show decode cX12_go 168 = .ok (.aload_n 0, 1) by decide +kernel) rfl) ?_
    refine Iff.trans (zw_getI (show decode cX12_go 169 = .ok (.getfield 45, 3) by decide +kernel) (by decide +kernel : zfld 12 45 = some (12, 19)) (hl.k2 zk_131) (hl.n2 zk_131) (Or.inl rfl) (w := zI σ 131 19) rfl) ?_
    refine Iff.trans (zw_aload_n (show decode cX12_go 172 = .ok (.aload_n 0, 1) by decide +kernel) rfl) ?_
    refine Iff.trans (zw_iload_n (show decode cX12_go 173 = .ok (.iload_n 1, 1) by decide +kernel) rfl) ?_
    refine Iff.trans (zw_iconst (x := 0) (show decode cX12_go 174 = .ok (.iconst 0, 1) by decide +kernel) (by decide)) ?_
    refine Iff.trans (zw_invV (K' := kX12_of) (as' := [.int x1, .int 0]) (rest := [.int (zI σ 131 19), .ref 131]) (show decode cX12_go 175 = .ok (.invokevirtual 229, 3) by decide +kernel) (by rfl) rfl rfl rfl (hl.k2 zk_131) (by decide) (hl.n2 zk_131) ⟨Nat.le_of_ble_eq_true rfl, Nat.le_of_ble_eq_true rfl, Nat.le_of_ble_eq_true rfl⟩) ?_
    exact Iff.rfl

theorem bX12_go_134 {d : Nat} {σ : zS} {Q : Option Value → zS → Prop} (hl : zLay σ) {x1 x2 : Int32} : zW (d + 1) kX12_go 134 [.ref 131, .int x1, .int x2] [] σ Q ↔ zCall d kX12_set [.ref 131, .int x1, .int 7, .int (zI σ 131 21)] σ (fun r σ' => zisN r = true ∧ zW (d + 1) kX12_go 145 [.ref 131, .int x1, .int x2] (zRstk r ++ []) σ' Q) := by
  refine Iff.trans (zw_aload_n (show decode cX12_go 134 = .ok (.aload_n 0, 1) by decide +kernel) rfl) ?_
  refine Iff.trans (zw_iload_n (show decode cX12_go 135 = .ok (.iload_n 1, 1) by decide +kernel) rfl) ?_
  refine Iff.trans (zw_bipush (x := 7) (show decode cX12_go 136 = .ok (.bipush 7, 2) by decide +kernel) (by decide)) ?_
  refine Iff.trans (zw_aload_n (show decode cX12_go 138 = .ok (.aload_n 0, 1) by decide +kernel) rfl) ?_
  refine Iff.trans (zw_getI (show decode cX12_go 139 = .ok (.getfield 48, 3) by decide +kernel) (by decide +kernel : zfld 12 48 = some (12, 21)) (hl.k2 zk_131) (hl.n2 zk_131) (Or.inl rfl) (w := zI σ 131 21) rfl) ?_
  refine Iff.trans (zw_invV (K' := kX12_set) (as' := [.int x1, .int 7, .int (zI σ 131 21)]) (rest := []) (show decode cX12_go 142 = .ok (.invokevirtual 225, 3) by decide +kernel) (by rfl) rfl rfl rfl (hl.k2 zk_131) (by decide) (hl.n2 zk_131) ⟨Nat.le_of_ble_eq_true rfl, Nat.le_of_ble_eq_true rfl, Nat.le_of_ble_eq_true rfl⟩) ?_
  exact Iff.rfl

theorem bX12_go_145 {d : Nat} {σ : zS} {Q : Option Value → zS → Prop} (hl : zLay σ) {x1 x2 : Int32} : zW (d + 1) kX12_go 145 [.ref 131, .int x1, .int x2] [] σ Q ↔ zCall d kX12_set [.ref 131, .int x1, .int 8, .int (zI σ 131 22)] σ (fun r σ' => zisN r = true ∧ zW (d + 1) kX12_go 156 [.ref 131, .int x1, .int x2] (zRstk r ++ []) σ' Q) := by
  refine Iff.trans (zw_aload_n (show decode cX12_go 145 = .ok (.aload_n 0, 1) by decide +kernel) rfl) ?_
  refine Iff.trans (zw_iload_n (show decode cX12_go 146 = .ok (.iload_n 1, 1) by decide +kernel) rfl) ?_
  refine Iff.trans (zw_bipush (x := 8) (show decode cX12_go 147 = .ok (.bipush 8, 2) by decide +kernel) (by decide)) ?_
  refine Iff.trans (zw_aload_n (show decode cX12_go 149 = .ok (.aload_n 0, 1) by decide +kernel) rfl) ?_
  refine Iff.trans (zw_getI (show decode cX12_go 150 = .ok (.getfield 252, 3) by decide +kernel) (by decide +kernel : zfld 12 252 = some (12, 22)) (hl.k2 zk_131) (hl.n2 zk_131) (Or.inl rfl) (w := zI σ 131 22) rfl) ?_
  refine Iff.trans (zw_invV (K' := kX12_set) (as' := [.int x1, .int 8, .int (zI σ 131 22)]) (rest := []) (show decode cX12_go 153 = .ok (.invokevirtual 225, 3) by decide +kernel) (by rfl) rfl rfl rfl (hl.k2 zk_131) (by decide) (hl.n2 zk_131) ⟨Nat.le_of_ble_eq_true rfl, Nat.le_of_ble_eq_true rfl, Nat.le_of_ble_eq_true rfl⟩) ?_
  exact Iff.rfl

theorem bX12_go_156 {d : Nat} {σ : zS} {Q : Option Value → zS → Prop} (hl : zLay σ) {x1 x2 : Int32} : zW (d + 1) kX12_go 156 [.ref 131, .int x1, .int x2] [] σ Q ↔ Q none (zsI σ 131 (upd (zI σ 131) 22 ((zI σ 131 22) + 1))) := by
  refine Iff.trans (zw_aload_n (show decode cX12_go 156 = .ok (.aload_n 0, 1) by decide +kernel) rfl) ?_
  refine Iff.trans (zw_dup (show decode cX12_go 157 = .ok (.dup, 1) by decide +kernel) rfl) ?_
  refine Iff.trans (zw_getI (show decode cX12_go 158 = .ok (.getfield 252, 3) by decide +kernel) (by decide +kernel : zfld 12 252 = some (12, 22)) (hl.k2 zk_131) (hl.n2 zk_131) (Or.inl rfl) (w := zI σ 131 22) rfl) ?_
  refine Iff.trans (zw_iconst (x := 1) (show decode cX12_go 161 = .ok (.iconst 1, 1) by decide +kernel) (by decide)) ?_
  refine Iff.trans (zw_iadd (show decode cX12_go 162 = .ok (.iadd, 1) by decide +kernel)) ?_
  refine Iff.trans (zw_putI (show decode cX12_go 163 = .ok (.putfield 252, 3) by decide +kernel) (by decide +kernel : zfld 12 252 = some (12, 22)) (hl.k2 zk_131) (hl.n2 zk_131) rfl (Or.inl rfl) (σ' := (zsI σ 131 (upd (zI σ 131) 22 ((zI σ 131 22) + 1)))) rfl) ?_
  exact zw_ret (show decode cX12_go 166 = .ok (.return_, 1) by decide +kernel) rfl

theorem bX12_go_178 {d : Nat} {σ : zS} {Q : Option Value → zS → Prop} (hl : zLay σ) {x1 x2 y0 y1 : Int32} : zW (d + 1) kX12_go 178 [.ref 131, .int x1, .int x2] [.int y0, .int y1, .ref 131] σ Q ↔ zCall d kX12_of [.ref 131, .int x1, .int 5] σ (fun r σ' => zisN r = true ∧ zW (d + 1) kX12_go 185 [.ref 131, .int x1, .int x2] (zRstk r ++ [.int x2, .int y0, .int y1, .ref 131]) σ' Q) := by
  refine Iff.trans (zw_iload_n (show decode cX12_go 178 = .ok (.iload_n 2, 1) by decide +kernel) rfl) ?_
  refine Iff.trans (zw_aload_n (show decode cX12_go 179 = .ok (.aload_n 0, 1) by decide +kernel) rfl) ?_
  refine Iff.trans (zw_iload_n (show decode cX12_go 180 = .ok (.iload_n 1, 1) by decide +kernel) rfl) ?_
  refine Iff.trans (zw_iconst (x := 5) (show decode cX12_go 181 = .ok (.iconst 5, 1) by decide +kernel) (by decide)) ?_
  refine Iff.trans (zw_invV (K' := kX12_of) (as' := [.int x1, .int 5]) (rest := [.int x2, .int y0, .int y1, .ref 131]) (show decode cX12_go 182 = .ok (.invokevirtual 229, 3) by decide +kernel) (by rfl) rfl rfl rfl (hl.k2 zk_131) (by decide) (hl.n2 zk_131) ⟨Nat.le_of_ble_eq_true rfl, Nat.le_of_ble_eq_true rfl, Nat.le_of_ble_eq_true rfl⟩) ?_
  exact Iff.rfl

theorem bX12_go_185 {d : Nat} {σ : zS} {Q : Option Value → zS → Prop} (hl : zLay σ) {x1 x2 y0 y1 y2 y3 : Int32} : zW (d + 1) kX12_go 185 [.ref 131, .int x1, .int x2] [.int y0, .int y1, .int y2, .int y3, .ref 131] σ Q ↔ zCall d kX12_canLie [.ref 131, .int y3, .int y2, .int y1, .int y0] σ (fun r σ' => zisN r = true ∧ zW (d + 1) kX12_go 188 [.ref 131, .int x1, .int x2] (zRstk r ++ []) σ' Q) := by
  refine Iff.trans (zw_invV (K' := kX12_canLie) (as' := [.int y3, .int y2, .int y1, .int y0]) (rest := []) (show decode cX12_go 185 = .ok (.invokevirtual 218, 3) by decide +kernel) (by rfl) rfl rfl rfl (hl.k2 zk_131) (by decide) (hl.n2 zk_131) ⟨Nat.le_of_ble_eq_true rfl, Nat.le_of_ble_eq_true rfl, Nat.le_of_ble_eq_true rfl⟩) ?_
  exact Iff.rfl

theorem bX12_go_188 {d : Nat} {σ : zS} {Q : Option Value → zS → Prop} (hl : zLay σ) {x1 x2 y0 : Int32} : zW (d + 1) kX12_go 188 [.ref 131, .int x1, .int x2] [.int y0] σ Q ↔ (if y0 = (0 : Int32) then zW (d + 1) kX12_go 212 [.ref 131, .int x1, .int x2] [] σ Q else zCall d kX12_of [.ref 131, .int x1, .int 0] σ (fun r σ' => zisN r = true ∧ zW (d + 1) kX12_go 199 [.ref 131, .int x1, .int x2] (zRstk r ++ [.int x1, .ref 131]) σ' Q)) := by
  refine Iff.trans (zw_if_eq (t := 212) (show decode cX12_go 188 = .ok (.ifCond .eq 24, 3) by decide +kernel) (by decide)) ?_
  refine zw_ite ?_ ?_
  · exact Iff.rfl
  · refine Iff.trans (zw_aload_n (show decode cX12_go 191 = .ok (.aload_n 0, 1) by decide +kernel) rfl) ?_
    refine Iff.trans (zw_iload_n (show decode cX12_go 192 = .ok (.iload_n 1, 1) by decide +kernel) rfl) ?_
    refine Iff.trans (zw_aload_n (show decode cX12_go 193 = .ok (.aload_n 0, 1) by decide +kernel) rfl) ?_
    refine Iff.trans (zw_iload_n (show decode cX12_go 194 = .ok (.iload_n 1, 1) by decide +kernel) rfl) ?_
    refine Iff.trans (zw_iconst (x := 0) (show decode cX12_go 195 = .ok (.iconst 0, 1) by decide +kernel) (by decide)) ?_
    refine Iff.trans (zw_invV (K' := kX12_of) (as' := [.int x1, .int 0]) (rest := [.int x1, .ref 131]) (show decode cX12_go 196 = .ok (.invokevirtual 229, 3) by decide +kernel) (by rfl) rfl rfl rfl (hl.k2 zk_131) (by decide) (hl.n2 zk_131) ⟨Nat.le_of_ble_eq_true rfl, Nat.le_of_ble_eq_true rfl, Nat.le_of_ble_eq_true rfl⟩) ?_
    exact Iff.rfl

theorem bX12_go_199 {d : Nat} {σ : zS} {Q : Option Value → zS → Prop} (hl : zLay σ) {x1 x2 y0 y1 : Int32} : zW (d + 1) kX12_go 199 [.ref 131, .int x1, .int x2] [.int y0, .int y1, .ref 131] σ Q ↔ zCall d kX12_of [.ref 131, .int x1, .int 5] σ (fun r σ' => zisN r = true ∧ zW (d + 1) kX12_go 206 [.ref 131, .int x1, .int x2] (zRstk r ++ [.int x2, .int y0, .int y1, .ref 131]) σ' Q) := by
  refine Iff.trans (zw_iload_n (show decode cX12_go 199 = .ok (.iload_n 2, 1) by decide +kernel) rfl) ?_
  refine Iff.trans (zw_aload_n (show decode cX12_go 200 = .ok (.aload_n 0, 1) by decide +kernel) rfl) ?_
  refine Iff.trans (zw_iload_n (show decode cX12_go 201 = .ok (.iload_n 1, 1) by decide +kernel) rfl) ?_
  refine Iff.trans (zw_iconst (x := 5) (show decode cX12_go 202 = .ok (.iconst 5, 1) by decide +kernel) (by decide)) ?_
  refine Iff.trans (zw_invV (K' := kX12_of) (as' := [.int x1, .int 5]) (rest := [.int x2, .int y0, .int y1, .ref 131]) (show decode cX12_go 203 = .ok (.invokevirtual 229, 3) by decide +kernel) (by rfl) rfl rfl rfl (hl.k2 zk_131) (by decide) (hl.n2 zk_131) ⟨Nat.le_of_ble_eq_true rfl, Nat.le_of_ble_eq_true rfl, Nat.le_of_ble_eq_true rfl⟩) ?_
  exact Iff.rfl

theorem bX12_go_206 {d : Nat} {σ : zS} {Q : Option Value → zS → Prop} (hl : zLay σ) {x1 x2 y0 y1 y2 y3 : Int32} : zW (d + 1) kX12_go 206 [.ref 131, .int x1, .int x2] [.int y0, .int y1, .int y2, .int y3, .ref 131] σ Q ↔ zCall d kX12_isFree [.ref 131, .int y3, .int y2, .int y1, .int y0] σ (fun r σ' => zisN r = true ∧ zW (d + 1) kX12_go 209 [.ref 131, .int x1, .int x2] (zRstk r ++ []) σ' Q) := by
  refine Iff.trans (zw_invV (K' := kX12_isFree) (as' := [.int y3, .int y2, .int y1, .int y0]) (rest := []) (show decode cX12_go 206 = .ok (.invokevirtual 241, 3) by decide +kernel) (by rfl) rfl rfl rfl (hl.k2 zk_131) (by decide) (hl.n2 zk_131) ⟨Nat.le_of_ble_eq_true rfl, Nat.le_of_ble_eq_true rfl, Nat.le_of_ble_eq_true rfl⟩) ?_
  exact Iff.rfl

theorem bX12_go_209 {d : Nat} {σ : zS} {Q : Option Value → zS → Prop} (hl : zLay σ) {x1 x2 y0 : Int32} : zW (d + 1) kX12_go 209 [.ref 131, .int x1, .int x2] [.int y0] σ Q ↔ (if y0 = (0 : Int32) then zW (d + 1) kX12_go 212 [.ref 131, .int x1, .int x2] [] σ Q else zCall d kX12_set [.ref 131, .int x1, .int 4, .int x2] σ (fun r σ' => zisN r = true ∧ zW (d + 1) kX12_go 225 [.ref 131, .int x1, .int x2] (zRstk r ++ []) σ' Q)) := by
  refine Iff.trans (zw_if_ne (t := 218) (show decode cX12_go 209 = .ok (.ifCond .ne 9, 3) by decide +kernel) (by decide)) ?_
  refine zw_ite ?_ ?_
  · exact Iff.rfl
  · refine Iff.trans (zw_aload_n (show decode cX12_go 218 = .ok (.aload_n 0, 1) by decide +kernel) rfl) ?_
    refine Iff.trans (zw_iload_n (show decode cX12_go 219 = .ok (.iload_n 1, 1) by decide +kernel) rfl) ?_
    refine Iff.trans (zw_iconst (x := 4) (show decode cX12_go 220 = .ok (.iconst 4, 1) by decide +kernel) (by decide)) ?_
    refine Iff.trans (zw_iload_n (show decode cX12_go 221 = .ok (.iload_n 2, 1) by decide +kernel) rfl) ?_
    refine Iff.trans (zw_invV (K' := kX12_set) (as' := [.int x1, .int 4, .int x2]) (rest := []) (show decode cX12_go 222 = .ok (.invokevirtual 225, 3) by decide +kernel) (by rfl) rfl rfl rfl (hl.k2 zk_131) (by decide) (hl.n2 zk_131) ⟨Nat.le_of_ble_eq_true rfl, Nat.le_of_ble_eq_true rfl, Nat.le_of_ble_eq_true rfl⟩) ?_
    exact Iff.rfl

theorem bX12_go_212 {d : Nat} {σ : zS} {Q : Option Value → zS → Prop} (hl : zLay σ) {x1 x2 : Int32} : zW (d + 1) kX12_go 212 [.ref 131, .int x1, .int x2] [] σ Q ↔ zCall d kX12_strike [.ref 131, .int x1] σ (fun r σ' => zisN r = true ∧ zW (d + 1) kX12_go 217 [.ref 131, .int x1, .int x2] (zRstk r ++ []) σ' Q) := by
  refine Iff.trans (zw_aload_n (show decode cX12_go 212 = .ok (.aload_n 0, 1) by decide +kernel) rfl) ?_
  refine Iff.trans (zw_iload_n (show decode cX12_go 213 = .ok (.iload_n 1, 1) by decide +kernel) rfl) ?_
  refine Iff.trans (zw_invV (K' := kX12_strike) (as' := [.int x1]) (rest := []) (show decode cX12_go 214 = .ok (.invokevirtual 298, 3) by decide +kernel) (by rfl) rfl rfl rfl (hl.k2 zk_131) (by decide) (hl.n2 zk_131) ⟨Nat.le_of_ble_eq_true rfl, Nat.le_of_ble_eq_true rfl, Nat.le_of_ble_eq_true rfl⟩) ?_
  exact Iff.rfl

theorem bX12_go_217 {d : Nat} {σ : zS} {Q : Option Value → zS → Prop} (hl : zLay σ) {x1 x2 : Int32} : zW (d + 1) kX12_go 217 [.ref 131, .int x1, .int x2] [] σ Q ↔ Q none σ := by
  exact zw_ret (show decode cX12_go 217 = .ok (.return_, 1) by decide +kernel) rfl

theorem bX12_go_225 {d : Nat} {σ : zS} {Q : Option Value → zS → Prop} (hl : zLay σ) {x1 x2 : Int32} : zW (d + 1) kX12_go 225 [.ref 131, .int x1, .int x2] [] σ Q ↔ zW (d + 1) kX12_go 78 [.ref 131, .int x1, .int x2] [] σ Q := by
  refine Iff.trans (zw_goto (t := 78) (show decode cX12_go 225 = .ok (.goto (-147), 3) by decide +kernel) (by decide)) ?_
  exact Iff.rfl

theorem bX12_go_241 {d : Nat} {σ : zS} {Q : Option Value → zS → Prop} (hl : zLay σ) {x1 y0 : Int32} {v2 : Value} (hv2 : v2.category = 1) : zW (d + 1) kX12_go 241 [.ref 131, .int x1, v2] [.int y0] σ Q ↔ (if (y0 * (if 0 ≤ (zI σ 131 13) then (zI σ 131 13) else 0 - (zI σ 131 13))) < 9 then zW (d + 1) kX12_go 278 [.ref 131, .int x1, v2] [] σ Q else zCall d kX12_of [.ref 131, .int x1, .int 5] σ (fun r σ' => zisN r = true ∧ zW (d + 1) kX12_go 262 [.ref 131, .int x1, v2] (zRstk r ++ [.int x1, .ref 131]) σ' Q)) := by
  refine Iff.trans (zw_aload_n (show decode cX12_go 241 = .ok (.aload_n 0, 1) by decide +kernel) rfl) ?_
  refine Iff.trans (zw_getI (show decode cX12_go 242 = .ok (.getfield 212, 3) by decide +kernel) (by decide +kernel : zfld 12 212 = some (12, 13)) (hl.k2 zk_131) (hl.n2 zk_131) (Or.inl rfl) (w := zI σ 131 13) rfl) ?_
  refine Iff.trans (zw_nabs (show decode cX12_go 245 = .ok (.invokestatic 301, 3) by decide +kernel) (by rfl) (Nat.le_of_ble_eq_true rfl)) ?_
  refine Iff.trans (zw_imul (show decode cX12_go 248 = .ok (.imul, 1) by decide +kernel)) ?_
  refine Iff.trans (zw_bipush (x := 9) (show decode cX12_go 249 = .ok (.bipush 9, 2) by decide +kernel) (by decide)) ?_
  refine Iff.trans (zw_icmp_lt (t := 278) (show decode cX12_go 251 = .ok (.if_icmp .lt 27, 3) by decide +kernel) (by decide)) ?_
  refine zw_ite ?_ ?_
  · exact Iff.rfl
  · refine Iff.trans (zw_aload_n (show decode cX12_go 254 = .ok (.aload_n 0, 1) by decide +kernel) rfl) ?_
    refine Iff.trans (zw_iload_n (show decode cX12_go 255 = .ok (.iload_n 1, 1) by decide +kernel) rfl) ?_
    refine Iff.trans (zw_aload_n (show decode cX12_go 256 = .ok (.aload_n 0, 1) by decide +kernel) rfl) ?_
    refine Iff.trans (zw_iload_n (show decode cX12_go 257 = .ok (.iload_n 1, 1) by decide +kernel) rfl) ?_
    refine Iff.trans (zw_iconst (x := 5) (show decode cX12_go 258 = .ok (.iconst 5, 1) by decide +kernel) (by decide)) ?_
    refine Iff.trans (zw_invV (K' := kX12_of) (as' := [.int x1, .int 5]) (rest := [.int x1, .ref 131]) (show decode cX12_go 259 = .ok (.invokevirtual 229, 3) by decide +kernel) (by rfl) rfl rfl rfl (hl.k2 zk_131) (by decide) (hl.n2 zk_131) ⟨Nat.le_of_ble_eq_true rfl, Nat.le_of_ble_eq_true rfl, Nat.le_of_ble_eq_true rfl⟩) ?_
    exact Iff.rfl

theorem bX12_go_262 {d : Nat} {σ : zS} {Q : Option Value → zS → Prop} (hl : zLay σ) {x1 y0 y1 : Int32} {v2 : Value} (hv2 : v2.category = 1) : zW (d + 1) kX12_go 262 [.ref 131, .int x1, v2] [.int y0, .int y1, .ref 131] σ Q ↔ (if (zI σ 131 13) ≤ (0 : Int32) then zW (d + 1) kX12_go 274 [.ref 131, .int x1, v2] [.int (-1), .int y0, .int y1, .ref 131] σ Q else zW (d + 1) kX12_go 274 [.ref 131, .int x1, v2] [.int 1, .int y0, .int y1, .ref 131] σ Q) := by
  refine Iff.trans (zw_aload_n (show decode cX12_go 262 = .ok (.aload_n 0, 1) by decide +kernel) rfl) ?_
  refine Iff.trans (zw_getI (show decode cX12_go 263 = .ok (.getfield 212, 3) by decide +kernel) (by decide +kernel : zfld 12 212 = some (12, 13)) (hl.k2 zk_131) (hl.n2 zk_131) (Or.inl rfl) (w := zI σ 131 13) rfl) ?_
  refine Iff.trans (zw_if_le (t := 273) (show decode cX12_go 266 = .ok (.ifCond .le 7, 3) by decide +kernel) (by decide)) ?_
  refine zw_ite ?_ ?_
  · refine Iff.trans (zw_iconst (x := (-1)) (show decode cX12_go 273 = .ok (.iconst (-1), 1) by decide +kernel) (by decide)) ?_
    exact Iff.rfl
  · refine Iff.trans (zw_iconst (x := 1) (show decode cX12_go 269 = .ok (.iconst 1, 1) by decide +kernel) (by decide)) ?_
    refine Iff.trans (zw_goto (t := 274) (show decode cX12_go 270 = .ok (.goto 4, 3) by decide +kernel) (by decide)) ?_
    exact Iff.rfl

theorem bX12_go_274 {d : Nat} {σ : zS} {Q : Option Value → zS → Prop} (hl : zLay σ) {x1 y0 y1 y2 : Int32} {v2 : Value} (hv2 : v2.category = 1) : zW (d + 1) kX12_go 274 [.ref 131, .int x1, v2] [.int y0, .int y1, .int y2, .ref 131] σ Q ↔ zCall d kX12_goAside [.ref 131, .int y2, .int (y1 + y0)] σ (fun r σ' => zisN r = true ∧ zW (d + 1) kX12_go 278 [.ref 131, .int x1, v2] (zRstk r ++ []) σ' Q) := by
  refine Iff.trans (zw_iadd (show decode cX12_go 274 = .ok (.iadd, 1) by decide +kernel)) ?_
  refine Iff.trans (zw_invV (K' := kX12_goAside) (as' := [.int y2, .int (y1 + y0)]) (rest := []) (show decode cX12_go 275 = .ok (.invokevirtual 278, 3) by decide +kernel) (by rfl) rfl rfl rfl (hl.k2 zk_131) (by decide) (hl.n2 zk_131) ⟨Nat.le_of_ble_eq_true rfl, Nat.le_of_ble_eq_true rfl, Nat.le_of_ble_eq_true rfl⟩) ?_
  exact Iff.rfl

theorem bX12_go_278 {d : Nat} {σ : zS} {Q : Option Value → zS → Prop} (hl : zLay σ) {x1 : Int32} {v2 : Value} (hv2 : v2.category = 1) : zW (d + 1) kX12_go 278 [.ref 131, .int x1, v2] [] σ Q ↔ Q none σ := by
  exact zw_ret (show decode cX12_go 278 = .ok (.return_, 1) by decide +kernel) rfl

theorem bX12_goTick_0 {d : Nat} {σ : zS} {Q : Option Value → zS → Prop} (hl : zLay σ) : zCall (d + 1) kX12_goTick [.ref 131] σ Q ↔ zW (d + 1) kX12_goTick 12 [.ref 131, .int 0, .retAddr 0, .retAddr 0] [] (zsI σ 131 (upd (zI σ 131) 21 ((zI σ 131 21) + 1))) Q := by
  show zW (d + 1) kX12_goTick 0 [.ref 131, .retAddr 0, .retAddr 0, .retAddr 0] [] σ Q ↔ _
  refine Iff.trans (zw_aload_n (show decode cX12_goTick 0 = .ok (.aload_n 0, 1) by decide +kernel) rfl) ?_
  refine Iff.trans (zw_dup (show decode cX12_goTick 1 = .ok (.dup, 1) by decide +kernel) rfl) ?_
  refine Iff.trans (zw_getI (show decode cX12_goTick 2 = .ok (.getfield 48, 3) by decide +kernel) (by decide +kernel : zfld 12 48 = some (12, 21)) (hl.k2 zk_131) (hl.n2 zk_131) (Or.inl rfl) (w := zI σ 131 21) rfl) ?_
  refine Iff.trans (zw_iconst (x := 1) (show decode cX12_goTick 5 = .ok (.iconst 1, 1) by decide +kernel) (by decide)) ?_
  refine Iff.trans (zw_iadd (show decode cX12_goTick 6 = .ok (.iadd, 1) by decide +kernel)) ?_
  refine Iff.trans (zw_putI (show decode cX12_goTick 7 = .ok (.putfield 48, 3) by decide +kernel) (by decide +kernel : zfld 12 48 = some (12, 21)) (hl.k2 zk_131) (hl.n2 zk_131) rfl (Or.inl rfl) (σ' := (zsI σ 131 (upd (zI σ 131) 21 ((zI σ 131 21) + 1)))) rfl) ?_
  refine Iff.trans (zw_iconst (x := 0) (show decode cX12_goTick 10 = .ok (.iconst 0, 1) by decide +kernel) (by decide)) ?_
  refine Iff.trans (zw_istore_n (ls' := [.ref 131, .int 0, .retAddr 0, .retAddr 0]) (show decode cX12_goTick 11 = .ok (.istore_n 1, 1) by decide +kernel) (zset_s (Nat.le_of_ble_eq_true rfl) rfl)) ?_
  exact Iff.rfl

theorem bX12_goTick_12 {d : Nat} {σ : zS} {Q : Option Value → zS → Prop} (hl : zLay σ) {x1 : Int32} : zW (d + 1) kX12_goTick 12 [.ref 131, .int x1, .retAddr 0, .retAddr 0] [] σ Q ↔ (if (zI σ 131 20) ≤ x1 then zW (d + 1) kX12_goTick 51 [.ref 131, .int 0, .retAddr 0, .retAddr 0] [] σ Q else zCall d kX12_of [.ref 131, .int x1, .int 4] σ (fun r σ' => zisN r = true ∧ zW (d + 1) kX12_goTick 31 [.ref 131, .int x1, .retAddr 0, .retAddr 0] (zRstk r ++ [.int x1, .ref 150]) σ' Q)) := by
  refine Iff.trans (zw_iload_n (show decode cX12_goTick 12 = .ok (.iload_n 1, 1) by decide +kernel) rfl) ?_
  refine Iff.trans (zw_aload_n (show decode cX12_goTick 13 = .ok (.aload_n 0, 1) by decide +kernel) rfl) ?_
  refine Iff.trans (zw_getI (show decode cX12_goTick 14 = .ok (.getfield 222, 3) by decide +kernel) (by decide +kernel : zfld 12 222 = some (12, 20)) (hl.k2 zk_131) (hl.n2 zk_131) (Or.inl rfl) (w := zI σ 131 20) rfl) ?_
  refine Iff.trans (zw_icmp_ge (t := 49) (show decode cX12_goTick 17 = .ok (.if_icmp .ge 32, 3) by decide +kernel) (by decide)) ?_
  refine zw_ite ?_ ?_
  · refine Iff.trans (zw_iconst (x := 0) (show decode cX12_goTick 49 = .ok (.iconst 0, 1) by decide +kernel) (by decide)) ?_
    refine Iff.trans (zw_istore_n (ls' := [.ref 131, .int 0, .retAddr 0, .retAddr 0]) (show decode cX12_goTick 50 = .ok (.istore_n 1, 1) by decide +kernel) (zset_s (Nat.le_of_ble_eq_true rfl) rfl)) ?_
    exact Iff.rfl
  · refine Iff.trans (zw_aload_n (show decode cX12_goTick 20 = .ok (.aload_n 0, 1) by decide +kernel) rfl) ?_
    refine Iff.trans (zw_get (show decode cX12_goTick 21 = .ok (.getfield 75, 3) by decide +kernel) (by decide +kernel : zfld 12 75 = some (12, 44)) (hl.k2 zk_131) (hl.n2 zk_131) (zgetR (v := 150) (hl.r zrt_131_44) rfl)) ?_
    refine Iff.trans (zw_iload_n (show decode cX12_goTick 24 = .ok (.iload_n 1, 1) by decide +kernel) rfl) ?_
    refine Iff.trans (zw_aload_n (show decode cX12_goTick 25 = .ok (.aload_n 0, 1) by decide +kernel) rfl) ?_
    refine Iff.trans (zw_iload_n (show decode cX12_goTick 26 = .ok (.iload_n 1, 1) by decide +kernel) rfl) ?_
    refine Iff.trans (zw_iconst (x := 4) (show decode cX12_goTick 27 = .ok (.iconst 4, 1) by decide +kernel) (by decide)) ?_
    refine Iff.trans (zw_invV (K' := kX12_of) (as' := [.int x1, .int 4]) (rest := [.int x1, .ref 150]) (show decode cX12_goTick 28 = .ok (.invokevirtual 229, 3) by decide +kernel) (by rfl) rfl rfl rfl (hl.k2 zk_131) (by decide) (hl.n2 zk_131) ⟨Nat.le_of_ble_eq_true rfl, Nat.le_of_ble_eq_true rfl, Nat.le_of_ble_eq_true rfl⟩) ?_
    exact Iff.rfl

theorem bX12_goTick_31 {d : Nat} {σ : zS} {Q : Option Value → zS → Prop} (hl : zLay σ) {x1 y0 y1 : Int32} : zW (d + 1) kX12_goTick 31 [.ref 131, .int x1, .retAddr 0, .retAddr 0] [.int y0, .int y1, .ref 150] σ Q ↔ (vp_in y1 6 ∧ zCall d kX12_isOut [.ref 131, .int x1] (zsI σ 150 (upd (zI σ 150) (y1 : Int32).toNatClampNeg y0)) (fun r σ' => zisN r = true ∧ zW (d + 1) kX12_goTick 42 [.ref 131, .int x1, .retAddr 0, .retAddr 0] (zRstk r ++ [.int x1, .ref 151]) σ' Q)) := by
  refine Iff.trans (zw_iast2 (show decode cX12_goTick 31 = .ok (.iastore, 1) by decide +kernel) (hl.k2 zk_150) (hl.n2 zk_150) (hl.l2 zk_150 zl_150) (σ' := (zsI σ 150 (upd (zI σ 150) (y1 : Int32).toNatClampNeg y0))) rfl) ?_
  refine zw_and ?_
  refine Iff.trans (zw_aload_n (show decode cX12_goTick 32 = .ok (.aload_n 0, 1) by decide +kernel) rfl) ?_
  refine Iff.trans (zw_get (show decode cX12_goTick 33 = .ok (.getfield 78, 3) by decide +kernel) (by decide +kernel : zfld 12 78 = some (12, 45)) (hl.I.k2 zk_131) (hl.I.n2 zk_131) (zgetR (v := 151) (hl.I.r zrt_131_45) rfl)) ?_
  refine Iff.trans (zw_iload_n (show decode cX12_goTick 36 = .ok (.iload_n 1, 1) by decide +kernel) rfl) ?_
  refine Iff.trans (zw_aload_n (show decode cX12_goTick 37 = .ok (.aload_n 0, 1) by decide +kernel) rfl) ?_
  refine Iff.trans (zw_iload_n (show decode cX12_goTick 38 = .ok (.iload_n 1, 1) by decide +kernel) rfl) ?_
  refine Iff.trans (zw_invV (K' := kX12_isOut) (as' := [.int x1]) (rest := [.int x1, .ref 151]) (show decode cX12_goTick 39 = .ok (.invokevirtual 235, 3) by decide +kernel) (by rfl) rfl rfl rfl (hl.I.k2 zk_131) (by decide) (hl.I.n2 zk_131) ⟨Nat.le_of_ble_eq_true rfl, Nat.le_of_ble_eq_true rfl, Nat.le_of_ble_eq_true rfl⟩) ?_
  exact Iff.rfl

theorem bX12_goTick_42 {d : Nat} {σ : zS} {Q : Option Value → zS → Prop} (hl : zLay σ) {x1 y0 y1 : Int32} : zW (d + 1) kX12_goTick 42 [.ref 131, .int x1, .retAddr 0, .retAddr 0] [.int y0, .int y1, .ref 151] σ Q ↔ (vp_in y1 6 ∧ zW (d + 1) kX12_goTick 12 [.ref 131, .int (x1 + 1), .retAddr 0, .retAddr 0] [] (zsI σ 151 (upd (zI σ 151) (y1 : Int32).toNatClampNeg (vp_nar (zAty 15) y0))) Q) := by
  refine Iff.trans (zw_bast2 (show decode cX12_goTick 42 = .ok (.bastore, 1) by decide +kernel) (hl.k2 zk_151) (by decide) (hl.n2 zk_151) (hl.l2 zk_151 zl_151) (σ' := (zsI σ 151 (upd (zI σ 151) (y1 : Int32).toNatClampNeg (vp_nar (zAty 15) y0)))) rfl) ?_
  refine zw_and ?_
  refine Iff.trans (zw_iinc (w := 1) (ls' := [.ref 131, .int (x1 + 1), .retAddr 0, .retAddr 0]) (show decode cX12_goTick 43 = .ok (.iinc 1 1, 3) by decide +kernel) rfl (by decide) (zset_s (Nat.le_of_ble_eq_true rfl) rfl)) ?_
  refine Iff.trans (zw_goto (t := 12) (show decode cX12_goTick 46 = .ok (.goto (-34), 3) by decide +kernel) (by decide)) ?_
  exact Iff.rfl

theorem bX12_goTick_51 {d : Nat} {σ : zS} {Q : Option Value → zS → Prop} (hl : zLay σ) {x1 : Int32} {v2 v3 : Value} (hv2 : v2.category = 1) (hv3 : v3.category = 1) : zW (d + 1) kX12_goTick 51 [.ref 131, .int x1, v2, v3] [] σ Q ↔ (if (zI σ 131 20) ≤ x1 then Q none σ else zW (d + 1) kX12_goTick 63 [.ref 131, .int x1, .int (-1), .int 0] [] σ Q) := by
  refine Iff.trans (zw_iload_n (show decode cX12_goTick 51 = .ok (.iload_n 1, 1) by decide +kernel) rfl) ?_
  refine Iff.trans (zw_aload_n (show decode cX12_goTick 52 = .ok (.aload_n 0, 1) by decide +kernel) rfl) ?_
  refine Iff.trans (zw_getI (show decode cX12_goTick 53 = .ok (.getfield 222, 3) by decide +kernel) (by decide +kernel : zfld 12 222 = some (12, 20)) (hl.k2 zk_131) (hl.n2 zk_131) (Or.inl rfl) (w := zI σ 131 20) rfl) ?_
  refine Iff.trans (zw_icmp_ge (t := 132) (show decode cX12_goTick 56 = .ok (.if_icmp .ge 76, 3) by decide +kernel) (by decide)) ?_
  refine zw_ite ?_ ?_
  · exact zw_ret (show decode cX12_goTick 132 = .ok (.return_, 1) by decide +kernel) rfl
  · refine Iff.trans (zw_iconst (x := (-1)) (show decode cX12_goTick 59 = .ok (.iconst (-1), 1) by decide +kernel) (by decide)) ?_
    refine Iff.trans (zw_istore_n (ls' := [.ref 131, .int x1, .int (-1), v3]) (show decode cX12_goTick 60 = .ok (.istore_n 2, 1) by decide +kernel) (zset_s (Nat.le_of_ble_eq_true rfl) rfl)) ?_
    refine Iff.trans (zw_iconst (x := 0) (show decode cX12_goTick 61 = .ok (.iconst 0, 1) by decide +kernel) (by decide)) ?_
    refine Iff.trans (zw_istore_n (ls' := [.ref 131, .int x1, .int (-1), .int 0]) (show decode cX12_goTick 62 = .ok (.istore_n 3, 1) by decide +kernel) (zset_s (Nat.le_of_ble_eq_true rfl) rfl)) ?_
    exact Iff.rfl

theorem bX12_goTick_63 {d : Nat} {σ : zS} {Q : Option Value → zS → Prop} (hl : zLay σ) {x1 x2 x3 : Int32} : zW (d + 1) kX12_goTick 63 [.ref 131, .int x1, .int x2, .int x3] [] σ Q ↔ (if (zI σ 131 20) ≤ x3 then (if x2 = (-1) then Q none σ else (vp_in x2 6 ∧ zCall d kX12_go [.ref 131, .int x2] (zsI σ 151 (upd (zI σ 151) (x2 : Int32).toNatClampNeg (vp_nar (zAty 15) 1))) (fun r σ' => zisN r = true ∧ zW (d + 1) kX12_goTick 126 [.ref 131, .int x1, .int x2, .int x3] (zRstk r ++ []) σ' Q))) else (vp_in x3 6 ∧ (if (zI σ 151 (x3 : Int32).toNatClampNeg) = (0 : Int32) then (if x2 = (-1) then zW (d + 1) kX12_goTick 63 [.ref 131, .int x1, .int x3, .int (x3 + 1)] [] σ Q else (vp_in x3 6 ∧ (vp_in x2 6 ∧ (if (zI σ 150 (x3 : Int32).toNatClampNeg) ≤ (zI σ 150 (x2 : Int32).toNatClampNeg) then zW (d + 1) kX12_goTick 63 [.ref 131, .int x1, .int x2, .int (x3 + 1)] [] σ Q else zW (d + 1) kX12_goTick 63 [.ref 131, .int x1, .int x3, .int (x3 + 1)] [] σ Q)))) else zW (d + 1) kX12_goTick 63 [.ref 131, .int x1, .int x2, .int (x3 + 1)] [] σ Q))) := by
  refine Iff.trans (zw_iload_n (show decode cX12_goTick 63 = .ok (.iload_n 3, 1) by decide +kernel) rfl) ?_
  refine Iff.trans (zw_aload_n (show decode cX12_goTick 64 = .ok (.aload_n 0, 1) by decide +kernel) rfl) ?_
  refine Iff.trans (zw_getI (show decode cX12_goTick 65 = .ok (.getfield 222, 3) by decide +kernel) (by decide +kernel : zfld 12 222 = some (12, 20)) (hl.k2 zk_131) (hl.n2 zk_131) (Or.inl rfl) (w := zI σ 131 20) rfl) ?_
  refine Iff.trans (zw_icmp_ge (t := 108) (show decode cX12_goTick 68 = .ok (.if_icmp .ge 40, 3) by decide +kernel) (by decide)) ?_
  refine zw_ite ?_ ?_
  · refine Iff.trans (zw_iload_n (show decode cX12_goTick 108 = .ok (.iload_n 2, 1) by decide +kernel) rfl) ?_
    refine Iff.trans (zw_iconst (x := (-1)) (show decode cX12_goTick 109 = .ok (.iconst (-1), 1) by decide +kernel) (by decide)) ?_
    refine Iff.trans (zw_icmp_ne (t := 114) (show decode cX12_goTick 110 = .ok (.if_icmp .ne 4, 3) by decide +kernel) (by decide)) ?_
    refine zw_ite ?_ ?_
    · exact zw_ret (show decode cX12_goTick 113 = .ok (.return_, 1) by decide +kernel) rfl
    · refine Iff.trans (zw_aload_n (show decode cX12_goTick 114 = .ok (.aload_n 0, 1) by decide +kernel) rfl) ?_
      refine Iff.trans (zw_get (show decode cX12_goTick 115 = .ok (.getfield 78, 3) by decide +kernel) (by decide +kernel : zfld 12 78 = some (12, 45)) (hl.k2 zk_131) (hl.n2 zk_131) (zgetR (v := 151) (hl.r zrt_131_45) rfl)) ?_
      refine Iff.trans (zw_iload_n (show decode cX12_goTick 118 = .ok (.iload_n 2, 1) by decide +kernel) rfl) ?_
      refine Iff.trans (zw_iconst (x := 1) (show decode cX12_goTick 119 = .ok (.iconst 1, 1) by decide +kernel) (by decide)) ?_
      refine Iff.trans (zw_bast2 (show decode cX12_goTick 120 = .ok (.bastore, 1) by decide +kernel) (hl.k2 zk_151) (by decide) (hl.n2 zk_151) (hl.l2 zk_151 zl_151) (σ' := (zsI σ 151 (upd (zI σ 151) (x2 : Int32).toNatClampNeg (vp_nar (zAty 15) 1)))) rfl) ?_
      refine zw_and ?_
      refine Iff.trans (zw_aload_n (show decode cX12_goTick 121 = .ok (.aload_n 0, 1) by decide +kernel) rfl) ?_
      refine Iff.trans (zw_iload_n (show decode cX12_goTick 122 = .ok (.iload_n 2, 1) by decide +kernel) rfl) ?_
      refine Iff.trans (zw_invV (K' := kX12_go) (as' := [.int x2]) (rest := []) (show decode cX12_goTick 123 = .ok (.invokevirtual 304, 3) by decide +kernel) (by rfl) rfl rfl rfl (hl.I.k2 zk_131) (by decide) (hl.I.n2 zk_131) ⟨Nat.le_of_ble_eq_true rfl, Nat.le_of_ble_eq_true rfl, Nat.le_of_ble_eq_true rfl⟩) ?_
      exact Iff.rfl
  · refine Iff.trans (zw_aload_n (show decode cX12_goTick 71 = .ok (.aload_n 0, 1) by decide +kernel) rfl) ?_
    refine Iff.trans (zw_get (show decode cX12_goTick 72 = .ok (.getfield 78, 3) by decide +kernel) (by decide +kernel : zfld 12 78 = some (12, 45)) (hl.k2 zk_131) (hl.n2 zk_131) (zgetR (v := 151) (hl.r zrt_131_45) rfl)) ?_
    refine Iff.trans (zw_iload_n (show decode cX12_goTick 75 = .ok (.iload_n 3, 1) by decide +kernel) rfl) ?_
    refine Iff.trans (zw_bald2 (show decode cX12_goTick 76 = .ok (.baload, 1) by decide +kernel) (by rw [(hl.k2 zk_151)]; decide) (hl.n2 zk_151) (hl.l2 zk_151 zl_151) (w := zI σ 151 (x3 : Int32).toNatClampNeg) rfl) ?_
    refine zw_and ?_
    refine Iff.trans (zw_if_ne (t := 102) (show decode cX12_goTick 77 = .ok (.ifCond .ne 25, 3) by decide +kernel) (by decide)) ?_
    refine zw_ite ?_ ?_
    · refine Iff.trans (zw_iload_n (show decode cX12_goTick 80 = .ok (.iload_n 2, 1) by decide +kernel) rfl) ?_
      refine Iff.trans (zw_iconst (x := (-1)) (show decode cX12_goTick 81 = .ok (.iconst (-1), 1) by decide +kernel) (by decide)) ?_
      refine Iff.trans (zw_icmp_eq (t := 100) (show decode cX12_goTick 82 = .ok (.if_icmp .eq 18, 3) by decide +kernel) (by decide)) ?_
      refine zw_ite ?_ ?_
      · refine Iff.trans (zw_iload_n (show decode cX12_goTick 100 = .ok (.iload_n 3, 1) by decide +kernel) rfl) ?_
        refine Iff.trans (zw_istore_n (ls' := [.ref 131, .int x1, .int x3, .int x3]) (show decode cX12_goTick 101 = .ok (.istore_n 2, 1) by decide +kernel) (zset_s (Nat.le_of_ble_eq_true rfl) rfl)) ?_
        refine Iff.trans (zw_iinc (w := 1) (ls' := [.ref 131, .int x1, .int x3, .int (x3 + 1)]) (show decode cX12_goTick 102 = .ok (.iinc 3 1, 3) by decide +kernel) rfl (by decide) (zset_s (Nat.le_of_ble_eq_true rfl) rfl)) ?_
        refine Iff.trans (zw_goto (t := 63) (show decode cX12_goTick 105 = .ok (.goto (-42), 3) by decide +kernel) (by decide)) ?_
        exact Iff.rfl
      · refine Iff.trans (zw_aload_n (show decode cX12_goTick 85 = .ok (.aload_n 0, 1) by decide +kernel) rfl) ?_
        refine Iff.trans (zw_get (show decode cX12_goTick 86 = .ok (.getfield 75, 3) by decide +kernel) (by decide +kernel : zfld 12 75 = some (12, 44)) (hl.k2 zk_131) (hl.n2 zk_131) (zgetR (v := 150) (hl.r zrt_131_44) rfl)) ?_
        refine Iff.trans (zw_iload_n (show decode cX12_goTick 89 = .ok (.iload_n 3, 1) by decide +kernel) rfl) ?_
        refine Iff.trans (zw_iald2 (show decode cX12_goTick 90 = .ok (.iaload, 1) by decide +kernel) (hl.k2 zk_150) (hl.n2 zk_150) (hl.l2 zk_150 zl_150) (w := zI σ 150 (x3 : Int32).toNatClampNeg) rfl) ?_
        refine zw_and ?_
        refine Iff.trans (zw_aload_n (show decode cX12_goTick 91 = .ok (.aload_n 0, 1) by decide +kernel) rfl) ?_
        refine Iff.trans (zw_get (show decode cX12_goTick 92 = .ok (.getfield 75, 3) by decide +kernel) (by decide +kernel : zfld 12 75 = some (12, 44)) (hl.k2 zk_131) (hl.n2 zk_131) (zgetR (v := 150) (hl.r zrt_131_44) rfl)) ?_
        refine Iff.trans (zw_iload_n (show decode cX12_goTick 95 = .ok (.iload_n 2, 1) by decide +kernel) rfl) ?_
        refine Iff.trans (zw_iald2 (show decode cX12_goTick 96 = .ok (.iaload, 1) by decide +kernel) (hl.k2 zk_150) (hl.n2 zk_150) (hl.l2 zk_150 zl_150) (w := zI σ 150 (x2 : Int32).toNatClampNeg) rfl) ?_
        refine zw_and ?_
        refine Iff.trans (zw_icmp_le (t := 102) (show decode cX12_goTick 97 = .ok (.if_icmp .le 5, 3) by decide +kernel) (by decide)) ?_
        refine zw_ite ?_ ?_
        · refine Iff.trans (zw_iinc (w := 1) (ls' := [.ref 131, .int x1, .int x2, .int (x3 + 1)]) (show decode cX12_goTick 102 = .ok (.iinc 3 1, 3) by decide +kernel) rfl (by decide) (zset_s (Nat.le_of_ble_eq_true rfl) rfl)) ?_
          refine Iff.trans (zw_goto (t := 63) (show decode cX12_goTick 105 = .ok (.goto (-42), 3) by decide +kernel) (by decide)) ?_
          exact Iff.rfl
        · refine Iff.trans (zw_iload_n (show decode cX12_goTick 100 = .ok (.iload_n 3, 1) by decide +kernel) rfl) ?_
          refine Iff.trans (zw_istore_n (ls' := [.ref 131, .int x1, .int x3, .int x3]) (show decode cX12_goTick 101 = .ok (.istore_n 2, 1) by decide +kernel) (zset_s (Nat.le_of_ble_eq_true rfl) rfl)) ?_
          refine Iff.trans (zw_iinc (w := 1) (ls' := [.ref 131, .int x1, .int x3, .int (x3 + 1)]) (show decode cX12_goTick 102 = .ok (.iinc 3 1, 3) by decide +kernel) rfl (by decide) (zset_s (Nat.le_of_ble_eq_true rfl) rfl)) ?_
          refine Iff.trans (zw_goto (t := 63) (show decode cX12_goTick 105 = .ok (.goto (-42), 3) by decide +kernel) (by decide)) ?_
          exact Iff.rfl
    · refine Iff.trans (zw_iinc (w := 1) (ls' := [.ref 131, .int x1, .int x2, .int (x3 + 1)]) (show decode cX12_goTick 102 = .ok (.iinc 3 1, 3) by decide +kernel) rfl (by decide) (zset_s (Nat.le_of_ble_eq_true rfl) rfl)) ?_
      refine Iff.trans (zw_goto (t := 63) (show decode cX12_goTick 105 = .ok (.goto (-42), 3) by decide +kernel) (by decide)) ?_
      exact Iff.rfl

theorem bX12_goTick_126 {d : Nat} {σ : zS} {Q : Option Value → zS → Prop} (hl : zLay σ) {x1 x2 x3 : Int32} : zW (d + 1) kX12_goTick 126 [.ref 131, .int x1, .int x2, .int x3] [] σ Q ↔ zW (d + 1) kX12_goTick 51 [.ref 131, .int (x1 + 1), .int x2, .int x3] [] σ Q := by
  refine Iff.trans (zw_iinc (w := 1) (ls' := [.ref 131, .int (x1 + 1), .int x2, .int x3]) (show decode cX12_goTick 126 = .ok (.iinc 1 1, 3) by decide +kernel) rfl (by decide) (zset_s (Nat.le_of_ble_eq_true rfl) rfl)) ?_
  refine Iff.trans (zw_goto (t := 51) (show decode cX12_goTick 129 = .ok (.goto (-78), 3) by decide +kernel) (by decide)) ?_
  exact Iff.rfl

theorem bX12_goesOn_0 {d : Nat} {σ : zS} {Q : Option Value → zS → Prop} (hl : zLay σ) : zCall d kX12_goesOn [.ref 131] σ Q ↔ (if (60 : Int32) ≤ (zI σ 131 21) then Q (some (.int 0)) σ else (if (zI σ 131 20) ≤ (zI σ 131 22) then Q (some (.int 0)) σ else Q (some (.int 1)) σ)) := by
  show zW d kX12_goesOn 0 [.ref 131] [] σ Q ↔ _
  refine Iff.trans (zw_aload_n (show decode cX12_goesOn 0 = .ok (.aload_n 0, 1) by decide +kernel) rfl) ?_
  refine Iff.trans (zw_getI (show decode cX12_goesOn 1 = .ok (.getfield 48, 3) by decide +kernel) (by decide +kernel : zfld 12 48 = some (12, 21)) (hl.k2 zk_131) (hl.n2 zk_131) (Or.inl rfl) (w := zI σ 131 21) rfl) ?_
  refine Iff.trans (zw_bipush (x := 60) (show decode cX12_goesOn 4 = .ok (.bipush 60, 2) by decide +kernel) (by decide)) ?_
  refine Iff.trans (zw_icmp_ge (t := 24) (show decode cX12_goesOn 6 = .ok (.if_icmp .ge 18, 3) by decide +kernel) (by decide)) ?_
  refine zw_ite ?_ ?_
  · refine Iff.trans (zw_iconst (x := 0) (show decode cX12_goesOn 24 = .ok (.iconst 0, 1) by decide +kernel) (by decide)) ?_
    exact zw_iret2c (show decode cX12_goesOn 25 = .ok (.ireturn, 1) by decide +kernel) rfl (Or.inl rfl)
  · refine Iff.trans (zw_aload_n (show decode cX12_goesOn 9 = .ok (.aload_n 0, 1) by decide +kernel) rfl) ?_
    refine Iff.trans (zw_getI (show decode cX12_goesOn 10 = .ok (.getfield 252, 3) by decide +kernel) (by decide +kernel : zfld 12 252 = some (12, 22)) (hl.k2 zk_131) (hl.n2 zk_131) (Or.inl rfl) (w := zI σ 131 22) rfl) ?_
    refine Iff.trans (zw_aload_n (show decode cX12_goesOn 13 = .ok (.aload_n 0, 1) by decide +kernel) rfl) ?_
    refine Iff.trans (zw_getI (show decode cX12_goesOn 14 = .ok (.getfield 222, 3) by decide +kernel) (by decide +kernel : zfld 12 222 = some (12, 20)) (hl.k2 zk_131) (hl.n2 zk_131) (Or.inl rfl) (w := zI σ 131 20) rfl) ?_
    refine Iff.trans (zw_icmp_ge (t := 24) (show decode cX12_goesOn 17 = .ok (.if_icmp .ge 7, 3) by decide +kernel) (by decide)) ?_
    refine zw_ite ?_ ?_
    · refine Iff.trans (zw_iconst (x := 0) (show decode cX12_goesOn 24 = .ok (.iconst 0, 1) by decide +kernel) (by decide)) ?_
      exact zw_iret2c (show decode cX12_goesOn 25 = .ok (.ireturn, 1) by decide +kernel) rfl (Or.inl rfl)
    · refine Iff.trans (zw_iconst (x := 1) (show decode cX12_goesOn 20 = .ok (.iconst 1, 1) by decide +kernel) (by decide)) ?_
      refine Iff.trans (zw_goto (t := 25) (show decode cX12_goesOn 21 = .ok (.goto 4, 3) by decide +kernel) (by decide)) ?_
      exact zw_iret2c (show decode cX12_goesOn 25 = .ok (.ireturn, 1) by decide +kernel) rfl (Or.inr rfl)

theorem bX12_tick_0 {d : Nat} {σ : zS} {Q : Option Value → zS → Prop} (hl : zLay σ) {x1 : Int32} : zCall (d + 1) kX12_tick [.ref 131, .int x1] σ Q ↔ (if (zI σ 131 21) = (-1) then Q (some (.int (-1))) (zsI σ 131 (upd (zI σ 131) 0 0)) else zCall d kX12_isIn [.int x1, .int 1, .int 60] (zsI σ 131 (upd (zI σ 131) 0 0)) (fun r σ' => zisN r = true ∧ zW (d + 1) kX12_tick 20 [.ref 131, .int x1, .retAddr 0] (zRstk r ++ []) σ' Q)) := by
  show zW (d + 1) kX12_tick 0 [.ref 131, .int x1, .retAddr 0] [] σ Q ↔ _
  refine Iff.trans (zw_aload_n (show decode cX12_tick 0 = .ok (.aload_n 0, 1) by decide +kernel) rfl) ?_
  refine Iff.trans (zw_iconst (x := 0) (show decode cX12_tick 1 = .ok (.iconst 0, 1) by decide +kernel) (by decide)) ?_
  refine Iff.trans (zw_putI (show decode cX12_tick 2 = .ok (.putfield 118, 3) by decide +kernel) (by decide +kernel : zfld 12 118 = some (12, 0)) (hl.k2 zk_131) (hl.n2 zk_131) rfl (Or.inl rfl) (σ' := (zsI σ 131 (upd (zI σ 131) 0 0))) rfl) ?_
  refine Iff.trans (zw_aload_n (show decode cX12_tick 5 = .ok (.aload_n 0, 1) by decide +kernel) rfl) ?_
  refine Iff.trans (zw_getI (show decode cX12_tick 6 = .ok (.getfield 48, 3) by decide +kernel) (by decide +kernel : zfld 12 48 = some (12, 21)) (hl.I.k2 zk_131) (hl.I.n2 zk_131) (Or.inl rfl) (w := zI σ 131 21) (congrFun zI_self 21)) ?_
  refine Iff.trans (zw_iconst (x := (-1)) (show decode cX12_tick 9 = .ok (.iconst (-1), 1) by decide +kernel) (by decide)) ?_
  refine Iff.trans (zw_icmp_eq (t := 23) (show decode cX12_tick 10 = .ok (.if_icmp .eq 13, 3) by decide +kernel) (by decide)) ?_
  refine zw_ite ?_ ?_
  · refine Iff.trans (zw_iconst (x := (-1)) (show decode cX12_tick 23 = .ok (.iconst (-1), 1) by decide +kernel) (by decide)) ?_
    exact zw_iret1 (show decode cX12_tick 24 = .ok (.ireturn, 1) by decide +kernel) rfl
  · refine Iff.trans (zw_iload_n (show decode cX12_tick 13 = .ok (.iload_n 1, 1) by decide +kernel) rfl) ?_
    refine Iff.trans (zw_iconst (x := 1) (show decode cX12_tick 14 = .ok (.iconst 1, 1) by decide +kernel) (by decide)) ?_
    refine Iff.trans (zw_bipush (x := 60) (show decode cX12_tick 15 = .ok (.bipush 60, 2) by decide +kernel) (by decide)) ?_
    refine Iff.trans (zw_invS (K' := kX12_isIn) (as := [.int x1, .int 1, .int 60]) (rest := []) (show decode cX12_tick 17 = .ok (.invokestatic 163, 3) by decide +kernel) (by rfl) rfl rfl rfl ⟨Nat.le_of_ble_eq_true rfl, Nat.le_of_ble_eq_true rfl, Nat.le_of_ble_eq_true rfl⟩) ?_
    exact Iff.rfl

theorem bX12_tick_20 {d : Nat} {σ : zS} {Q : Option Value → zS → Prop} (hl : zLay σ) {x1 y0 : Int32} : zW (d + 1) kX12_tick 20 [.ref 131, .int x1, .retAddr 0] [.int y0] σ Q ↔ (if y0 = (0 : Int32) then Q (some (.int (-1))) σ else zW (d + 1) kX12_tick 32 [.ref 131, .int x1, .int 0] [] (zsI σ 131 (upd (zI σ 131) 43 1)) Q) := by
  refine Iff.trans (zw_if_ne (t := 25) (show decode cX12_tick 20 = .ok (.ifCond .ne 5, 3) by decide +kernel) (by decide)) ?_
  refine zw_ite ?_ ?_
  · refine Iff.trans (zw_iconst (x := (-1)) (show decode cX12_tick 23 = .ok (.iconst (-1), 1) by decide +kernel) (by decide)) ?_
    exact zw_iret1 (show decode cX12_tick 24 = .ok (.ireturn, 1) by decide +kernel) rfl
  · refine Iff.trans (zw_iconst (x := 0) (show decode cX12_tick 25 = .ok (.iconst 0, 1) by decide +kernel) (by decide)) ?_
    refine Iff.trans (zw_istore_n (ls' := [.ref 131, .int x1, .int 0]) (show decode cX12_tick 26 = .ok (.istore_n 2, 1) by decide +kernel) (zset_s (Nat.le_of_ble_eq_true rfl) rfl)) ?_
    refine Iff.trans (zw_aload_n (show decode cX12_tick 27 = .ok (.aload_n 0, 1) by decide +kernel) rfl) ?_
    refine Iff.trans (zw_iconst (x := 1) (show decode cX12_tick 28 = .ok (.iconst 1, 1) by decide +kernel) (by decide)) ?_
    refine Iff.trans (zw_putI (show decode cX12_tick 29 = .ok (.putfield 282, 3) by decide +kernel) (by decide +kernel : zfld 12 282 = some (12, 43)) (hl.k2 zk_131) (hl.n2 zk_131) rfl (Or.inr ⟨rfl, Or.inr rfl⟩) (σ' := (zsI σ 131 (upd (zI σ 131) 43 1))) rfl) ?_
    exact Iff.rfl

theorem bX12_tick_32 {d : Nat} {σ : zS} {Q : Option Value → zS → Prop} (hl : zLay σ) {x1 x2 : Int32} : zW (d + 1) kX12_tick 32 [.ref 131, .int x1, .int x2] [] σ Q ↔ (if x1 ≤ x2 then Q (some (.int x2)) (zsI σ 131 (upd (zI σ 131) 43 0)) else zCall d kX12_goesOn [.ref 131] σ (fun r σ' => zisN r = true ∧ zW (d + 1) kX12_tick 41 [.ref 131, .int x1, .int x2] (zRstk r ++ []) σ' Q)) := by
  refine Iff.trans (zw_iload_n (show decode cX12_tick 32 = .ok (.iload_n 2, 1) by decide +kernel) rfl) ?_
  refine Iff.trans (zw_iload_n (show decode cX12_tick 33 = .ok (.iload_n 1, 1) by decide +kernel) rfl) ?_
  refine Iff.trans (zw_icmp_ge (t := 58) (show decode cX12_tick 34 = .ok (.if_icmp .ge 24, 3) by decide +kernel) (by decide)) ?_
  refine zw_ite ?_ ?_
  · refine Iff.trans (zw_aload_n (show decode cX12_tick 58 = .ok (.aload_n 0, 1) by decide +kernel) rfl) ?_
    refine Iff.trans (zw_iconst (x := 0) (show decode cX12_tick 59 = .ok (.iconst 0, 1) by decide +kernel) (by decide)) ?_
    refine Iff.trans (zw_putI (show decode cX12_tick 60 = .ok (.putfield 282, 3) by decide +kernel) (by decide +kernel : zfld 12 282 = some (12, 43)) (hl.k2 zk_131) (hl.n2 zk_131) rfl (Or.inr ⟨rfl, Or.inl rfl⟩) (σ' := (zsI σ 131 (upd (zI σ 131) 43 0))) rfl) ?_
    refine Iff.trans (zw_iload_n (show decode cX12_tick 63 = .ok (.iload_n 2, 1) by decide +kernel) rfl) ?_
    exact zw_iret1 (show decode cX12_tick 64 = .ok (.ireturn, 1) by decide +kernel) rfl
  · refine Iff.trans (zw_aload_n (show decode cX12_tick 37 = .ok (.aload_n 0, 1) by decide +kernel) rfl) ?_
    refine Iff.trans (zw_invV (K' := kX12_goesOn) (as' := []) (rest := []) (show decode cX12_tick 38 = .ok (.invokevirtual 307, 3) by decide +kernel) (by rfl) rfl rfl rfl (hl.k2 zk_131) (by decide) (hl.n2 zk_131) ⟨Nat.le_of_ble_eq_true rfl, Nat.le_of_ble_eq_true rfl, Nat.le_of_ble_eq_true rfl⟩) ?_
    exact Iff.rfl

theorem bX12_tick_41 {d : Nat} {σ : zS} {Q : Option Value → zS → Prop} (hl : zLay σ) {x1 x2 y0 : Int32} : zW (d + 1) kX12_tick 41 [.ref 131, .int x1, .int x2] [.int y0] σ Q ↔ (if y0 = (0 : Int32) then Q (some (.int x2)) (zsI σ 131 (upd (zI σ 131) 43 0)) else zCall d kX12_goTick [.ref 131] σ (fun r σ' => zisN r = true ∧ zW (d + 1) kX12_tick 48 [.ref 131, .int x1, .int x2] (zRstk r ++ []) σ' Q)) := by
  refine Iff.trans (zw_if_eq (t := 58) (show decode cX12_tick 41 = .ok (.ifCond .eq 17, 3) by decide +kernel) (by decide)) ?_
  refine zw_ite ?_ ?_
  · refine Iff.trans (zw_aload_n (show decode cX12_tick 58 = .ok (.aload_n 0, 1) by decide +kernel) rfl) ?_
    refine Iff.trans (zw_iconst (x := 0) (show decode cX12_tick 59 = .ok (.iconst 0, 1) by decide +kernel) (by decide)) ?_
    refine Iff.trans (zw_putI (show decode cX12_tick 60 = .ok (.putfield 282, 3) by decide +kernel) (by decide +kernel : zfld 12 282 = some (12, 43)) (hl.k2 zk_131) (hl.n2 zk_131) rfl (Or.inr ⟨rfl, Or.inl rfl⟩) (σ' := (zsI σ 131 (upd (zI σ 131) 43 0))) rfl) ?_
    refine Iff.trans (zw_iload_n (show decode cX12_tick 63 = .ok (.iload_n 2, 1) by decide +kernel) rfl) ?_
    exact zw_iret1 (show decode cX12_tick 64 = .ok (.ireturn, 1) by decide +kernel) rfl
  · refine Iff.trans (zw_aload_n (show decode cX12_tick 44 = .ok (.aload_n 0, 1) by decide +kernel) rfl) ?_
    refine Iff.trans (zw_invV (K' := kX12_goTick) (as' := []) (rest := []) (show decode cX12_tick 45 = .ok (.invokevirtual 310, 3) by decide +kernel) (by rfl) rfl rfl rfl (hl.k2 zk_131) (by decide) (hl.n2 zk_131) ⟨Nat.le_of_ble_eq_true rfl, Nat.le_of_ble_eq_true rfl, Nat.le_of_ble_eq_true rfl⟩) ?_
    exact Iff.rfl

theorem bX12_tick_48 {d : Nat} {σ : zS} {Q : Option Value → zS → Prop} (hl : zLay σ) {x1 x2 : Int32} : zW (d + 1) kX12_tick 48 [.ref 131, .int x1, .int x2] [] σ Q ↔ zCall d kX12_record [.ref 131] σ (fun r σ' => zisN r = true ∧ zW (d + 1) kX12_tick 52 [.ref 131, .int x1, .int x2] (zRstk r ++ []) σ' Q) := by
  refine Iff.trans (zw_aload_n (show decode cX12_tick 48 = .ok (.aload_n 0, 1) by decide +kernel) rfl) ?_
  refine Iff.trans (zw_invV (K' := kX12_record) (as' := []) (rest := []) (show decode cX12_tick 49 = .ok (.invokevirtual 261, 3) by decide +kernel) (by rfl) rfl rfl rfl (hl.k2 zk_131) (by decide) (hl.n2 zk_131) ⟨Nat.le_of_ble_eq_true rfl, Nat.le_of_ble_eq_true rfl, Nat.le_of_ble_eq_true rfl⟩) ?_
  exact Iff.rfl

theorem bX12_tick_52 {d : Nat} {σ : zS} {Q : Option Value → zS → Prop} (hl : zLay σ) {x1 x2 : Int32} : zW (d + 1) kX12_tick 52 [.ref 131, .int x1, .int x2] [] σ Q ↔ zW (d + 1) kX12_tick 32 [.ref 131, .int x1, .int (x2 + 1)] [] σ Q := by
  refine Iff.trans (zw_iinc (w := 1) (ls' := [.ref 131, .int x1, .int (x2 + 1)]) (show decode cX12_tick 52 = .ok (.iinc 2 1, 3) by decide +kernel) rfl (by decide) (zset_s (Nat.le_of_ble_eq_true rfl) rfl)) ?_
  refine Iff.trans (zw_goto (t := 32) (show decode cX12_tick 55 = .ok (.goto (-23), 3) by decide +kernel) (by decide)) ?_
  exact Iff.rfl

theorem bX12_placeOf_0 {d : Nat} {σ : zS} {Q : Option Value → zS → Prop} (hl : zLay σ) {x1 : Int32} : zCall (d + 1) kX12_placeOf [.ref 131, .int x1] σ Q ↔ zCall d kX12_isOut [.ref 131, .int x1] σ (fun r σ' => zisN r = true ∧ zW (d + 1) kX12_placeOf 5 [.ref 131, .int x1] (zRstk r ++ []) σ' Q) := by
  show zW (d + 1) kX12_placeOf 0 [.ref 131, .int x1] [] σ Q ↔ _
  refine Iff.trans (zw_aload_n (show decode cX12_placeOf 0 = .ok (.aload_n 0, 1) by decide +kernel) rfl) ?_
  refine Iff.trans (zw_iload_n (show decode cX12_placeOf 1 = .ok (.iload_n 1, 1) by decide +kernel) rfl) ?_
  refine Iff.trans (zw_invV (K' := kX12_isOut) (as' := [.int x1]) (rest := []) (show decode cX12_placeOf 2 = .ok (.invokevirtual 235, 3) by decide +kernel) (by rfl) rfl rfl rfl (hl.k2 zk_131) (by decide) (hl.n2 zk_131) ⟨Nat.le_of_ble_eq_true rfl, Nat.le_of_ble_eq_true rfl, Nat.le_of_ble_eq_true rfl⟩) ?_
  exact Iff.rfl

theorem bX12_placeOf_5 {d : Nat} {σ : zS} {Q : Option Value → zS → Prop} (hl : zLay σ) {x1 y0 : Int32} : zW (d + 1) kX12_placeOf 5 [.ref 131, .int x1] [.int y0] σ Q ↔ (if y0 = (0 : Int32) then Q (some (.int (zI σ 131 20))) σ else zCall d kX12_of [.ref 131, .int x1, .int 8] σ (fun r σ' => zisN r = true ∧ zW (d + 1) kX12_placeOf 15 [.ref 131, .int x1] (zRstk r ++ []) σ' Q)) := by
  refine Iff.trans (zw_if_eq (t := 18) (show decode cX12_placeOf 5 = .ok (.ifCond .eq 13, 3) by decide +kernel) (by decide)) ?_
  refine zw_ite ?_ ?_
  · refine Iff.trans (zw_aload_n (show decode cX12_placeOf 18 = .ok (.aload_n 0, 1) by decide +kernel) rfl) ?_
    refine Iff.trans (zw_getI (show decode cX12_placeOf 19 = .ok (.getfield 222, 3) by decide +kernel) (by decide +kernel : zfld 12 222 = some (12, 20)) (hl.k2 zk_131) (hl.n2 zk_131) (Or.inl rfl) (w := zI σ 131 20) rfl) ?_
    exact zw_iret1 (show decode cX12_placeOf 22 = .ok (.ireturn, 1) by decide +kernel) rfl
  · refine Iff.trans (zw_aload_n (show decode cX12_placeOf 8 = .ok (.aload_n 0, 1) by decide +kernel) rfl) ?_
    refine Iff.trans (zw_iload_n (show decode cX12_placeOf 9 = .ok (.iload_n 1, 1) by decide +kernel) rfl) ?_
    refine Iff.trans (zw_bipush (x := 8) (show decode cX12_placeOf 10 = .ok (.bipush 8, 2) by decide +kernel) (by decide)) ?_
    refine Iff.trans (zw_invV (K' := kX12_of) (as' := [.int x1, .int 8]) (rest := []) (show decode cX12_placeOf 12 = .ok (.invokevirtual 229, 3) by decide +kernel) (by rfl) rfl rfl rfl (hl.k2 zk_131) (by decide) (hl.n2 zk_131) ⟨Nat.le_of_ble_eq_true rfl, Nat.le_of_ble_eq_true rfl, Nat.le_of_ble_eq_true rfl⟩) ?_
    exact Iff.rfl

theorem bX12_placeOf_15 {d : Nat} {σ : zS} {Q : Option Value → zS → Prop} (hl : zLay σ) {x1 y0 : Int32} : zW (d + 1) kX12_placeOf 15 [.ref 131, .int x1] [.int y0] σ Q ↔ Q (some (.int y0)) σ := by
  refine Iff.trans (zw_goto (t := 22) (show decode cX12_placeOf 15 = .ok (.goto 7, 3) by decide +kernel) (by decide)) ?_
  exact zw_iret1 (show decode cX12_placeOf 22 = .ok (.ireturn, 1) by decide +kernel) rfl

theorem bX12_look__0 {d : Nat} {σ : zS} {Q : Option Value → zS → Prop} (hl : zLay σ) {x1 x2 : Int32} : zCall (d + 1) kX12_look_ [.ref 131, .int x1, .int x2] σ Q ↔ zCall d kX12_isRunner [.ref 131, .int x1] (zsI σ 131 (upd (zI σ 131) 0 0)) (fun r σ' => zisN r = true ∧ zW (d + 1) kX12_look_ 10 [.ref 131, .int x1, .int x2] (zRstk r ++ []) σ' Q) := by
  show zW (d + 1) kX12_look_ 0 [.ref 131, .int x1, .int x2] [] σ Q ↔ _
  refine Iff.trans (zw_aload_n (show decode cX12_look_ 0 = .ok (.aload_n 0, 1) by decide +kernel) rfl) ?_
  refine Iff.trans (zw_iconst (x := 0) (show decode cX12_look_ 1 = .ok (.iconst 0, 1) by decide +kernel) (by decide)) ?_
  refine Iff.trans (zw_putI (show decode cX12_look_ 2 = .ok (.putfield 118, 3) by decide +kernel) (by decide +kernel : zfld 12 118 = some (12, 0)) (hl.k2 zk_131) (hl.n2 zk_131) rfl (Or.inl rfl) (σ' := (zsI σ 131 (upd (zI σ 131) 0 0))) rfl) ?_
  refine Iff.trans (zw_aload_n (show decode cX12_look_ 5 = .ok (.aload_n 0, 1) by decide +kernel) rfl) ?_
  refine Iff.trans (zw_iload_n (show decode cX12_look_ 6 = .ok (.iload_n 1, 1) by decide +kernel) rfl) ?_
  refine Iff.trans (zw_invV (K' := kX12_isRunner) (as' := [.int x1]) (rest := []) (show decode cX12_look_ 7 = .ok (.invokevirtual 313, 3) by decide +kernel) (by rfl) rfl rfl rfl (hl.I.k2 zk_131) (by decide) (hl.I.n2 zk_131) ⟨Nat.le_of_ble_eq_true rfl, Nat.le_of_ble_eq_true rfl, Nat.le_of_ble_eq_true rfl⟩) ?_
  exact Iff.rfl

theorem bX12_look__10 {d : Nat} {σ : zS} {Q : Option Value → zS → Prop} (hl : zLay σ) {x1 x2 y0 : Int32} : zW (d + 1) kX12_look_ 10 [.ref 131, .int x1, .int x2] [.int y0] σ Q ↔ (if y0 = (0 : Int32) then Q (some (.int (-1000))) σ else zCall d kX12_isIn [.int x2, .int 0, .int 6] σ (fun r σ' => zisN r = true ∧ zW (d + 1) kX12_look_ 20 [.ref 131, .int x1, .int x2] (zRstk r ++ []) σ' Q)) := by
  refine Iff.trans (zw_if_eq (t := 23) (show decode cX12_look_ 10 = .ok (.ifCond .eq 13, 3) by decide +kernel) (by decide)) ?_
  refine zw_ite ?_ ?_
  · refine Iff.trans (zw_sipush (x := (-1000)) (show decode cX12_look_ 23 = .ok (.sipush (-1000), 3) by decide +kernel) (by decide)) ?_
    exact zw_iret1 (show decode cX12_look_ 26 = .ok (.ireturn, 1) by decide +kernel) rfl
  · refine Iff.trans (zw_iload_n (show decode cX12_look_ 13 = .ok (.iload_n 2, 1) by decide +kernel) rfl) ?_
    refine Iff.trans (zw_iconst (x := 0) (show decode cX12_look_ 14 = .ok (.iconst 0, 1) by decide +kernel) (by decide)) ?_
    refine Iff.trans (zw_bipush (x := 6) (show decode cX12_look_ 15 = .ok (.bipush 6, 2) by decide +kernel) (by decide)) ?_
    refine Iff.trans (zw_invS (K' := kX12_isIn) (as := [.int x2, .int 0, .int 6]) (rest := []) (show decode cX12_look_ 17 = .ok (.invokestatic 163, 3) by decide +kernel) (by rfl) rfl rfl rfl ⟨Nat.le_of_ble_eq_true rfl, Nat.le_of_ble_eq_true rfl, Nat.le_of_ble_eq_true rfl⟩) ?_
    exact Iff.rfl

theorem bX12_look__20 {d : Nat} {σ : zS} {Q : Option Value → zS → Prop} (hl : zLay σ) {x1 x2 y0 : Int32} : zW (d + 1) kX12_look_ 20 [.ref 131, .int x1, .int x2] [.int y0] σ Q ↔ (if y0 = (0 : Int32) then Q (some (.int (-1000))) σ else zW (d + 1) kX12_look_ 28 [.ref 131, .int x1, .int x2] [.int x2] σ Q) := by
  refine Iff.trans (zw_if_ne (t := 27) (show decode cX12_look_ 20 = .ok (.ifCond .ne 7, 3) by decide +kernel) (by decide)) ?_
  refine zw_ite ?_ ?_
  · refine Iff.trans (zw_sipush (x := (-1000)) (show decode cX12_look_ 23 = .ok (.sipush (-1000), 3) by decide +kernel) (by decide)) ?_
    exact zw_iret1 (show decode cX12_look_ 26 = .ok (.ireturn, 1) by decide +kernel) rfl
  · refine Iff.trans (zw_iload_n (show decode cX12_look_ 27 = .ok (.iload_n 2, 1) by decide +kernel) rfl) ?_
    exact Iff.rfl

theorem bX12_look__68 {d : Nat} {σ : zS} {Q : Option Value → zS → Prop} (hl : zLay σ) {x1 x2 : Int32} : zW (d + 1) kX12_look_ 68 [.ref 131, .int x1, .int x2] [] σ Q ↔ zCall d kX12_of [.ref 131, .int x1, .int 4] σ (fun r σ' => zisN r = true ∧ zW (d + 1) kX12_look_ 74 [.ref 131, .int x1, .int x2] (zRstk r ++ []) σ' Q) := by
  refine Iff.trans (zw_aload_n (show decode cX12_look_ 68 = .ok (.aload_n 0, 1) by decide +kernel) rfl) ?_
  refine Iff.trans (zw_iload_n (show decode cX12_look_ 69 = .ok (.iload_n 1, 1) by decide +kernel) rfl) ?_
  refine Iff.trans (zw_iconst (x := 4) (show decode cX12_look_ 70 = .ok (.iconst 4, 1) by decide +kernel) (by decide)) ?_
  refine Iff.trans (zw_invV (K' := kX12_of) (as' := [.int x1, .int 4]) (rest := []) (show decode cX12_look_ 71 = .ok (.invokevirtual 229, 3) by decide +kernel) (by rfl) rfl rfl rfl (hl.k2 zk_131) (by decide) (hl.n2 zk_131) ⟨Nat.le_of_ble_eq_true rfl, Nat.le_of_ble_eq_true rfl, Nat.le_of_ble_eq_true rfl⟩) ?_
  exact Iff.rfl

theorem bX12_look__74 {d : Nat} {σ : zS} {Q : Option Value → zS → Prop} (hl : zLay σ) {x1 x2 y0 : Int32} : zW (d + 1) kX12_look_ 74 [.ref 131, .int x1, .int x2] [.int y0] σ Q ↔ Q (some (.int y0)) σ := by
  exact zw_iret1 (show decode cX12_look_ 74 = .ok (.ireturn, 1) by decide +kernel) rfl

theorem bX12_look__75 {d : Nat} {σ : zS} {Q : Option Value → zS → Prop} (hl : zLay σ) {x1 x2 : Int32} : zW (d + 1) kX12_look_ 75 [.ref 131, .int x1, .int x2] [] σ Q ↔ zCall d kX12_of [.ref 131, .int x1, .int 5] σ (fun r σ' => zisN r = true ∧ zW (d + 1) kX12_look_ 81 [.ref 131, .int x1, .int x2] (zRstk r ++ []) σ' Q) := by
  refine Iff.trans (zw_aload_n (show decode cX12_look_ 75 = .ok (.aload_n 0, 1) by decide +kernel) rfl) ?_
  refine Iff.trans (zw_iload_n (show decode cX12_look_ 76 = .ok (.iload_n 1, 1) by decide +kernel) rfl) ?_
  refine Iff.trans (zw_iconst (x := 5) (show decode cX12_look_ 77 = .ok (.iconst 5, 1) by decide +kernel) (by decide)) ?_
  refine Iff.trans (zw_invV (K' := kX12_of) (as' := [.int x1, .int 5]) (rest := []) (show decode cX12_look_ 78 = .ok (.invokevirtual 229, 3) by decide +kernel) (by rfl) rfl rfl rfl (hl.k2 zk_131) (by decide) (hl.n2 zk_131) ⟨Nat.le_of_ble_eq_true rfl, Nat.le_of_ble_eq_true rfl, Nat.le_of_ble_eq_true rfl⟩) ?_
  exact Iff.rfl

theorem bX12_look__81 {d : Nat} {σ : zS} {Q : Option Value → zS → Prop} (hl : zLay σ) {x1 x2 y0 : Int32} : zW (d + 1) kX12_look_ 81 [.ref 131, .int x1, .int x2] [.int y0] σ Q ↔ Q (some (.int y0)) σ := by
  exact zw_iret1 (show decode cX12_look_ 81 = .ok (.ireturn, 1) by decide +kernel) rfl

theorem bX12_look__82 {d : Nat} {σ : zS} {Q : Option Value → zS → Prop} (hl : zLay σ) {x1 x2 : Int32} : zW (d + 1) kX12_look_ 82 [.ref 131, .int x1, .int x2] [] σ Q ↔ zCall d kX12_of [.ref 131, .int x1, .int 6] σ (fun r σ' => zisN r = true ∧ zW (d + 1) kX12_look_ 89 [.ref 131, .int x1, .int x2] (zRstk r ++ []) σ' Q) := by
  refine Iff.trans (zw_aload_n (show decode cX12_look_ 82 = .ok (.aload_n 0, 1) by decide +kernel) rfl) ?_
  refine Iff.trans (zw_iload_n (show decode cX12_look_ 83 = .ok (.iload_n 1, 1) by decide +kernel) rfl) ?_
  refine Iff.trans (zw_bipush (x := 6) (show decode cX12_look_ 84 = .ok (.bipush 6, 2) by decide +kernel) (by decide)) ?_
  refine Iff.trans (zw_invV (K' := kX12_of) (as' := [.int x1, .int 6]) (rest := []) (show decode cX12_look_ 86 = .ok (.invokevirtual 229, 3) by decide +kernel) (by rfl) rfl rfl rfl (hl.k2 zk_131) (by decide) (hl.n2 zk_131) ⟨Nat.le_of_ble_eq_true rfl, Nat.le_of_ble_eq_true rfl, Nat.le_of_ble_eq_true rfl⟩) ?_
  exact Iff.rfl

theorem bX12_look__89 {d : Nat} {σ : zS} {Q : Option Value → zS → Prop} (hl : zLay σ) {x1 x2 y0 : Int32} : zW (d + 1) kX12_look_ 89 [.ref 131, .int x1, .int x2] [.int y0] σ Q ↔ Q (some (.int y0)) σ := by
  exact zw_iret1 (show decode cX12_look_ 89 = .ok (.ireturn, 1) by decide +kernel) rfl

theorem bX12_look__90 {d : Nat} {σ : zS} {Q : Option Value → zS → Prop} (hl : zLay σ) {x1 x2 : Int32} : zW (d + 1) kX12_look_ 90 [.ref 131, .int x1, .int x2] [] σ Q ↔ zCall d kX12_of [.ref 131, .int x1, .int 7] σ (fun r σ' => zisN r = true ∧ zW (d + 1) kX12_look_ 97 [.ref 131, .int x1, .int x2] (zRstk r ++ []) σ' Q) := by
  refine Iff.trans (zw_aload_n (show decode cX12_look_ 90 = .ok (.aload_n 0, 1) by decide +kernel) rfl) ?_
  refine Iff.trans (zw_iload_n (show decode cX12_look_ 91 = .ok (.iload_n 1, 1) by decide +kernel) rfl) ?_
  refine Iff.trans (zw_bipush (x := 7) (show decode cX12_look_ 92 = .ok (.bipush 7, 2) by decide +kernel) (by decide)) ?_
  refine Iff.trans (zw_invV (K' := kX12_of) (as' := [.int x1, .int 7]) (rest := []) (show decode cX12_look_ 94 = .ok (.invokevirtual 229, 3) by decide +kernel) (by rfl) rfl rfl rfl (hl.k2 zk_131) (by decide) (hl.n2 zk_131) ⟨Nat.le_of_ble_eq_true rfl, Nat.le_of_ble_eq_true rfl, Nat.le_of_ble_eq_true rfl⟩) ?_
  exact Iff.rfl

theorem bX12_look__97 {d : Nat} {σ : zS} {Q : Option Value → zS → Prop} (hl : zLay σ) {x1 x2 y0 : Int32} : zW (d + 1) kX12_look_ 97 [.ref 131, .int x1, .int x2] [.int y0] σ Q ↔ Q (some (.int y0)) σ := by
  exact zw_iret1 (show decode cX12_look_ 97 = .ok (.ireturn, 1) by decide +kernel) rfl

theorem bX12_look__98 {d : Nat} {σ : zS} {Q : Option Value → zS → Prop} (hl : zLay σ) {x1 x2 : Int32} : zW (d + 1) kX12_look_ 98 [.ref 131, .int x1, .int x2] [] σ Q ↔ zCall d kX12_placeOf [.ref 131, .int x1] σ (fun r σ' => zisN r = true ∧ zW (d + 1) kX12_look_ 103 [.ref 131, .int x1, .int x2] (zRstk r ++ []) σ' Q) := by
  refine Iff.trans (zw_aload_n (show decode cX12_look_ 98 = .ok (.aload_n 0, 1) by decide +kernel) rfl) ?_
  refine Iff.trans (zw_iload_n (show decode cX12_look_ 99 = .ok (.iload_n 1, 1) by decide +kernel) rfl) ?_
  refine Iff.trans (zw_invV (K' := kX12_placeOf) (as' := [.int x1]) (rest := []) (show decode cX12_look_ 100 = .ok (.invokevirtual 316, 3) by decide +kernel) (by rfl) rfl rfl rfl (hl.k2 zk_131) (by decide) (hl.n2 zk_131) ⟨Nat.le_of_ble_eq_true rfl, Nat.le_of_ble_eq_true rfl, Nat.le_of_ble_eq_true rfl⟩) ?_
  exact Iff.rfl

theorem bX12_look__103 {d : Nat} {σ : zS} {Q : Option Value → zS → Prop} (hl : zLay σ) {x1 x2 y0 : Int32} : zW (d + 1) kX12_look_ 103 [.ref 131, .int x1, .int x2] [.int y0] σ Q ↔ Q (some (.int y0)) σ := by
  exact zw_iret1 (show decode cX12_look_ 103 = .ok (.ireturn, 1) by decide +kernel) rfl

theorem bX12_look__104 {d : Nat} {σ : zS} {Q : Option Value → zS → Prop} (hl : zLay σ) {x1 x2 : Int32} : zW (d + 1) kX12_look_ 104 [.ref 131, .int x1, .int x2] [] σ Q ↔ zCall d kX12_of [.ref 131, .int x1, .int 9] σ (fun r σ' => zisN r = true ∧ zW (d + 1) kX12_look_ 111 [.ref 131, .int x1, .int x2] (zRstk r ++ []) σ' Q) := by
  refine Iff.trans (zw_aload_n (show decode cX12_look_ 104 = .ok (.aload_n 0, 1) by decide +kernel) rfl) ?_
  refine Iff.trans (zw_iload_n (show decode cX12_look_ 105 = .ok (.iload_n 1, 1) by decide +kernel) rfl) ?_
  refine Iff.trans (zw_bipush (x := 9) (show decode cX12_look_ 106 = .ok (.bipush 9, 2) by decide +kernel) (by decide)) ?_
  refine Iff.trans (zw_invV (K' := kX12_of) (as' := [.int x1, .int 9]) (rest := []) (show decode cX12_look_ 108 = .ok (.invokevirtual 229, 3) by decide +kernel) (by rfl) rfl rfl rfl (hl.k2 zk_131) (by decide) (hl.n2 zk_131) ⟨Nat.le_of_ble_eq_true rfl, Nat.le_of_ble_eq_true rfl, Nat.le_of_ble_eq_true rfl⟩) ?_
  exact Iff.rfl

theorem bX12_look__111 {d : Nat} {σ : zS} {Q : Option Value → zS → Prop} (hl : zLay σ) {x1 x2 y0 : Int32} : zW (d + 1) kX12_look_ 111 [.ref 131, .int x1, .int x2] [.int y0] σ Q ↔ Q (some (.int y0)) σ := by
  exact zw_iret1 (show decode cX12_look_ 111 = .ok (.ireturn, 1) by decide +kernel) rfl

theorem bX12_look__112 {d : Nat} {σ : zS} {Q : Option Value → zS → Prop} (hl : zLay σ) {x1 x2 : Int32} : zW (d + 1) kX12_look_ 112 [.ref 131, .int x1, .int x2] [] σ Q ↔ zCall d kX12_of [.ref 131, .int x1, .int 10] σ (fun r σ' => zisN r = true ∧ zW (d + 1) kX12_look_ 119 [.ref 131, .int x1, .int x2] (zRstk r ++ []) σ' Q) := by
  refine Iff.trans (zw_aload_n (show decode cX12_look_ 112 = .ok (.aload_n 0, 1) by decide +kernel) rfl) ?_
  refine Iff.trans (zw_iload_n (show decode cX12_look_ 113 = .ok (.iload_n 1, 1) by decide +kernel) rfl) ?_
  refine Iff.trans (zw_bipush (x := 10) (show decode cX12_look_ 114 = .ok (.bipush 10, 2) by decide +kernel) (by decide)) ?_
  refine Iff.trans (zw_invV (K' := kX12_of) (as' := [.int x1, .int 10]) (rest := []) (show decode cX12_look_ 116 = .ok (.invokevirtual 229, 3) by decide +kernel) (by rfl) rfl rfl rfl (hl.k2 zk_131) (by decide) (hl.n2 zk_131) ⟨Nat.le_of_ble_eq_true rfl, Nat.le_of_ble_eq_true rfl, Nat.le_of_ble_eq_true rfl⟩) ?_
  exact Iff.rfl

theorem bX12_look__119 {d : Nat} {σ : zS} {Q : Option Value → zS → Prop} (hl : zLay σ) {x1 x2 y0 : Int32} : zW (d + 1) kX12_look_ 119 [.ref 131, .int x1, .int x2] [.int y0] σ Q ↔ Q (some (.int y0)) σ := by
  exact zw_iret1 (show decode cX12_look_ 119 = .ok (.ireturn, 1) by decide +kernel) rfl

theorem bX12_pull_0 {d : Nat} {σ : zS} {Q : Option Value → zS → Prop} (hl : zLay σ) {x1 : Int32} : zCall (d + 1) kX12_pull [.ref 131, .int x1] σ Q ↔ zCall d kX12_isRunner [.ref 131, .int x1] (zsI σ 131 (upd (zI σ 131) 0 0)) (fun r σ' => zisN r = true ∧ zW (d + 1) kX12_pull 10 [.ref 131, .int x1] (zRstk r ++ []) σ' Q) := by
  show zW (d + 1) kX12_pull 0 [.ref 131, .int x1] [] σ Q ↔ _
  refine Iff.trans (zw_aload_n (show decode cX12_pull 0 = .ok (.aload_n 0, 1) by decide +kernel) rfl) ?_
  refine Iff.trans (zw_iconst (x := 0) (show decode cX12_pull 1 = .ok (.iconst 0, 1) by decide +kernel) (by decide)) ?_
  refine Iff.trans (zw_putI (show decode cX12_pull 2 = .ok (.putfield 118, 3) by decide +kernel) (by decide +kernel : zfld 12 118 = some (12, 0)) (hl.k2 zk_131) (hl.n2 zk_131) rfl (Or.inl rfl) (σ' := (zsI σ 131 (upd (zI σ 131) 0 0))) rfl) ?_
  refine Iff.trans (zw_aload_n (show decode cX12_pull 5 = .ok (.aload_n 0, 1) by decide +kernel) rfl) ?_
  refine Iff.trans (zw_iload_n (show decode cX12_pull 6 = .ok (.iload_n 1, 1) by decide +kernel) rfl) ?_
  refine Iff.trans (zw_invV (K' := kX12_isRunner) (as' := [.int x1]) (rest := []) (show decode cX12_pull 7 = .ok (.invokevirtual 313, 3) by decide +kernel) (by rfl) rfl rfl rfl (hl.I.k2 zk_131) (by decide) (hl.I.n2 zk_131) ⟨Nat.le_of_ble_eq_true rfl, Nat.le_of_ble_eq_true rfl, Nat.le_of_ble_eq_true rfl⟩) ?_
  exact Iff.rfl

theorem bX12_pull_10 {d : Nat} {σ : zS} {Q : Option Value → zS → Prop} (hl : zLay σ) {x1 y0 : Int32} : zW (d + 1) kX12_pull 10 [.ref 131, .int x1] [.int y0] σ Q ↔ (if y0 = (0 : Int32) then Q (some (.int (-1))) σ else zCall d kX12_isOut [.ref 131, .int x1] σ (fun r σ' => zisN r = true ∧ zW (d + 1) kX12_pull 18 [.ref 131, .int x1] (zRstk r ++ []) σ' Q)) := by
  refine Iff.trans (zw_if_eq (t := 29) (show decode cX12_pull 10 = .ok (.ifCond .eq 19, 3) by decide +kernel) (by decide)) ?_
  refine zw_ite ?_ ?_
  · refine Iff.trans (zw_iconst (x := (-1)) (show decode cX12_pull 29 = .ok (.iconst (-1), 1) by decide +kernel) (by decide)) ?_
    exact zw_iret1 (show decode cX12_pull 30 = .ok (.ireturn, 1) by decide +kernel) rfl
  · refine Iff.trans (zw_aload_n (show decode cX12_pull 13 = .ok (.aload_n 0, 1) by decide +kernel) rfl) ?_
    refine Iff.trans (zw_iload_n (show decode cX12_pull 14 = .ok (.iload_n 1, 1) by decide +kernel) rfl) ?_
    refine Iff.trans (zw_invV (K' := kX12_isOut) (as' := [.int x1]) (rest := []) (show decode cX12_pull 15 = .ok (.invokevirtual 235, 3) by decide +kernel) (by rfl) rfl rfl rfl (hl.k2 zk_131) (by decide) (hl.n2 zk_131) ⟨Nat.le_of_ble_eq_true rfl, Nat.le_of_ble_eq_true rfl, Nat.le_of_ble_eq_true rfl⟩) ?_
    exact Iff.rfl

theorem bX12_pull_18 {d : Nat} {σ : zS} {Q : Option Value → zS → Prop} (hl : zLay σ) {x1 y0 : Int32} : zW (d + 1) kX12_pull 18 [.ref 131, .int x1] [.int y0] σ Q ↔ (if y0 = (0 : Int32) then zCall d kX12_pullOf [.ref 131, .int x1] σ (fun r σ' => zisN r = true ∧ zW (d + 1) kX12_pull 26 [.ref 131, .int x1] (zRstk r ++ []) σ' Q) else Q (some (.int (-1))) σ) := by
  refine Iff.trans (zw_if_ne (t := 29) (show decode cX12_pull 18 = .ok (.ifCond .ne 11, 3) by decide +kernel) (by decide)) ?_
  refine zw_ite ?_ ?_
  · refine Iff.trans (zw_aload_n (show decode cX12_pull 21 = .ok (.aload_n 0, 1) by decide +kernel) rfl) ?_
    refine Iff.trans (zw_iload_n (show decode cX12_pull 22 = .ok (.iload_n 1, 1) by decide +kernel) rfl) ?_
    refine Iff.trans (zw_invV (K' := kX12_pullOf) (as' := [.int x1]) (rest := []) (show decode cX12_pull 23 = .ok (.invokevirtual 292, 3) by decide +kernel) (by rfl) rfl rfl rfl (hl.k2 zk_131) (by decide) (hl.n2 zk_131) ⟨Nat.le_of_ble_eq_true rfl, Nat.le_of_ble_eq_true rfl, Nat.le_of_ble_eq_true rfl⟩) ?_
    exact Iff.rfl
  · refine Iff.trans (zw_iconst (x := (-1)) (show decode cX12_pull 29 = .ok (.iconst (-1), 1) by decide +kernel) (by decide)) ?_
    exact zw_iret1 (show decode cX12_pull 30 = .ok (.ireturn, 1) by decide +kernel) rfl

theorem bX12_pull_26 {d : Nat} {σ : zS} {Q : Option Value → zS → Prop} (hl : zLay σ) {x1 y0 : Int32} : zW (d + 1) kX12_pull 26 [.ref 131, .int x1] [.int y0] σ Q ↔ Q (some (.int y0)) σ := by
  refine Iff.trans (zw_goto (t := 30) (show decode cX12_pull 26 = .ok (.goto 4, 3) by decide +kernel) (by decide)) ?_
  exact zw_iret1 (show decode cX12_pull 30 = .ok (.ireturn, 1) by decide +kernel) rfl

theorem bX12_lies_0 {d : Nat} {σ : zS} {Q : Option Value → zS → Prop} (hl : zLay σ) {x1 x2 : Int32} : zCall (d + 1) kX12_lies [.ref 131, .int x1, .int x2] σ Q ↔ (if (zI σ 131 19) = (-1) then Q (some (.int (-1))) (zsI σ 131 (upd (zI σ 131) 0 0)) else zCall d kX12_isCell [.ref 131, .int (zI σ 131 19), .int x1, .int x2] (zsI σ 131 (upd (zI σ 131) 0 0)) (fun r σ' => zisN r = true ∧ zW (d + 1) kX12_lies 23 [.ref 131, .int x1, .int x2] (zRstk r ++ []) σ' Q)) := by
  show zW (d + 1) kX12_lies 0 [.ref 131, .int x1, .int x2] [] σ Q ↔ _
  refine Iff.trans (zw_aload_n (show decode cX12_lies 0 = .ok (.aload_n 0, 1) by decide +kernel) rfl) ?_
  refine Iff.trans (zw_iconst (x := 0) (show decode cX12_lies 1 = .ok (.iconst 0, 1) by decide +kernel) (by decide)) ?_
  refine Iff.trans (zw_putI (show decode cX12_lies 2 = .ok (.putfield 118, 3) by decide +kernel) (by decide +kernel : zfld 12 118 = some (12, 0)) (hl.k2 zk_131) (hl.n2 zk_131) rfl (Or.inl rfl) (σ' := (zsI σ 131 (upd (zI σ 131) 0 0))) rfl) ?_
  refine Iff.trans (zw_aload_n (show decode cX12_lies 5 = .ok (.aload_n 0, 1) by decide +kernel) rfl) ?_
  refine Iff.trans (zw_getI (show decode cX12_lies 6 = .ok (.getfield 45, 3) by decide +kernel) (by decide +kernel : zfld 12 45 = some (12, 19)) (hl.I.k2 zk_131) (hl.I.n2 zk_131) (Or.inl rfl) (w := zI σ 131 19) (congrFun zI_self 19)) ?_
  refine Iff.trans (zw_iconst (x := (-1)) (show decode cX12_lies 9 = .ok (.iconst (-1), 1) by decide +kernel) (by decide)) ?_
  refine Iff.trans (zw_icmp_eq (t := 36) (show decode cX12_lies 10 = .ok (.if_icmp .eq 26, 3) by decide +kernel) (by decide)) ?_
  refine zw_ite ?_ ?_
  · refine Iff.trans (zw_iconst (x := (-1)) (show decode cX12_lies 36 = .ok (.iconst (-1), 1) by decide +kernel) (by decide)) ?_
    exact zw_iret1 (show decode cX12_lies 37 = .ok (.ireturn, 1) by decide +kernel) rfl
  · refine Iff.trans (zw_aload_n (show decode cX12_lies 13 = .ok (.aload_n 0, 1) by decide +kernel) rfl) ?_
    refine Iff.trans (zw_aload_n (show decode cX12_lies 14 = .ok (.aload_n 0, 1) by decide +kernel) rfl) ?_
    refine Iff.trans (zw_getI (show decode cX12_lies 15 = .ok (.getfield 45, 3) by decide +kernel) (by decide +kernel : zfld 12 45 = some (12, 19)) (hl.I.k2 zk_131) (hl.I.n2 zk_131) (Or.inl rfl) (w := zI σ 131 19) (congrFun zI_self 19)) ?_
    refine Iff.trans (zw_iload_n (show decode cX12_lies 18 = .ok (.iload_n 1, 1) by decide +kernel) rfl) ?_
    refine Iff.trans (zw_iload_n (show decode cX12_lies 19 = .ok (.iload_n 2, 1) by decide +kernel) rfl) ?_
    refine Iff.trans (zw_invV (K' := kX12_isCell) (as' := [.int (zI σ 131 19), .int x1, .int x2]) (rest := []) (show decode cX12_lies 20 = .ok (.invokevirtual 203, 3) by decide +kernel) (by rfl) rfl rfl rfl (hl.I.k2 zk_131) (by decide) (hl.I.n2 zk_131) ⟨Nat.le_of_ble_eq_true rfl, Nat.le_of_ble_eq_true rfl, Nat.le_of_ble_eq_true rfl⟩) ?_
    exact Iff.rfl

theorem bX12_lies_23 {d : Nat} {σ : zS} {Q : Option Value → zS → Prop} (hl : zLay σ) {x1 x2 y0 : Int32} : zW (d + 1) kX12_lies 23 [.ref 131, .int x1, .int x2] [.int y0] σ Q ↔ (if y0 = (0 : Int32) then Q (some (.int (-1))) σ else zCall d kX12_whoIs [.ref 131, .int x1, .int x2, .int (-1)] σ (fun r σ' => zisN r = true ∧ zW (d + 1) kX12_lies 33 [.ref 131, .int x1, .int x2] (zRstk r ++ []) σ' Q)) := by
  refine Iff.trans (zw_if_eq (t := 36) (show decode cX12_lies 23 = .ok (.ifCond .eq 13, 3) by decide +kernel) (by decide)) ?_
  refine zw_ite ?_ ?_
  · refine Iff.trans (zw_iconst (x := (-1)) (show decode cX12_lies 36 = .ok (.iconst (-1), 1) by decide +kernel) (by decide)) ?_
    exact zw_iret1 (show decode cX12_lies 37 = .ok (.ireturn, 1) by decide +kernel) rfl
  · refine Iff.trans (zw_aload_n (show decode cX12_lies 26 = .ok (.aload_n 0, 1) by decide +kernel) rfl) ?_
    refine Iff.trans (zw_iload_n (show decode cX12_lies 27 = .ok (.iload_n 1, 1) by decide +kernel) rfl) ?_
    refine Iff.trans (zw_iload_n (show decode cX12_lies 28 = .ok (.iload_n 2, 1) by decide +kernel) rfl) ?_
    refine Iff.trans (zw_iconst (x := (-1)) (show decode cX12_lies 29 = .ok (.iconst (-1), 1) by decide +kernel) (by decide)) ?_
    refine Iff.trans (zw_invV (K' := kX12_whoIs) (as' := [.int x1, .int x2, .int (-1)]) (rest := []) (show decode cX12_lies 30 = .ok (.invokevirtual 238, 3) by decide +kernel) (by rfl) rfl rfl rfl (hl.k2 zk_131) (by decide) (hl.n2 zk_131) ⟨Nat.le_of_ble_eq_true rfl, Nat.le_of_ble_eq_true rfl, Nat.le_of_ble_eq_true rfl⟩) ?_
    exact Iff.rfl

theorem bX12_lies_33 {d : Nat} {σ : zS} {Q : Option Value → zS → Prop} (hl : zLay σ) {x1 x2 y0 : Int32} : zW (d + 1) kX12_lies 33 [.ref 131, .int x1, .int x2] [.int y0] σ Q ↔ Q (some (.int y0)) σ := by
  refine Iff.trans (zw_goto (t := 37) (show decode cX12_lies 33 = .ok (.goto 4, 3) by decide +kernel) (by decide)) ?_
  exact zw_iret1 (show decode cX12_lies 37 = .ok (.ireturn, 1) by decide +kernel) rfl

theorem bX12_keepRace_0 {d : Nat} {σ : zS} {Q : Option Value → zS → Prop} (hl : zLay σ) : zCall d kX12_keepRace [.ref 131] σ Q ↔ zW d kX12_keepRace 2 [.ref 131, .int 0] [] σ Q := by
  show zW d kX12_keepRace 0 [.ref 131, .retAddr 0] [] σ Q ↔ _
  refine Iff.trans (zw_iconst (x := 0) (show decode cX12_keepRace 0 = .ok (.iconst 0, 1) by decide +kernel) (by decide)) ?_
  refine Iff.trans (zw_istore_n (ls' := [.ref 131, .int 0]) (show decode cX12_keepRace 1 = .ok (.istore_n 1, 1) by decide +kernel) (zset_s (Nat.le_of_ble_eq_true rfl) rfl)) ?_
  exact Iff.rfl

theorem bX12_keepRace_2 {d : Nat} {σ : zS} {Q : Option Value → zS → Prop} (hl : zLay σ) {x1 : Int32} : zW d kX12_keepRace 2 [.ref 131, .int x1] [] σ Q ↔ (if 66 ≤ x1 then Q none (zsL (zsI σ 131 (upd (upd (upd (upd (zI σ 131) 23 (zI σ 131 19)) 24 (zI σ 131 20)) 25 (zI σ 131 21)) 26 (zI σ 131 22))) 131 (vp_updL (zL σ 131) 32 ((zL σ 131) 31))) else (vp_in x1 66 ∧ (vp_in x1 66 ∧ zW d kX12_keepRace 2 [.ref 131, .int (x1 + 1)] [] (zsI σ 140 (upd (zI σ 140) (x1 : Int32).toNatClampNeg (zI σ 139 (x1 : Int32).toNatClampNeg))) Q))) := by
  refine Iff.trans (zw_iload_n (show decode cX12_keepRace 2 = .ok (.iload_n 1, 1) by decide +kernel) rfl) ?_
  refine Iff.trans (zw_bipush (x := 66) (show decode cX12_keepRace 3 = .ok (.bipush 66, 2) by decide +kernel) (by decide)) ?_
  refine Iff.trans (zw_icmp_ge (t := 26) (show decode cX12_keepRace 5 = .ok (.if_icmp .ge 21, 3) by decide +kernel) (by decide)) ?_
  refine zw_ite ?_ ?_
  · refine Iff.trans (zw_aload_n (show decode cX12_keepRace 26 = .ok (.aload_n 0, 1) by decide +kernel) rfl) ?_
    refine Iff.trans (zw_aload_n (show decode cX12_keepRace 27 = .ok (.aload_n 0, 1) by decide +kernel) rfl) ?_
    refine Iff.trans (zw_getI (show decode cX12_keepRace 28 = .ok (.getfield 45, 3) by decide +kernel) (by decide +kernel : zfld 12 45 = some (12, 19)) (hl.k2 zk_131) (hl.n2 zk_131) (Or.inl rfl) (w := zI σ 131 19) rfl) ?_
    refine Iff.trans (zw_putI (show decode cX12_keepRace 31 = .ok (.putfield 319, 3) by decide +kernel) (by decide +kernel : zfld 12 319 = some (12, 23)) (hl.k2 zk_131) (hl.n2 zk_131) rfl (Or.inl rfl) (σ' := (zsI σ 131 (upd (zI σ 131) 23 (zI σ 131 19)))) rfl) ?_
    refine Iff.trans (zw_aload_n (show decode cX12_keepRace 34 = .ok (.aload_n 0, 1) by decide +kernel) rfl) ?_
    refine Iff.trans (zw_aload_n (show decode cX12_keepRace 35 = .ok (.aload_n 0, 1) by decide +kernel) rfl) ?_
    refine Iff.trans (zw_getI (show decode cX12_keepRace 36 = .ok (.getfield 222, 3) by decide +kernel) (by decide +kernel : zfld 12 222 = some (12, 20)) (hl.I.k2 zk_131) (hl.I.n2 zk_131) (Or.inl rfl) (w := zI σ 131 20) (congrFun zI_self 20)) ?_
    refine Iff.trans (zw_putI (show decode cX12_keepRace 39 = .ok (.putfield 322, 3) by decide +kernel) (by decide +kernel : zfld 12 322 = some (12, 24)) (hl.I.k2 zk_131) (hl.I.n2 zk_131) rfl (Or.inl rfl) (σ' := (zsI σ 131 (upd (upd (zI σ 131) 23 (zI σ 131 19)) 24 (zI σ 131 20)))) (Eq.trans (congrArg (fun f => zsI (zsI σ 131 (upd (zI σ 131) 23 (zI σ 131 19))) 131 (upd f 24 (zI σ 131 20))) zI_self) zsI_s)) ?_
    refine Iff.trans (zw_aload_n (show decode cX12_keepRace 42 = .ok (.aload_n 0, 1) by decide +kernel) rfl) ?_
    refine Iff.trans (zw_aload_n (show decode cX12_keepRace 43 = .ok (.aload_n 0, 1) by decide +kernel) rfl) ?_
    refine Iff.trans (zw_getI (show decode cX12_keepRace 44 = .ok (.getfield 48, 3) by decide +kernel) (by decide +kernel : zfld 12 48 = some (12, 21)) (hl.I.k2 zk_131) (hl.I.n2 zk_131) (Or.inl rfl) (w := zI σ 131 21) (congrFun zI_self 21)) ?_
    refine Iff.trans (zw_putI (show decode cX12_keepRace 47 = .ok (.putfield 325, 3) by decide +kernel) (by decide +kernel : zfld 12 325 = some (12, 25)) (hl.I.k2 zk_131) (hl.I.n2 zk_131) rfl (Or.inl rfl) (σ' := (zsI σ 131 (upd (upd (upd (zI σ 131) 23 (zI σ 131 19)) 24 (zI σ 131 20)) 25 (zI σ 131 21)))) (Eq.trans (congrArg (fun f => zsI (zsI σ 131 (upd (upd (zI σ 131) 23 (zI σ 131 19)) 24 (zI σ 131 20))) 131 (upd f 25 (zI σ 131 21))) zI_self) zsI_s)) ?_
    refine Iff.trans (zw_aload_n (show decode cX12_keepRace 50 = .ok (.aload_n 0, 1) by decide +kernel) rfl) ?_
    refine Iff.trans (zw_aload_n (show decode cX12_keepRace 51 = .ok (.aload_n 0, 1) by decide +kernel) rfl) ?_
    refine Iff.trans (zw_getI (show decode cX12_keepRace 52 = .ok (.getfield 252, 3) by decide +kernel) (by decide +kernel : zfld 12 252 = some (12, 22)) (hl.I.k2 zk_131) (hl.I.n2 zk_131) (Or.inl rfl) (w := zI σ 131 22) (congrFun zI_self 22)) ?_
    refine Iff.trans (zw_putI (show decode cX12_keepRace 55 = .ok (.putfield 328, 3) by decide +kernel) (by decide +kernel : zfld 12 328 = some (12, 26)) (hl.I.k2 zk_131) (hl.I.n2 zk_131) rfl (Or.inl rfl) (σ' := (zsI σ 131 (upd (upd (upd (upd (zI σ 131) 23 (zI σ 131 19)) 24 (zI σ 131 20)) 25 (zI σ 131 21)) 26 (zI σ 131 22)))) (Eq.trans (congrArg (fun f => zsI (zsI σ 131 (upd (upd (upd (zI σ 131) 23 (zI σ 131 19)) 24 (zI σ 131 20)) 25 (zI σ 131 21))) 131 (upd f 26 (zI σ 131 22))) zI_self) zsI_s)) ?_
    refine Iff.trans (zw_aload_n (show decode cX12_keepRace 58 = .ok (.aload_n 0, 1) by decide +kernel) rfl) ?_
    refine Iff.trans (zw_aload_n (show decode cX12_keepRace 59 = .ok (.aload_n 0, 1) by decide +kernel) rfl) ?_
    refine Iff.trans (zw_getL (show decode cX12_keepRace 60 = .ok (.getfield 248, 3) by decide +kernel) (by decide +kernel : zfld 12 248 = some (12, 31)) (hl.I.k2 zk_131) (hl.I.n2 zk_131) rfl (w := (zL σ 131) 31) rfl) ?_
    refine Iff.trans (zw_putL (show decode cX12_keepRace 63 = .ok (.putfield 331, 3) by decide +kernel) (by decide +kernel : zfld 12 331 = some (12, 32)) (hl.I.k2 zk_131) (hl.I.n2 zk_131) rfl rfl (σ' := (zsL (zsI σ 131 (upd (upd (upd (upd (zI σ 131) 23 (zI σ 131 19)) 24 (zI σ 131 20)) 25 (zI σ 131 21)) 26 (zI σ 131 22))) 131 (vp_updL (zL σ 131) 32 ((zL σ 131) 31)))) rfl) ?_
    exact zw_ret (show decode cX12_keepRace 66 = .ok (.return_, 1) by decide +kernel) rfl
  · refine Iff.trans (zw_aload_n (show decode cX12_keepRace 8 = .ok (.aload_n 0, 1) by decide +kernel) rfl) ?_
    refine Iff.trans (zw_get (show decode cX12_keepRace 9 = .ok (.getfield 39, 3) by decide +kernel) (by decide +kernel : zfld 12 39 = some (12, 17)) (hl.k2 zk_131) (hl.n2 zk_131) (zgetR (v := 140) (hl.r zrt_131_17) rfl)) ?_
    refine Iff.trans (zw_iload_n (show decode cX12_keepRace 12 = .ok (.iload_n 1, 1) by decide +kernel) rfl) ?_
    refine Iff.trans (zw_aload_n (show decode cX12_keepRace 13 = .ok (.aload_n 0, 1) by decide +kernel) rfl) ?_
    refine Iff.trans (zw_get (show decode cX12_keepRace 14 = .ok (.getfield 36, 3) by decide +kernel) (by decide +kernel : zfld 12 36 = some (12, 16)) (hl.k2 zk_131) (hl.n2 zk_131) (zgetR (v := 139) (hl.r zrt_131_16) rfl)) ?_
    refine Iff.trans (zw_iload_n (show decode cX12_keepRace 17 = .ok (.iload_n 1, 1) by decide +kernel) rfl) ?_
    refine Iff.trans (zw_iald2 (show decode cX12_keepRace 18 = .ok (.iaload, 1) by decide +kernel) (hl.k2 zk_139) (hl.n2 zk_139) (hl.l2 zk_139 zl_139) (w := zI σ 139 (x1 : Int32).toNatClampNeg) rfl) ?_
    refine zw_and ?_
    refine Iff.trans (zw_iast2 (show decode cX12_keepRace 19 = .ok (.iastore, 1) by decide +kernel) (hl.k2 zk_140) (hl.n2 zk_140) (hl.l2 zk_140 zl_140) (σ' := (zsI σ 140 (upd (zI σ 140) (x1 : Int32).toNatClampNeg (zI σ 139 (x1 : Int32).toNatClampNeg)))) rfl) ?_
    refine zw_and ?_
    refine Iff.trans (zw_iinc (w := 1) (ls' := [.ref 131, .int (x1 + 1)]) (show decode cX12_keepRace 20 = .ok (.iinc 1 1, 3) by decide +kernel) rfl (by decide) (zset_s (Nat.le_of_ble_eq_true rfl) rfl)) ?_
    refine Iff.trans (zw_goto (t := 2) (show decode cX12_keepRace 23 = .ok (.goto (-21), 3) by decide +kernel) (by decide)) ?_
    exact Iff.rfl

theorem bX12_putBack_0 {d : Nat} {σ : zS} {Q : Option Value → zS → Prop} (hl : zLay σ) : zCall d kX12_putBack [.ref 131] σ Q ↔ zW d kX12_putBack 2 [.ref 131, .int 0] [] σ Q := by
  show zW d kX12_putBack 0 [.ref 131, .retAddr 0] [] σ Q ↔ _
  refine Iff.trans (zw_iconst (x := 0) (show decode cX12_putBack 0 = .ok (.iconst 0, 1) by decide +kernel) (by decide)) ?_
  refine Iff.trans (zw_istore_n (ls' := [.ref 131, .int 0]) (show decode cX12_putBack 1 = .ok (.istore_n 1, 1) by decide +kernel) (zset_s (Nat.le_of_ble_eq_true rfl) rfl)) ?_
  exact Iff.rfl

theorem bX12_putBack_2 {d : Nat} {σ : zS} {Q : Option Value → zS → Prop} (hl : zLay σ) {x1 : Int32} : zW d kX12_putBack 2 [.ref 131, .int x1] [] σ Q ↔ (if 66 ≤ x1 then Q none (zsL (zsI σ 131 (upd (upd (upd (upd (zI σ 131) 19 (zI σ 131 23)) 20 (zI σ 131 24)) 21 (zI σ 131 25)) 22 (zI σ 131 26))) 131 (vp_updL (zL σ 131) 31 ((zL σ 131) 32))) else (vp_in x1 66 ∧ (vp_in x1 66 ∧ zW d kX12_putBack 2 [.ref 131, .int (x1 + 1)] [] (zsI σ 139 (upd (zI σ 139) (x1 : Int32).toNatClampNeg (zI σ 140 (x1 : Int32).toNatClampNeg))) Q))) := by
  refine Iff.trans (zw_iload_n (show decode cX12_putBack 2 = .ok (.iload_n 1, 1) by decide +kernel) rfl) ?_
  refine Iff.trans (zw_bipush (x := 66) (show decode cX12_putBack 3 = .ok (.bipush 66, 2) by decide +kernel) (by decide)) ?_
  refine Iff.trans (zw_icmp_ge (t := 26) (show decode cX12_putBack 5 = .ok (.if_icmp .ge 21, 3) by decide +kernel) (by decide)) ?_
  refine zw_ite ?_ ?_
  · refine Iff.trans (zw_aload_n (show decode cX12_putBack 26 = .ok (.aload_n 0, 1) by decide +kernel) rfl) ?_
    refine Iff.trans (zw_aload_n (show decode cX12_putBack 27 = .ok (.aload_n 0, 1) by decide +kernel) rfl) ?_
    refine Iff.trans (zw_getI (show decode cX12_putBack 28 = .ok (.getfield 319, 3) by decide +kernel) (by decide +kernel : zfld 12 319 = some (12, 23)) (hl.k2 zk_131) (hl.n2 zk_131) (Or.inl rfl) (w := zI σ 131 23) rfl) ?_
    refine Iff.trans (zw_putI (show decode cX12_putBack 31 = .ok (.putfield 45, 3) by decide +kernel) (by decide +kernel : zfld 12 45 = some (12, 19)) (hl.k2 zk_131) (hl.n2 zk_131) rfl (Or.inl rfl) (σ' := (zsI σ 131 (upd (zI σ 131) 19 (zI σ 131 23)))) rfl) ?_
    refine Iff.trans (zw_aload_n (show decode cX12_putBack 34 = .ok (.aload_n 0, 1) by decide +kernel) rfl) ?_
    refine Iff.trans (zw_aload_n (show decode cX12_putBack 35 = .ok (.aload_n 0, 1) by decide +kernel) rfl) ?_
    refine Iff.trans (zw_getI (show decode cX12_putBack 36 = .ok (.getfield 322, 3) by decide +kernel) (by decide +kernel : zfld 12 322 = some (12, 24)) (hl.I.k2 zk_131) (hl.I.n2 zk_131) (Or.inl rfl) (w := zI σ 131 24) (congrFun zI_self 24)) ?_
    refine Iff.trans (zw_putI (show decode cX12_putBack 39 = .ok (.putfield 222, 3) by decide +kernel) (by decide +kernel : zfld 12 222 = some (12, 20)) (hl.I.k2 zk_131) (hl.I.n2 zk_131) rfl (Or.inl rfl) (σ' := (zsI σ 131 (upd (upd (zI σ 131) 19 (zI σ 131 23)) 20 (zI σ 131 24)))) (Eq.trans (congrArg (fun f => zsI (zsI σ 131 (upd (zI σ 131) 19 (zI σ 131 23))) 131 (upd f 20 (zI σ 131 24))) zI_self) zsI_s)) ?_
    refine Iff.trans (zw_aload_n (show decode cX12_putBack 42 = .ok (.aload_n 0, 1) by decide +kernel) rfl) ?_
    refine Iff.trans (zw_aload_n (show decode cX12_putBack 43 = .ok (.aload_n 0, 1) by decide +kernel) rfl) ?_
    refine Iff.trans (zw_getI (show decode cX12_putBack 44 = .ok (.getfield 325, 3) by decide +kernel) (by decide +kernel : zfld 12 325 = some (12, 25)) (hl.I.k2 zk_131) (hl.I.n2 zk_131) (Or.inl rfl) (w := zI σ 131 25) (congrFun zI_self 25)) ?_
    refine Iff.trans (zw_putI (show decode cX12_putBack 47 = .ok (.putfield 48, 3) by decide +kernel) (by decide +kernel : zfld 12 48 = some (12, 21)) (hl.I.k2 zk_131) (hl.I.n2 zk_131) rfl (Or.inl rfl) (σ' := (zsI σ 131 (upd (upd (upd (zI σ 131) 19 (zI σ 131 23)) 20 (zI σ 131 24)) 21 (zI σ 131 25)))) (Eq.trans (congrArg (fun f => zsI (zsI σ 131 (upd (upd (zI σ 131) 19 (zI σ 131 23)) 20 (zI σ 131 24))) 131 (upd f 21 (zI σ 131 25))) zI_self) zsI_s)) ?_
    refine Iff.trans (zw_aload_n (show decode cX12_putBack 50 = .ok (.aload_n 0, 1) by decide +kernel) rfl) ?_
    refine Iff.trans (zw_aload_n (show decode cX12_putBack 51 = .ok (.aload_n 0, 1) by decide +kernel) rfl) ?_
    refine Iff.trans (zw_getI (show decode cX12_putBack 52 = .ok (.getfield 328, 3) by decide +kernel) (by decide +kernel : zfld 12 328 = some (12, 26)) (hl.I.k2 zk_131) (hl.I.n2 zk_131) (Or.inl rfl) (w := zI σ 131 26) (congrFun zI_self 26)) ?_
    refine Iff.trans (zw_putI (show decode cX12_putBack 55 = .ok (.putfield 252, 3) by decide +kernel) (by decide +kernel : zfld 12 252 = some (12, 22)) (hl.I.k2 zk_131) (hl.I.n2 zk_131) rfl (Or.inl rfl) (σ' := (zsI σ 131 (upd (upd (upd (upd (zI σ 131) 19 (zI σ 131 23)) 20 (zI σ 131 24)) 21 (zI σ 131 25)) 22 (zI σ 131 26)))) (Eq.trans (congrArg (fun f => zsI (zsI σ 131 (upd (upd (upd (zI σ 131) 19 (zI σ 131 23)) 20 (zI σ 131 24)) 21 (zI σ 131 25))) 131 (upd f 22 (zI σ 131 26))) zI_self) zsI_s)) ?_
    refine Iff.trans (zw_aload_n (show decode cX12_putBack 58 = .ok (.aload_n 0, 1) by decide +kernel) rfl) ?_
    refine Iff.trans (zw_aload_n (show decode cX12_putBack 59 = .ok (.aload_n 0, 1) by decide +kernel) rfl) ?_
    refine Iff.trans (zw_getL (show decode cX12_putBack 60 = .ok (.getfield 331, 3) by decide +kernel) (by decide +kernel : zfld 12 331 = some (12, 32)) (hl.I.k2 zk_131) (hl.I.n2 zk_131) rfl (w := (zL σ 131) 32) rfl) ?_
    refine Iff.trans (zw_putL (show decode cX12_putBack 63 = .ok (.putfield 248, 3) by decide +kernel) (by decide +kernel : zfld 12 248 = some (12, 31)) (hl.I.k2 zk_131) (hl.I.n2 zk_131) rfl rfl (σ' := (zsL (zsI σ 131 (upd (upd (upd (upd (zI σ 131) 19 (zI σ 131 23)) 20 (zI σ 131 24)) 21 (zI σ 131 25)) 22 (zI σ 131 26))) 131 (vp_updL (zL σ 131) 31 ((zL σ 131) 32)))) rfl) ?_
    exact zw_ret (show decode cX12_putBack 66 = .ok (.return_, 1) by decide +kernel) rfl
  · refine Iff.trans (zw_aload_n (show decode cX12_putBack 8 = .ok (.aload_n 0, 1) by decide +kernel) rfl) ?_
    refine Iff.trans (zw_get (show decode cX12_putBack 9 = .ok (.getfield 36, 3) by decide +kernel) (by decide +kernel : zfld 12 36 = some (12, 16)) (hl.k2 zk_131) (hl.n2 zk_131) (zgetR (v := 139) (hl.r zrt_131_16) rfl)) ?_
    refine Iff.trans (zw_iload_n (show decode cX12_putBack 12 = .ok (.iload_n 1, 1) by decide +kernel) rfl) ?_
    refine Iff.trans (zw_aload_n (show decode cX12_putBack 13 = .ok (.aload_n 0, 1) by decide +kernel) rfl) ?_
    refine Iff.trans (zw_get (show decode cX12_putBack 14 = .ok (.getfield 39, 3) by decide +kernel) (by decide +kernel : zfld 12 39 = some (12, 17)) (hl.k2 zk_131) (hl.n2 zk_131) (zgetR (v := 140) (hl.r zrt_131_17) rfl)) ?_
    refine Iff.trans (zw_iload_n (show decode cX12_putBack 17 = .ok (.iload_n 1, 1) by decide +kernel) rfl) ?_
    refine Iff.trans (zw_iald2 (show decode cX12_putBack 18 = .ok (.iaload, 1) by decide +kernel) (hl.k2 zk_140) (hl.n2 zk_140) (hl.l2 zk_140 zl_140) (w := zI σ 140 (x1 : Int32).toNatClampNeg) rfl) ?_
    refine zw_and ?_
    refine Iff.trans (zw_iast2 (show decode cX12_putBack 19 = .ok (.iastore, 1) by decide +kernel) (hl.k2 zk_139) (hl.n2 zk_139) (hl.l2 zk_139 zl_139) (σ' := (zsI σ 139 (upd (zI σ 139) (x1 : Int32).toNatClampNeg (zI σ 140 (x1 : Int32).toNatClampNeg)))) rfl) ?_
    refine zw_and ?_
    refine Iff.trans (zw_iinc (w := 1) (ls' := [.ref 131, .int (x1 + 1)]) (show decode cX12_putBack 20 = .ok (.iinc 1 1, 3) by decide +kernel) rfl (by decide) (zset_s (Nat.le_of_ble_eq_true rfl) rfl)) ?_
    refine Iff.trans (zw_goto (t := 2) (show decode cX12_putBack 23 = .ok (.goto (-21), 3) by decide +kernel) (by decide)) ?_
    exact Iff.rfl

theorem bX12_goRace_0 {d : Nat} {σ : zS} {Q : Option Value → zS → Prop} (hl : zLay σ) {j1 : Int64} : zCall (d + 1) kX12_goRace [.ref 131, .long j1] σ Q ↔ zCall d kX12_begin_ [.ref 131, .long j1] σ (fun r σ' => zisN r = true ∧ zW (d + 1) kX12_goRace 5 [.ref 131, .long j1, .retAddr 1] (zRstk r ++ []) σ' Q) := by
  show zW (d + 1) kX12_goRace 0 [.ref 131, .long j1, .retAddr 1] [] σ Q ↔ _
  refine Iff.trans (zw_aload_n (show decode cX12_goRace 0 = .ok (.aload_n 0, 1) by decide +kernel) rfl) ?_
  refine Iff.trans (zw_lload_n (show decode cX12_goRace 1 = .ok (.lload_n 1, 1) by decide +kernel) rfl) ?_
  refine Iff.trans (zw_invV (K' := kX12_begin_) (as' := [.long j1]) (rest := []) (show decode cX12_goRace 2 = .ok (.invokevirtual 258, 3) by decide +kernel) (by rfl) rfl rfl rfl (hl.k2 zk_131) (by decide) (hl.n2 zk_131) ⟨Nat.le_of_ble_eq_true rfl, Nat.le_of_ble_eq_true rfl, Nat.le_of_ble_eq_true rfl⟩) ?_
  exact Iff.rfl

theorem bX12_goRace_5 {d : Nat} {σ : zS} {Q : Option Value → zS → Prop} (hl : zLay σ) {j1 : Int64} : zW (d + 1) kX12_goRace 5 [.ref 131, .long j1, .retAddr 1] [] σ Q ↔ zCall d kX12_goesOn [.ref 131] σ (fun r σ' => zisN r = true ∧ zW (d + 1) kX12_goRace 9 [.ref 131, .long j1, .retAddr 1] (zRstk r ++ []) σ' Q) := by
  refine Iff.trans (zw_aload_n (show decode cX12_goRace 5 = .ok (.aload_n 0, 1) by decide +kernel) rfl) ?_
  refine Iff.trans (zw_invV (K' := kX12_goesOn) (as' := []) (rest := []) (show decode cX12_goRace 6 = .ok (.invokevirtual 307, 3) by decide +kernel) (by rfl) rfl rfl rfl (hl.k2 zk_131) (by decide) (hl.n2 zk_131) ⟨Nat.le_of_ble_eq_true rfl, Nat.le_of_ble_eq_true rfl, Nat.le_of_ble_eq_true rfl⟩) ?_
  exact Iff.rfl

theorem bX12_goRace_9 {d : Nat} {σ : zS} {Q : Option Value → zS → Prop} (hl : zLay σ) {j1 : Int64} {y0 : Int32} : zW (d + 1) kX12_goRace 9 [.ref 131, .long j1, .retAddr 1] [.int y0] σ Q ↔ (if y0 = (0 : Int32) then Q none σ else zCall d kX12_goTick [.ref 131] σ (fun r σ' => zisN r = true ∧ zW (d + 1) kX12_goRace 16 [.ref 131, .long j1, .retAddr 1] (zRstk r ++ []) σ' Q)) := by
  refine Iff.trans (zw_if_eq (t := 19) (show decode cX12_goRace 9 = .ok (.ifCond .eq 10, 3) by decide +kernel) (by decide)) ?_
  refine zw_ite ?_ ?_
  · exact zw_ret (show decode cX12_goRace 19 = .ok (.return_, 1) by decide +kernel) rfl
  · refine Iff.trans (zw_aload_n (show decode cX12_goRace 12 = .ok (.aload_n 0, 1) by decide +kernel) rfl) ?_
    refine Iff.trans (zw_invV (K' := kX12_goTick) (as' := []) (rest := []) (show decode cX12_goRace 13 = .ok (.invokevirtual 310, 3) by decide +kernel) (by rfl) rfl rfl rfl (hl.k2 zk_131) (by decide) (hl.n2 zk_131) ⟨Nat.le_of_ble_eq_true rfl, Nat.le_of_ble_eq_true rfl, Nat.le_of_ble_eq_true rfl⟩) ?_
    exact Iff.rfl

theorem bX12_goRace_16 {d : Nat} {σ : zS} {Q : Option Value → zS → Prop} (hl : zLay σ) {j1 : Int64} : zW (d + 1) kX12_goRace 16 [.ref 131, .long j1, .retAddr 1] [] σ Q ↔ zW (d + 1) kX12_goRace 5 [.ref 131, .long j1, .retAddr 1] [] σ Q := by
  refine Iff.trans (zw_goto (t := 5) (show decode cX12_goRace 16 = .ok (.goto (-11), 3) by decide +kernel) (by decide)) ?_
  exact Iff.rfl

theorem bX12_sumOf_0 {d : Nat} {σ : zS} {Q : Option Value → zS → Prop} (hl : zLay σ) {x1 x2 x3 : Int32} : zCall (d + 1) kX12_sumOf [.ref 131, .int x1, .int x2, .int x3] σ Q ↔ zW (d + 1) kX12_sumOf 6 [.ref 131, .int x1, .int x2, .int x3, .int 0, .int 0] [] σ Q := by
  show zW (d + 1) kX12_sumOf 0 [.ref 131, .int x1, .int x2, .int x3, .retAddr 0, .retAddr 0] [] σ Q ↔ _
  refine Iff.trans (zw_iconst (x := 0) (show decode cX12_sumOf 0 = .ok (.iconst 0, 1) by decide +kernel) (by decide)) ?_
  refine Iff.trans (zw_istore (ls' := [.ref 131, .int x1, .int x2, .int x3, .int 0, .retAddr 0]) (show decode cX12_sumOf 1 = .ok (.istore 4, 2) by decide +kernel) (zset_s (Nat.le_of_ble_eq_true rfl) rfl)) ?_
  refine Iff.trans (zw_iconst (x := 0) (show decode cX12_sumOf 3 = .ok (.iconst 0, 1) by decide +kernel) (by decide)) ?_
  refine Iff.trans (zw_istore (ls' := [.ref 131, .int x1, .int x2, .int x3, .int 0, .int 0]) (show decode cX12_sumOf 4 = .ok (.istore 5, 2) by decide +kernel) (zset_s (Nat.le_of_ble_eq_true rfl) rfl)) ?_
  exact Iff.rfl

theorem bX12_sumOf_6 {d : Nat} {σ : zS} {Q : Option Value → zS → Prop} (hl : zLay σ) {x1 x2 x3 x4 x5 : Int32} : zW (d + 1) kX12_sumOf 6 [.ref 131, .int x1, .int x2, .int x3, .int x4, .int x5] [] σ Q ↔ (if x2 ≤ x5 then Q (some (.int x4)) σ else zCall d kX12_goRace [.ref 131, .long ((x5 : Int32).toInt64)] σ (fun r σ' => zisN r = true ∧ zW (d + 1) kX12_sumOf 19 [.ref 131, .int x1, .int x2, .int x3, .int x4, .int x5] (zRstk r ++ []) σ' Q)) := by
  refine Iff.trans (zw_iload (show decode cX12_sumOf 6 = .ok (.iload 5, 2) by decide +kernel) rfl) ?_
  refine Iff.trans (zw_iload_n (show decode cX12_sumOf 8 = .ok (.iload_n 2, 1) by decide +kernel) rfl) ?_
  refine Iff.trans (zw_icmp_ge (t := 55) (show decode cX12_sumOf 9 = .ok (.if_icmp .ge 46, 3) by decide +kernel) (by decide)) ?_
  refine zw_ite ?_ ?_
  · refine Iff.trans (zw_iload (show decode cX12_sumOf 55 = .ok (.iload 4, 2) by decide +kernel) rfl) ?_
    exact zw_iret1 (show decode cX12_sumOf 57 = .ok (.ireturn, 1) by decide +kernel) rfl
  · refine Iff.trans (zw_aload_n (show decode cX12_sumOf 12 = .ok (.aload_n 0, 1) by decide +kernel) rfl) ?_
    refine Iff.trans (zw_iload (show decode cX12_sumOf 13 = .ok (.iload 5, 2) by decide +kernel) rfl) ?_
    refine Iff.trans (zw_i2l (show decode cX12_sumOf 15 = .ok (.i2l, 1) by decide +kernel)) ?_
    refine Iff.trans (zw_invV (K' := kX12_goRace) (as' := [.long ((x5 : Int32).toInt64)]) (rest := []) (show decode cX12_sumOf 16 = .ok (.invokevirtual 334, 3) by decide +kernel) (by rfl) rfl rfl rfl (hl.k2 zk_131) (by decide) (hl.n2 zk_131) ⟨Nat.le_of_ble_eq_true rfl, Nat.le_of_ble_eq_true rfl, Nat.le_of_ble_eq_true rfl⟩) ?_
    exact Iff.rfl

theorem bX12_sumOf_19 {d : Nat} {σ : zS} {Q : Option Value → zS → Prop} (hl : zLay σ) {x1 x2 x3 x4 x5 : Int32} : zW (d + 1) kX12_sumOf 19 [.ref 131, .int x1, .int x2, .int x3, .int x4, .int x5] [] σ Q ↔ (if x3 = (0 : Int32) then zCall d kX12_placeOf [.ref 131, .int x1] σ (fun r σ' => zisN r = true ∧ zW (d + 1) kX12_sumOf 46 [.ref 131, .int x1, .int x2, .int x3, .int x4, .int x5] (zRstk r ++ [.int x4]) σ' Q) else zCall d kX12_placeOf [.ref 131, .int x1] σ (fun r σ' => zisN r = true ∧ zW (d + 1) kX12_sumOf 30 [.ref 131, .int x1, .int x2, .int x3, .int x4, .int x5] (zRstk r ++ [.int x4]) σ' Q)) := by
  refine Iff.trans (zw_iload (show decode cX12_sumOf 19 = .ok (.iload 4, 2) by decide +kernel) rfl) ?_
  refine Iff.trans (zw_iload_n (show decode cX12_sumOf 21 = .ok (.iload_n 3, 1) by decide +kernel) rfl) ?_
  refine Iff.trans (zw_if_eq (t := 41) (show decode cX12_sumOf 22 = .ok (.ifCond .eq 19, 3) by decide +kernel) (by decide)) ?_
  refine zw_ite ?_ ?_
  · refine Iff.trans (zw_aload_n (show decode cX12_sumOf 41 = .ok (.aload_n 0, 1) by decide +kernel) rfl) ?_
    refine Iff.trans (zw_iload_n (show decode cX12_sumOf 42 = .ok (.iload_n 1, 1) by decide +kernel) rfl) ?_
    refine Iff.trans (zw_invV (K' := kX12_placeOf) (as' := [.int x1]) (rest := [.int x4]) (show decode cX12_sumOf 43 = .ok (.invokevirtual 316, 3) by decide +kernel) (by rfl) rfl rfl rfl (hl.k2 zk_131) (by decide) (hl.n2 zk_131) ⟨Nat.le_of_ble_eq_true rfl, Nat.le_of_ble_eq_true rfl, Nat.le_of_ble_eq_true rfl⟩) ?_
    exact Iff.rfl
  · refine Iff.trans (zw_aload_n (show decode cX12_sumOf 25 = .ok (.aload_n 0, 1) by decide +kernel) rfl) ?_
    refine Iff.trans (zw_iload_n (show decode cX12_sumOf 26 = .ok (.iload_n 1, 1) by decide +kernel) rfl) ?_
    refine Iff.trans (zw_invV (K' := kX12_placeOf) (as' := [.int x1]) (rest := [.int x4]) (show decode cX12_sumOf 27 = .ok (.invokevirtual 316, 3) by decide +kernel) (by rfl) rfl rfl rfl (hl.k2 zk_131) (by decide) (hl.n2 zk_131) ⟨Nat.le_of_ble_eq_true rfl, Nat.le_of_ble_eq_true rfl, Nat.le_of_ble_eq_true rfl⟩) ?_
    exact Iff.rfl

theorem bX12_sumOf_30 {d : Nat} {σ : zS} {Q : Option Value → zS → Prop} (hl : zLay σ) {x1 x2 x3 x4 x5 y0 y1 : Int32} : zW (d + 1) kX12_sumOf 30 [.ref 131, .int x1, .int x2, .int x3, .int x4, .int x5] [.int y0, .int y1] σ Q ↔ (if y0 = (0 : Int32) then zW (d + 1) kX12_sumOf 46 [.ref 131, .int x1, .int x2, .int x3, .int x4, .int x5] [.int 1, .int y1] σ Q else zW (d + 1) kX12_sumOf 46 [.ref 131, .int x1, .int x2, .int x3, .int x4, .int x5] [.int 0, .int y1] σ Q) := by
  refine Iff.trans (zw_if_ne (t := 37) (show decode cX12_sumOf 30 = .ok (.ifCond .ne 7, 3) by decide +kernel) (by decide)) ?_
  refine zw_ite ?_ ?_
  · refine Iff.trans (zw_iconst (x := 1) (show decode cX12_sumOf 33 = .ok (.iconst 1, 1) by decide +kernel) (by decide)) ?_
    refine Iff.trans (zw_goto (t := 46) (show decode cX12_sumOf 34 = .ok (.goto 12, 3) by decide +kernel) (by decide)) ?_
    exact Iff.rfl
  · refine Iff.trans (zw_iconst (x := 0) (show decode cX12_sumOf 37 = .ok (.iconst 0, 1) by decide +kernel) (by decide)) ?_
    refine Iff.trans (zw_goto (t := 46) (show decode cX12_sumOf 38 = .ok (.goto 8, 3) by decide +kernel) (by decide)) ?_
    exact Iff.rfl

theorem bX12_sumOf_46 {d : Nat} {σ : zS} {Q : Option Value → zS → Prop} (hl : zLay σ) {x1 x2 x3 x4 x5 y0 y1 : Int32} : zW (d + 1) kX12_sumOf 46 [.ref 131, .int x1, .int x2, .int x3, .int x4, .int x5] [.int y0, .int y1] σ Q ↔ zW (d + 1) kX12_sumOf 6 [.ref 131, .int x1, .int x2, .int x3, .int (y1 + y0), .int (x5 + 1)] [] σ Q := by
  refine Iff.trans (zw_iadd (show decode cX12_sumOf 46 = .ok (.iadd, 1) by decide +kernel)) ?_
  refine Iff.trans (zw_istore (ls' := [.ref 131, .int x1, .int x2, .int x3, .int (y1 + y0), .int x5]) (show decode cX12_sumOf 47 = .ok (.istore 4, 2) by decide +kernel) (zset_s (Nat.le_of_ble_eq_true rfl) rfl)) ?_
  refine Iff.trans (zw_iinc (w := 1) (ls' := [.ref 131, .int x1, .int x2, .int x3, .int (y1 + y0), .int (x5 + 1)]) (show decode cX12_sumOf 49 = .ok (.iinc 5 1, 3) by decide +kernel) rfl (by decide) (zset_s (Nat.le_of_ble_eq_true rfl) rfl)) ?_
  refine Iff.trans (zw_goto (t := 6) (show decode cX12_sumOf 52 = .ok (.goto (-46), 3) by decide +kernel) (by decide)) ?_
  exact Iff.rfl

theorem bX12_areOdds_0 {d : Nat} {σ : zS} {Q : Option Value → zS → Prop} (hl : zLay σ) {x1 x2 : Int32} : zCall (d + 1) kX12_areOdds [.ref 131, .int x1, .int x2] σ Q ↔ zCall d kX12_isRunner [.ref 131, .int x1] σ (fun r σ' => zisN r = true ∧ zW (d + 1) kX12_areOdds 5 [.ref 131, .int x1, .int x2] (zRstk r ++ []) σ' Q) := by
  show zW (d + 1) kX12_areOdds 0 [.ref 131, .int x1, .int x2] [] σ Q ↔ _
  refine Iff.trans (zw_aload_n (show decode cX12_areOdds 0 = .ok (.aload_n 0, 1) by decide +kernel) rfl) ?_
  refine Iff.trans (zw_iload_n (show decode cX12_areOdds 1 = .ok (.iload_n 1, 1) by decide +kernel) rfl) ?_
  refine Iff.trans (zw_invV (K' := kX12_isRunner) (as' := [.int x1]) (rest := []) (show decode cX12_areOdds 2 = .ok (.invokevirtual 313, 3) by decide +kernel) (by rfl) rfl rfl rfl (hl.k2 zk_131) (by decide) (hl.n2 zk_131) ⟨Nat.le_of_ble_eq_true rfl, Nat.le_of_ble_eq_true rfl, Nat.le_of_ble_eq_true rfl⟩) ?_
  exact Iff.rfl

theorem bX12_areOdds_5 {d : Nat} {σ : zS} {Q : Option Value → zS → Prop} (hl : zLay σ) {x1 x2 y0 : Int32} : zW (d + 1) kX12_areOdds 5 [.ref 131, .int x1, .int x2] [.int y0] σ Q ↔ (if y0 = (0 : Int32) then Q (some (.int 0)) σ else zCall d kX12_isIn [.int x2, .int 1, .int 40] σ (fun r σ' => zisN r = true ∧ zW (d + 1) kX12_areOdds 15 [.ref 131, .int x1, .int x2] (zRstk r ++ []) σ' Q)) := by
  refine Iff.trans (zw_if_eq (t := 29) (show decode cX12_areOdds 5 = .ok (.ifCond .eq 24, 3) by decide +kernel) (by decide)) ?_
  refine zw_ite ?_ ?_
  · refine Iff.trans (zw_iconst (x := 0) (show decode cX12_areOdds 29 = .ok (.iconst 0, 1) by decide +kernel) (by decide)) ?_
    exact zw_iret2c (show decode cX12_areOdds 30 = .ok (.ireturn, 1) by decide +kernel) rfl (Or.inl rfl)
  · refine Iff.trans (zw_iload_n (show decode cX12_areOdds 8 = .ok (.iload_n 2, 1) by decide +kernel) rfl) ?_
    refine Iff.trans (zw_iconst (x := 1) (show decode cX12_areOdds 9 = .ok (.iconst 1, 1) by decide +kernel) (by decide)) ?_
    refine Iff.trans (zw_bipush (x := 40) (show decode cX12_areOdds 10 = .ok (.bipush 40, 2) by decide +kernel) (by decide)) ?_
    refine Iff.trans (zw_invS (K' := kX12_isIn) (as := [.int x2, .int 1, .int 40]) (rest := []) (show decode cX12_areOdds 12 = .ok (.invokestatic 163, 3) by decide +kernel) (by rfl) rfl rfl rfl ⟨Nat.le_of_ble_eq_true rfl, Nat.le_of_ble_eq_true rfl, Nat.le_of_ble_eq_true rfl⟩) ?_
    exact Iff.rfl

theorem bX12_areOdds_15 {d : Nat} {σ : zS} {Q : Option Value → zS → Prop} (hl : zLay σ) {x1 x2 y0 : Int32} : zW (d + 1) kX12_areOdds 15 [.ref 131, .int x1, .int x2] [.int y0] σ Q ↔ (if y0 = (0 : Int32) then Q (some (.int 0)) σ else zCall d kX12_canStart [.ref 131] σ (fun r σ' => zisN r = true ∧ zW (d + 1) kX12_areOdds 22 [.ref 131, .int x1, .int x2] (zRstk r ++ []) σ' Q)) := by
  refine Iff.trans (zw_if_eq (t := 29) (show decode cX12_areOdds 15 = .ok (.ifCond .eq 14, 3) by decide +kernel) (by decide)) ?_
  refine zw_ite ?_ ?_
  · refine Iff.trans (zw_iconst (x := 0) (show decode cX12_areOdds 29 = .ok (.iconst 0, 1) by decide +kernel) (by decide)) ?_
    exact zw_iret2c (show decode cX12_areOdds 30 = .ok (.ireturn, 1) by decide +kernel) rfl (Or.inl rfl)
  · refine Iff.trans (zw_aload_n (show decode cX12_areOdds 18 = .ok (.aload_n 0, 1) by decide +kernel) rfl) ?_
    refine Iff.trans (zw_invV (K' := kX12_canStart) (as' := []) (rest := []) (show decode cX12_areOdds 19 = .ok (.invokevirtual 255, 3) by decide +kernel) (by rfl) rfl rfl rfl (hl.k2 zk_131) (by decide) (hl.n2 zk_131) ⟨Nat.le_of_ble_eq_true rfl, Nat.le_of_ble_eq_true rfl, Nat.le_of_ble_eq_true rfl⟩) ?_
    exact Iff.rfl

theorem bX12_areOdds_22 {d : Nat} {σ : zS} {Q : Option Value → zS → Prop} (hl : zLay σ) {x1 x2 y0 : Int32} : zW (d + 1) kX12_areOdds 22 [.ref 131, .int x1, .int x2] [.int y0] σ Q ↔ (if y0 = (0 : Int32) then Q (some (.int 0)) σ else Q (some (.int 1)) σ) := by
  refine Iff.trans (zw_if_eq (t := 29) (show decode cX12_areOdds 22 = .ok (.ifCond .eq 7, 3) by decide +kernel) (by decide)) ?_
  refine zw_ite ?_ ?_
  · refine Iff.trans (zw_iconst (x := 0) (show decode cX12_areOdds 29 = .ok (.iconst 0, 1) by decide +kernel) (by decide)) ?_
    exact zw_iret2c (show decode cX12_areOdds 30 = .ok (.ireturn, 1) by decide +kernel) rfl (Or.inl rfl)
  · refine Iff.trans (zw_iconst (x := 1) (show decode cX12_areOdds 25 = .ok (.iconst 1, 1) by decide +kernel) (by decide)) ?_
    refine Iff.trans (zw_goto (t := 30) (show decode cX12_areOdds 26 = .ok (.goto 4, 3) by decide +kernel) (by decide)) ?_
    exact zw_iret2c (show decode cX12_areOdds 30 = .ok (.ireturn, 1) by decide +kernel) rfl (Or.inr rfl)

theorem bX12_oddsOf_0 {d : Nat} {σ : zS} {Q : Option Value → zS → Prop} (hl : zLay σ) {x1 x2 x3 : Int32} : zCall (d + 1) kX12_oddsOf [.ref 131, .int x1, .int x2, .int x3] σ Q ↔ zCall d kX12_keepRace [.ref 131] σ (fun r σ' => zisN r = true ∧ zW (d + 1) kX12_oddsOf 4 [.ref 131, .int x1, .int x2, .int x3, .retAddr 0] (zRstk r ++ []) σ' Q) := by
  show zW (d + 1) kX12_oddsOf 0 [.ref 131, .int x1, .int x2, .int x3, .retAddr 0] [] σ Q ↔ _
  refine Iff.trans (zw_aload_n (show decode cX12_oddsOf 0 = .ok (.aload_n 0, 1) by decide +kernel) rfl) ?_
  refine Iff.trans (zw_invV (K' := kX12_keepRace) (as' := []) (rest := []) (show decode cX12_oddsOf 1 = .ok (.invokevirtual 337, 3) by decide +kernel) (by rfl) rfl rfl rfl (hl.k2 zk_131) (by decide) (hl.n2 zk_131) ⟨Nat.le_of_ble_eq_true rfl, Nat.le_of_ble_eq_true rfl, Nat.le_of_ble_eq_true rfl⟩) ?_
  exact Iff.rfl

theorem bX12_oddsOf_4 {d : Nat} {σ : zS} {Q : Option Value → zS → Prop} (hl : zLay σ) {x1 x2 x3 : Int32} : zW (d + 1) kX12_oddsOf 4 [.ref 131, .int x1, .int x2, .int x3, .retAddr 0] [] σ Q ↔ zCall d kX12_sumOf [.ref 131, .int x1, .int x2, .int x3] σ (fun r σ' => zisN r = true ∧ zW (d + 1) kX12_oddsOf 11 [.ref 131, .int x1, .int x2, .int x3, .retAddr 0] (zRstk r ++ []) σ' Q) := by
  refine Iff.trans (zw_aload_n (show decode cX12_oddsOf 4 = .ok (.aload_n 0, 1) by decide +kernel) rfl) ?_
  refine Iff.trans (zw_iload_n (show decode cX12_oddsOf 5 = .ok (.iload_n 1, 1) by decide +kernel) rfl) ?_
  refine Iff.trans (zw_iload_n (show decode cX12_oddsOf 6 = .ok (.iload_n 2, 1) by decide +kernel) rfl) ?_
  refine Iff.trans (zw_iload_n (show decode cX12_oddsOf 7 = .ok (.iload_n 3, 1) by decide +kernel) rfl) ?_
  refine Iff.trans (zw_invV (K' := kX12_sumOf) (as' := [.int x1, .int x2, .int x3]) (rest := []) (show decode cX12_oddsOf 8 = .ok (.invokevirtual 340, 3) by decide +kernel) (by rfl) rfl rfl rfl (hl.k2 zk_131) (by decide) (hl.n2 zk_131) ⟨Nat.le_of_ble_eq_true rfl, Nat.le_of_ble_eq_true rfl, Nat.le_of_ble_eq_true rfl⟩) ?_
  exact Iff.rfl

theorem bX12_oddsOf_11 {d : Nat} {σ : zS} {Q : Option Value → zS → Prop} (hl : zLay σ) {x1 x2 x3 y0 : Int32} : zW (d + 1) kX12_oddsOf 11 [.ref 131, .int x1, .int x2, .int x3, .retAddr 0] [.int y0] σ Q ↔ zCall d kX12_putBack [.ref 131] σ (fun r σ' => zisN r = true ∧ zW (d + 1) kX12_oddsOf 17 [.ref 131, .int x1, .int x2, .int x3, .int y0] (zRstk r ++ []) σ' Q) := by
  refine Iff.trans (zw_istore (ls' := [.ref 131, .int x1, .int x2, .int x3, .int y0]) (show decode cX12_oddsOf 11 = .ok (.istore 4, 2) by decide +kernel) (zset_s (Nat.le_of_ble_eq_true rfl) rfl)) ?_
  refine Iff.trans (zw_aload_n (show decode cX12_oddsOf 13 = .ok (.aload_n 0, 1) by decide +kernel) rfl) ?_
  refine Iff.trans (zw_invV (K' := kX12_putBack) (as' := []) (rest := []) (show decode cX12_oddsOf 14 = .ok (.invokevirtual 344, 3) by decide +kernel) (by rfl) rfl rfl rfl (hl.k2 zk_131) (by decide) (hl.n2 zk_131) ⟨Nat.le_of_ble_eq_true rfl, Nat.le_of_ble_eq_true rfl, Nat.le_of_ble_eq_true rfl⟩) ?_
  exact Iff.rfl

theorem bX12_oddsOf_17 {d : Nat} {σ : zS} {Q : Option Value → zS → Prop} (hl : zLay σ) {x1 x2 x3 x4 : Int32} : zW (d + 1) kX12_oddsOf 17 [.ref 131, .int x1, .int x2, .int x3, .int x4] [] σ Q ↔ Q (some (.int x4)) σ := by
  refine Iff.trans (zw_iload (show decode cX12_oddsOf 17 = .ok (.iload 4, 2) by decide +kernel) rfl) ?_
  exact zw_iret1 (show decode cX12_oddsOf 19 = .ok (.ireturn, 1) by decide +kernel) rfl

theorem bX12_odds_0 {d : Nat} {σ : zS} {Q : Option Value → zS → Prop} (hl : zLay σ) {x1 x2 x3 : Int32} : zCall (d + 1) kX12_odds [.ref 131, .int x1, .int x2, .int x3] σ Q ↔ zCall d kX12_areOdds [.ref 131, .int x1, .int x2] (zsI σ 131 (upd (zI σ 131) 0 0)) (fun r σ' => zisN r = true ∧ zW (d + 1) kX12_odds 11 [.ref 131, .int x1, .int x2, .int x3] (zRstk r ++ []) σ' Q) := by
  show zW (d + 1) kX12_odds 0 [.ref 131, .int x1, .int x2, .int x3] [] σ Q ↔ _
  refine Iff.trans (zw_aload_n (show decode cX12_odds 0 = .ok (.aload_n 0, 1) by decide +kernel) rfl) ?_
  refine Iff.trans (zw_iconst (x := 0) (show decode cX12_odds 1 = .ok (.iconst 0, 1) by decide +kernel) (by decide)) ?_
  refine Iff.trans (zw_putI (show decode cX12_odds 2 = .ok (.putfield 118, 3) by decide +kernel) (by decide +kernel : zfld 12 118 = some (12, 0)) (hl.k2 zk_131) (hl.n2 zk_131) rfl (Or.inl rfl) (σ' := (zsI σ 131 (upd (zI σ 131) 0 0))) rfl) ?_
  refine Iff.trans (zw_aload_n (show decode cX12_odds 5 = .ok (.aload_n 0, 1) by decide +kernel) rfl) ?_
  refine Iff.trans (zw_iload_n (show decode cX12_odds 6 = .ok (.iload_n 1, 1) by decide +kernel) rfl) ?_
  refine Iff.trans (zw_iload_n (show decode cX12_odds 7 = .ok (.iload_n 2, 1) by decide +kernel) rfl) ?_
  refine Iff.trans (zw_invV (K' := kX12_areOdds) (as' := [.int x1, .int x2]) (rest := []) (show decode cX12_odds 8 = .ok (.invokevirtual 347, 3) by decide +kernel) (by rfl) rfl rfl rfl (hl.I.k2 zk_131) (by decide) (hl.I.n2 zk_131) ⟨Nat.le_of_ble_eq_true rfl, Nat.le_of_ble_eq_true rfl, Nat.le_of_ble_eq_true rfl⟩) ?_
  exact Iff.rfl

theorem bX12_odds_11 {d : Nat} {σ : zS} {Q : Option Value → zS → Prop} (hl : zLay σ) {x1 x2 x3 y0 : Int32} : zW (d + 1) kX12_odds 11 [.ref 131, .int x1, .int x2, .int x3] [.int y0] σ Q ↔ (if y0 = (0 : Int32) then Q (some (.int (-1))) σ else zCall d kX12_isIn [.int x3, .int 0, .int 1] σ (fun r σ' => zisN r = true ∧ zW (d + 1) kX12_odds 20 [.ref 131, .int x1, .int x2, .int x3] (zRstk r ++ []) σ' Q)) := by
  refine Iff.trans (zw_if_eq (t := 41) (show decode cX12_odds 11 = .ok (.ifCond .eq 30, 3) by decide +kernel) (by decide)) ?_
  refine zw_ite ?_ ?_
  · refine Iff.trans (zw_iconst (x := (-1)) (show decode cX12_odds 41 = .ok (.iconst (-1), 1) by decide +kernel) (by decide)) ?_
    exact zw_iret1 (show decode cX12_odds 42 = .ok (.ireturn, 1) by decide +kernel) rfl
  · refine Iff.trans (zw_iload_n (show decode cX12_odds 14 = .ok (.iload_n 3, 1) by decide +kernel) rfl) ?_
    refine Iff.trans (zw_iconst (x := 0) (show decode cX12_odds 15 = .ok (.iconst 0, 1) by decide +kernel) (by decide)) ?_
    refine Iff.trans (zw_iconst (x := 1) (show decode cX12_odds 16 = .ok (.iconst 1, 1) by decide +kernel) (by decide)) ?_
    refine Iff.trans (zw_invS (K' := kX12_isIn) (as := [.int x3, .int 0, .int 1]) (rest := []) (show decode cX12_odds 17 = .ok (.invokestatic 163, 3) by decide +kernel) (by rfl) rfl rfl rfl ⟨Nat.le_of_ble_eq_true rfl, Nat.le_of_ble_eq_true rfl, Nat.le_of_ble_eq_true rfl⟩) ?_
    exact Iff.rfl

theorem bX12_odds_20 {d : Nat} {σ : zS} {Q : Option Value → zS → Prop} (hl : zLay σ) {x1 x2 x3 y0 : Int32} : zW (d + 1) kX12_odds 20 [.ref 131, .int x1, .int x2, .int x3] [.int y0] σ Q ↔ (if y0 = (0 : Int32) then Q (some (.int (-1))) σ else (if x3 = (0 : Int32) then zW (d + 1) kX12_odds 35 [.ref 131, .int x1, .int x2, .int x3] [.int 1, .int x2, .int x1, .ref 131] σ Q else zW (d + 1) kX12_odds 35 [.ref 131, .int x1, .int x2, .int x3] [.int 0, .int x2, .int x1, .ref 131] σ Q)) := by
  refine Iff.trans (zw_if_eq (t := 41) (show decode cX12_odds 20 = .ok (.ifCond .eq 21, 3) by decide +kernel) (by decide)) ?_
  refine zw_ite ?_ ?_
  · refine Iff.trans (zw_iconst (x := (-1)) (show decode cX12_odds 41 = .ok (.iconst (-1), 1) by decide +kernel) (by decide)) ?_
    exact zw_iret1 (show decode cX12_odds 42 = .ok (.ireturn, 1) by decide +kernel) rfl
  · refine Iff.trans (zw_aload_n (show decode cX12_odds 23 = .ok (.aload_n 0, 1) by decide +kernel) rfl) ?_
    refine Iff.trans (zw_iload_n (show decode cX12_odds 24 = .ok (.iload_n 1, 1) by decide +kernel) rfl) ?_
    refine Iff.trans (zw_iload_n (show decode cX12_odds 25 = .ok (.iload_n 2, 1) by decide +kernel) rfl) ?_
    refine Iff.trans (zw_iload_n (show decode cX12_odds 26 = .ok (.iload_n 3, 1) by decide +kernel) rfl) ?_
    refine Iff.trans (zw_if_ne (t := 34) (show decode cX12_odds 27 = .ok (.ifCond .ne 7, 3) by decide +kernel) (by decide)) ?_
    refine zw_ite ?_ ?_
    · refine Iff.trans (zw_iconst (x := 1) (show decode cX12_odds 30 = .ok (.iconst 1, 1) by decide +kernel) (by decide)) ?_
      refine Iff.trans (zw_goto (t := 35) (show decode cX12_odds 31 = .ok (.goto 4, 3) by decide +kernel) (by decide)) ?_
      exact Iff.rfl
    · refine Iff.trans (zw_iconst (x := 0) (show decode cX12_odds 34 = .ok (.iconst 0, 1) by decide +kernel) (by decide)) ?_
      exact Iff.rfl

theorem bX12_odds_35 {d : Nat} {σ : zS} {Q : Option Value → zS → Prop} (hl : zLay σ) {x1 x2 x3 y0 y1 y2 : Int32} : zW (d + 1) kX12_odds 35 [.ref 131, .int x1, .int x2, .int x3] [.int y0, .int y1, .int y2, .ref 131] σ Q ↔ zCall d kX12_oddsOf [.ref 131, .int y2, .int y1, .int y0] σ (fun r σ' => zisN r = true ∧ zW (d + 1) kX12_odds 38 [.ref 131, .int x1, .int x2, .int x3] (zRstk r ++ []) σ' Q) := by
  refine Iff.trans (zw_invV (K' := kX12_oddsOf) (as' := [.int y2, .int y1, .int y0]) (rest := []) (show decode cX12_odds 35 = .ok (.invokevirtual 350, 3) by decide +kernel) (by rfl) rfl rfl rfl (hl.k2 zk_131) (by decide) (hl.n2 zk_131) ⟨Nat.le_of_ble_eq_true rfl, Nat.le_of_ble_eq_true rfl, Nat.le_of_ble_eq_true rfl⟩) ?_
  exact Iff.rfl

theorem bX12_odds_38 {d : Nat} {σ : zS} {Q : Option Value → zS → Prop} (hl : zLay σ) {x1 x2 x3 y0 : Int32} : zW (d + 1) kX12_odds 38 [.ref 131, .int x1, .int x2, .int x3] [.int y0] σ Q ↔ Q (some (.int y0)) σ := by
  refine Iff.trans (zw_goto (t := 42) (show decode cX12_odds 38 = .ok (.goto 4, 3) by decide +kernel) (by decide)) ?_
  exact zw_iret1 (show decode cX12_odds 42 = .ok (.ireturn, 1) by decide +kernel) rfl

theorem bX12_aloneOf_0 {d : Nat} {σ : zS} {Q : Option Value → zS → Prop} (hl : zLay σ) {x1 x2 x3 x4 x5 : Int32} {j6 : Int64} : zCall (d + 1) kX12_aloneOf [.ref 131, .int x1, .int x2, .int x3, .int x4, .int x5, .long j6] σ Q ↔ zCall d kX12_keepRace [.ref 131] σ (fun r σ' => zisN r = true ∧ zW (d + 1) kX12_aloneOf 4 [.ref 131, .int x1, .int x2, .int x3, .int x4, .int x5, .long j6, .retAddr 1, .retAddr 0] (zRstk r ++ []) σ' Q) := by
  show zW (d + 1) kX12_aloneOf 0 [.ref 131, .int x1, .int x2, .int x3, .int x4, .int x5, .long j6, .retAddr 1, .retAddr 0] [] σ Q ↔ _
  refine Iff.trans (zw_aload_n (show decode cX12_aloneOf 0 = .ok (.aload_n 0, 1) by decide +kernel) rfl) ?_
  refine Iff.trans (zw_invV (K' := kX12_keepRace) (as' := []) (rest := []) (show decode cX12_aloneOf 1 = .ok (.invokevirtual 337, 3) by decide +kernel) (by rfl) rfl rfl rfl (hl.k2 zk_131) (by decide) (hl.n2 zk_131) ⟨Nat.le_of_ble_eq_true rfl, Nat.le_of_ble_eq_true rfl, Nat.le_of_ble_eq_true rfl⟩) ?_
  exact Iff.rfl

theorem bX12_aloneOf_4 {d : Nat} {σ : zS} {Q : Option Value → zS → Prop} (hl : zLay σ) {x1 x2 x3 x4 x5 : Int32} {j6 : Int64} : zW (d + 1) kX12_aloneOf 4 [.ref 131, .int x1, .int x2, .int x3, .int x4, .int x5, .long j6, .retAddr 1, .retAddr 0] [] σ Q ↔ zCall d kX12_join [.ref 131, .int x2, .int x3, .int x4, .int x5] (zsI σ 131 (upd (upd (zI σ 131) 19 x1) 20 0)) (fun r σ' => zisN r = true ∧ zW (d + 1) kX12_aloneOf 24 [.ref 131, .int x1, .int x2, .int x3, .int x4, .int x5, .long j6, .retAddr 1, .retAddr 0] (zRstk r ++ []) σ' Q) := by
  refine Iff.trans (zw_aload_n (show decode cX12_aloneOf 4 = .ok (.aload_n 0, 1) by decide +kernel) rfl) ?_
  refine Iff.trans (zw_iload_n (show decode cX12_aloneOf 5 = .ok (.iload_n 1, 1) by decide +kernel) rfl) ?_
  refine Iff.trans (zw_putI (show decode cX12_aloneOf 6 = .ok (.putfield 45, 3) by decide +kernel) (by decide +kernel : zfld 12 45 = some (12, 19)) (hl.k2 zk_131) (hl.n2 zk_131) rfl (Or.inl rfl) (σ' := (zsI σ 131 (upd (zI σ 131) 19 x1))) rfl) ?_
  refine Iff.trans (zw_aload_n (show decode cX12_aloneOf 9 = .ok (.aload_n 0, 1) by decide +kernel) rfl) ?_
  refine Iff.trans (zw_iconst (x := 0) (show decode cX12_aloneOf 10 = .ok (.iconst 0, 1) by decide +kernel) (by decide)) ?_
  refine Iff.trans (zw_putI (show decode cX12_aloneOf 11 = .ok (.putfield 222, 3) by decide +kernel) (by decide +kernel : zfld 12 222 = some (12, 20)) (hl.I.k2 zk_131) (hl.I.n2 zk_131) rfl (Or.inl rfl) (σ' := (zsI σ 131 (upd (upd (zI σ 131) 19 x1) 20 0))) (Eq.trans (congrArg (fun f => zsI (zsI σ 131 (upd (zI σ 131) 19 x1)) 131 (upd f 20 0)) zI_self) zsI_s)) ?_
  refine Iff.trans (zw_aload_n (show decode cX12_aloneOf 14 = .ok (.aload_n 0, 1) by decide +kernel) rfl) ?_
  refine Iff.trans (zw_iload_n (show decode cX12_aloneOf 15 = .ok (.iload_n 2, 1) by decide +kernel) rfl) ?_
  refine Iff.trans (zw_iload_n (show decode cX12_aloneOf 16 = .ok (.iload_n 3, 1) by decide +kernel) rfl) ?_
  refine Iff.trans (zw_iload (show decode cX12_aloneOf 17 = .ok (.iload 4, 2) by decide +kernel) rfl) ?_
  refine Iff.trans (zw_iload (show decode cX12_aloneOf 19 = .ok (.iload 5, 2) by decide +kernel) rfl) ?_
  refine Iff.trans (zw_invV (K' := kX12_join) (as' := [.int x2, .int x3, .int x4, .int x5]) (rest := []) (show decode cX12_aloneOf 21 = .ok (.invokevirtual 244, 3) by decide +kernel) (by rfl) rfl rfl rfl (hl.I.k2 zk_131) (by decide) (hl.I.n2 zk_131) ⟨Nat.le_of_ble_eq_true rfl, Nat.le_of_ble_eq_true rfl, Nat.le_of_ble_eq_true rfl⟩) ?_
  exact Iff.rfl

theorem bX12_aloneOf_24 {d : Nat} {σ : zS} {Q : Option Value → zS → Prop} (hl : zLay σ) {x1 x2 x3 x4 x5 : Int32} {j6 : Int64} : zW (d + 1) kX12_aloneOf 24 [.ref 131, .int x1, .int x2, .int x3, .int x4, .int x5, .long j6, .retAddr 1, .retAddr 0] [] σ Q ↔ zCall d kX12_goRace [.ref 131, .long j6] σ (fun r σ' => zisN r = true ∧ zW (d + 1) kX12_aloneOf 30 [.ref 131, .int x1, .int x2, .int x3, .int x4, .int x5, .long j6, .retAddr 1, .retAddr 0] (zRstk r ++ []) σ' Q) := by
  refine Iff.trans (zw_aload_n (show decode cX12_aloneOf 24 = .ok (.aload_n 0, 1) by decide +kernel) rfl) ?_
  refine Iff.trans (zw_lload (show decode cX12_aloneOf 25 = .ok (.lload 6, 2) by decide +kernel) rfl) ?_
  refine Iff.trans (zw_invV (K' := kX12_goRace) (as' := [.long j6]) (rest := []) (show decode cX12_aloneOf 27 = .ok (.invokevirtual 334, 3) by decide +kernel) (by rfl) rfl rfl rfl (hl.k2 zk_131) (by decide) (hl.n2 zk_131) ⟨Nat.le_of_ble_eq_true rfl, Nat.le_of_ble_eq_true rfl, Nat.le_of_ble_eq_true rfl⟩) ?_
  exact Iff.rfl

theorem bX12_aloneOf_30 {d : Nat} {σ : zS} {Q : Option Value → zS → Prop} (hl : zLay σ) {x1 x2 x3 x4 x5 : Int32} {j6 : Int64} : zW (d + 1) kX12_aloneOf 30 [.ref 131, .int x1, .int x2, .int x3, .int x4, .int x5, .long j6, .retAddr 1, .retAddr 0] [] σ Q ↔ zCall d kX12_isOut [.ref 131, .int 0] σ (fun r σ' => zisN r = true ∧ zW (d + 1) kX12_aloneOf 35 [.ref 131, .int x1, .int x2, .int x3, .int x4, .int x5, .long j6, .retAddr 1, .retAddr 0] (zRstk r ++ []) σ' Q) := by
  refine Iff.trans (zw_aload_n (show decode cX12_aloneOf 30 = .ok (.aload_n 0, 1) by decide +kernel) rfl) ?_
  refine Iff.trans (zw_iconst (x := 0) (show decode cX12_aloneOf 31 = .ok (.iconst 0, 1) by decide +kernel) (by decide)) ?_
  refine Iff.trans (zw_invV (K' := kX12_isOut) (as' := [.int 0]) (rest := []) (show decode cX12_aloneOf 32 = .ok (.invokevirtual 235, 3) by decide +kernel) (by rfl) rfl rfl rfl (hl.k2 zk_131) (by decide) (hl.n2 zk_131) ⟨Nat.le_of_ble_eq_true rfl, Nat.le_of_ble_eq_true rfl, Nat.le_of_ble_eq_true rfl⟩) ?_
  exact Iff.rfl

theorem bX12_aloneOf_35 {d : Nat} {σ : zS} {Q : Option Value → zS → Prop} (hl : zLay σ) {x1 x2 x3 x4 x5 y0 : Int32} {j6 : Int64} : zW (d + 1) kX12_aloneOf 35 [.ref 131, .int x1, .int x2, .int x3, .int x4, .int x5, .long j6, .retAddr 1, .retAddr 0] [.int y0] σ Q ↔ (if y0 = (0 : Int32) then zW (d + 1) kX12_aloneOf 50 [.ref 131, .int x1, .int x2, .int x3, .int x4, .int x5, .long j6, .retAddr 1, .retAddr 0] [.int 99] σ Q else zCall d kX12_of [.ref 131, .int 0, .int 7] σ (fun r σ' => zisN r = true ∧ zW (d + 1) kX12_aloneOf 45 [.ref 131, .int x1, .int x2, .int x3, .int x4, .int x5, .long j6, .retAddr 1, .retAddr 0] (zRstk r ++ []) σ' Q)) := by
  refine Iff.trans (zw_if_eq (t := 48) (show decode cX12_aloneOf 35 = .ok (.ifCond .eq 13, 3) by decide +kernel) (by decide)) ?_
  refine zw_ite ?_ ?_
  · refine Iff.trans (zw_bipush (x := 99) (show decode cX12_aloneOf 48 = .ok (.bipush 99, 2) by decide +kernel) (by decide)) ?_
    exact Iff.rfl
  · refine Iff.trans (zw_aload_n (show decode cX12_aloneOf 38 = .ok (.aload_n 0, 1) by decide +kernel) rfl) ?_
    refine Iff.trans (zw_iconst (x := 0) (show decode cX12_aloneOf 39 = .ok (.iconst 0, 1) by decide +kernel) (by decide)) ?_
    refine Iff.trans (zw_bipush (x := 7) (show decode cX12_aloneOf 40 = .ok (.bipush 7, 2) by decide +kernel) (by decide)) ?_
    refine Iff.trans (zw_invV (K' := kX12_of) (as' := [.int 0, .int 7]) (rest := []) (show decode cX12_aloneOf 42 = .ok (.invokevirtual 229, 3) by decide +kernel) (by rfl) rfl rfl rfl (hl.k2 zk_131) (by decide) (hl.n2 zk_131) ⟨Nat.le_of_ble_eq_true rfl, Nat.le_of_ble_eq_true rfl, Nat.le_of_ble_eq_true rfl⟩) ?_
    exact Iff.rfl

theorem bX12_aloneOf_45 {d : Nat} {σ : zS} {Q : Option Value → zS → Prop} (hl : zLay σ) {x1 x2 x3 x4 x5 y0 : Int32} {j6 : Int64} : zW (d + 1) kX12_aloneOf 45 [.ref 131, .int x1, .int x2, .int x3, .int x4, .int x5, .long j6, .retAddr 1, .retAddr 0] [.int y0] σ Q ↔ zW (d + 1) kX12_aloneOf 50 [.ref 131, .int x1, .int x2, .int x3, .int x4, .int x5, .long j6, .retAddr 1, .retAddr 0] [.int y0] σ Q := by
  refine Iff.trans (zw_goto (t := 50) (show decode cX12_aloneOf 45 = .ok (.goto 5, 3) by decide +kernel) (by decide)) ?_
  exact Iff.rfl

theorem bX12_aloneOf_50 {d : Nat} {σ : zS} {Q : Option Value → zS → Prop} (hl : zLay σ) {x1 x2 x3 x4 x5 y0 : Int32} {j6 : Int64} : zW (d + 1) kX12_aloneOf 50 [.ref 131, .int x1, .int x2, .int x3, .int x4, .int x5, .long j6, .retAddr 1, .retAddr 0] [.int y0] σ Q ↔ zCall d kX12_putBack [.ref 131] σ (fun r σ' => zisN r = true ∧ zW (d + 1) kX12_aloneOf 56 [.ref 131, .int x1, .int x2, .int x3, .int x4, .int x5, .long j6, .retAddr 1, .int y0] (zRstk r ++ []) σ' Q) := by
  refine Iff.trans (zw_istore (ls' := [.ref 131, .int x1, .int x2, .int x3, .int x4, .int x5, .long j6, .retAddr 1, .int y0]) (show decode cX12_aloneOf 50 = .ok (.istore 8, 2) by decide +kernel) (zset_s (Nat.le_of_ble_eq_true rfl) rfl)) ?_
  refine Iff.trans (zw_aload_n (show decode cX12_aloneOf 52 = .ok (.aload_n 0, 1) by decide +kernel) rfl) ?_
  refine Iff.trans (zw_invV (K' := kX12_putBack) (as' := []) (rest := []) (show decode cX12_aloneOf 53 = .ok (.invokevirtual 344, 3) by decide +kernel) (by rfl) rfl rfl rfl (hl.k2 zk_131) (by decide) (hl.n2 zk_131) ⟨Nat.le_of_ble_eq_true rfl, Nat.le_of_ble_eq_true rfl, Nat.le_of_ble_eq_true rfl⟩) ?_
  exact Iff.rfl

theorem bX12_aloneOf_56 {d : Nat} {σ : zS} {Q : Option Value → zS → Prop} (hl : zLay σ) {x1 x2 x3 x4 x5 x8 : Int32} {j6 : Int64} : zW (d + 1) kX12_aloneOf 56 [.ref 131, .int x1, .int x2, .int x3, .int x4, .int x5, .long j6, .retAddr 1, .int x8] [] σ Q ↔ Q (some (.int x8)) σ := by
  refine Iff.trans (zw_iload (show decode cX12_aloneOf 56 = .ok (.iload 8, 2) by decide +kernel) rfl) ?_
  exact zw_iret1 (show decode cX12_aloneOf 58 = .ok (.ireturn, 1) by decide +kernel) rfl

theorem bX12_aloneBy_0 {d : Nat} {σ : zS} {Q : Option Value → zS → Prop} (hl : zLay σ) {x1 x2 x3 : Int32} {j4 : Int64} : zCall (d + 1) kX12_aloneBy [.ref 131, .int x1, .int x2, .int x3, .long j4] σ Q ↔ (vp_in x2 11 ∧ (vp_in x2 11 ∧ (vp_in x2 11 ∧ zCall d kX12_aloneOf [.ref 131, .int x1, .int (zI σ 136 (x2 : Int32).toNatClampNeg), .int (zI σ 137 (x2 : Int32).toNatClampNeg), .int (zI σ 138 (x2 : Int32).toNatClampNeg), .int x3, .long j4] σ (fun r σ' => zisN r = true ∧ zW (d + 1) kX12_aloneBy 26 [.ref 131, .int x1, .int x2, .int x3, .long j4, .retAddr 1] (zRstk r ++ []) σ' Q)))) := by
  show zW (d + 1) kX12_aloneBy 0 [.ref 131, .int x1, .int x2, .int x3, .long j4, .retAddr 1] [] σ Q ↔ _
  refine Iff.trans (zw_aload_n (show decode cX12_aloneBy 0 = .ok (.aload_n 0, 1) by decide +kernel) rfl) ?_
  refine Iff.trans (zw_iload_n (show decode cX12_aloneBy 1 = .ok (.iload_n 1, 1) by decide +kernel) rfl) ?_
  refine Iff.trans (zw_aload_n (show decode cX12_aloneBy 2 = .ok (.aload_n 0, 1) by decide +kernel) rfl) ?_
  refine Iff.trans (zw_get (show decode cX12_aloneBy 3 = .ok (.getfield 23, 3) by decide +kernel) (by decide +kernel : zfld 12 23 = some (12, 8)) (hl.k2 zk_131) (hl.n2 zk_131) (zgetR (v := 136) (hl.r zrt_131_8) rfl)) ?_
  refine Iff.trans (zw_iload_n (show decode cX12_aloneBy 6 = .ok (.iload_n 2, 1) by decide +kernel) rfl) ?_
  refine Iff.trans (zw_iald2 (show decode cX12_aloneBy 7 = .ok (.iaload, 1) by decide +kernel) (hl.k2 zk_136) (hl.n2 zk_136) (hl.l2 zk_136 zl_136) (w := zI σ 136 (x2 : Int32).toNatClampNeg) rfl) ?_
  refine zw_and ?_
  refine Iff.trans (zw_aload_n (show decode cX12_aloneBy 8 = .ok (.aload_n 0, 1) by decide +kernel) rfl) ?_
  refine Iff.trans (zw_get (show decode cX12_aloneBy 9 = .ok (.getfield 26, 3) by decide +kernel) (by decide +kernel : zfld 12 26 = some (12, 9)) (hl.k2 zk_131) (hl.n2 zk_131) (zgetR (v := 137) (hl.r zrt_131_9) rfl)) ?_
  refine Iff.trans (zw_iload_n (show decode cX12_aloneBy 12 = .ok (.iload_n 2, 1) by decide +kernel) rfl) ?_
  refine Iff.trans (zw_iald2 (show decode cX12_aloneBy 13 = .ok (.iaload, 1) by decide +kernel) (hl.k2 zk_137) (hl.n2 zk_137) (hl.l2 zk_137 zl_137) (w := zI σ 137 (x2 : Int32).toNatClampNeg) rfl) ?_
  refine zw_and ?_
  refine Iff.trans (zw_aload_n (show decode cX12_aloneBy 14 = .ok (.aload_n 0, 1) by decide +kernel) rfl) ?_
  refine Iff.trans (zw_get (show decode cX12_aloneBy 15 = .ok (.getfield 29, 3) by decide +kernel) (by decide +kernel : zfld 12 29 = some (12, 10)) (hl.k2 zk_131) (hl.n2 zk_131) (zgetR (v := 138) (hl.r zrt_131_10) rfl)) ?_
  refine Iff.trans (zw_iload_n (show decode cX12_aloneBy 18 = .ok (.iload_n 2, 1) by decide +kernel) rfl) ?_
  refine Iff.trans (zw_iald2 (show decode cX12_aloneBy 19 = .ok (.iaload, 1) by decide +kernel) (hl.k2 zk_138) (hl.n2 zk_138) (hl.l2 zk_138 zl_138) (w := zI σ 138 (x2 : Int32).toNatClampNeg) rfl) ?_
  refine zw_and ?_
  refine Iff.trans (zw_iload_n (show decode cX12_aloneBy 20 = .ok (.iload_n 3, 1) by decide +kernel) rfl) ?_
  refine Iff.trans (zw_lload (show decode cX12_aloneBy 21 = .ok (.lload 4, 2) by decide +kernel) rfl) ?_
  refine Iff.trans (zw_invV (K' := kX12_aloneOf) (as' := [.int x1, .int (zI σ 136 (x2 : Int32).toNatClampNeg), .int (zI σ 137 (x2 : Int32).toNatClampNeg), .int (zI σ 138 (x2 : Int32).toNatClampNeg), .int x3, .long j4]) (rest := []) (show decode cX12_aloneBy 23 = .ok (.invokevirtual 353, 3) by decide +kernel) (by rfl) rfl rfl rfl (hl.k2 zk_131) (by decide) (hl.n2 zk_131) ⟨Nat.le_of_ble_eq_true rfl, Nat.le_of_ble_eq_true rfl, Nat.le_of_ble_eq_true rfl⟩) ?_
  exact Iff.rfl

theorem bX12_aloneBy_26 {d : Nat} {σ : zS} {Q : Option Value → zS → Prop} (hl : zLay σ) {x1 x2 x3 y0 : Int32} {j4 : Int64} : zW (d + 1) kX12_aloneBy 26 [.ref 131, .int x1, .int x2, .int x3, .long j4, .retAddr 1] [.int y0] σ Q ↔ Q (some (.int y0)) σ := by
  exact zw_iret1 (show decode cX12_aloneBy 26 = .ok (.ireturn, 1) by decide +kernel) rfl

theorem bX12_canBegin_0 {d : Nat} {σ : zS} {Q : Option Value → zS → Prop} (hl : zLay σ) {x1 x2 x3 : Int32} : zCall (d + 1) kX12_canBegin [.ref 131, .int x1, .int x2, .int x3] σ Q ↔ (vp_in x2 11 ∧ zCall d kX12_canLie [.ref 131, .int x1, .int (zI σ 136 (x2 : Int32).toNatClampNeg), .int 0, .int x3] σ (fun r σ' => zisN r = true ∧ zW (d + 1) kX12_canBegin 13 [.ref 131, .int x1, .int x2, .int x3] (zRstk r ++ []) σ' Q)) := by
  show zW (d + 1) kX12_canBegin 0 [.ref 131, .int x1, .int x2, .int x3] [] σ Q ↔ _
  refine Iff.trans (zw_aload_n (show decode cX12_canBegin 0 = .ok (.aload_n 0, 1) by decide +kernel) rfl) ?_
  refine Iff.trans (zw_iload_n (show decode cX12_canBegin 1 = .ok (.iload_n 1, 1) by decide +kernel) rfl) ?_
  refine Iff.trans (zw_aload_n (show decode cX12_canBegin 2 = .ok (.aload_n 0, 1) by decide +kernel) rfl) ?_
  refine Iff.trans (zw_get (show decode cX12_canBegin 3 = .ok (.getfield 23, 3) by decide +kernel) (by decide +kernel : zfld 12 23 = some (12, 8)) (hl.k2 zk_131) (hl.n2 zk_131) (zgetR (v := 136) (hl.r zrt_131_8) rfl)) ?_
  refine Iff.trans (zw_iload_n (show decode cX12_canBegin 6 = .ok (.iload_n 2, 1) by decide +kernel) rfl) ?_
  refine Iff.trans (zw_iald2 (show decode cX12_canBegin 7 = .ok (.iaload, 1) by decide +kernel) (hl.k2 zk_136) (hl.n2 zk_136) (hl.l2 zk_136 zl_136) (w := zI σ 136 (x2 : Int32).toNatClampNeg) rfl) ?_
  refine zw_and ?_
  refine Iff.trans (zw_iconst (x := 0) (show decode cX12_canBegin 8 = .ok (.iconst 0, 1) by decide +kernel) (by decide)) ?_
  refine Iff.trans (zw_iload_n (show decode cX12_canBegin 9 = .ok (.iload_n 3, 1) by decide +kernel) rfl) ?_
  refine Iff.trans (zw_invV (K' := kX12_canLie) (as' := [.int x1, .int (zI σ 136 (x2 : Int32).toNatClampNeg), .int 0, .int x3]) (rest := []) (show decode cX12_canBegin 10 = .ok (.invokevirtual 218, 3) by decide +kernel) (by rfl) rfl rfl rfl (hl.k2 zk_131) (by decide) (hl.n2 zk_131) ⟨Nat.le_of_ble_eq_true rfl, Nat.le_of_ble_eq_true rfl, Nat.le_of_ble_eq_true rfl⟩) ?_
  exact Iff.rfl

theorem bX12_canBegin_13 {d : Nat} {σ : zS} {Q : Option Value → zS → Prop} (hl : zLay σ) {x1 x2 x3 y0 : Int32} : zW (d + 1) kX12_canBegin 13 [.ref 131, .int x1, .int x2, .int x3] [.int y0] σ Q ↔ ((y0 = (0 : Int32) ∨ y0 = 1) ∧ Q (some (.int y0)) σ) := by
  exact zw_iret2 (show decode cX12_canBegin 13 = .ok (.ireturn, 1) by decide +kernel) rfl

theorem bX12_alone_0 {d : Nat} {σ : zS} {Q : Option Value → zS → Prop} (hl : zLay σ) {x1 x2 x3 : Int32} {j4 : Int64} : zCall (d + 1) kX12_alone [.ref 131, .int x1, .int x2, .int x3, .long j4] σ Q ↔ zCall d kX12_isBrook [.ref 131, .int x1] (zsI σ 131 (upd (zI σ 131) 0 0)) (fun r σ' => zisN r = true ∧ zW (d + 1) kX12_alone 10 [.ref 131, .int x1, .int x2, .int x3, .long j4, .retAddr 1] (zRstk r ++ []) σ' Q) := by
  show zW (d + 1) kX12_alone 0 [.ref 131, .int x1, .int x2, .int x3, .long j4, .retAddr 1] [] σ Q ↔ _
  refine Iff.trans (zw_aload_n (show decode cX12_alone 0 = .ok (.aload_n 0, 1) by decide +kernel) rfl) ?_
  refine Iff.trans (zw_iconst (x := 0) (show decode cX12_alone 1 = .ok (.iconst 0, 1) by decide +kernel) (by decide)) ?_
  refine Iff.trans (zw_putI (show decode cX12_alone 2 = .ok (.putfield 118, 3) by decide +kernel) (by decide +kernel : zfld 12 118 = some (12, 0)) (hl.k2 zk_131) (hl.n2 zk_131) rfl (Or.inl rfl) (σ' := (zsI σ 131 (upd (zI σ 131) 0 0))) rfl) ?_
  refine Iff.trans (zw_aload_n (show decode cX12_alone 5 = .ok (.aload_n 0, 1) by decide +kernel) rfl) ?_
  refine Iff.trans (zw_iload_n (show decode cX12_alone 6 = .ok (.iload_n 1, 1) by decide +kernel) rfl) ?_
  refine Iff.trans (zw_invV (K' := kX12_isBrook) (as' := [.int x1]) (rest := []) (show decode cX12_alone 7 = .ok (.invokevirtual 193, 3) by decide +kernel) (by rfl) rfl rfl rfl (hl.I.k2 zk_131) (by decide) (hl.I.n2 zk_131) ⟨Nat.le_of_ble_eq_true rfl, Nat.le_of_ble_eq_true rfl, Nat.le_of_ble_eq_true rfl⟩) ?_
  exact Iff.rfl

theorem bX12_alone_10 {d : Nat} {σ : zS} {Q : Option Value → zS → Prop} (hl : zLay σ) {x1 x2 x3 y0 : Int32} {j4 : Int64} : zW (d + 1) kX12_alone 10 [.ref 131, .int x1, .int x2, .int x3, .long j4, .retAddr 1] [.int y0] σ Q ↔ (if y0 = (0 : Int32) then Q (some (.int (-1))) σ else zCall d kX12_isStick [.ref 131, .int x2] σ (fun r σ' => zisN r = true ∧ zW (d + 1) kX12_alone 18 [.ref 131, .int x1, .int x2, .int x3, .long j4, .retAddr 1] (zRstk r ++ []) σ' Q)) := by
  refine Iff.trans (zw_if_eq (t := 43) (show decode cX12_alone 10 = .ok (.ifCond .eq 33, 3) by decide +kernel) (by decide)) ?_
  refine zw_ite ?_ ?_
  · refine Iff.trans (zw_iconst (x := (-1)) (show decode cX12_alone 43 = .ok (.iconst (-1), 1) by decide +kernel) (by decide)) ?_
    exact zw_iret1 (show decode cX12_alone 44 = .ok (.ireturn, 1) by decide +kernel) rfl
  · refine Iff.trans (zw_aload_n (show decode cX12_alone 13 = .ok (.aload_n 0, 1) by decide +kernel) rfl) ?_
    refine Iff.trans (zw_iload_n (show decode cX12_alone 14 = .ok (.iload_n 2, 1) by decide +kernel) rfl) ?_
    refine Iff.trans (zw_invV (K' := kX12_isStick) (as' := [.int x2]) (rest := []) (show decode cX12_alone 15 = .ok (.invokevirtual 209, 3) by decide +kernel) (by rfl) rfl rfl rfl (hl.k2 zk_131) (by decide) (hl.n2 zk_131) ⟨Nat.le_of_ble_eq_true rfl, Nat.le_of_ble_eq_true rfl, Nat.le_of_ble_eq_true rfl⟩) ?_
    exact Iff.rfl

theorem bX12_alone_18 {d : Nat} {σ : zS} {Q : Option Value → zS → Prop} (hl : zLay σ) {x1 x2 x3 y0 : Int32} {j4 : Int64} : zW (d + 1) kX12_alone 18 [.ref 131, .int x1, .int x2, .int x3, .long j4, .retAddr 1] [.int y0] σ Q ↔ (if y0 = (0 : Int32) then Q (some (.int (-1))) σ else zCall d kX12_canBegin [.ref 131, .int x1, .int x2, .int x3] σ (fun r σ' => zisN r = true ∧ zW (d + 1) kX12_alone 28 [.ref 131, .int x1, .int x2, .int x3, .long j4, .retAddr 1] (zRstk r ++ []) σ' Q)) := by
  refine Iff.trans (zw_if_eq (t := 43) (show decode cX12_alone 18 = .ok (.ifCond .eq 25, 3) by decide +kernel) (by decide)) ?_
  refine zw_ite ?_ ?_
  · refine Iff.trans (zw_iconst (x := (-1)) (show decode cX12_alone 43 = .ok (.iconst (-1), 1) by decide +kernel) (by decide)) ?_
    exact zw_iret1 (show decode cX12_alone 44 = .ok (.ireturn, 1) by decide +kernel) rfl
  · refine Iff.trans (zw_aload_n (show decode cX12_alone 21 = .ok (.aload_n 0, 1) by decide +kernel) rfl) ?_
    refine Iff.trans (zw_iload_n (show decode cX12_alone 22 = .ok (.iload_n 1, 1) by decide +kernel) rfl) ?_
    refine Iff.trans (zw_iload_n (show decode cX12_alone 23 = .ok (.iload_n 2, 1) by decide +kernel) rfl) ?_
    refine Iff.trans (zw_iload_n (show decode cX12_alone 24 = .ok (.iload_n 3, 1) by decide +kernel) rfl) ?_
    refine Iff.trans (zw_invV (K' := kX12_canBegin) (as' := [.int x1, .int x2, .int x3]) (rest := []) (show decode cX12_alone 25 = .ok (.invokevirtual 357, 3) by decide +kernel) (by rfl) rfl rfl rfl (hl.k2 zk_131) (by decide) (hl.n2 zk_131) ⟨Nat.le_of_ble_eq_true rfl, Nat.le_of_ble_eq_true rfl, Nat.le_of_ble_eq_true rfl⟩) ?_
    exact Iff.rfl

theorem bX12_alone_28 {d : Nat} {σ : zS} {Q : Option Value → zS → Prop} (hl : zLay σ) {x1 x2 x3 y0 : Int32} {j4 : Int64} : zW (d + 1) kX12_alone 28 [.ref 131, .int x1, .int x2, .int x3, .long j4, .retAddr 1] [.int y0] σ Q ↔ (if y0 = (0 : Int32) then Q (some (.int (-1))) σ else zCall d kX12_aloneBy [.ref 131, .int x1, .int x2, .int x3, .long j4] σ (fun r σ' => zisN r = true ∧ zW (d + 1) kX12_alone 40 [.ref 131, .int x1, .int x2, .int x3, .long j4, .retAddr 1] (zRstk r ++ []) σ' Q)) := by
  refine Iff.trans (zw_if_eq (t := 43) (show decode cX12_alone 28 = .ok (.ifCond .eq 15, 3) by decide +kernel) (by decide)) ?_
  refine zw_ite ?_ ?_
  · refine Iff.trans (zw_iconst (x := (-1)) (show decode cX12_alone 43 = .ok (.iconst (-1), 1) by decide +kernel) (by decide)) ?_
    exact zw_iret1 (show decode cX12_alone 44 = .ok (.ireturn, 1) by decide +kernel) rfl
  · refine Iff.trans (zw_aload_n (show decode cX12_alone 31 = .ok (.aload_n 0, 1) by decide +kernel) rfl) ?_
    refine Iff.trans (zw_iload_n (show decode cX12_alone 32 = .ok (.iload_n 1, 1) by decide +kernel) rfl) ?_
    refine Iff.trans (zw_iload_n (show decode cX12_alone 33 = .ok (.iload_n 2, 1) by decide +kernel) rfl) ?_
    refine Iff.trans (zw_iload_n (show decode cX12_alone 34 = .ok (.iload_n 3, 1) by decide +kernel) rfl) ?_
    refine Iff.trans (zw_lload (show decode cX12_alone 35 = .ok (.lload 4, 2) by decide +kernel) rfl) ?_
    refine Iff.trans (zw_invV (K' := kX12_aloneBy) (as' := [.int x1, .int x2, .int x3, .long j4]) (rest := []) (show decode cX12_alone 37 = .ok (.invokevirtual 360, 3) by decide +kernel) (by rfl) rfl rfl rfl (hl.k2 zk_131) (by decide) (hl.n2 zk_131) ⟨Nat.le_of_ble_eq_true rfl, Nat.le_of_ble_eq_true rfl, Nat.le_of_ble_eq_true rfl⟩) ?_
    exact Iff.rfl

theorem bX12_alone_40 {d : Nat} {σ : zS} {Q : Option Value → zS → Prop} (hl : zLay σ) {x1 x2 x3 y0 : Int32} {j4 : Int64} : zW (d + 1) kX12_alone 40 [.ref 131, .int x1, .int x2, .int x3, .long j4, .retAddr 1] [.int y0] σ Q ↔ Q (some (.int y0)) σ := by
  refine Iff.trans (zw_goto (t := 44) (show decode cX12_alone 40 = .ok (.goto 4, 3) by decide +kernel) (by decide)) ?_
  exact zw_iret1 (show decode cX12_alone 44 = .ok (.ireturn, 1) by decide +kernel) rfl

theorem bX12_luck_0 {d : Nat} {σ : zS} {Q : Option Value → zS → Prop} (hl : zLay σ) {x1 x2 x3 x4 : Int32} : zCall (d + 1) kX12_luck [.ref 131, .int x1, .int x2, .int x3, .int x4] σ Q ↔ zCall d kX12_areOdds [.ref 131, .int x1, .int x2] (zsI σ 131 (upd (zI σ 131) 0 0)) (fun r σ' => zisN r = true ∧ zW (d + 1) kX12_luck 11 [.ref 131, .int x1, .int x2, .int x3, .int x4, .retAddr 0, .retAddr 0, .retAddr 0] (zRstk r ++ []) σ' Q) := by
  show zW (d + 1) kX12_luck 0 [.ref 131, .int x1, .int x2, .int x3, .int x4, .retAddr 0, .retAddr 0, .retAddr 0] [] σ Q ↔ _
  refine Iff.trans (zw_aload_n (show decode cX12_luck 0 = .ok (.aload_n 0, 1) by decide +kernel) rfl) ?_
  refine Iff.trans (zw_iconst (x := 0) (show decode cX12_luck 1 = .ok (.iconst 0, 1) by decide +kernel) (by decide)) ?_
  refine Iff.trans (zw_putI (show decode cX12_luck 2 = .ok (.putfield 118, 3) by decide +kernel) (by decide +kernel : zfld 12 118 = some (12, 0)) (hl.k2 zk_131) (hl.n2 zk_131) rfl (Or.inl rfl) (σ' := (zsI σ 131 (upd (zI σ 131) 0 0))) rfl) ?_
  refine Iff.trans (zw_aload_n (show decode cX12_luck 5 = .ok (.aload_n 0, 1) by decide +kernel) rfl) ?_
  refine Iff.trans (zw_iload_n (show decode cX12_luck 6 = .ok (.iload_n 1, 1) by decide +kernel) rfl) ?_
  refine Iff.trans (zw_iload_n (show decode cX12_luck 7 = .ok (.iload_n 2, 1) by decide +kernel) rfl) ?_
  refine Iff.trans (zw_invV (K' := kX12_areOdds) (as' := [.int x1, .int x2]) (rest := []) (show decode cX12_luck 8 = .ok (.invokevirtual 347, 3) by decide +kernel) (by rfl) rfl rfl rfl (hl.I.k2 zk_131) (by decide) (hl.I.n2 zk_131) ⟨Nat.le_of_ble_eq_true rfl, Nat.le_of_ble_eq_true rfl, Nat.le_of_ble_eq_true rfl⟩) ?_
  exact Iff.rfl

theorem bX12_luck_11 {d : Nat} {σ : zS} {Q : Option Value → zS → Prop} (hl : zLay σ) {x1 x2 x3 x4 y0 : Int32} : zW (d + 1) kX12_luck 11 [.ref 131, .int x1, .int x2, .int x3, .int x4, .retAddr 0, .retAddr 0, .retAddr 0] [.int y0] σ Q ↔ (if y0 = (0 : Int32) then Q (some (.int (-1))) σ else zCall d kX12_isIn [.int x3, .int 1, .int 20] σ (fun r σ' => zisN r = true ∧ zW (d + 1) kX12_luck 21 [.ref 131, .int x1, .int x2, .int x3, .int x4, .retAddr 0, .retAddr 0, .retAddr 0] (zRstk r ++ []) σ' Q)) := by
  refine Iff.trans (zw_if_eq (t := 34) (show decode cX12_luck 11 = .ok (.ifCond .eq 23, 3) by decide +kernel) (by decide)) ?_
  refine zw_ite ?_ ?_
  · refine Iff.trans (zw_iconst (x := (-1)) (show decode cX12_luck 34 = .ok (.iconst (-1), 1) by decide +kernel) (by decide)) ?_
    exact zw_iret1 (show decode cX12_luck 35 = .ok (.ireturn, 1) by decide +kernel) rfl
  · refine Iff.trans (zw_iload_n (show decode cX12_luck 14 = .ok (.iload_n 3, 1) by decide +kernel) rfl) ?_
    refine Iff.trans (zw_iconst (x := 1) (show decode cX12_luck 15 = .ok (.iconst 1, 1) by decide +kernel) (by decide)) ?_
    refine Iff.trans (zw_bipush (x := 20) (show decode cX12_luck 16 = .ok (.bipush 20, 2) by decide +kernel) (by decide)) ?_
    refine Iff.trans (zw_invS (K' := kX12_isIn) (as := [.int x3, .int 1, .int 20]) (rest := []) (show decode cX12_luck 18 = .ok (.invokestatic 163, 3) by decide +kernel) (by rfl) rfl rfl rfl ⟨Nat.le_of_ble_eq_true rfl, Nat.le_of_ble_eq_true rfl, Nat.le_of_ble_eq_true rfl⟩) ?_
    exact Iff.rfl

theorem bX12_luck_21 {d : Nat} {σ : zS} {Q : Option Value → zS → Prop} (hl : zLay σ) {x1 x2 x3 x4 y0 : Int32} : zW (d + 1) kX12_luck 21 [.ref 131, .int x1, .int x2, .int x3, .int x4, .retAddr 0, .retAddr 0, .retAddr 0] [.int y0] σ Q ↔ (if y0 = (0 : Int32) then Q (some (.int (-1))) σ else zCall d kX12_isIn [.int x4, .int 0, .int x3] σ (fun r σ' => zisN r = true ∧ zW (d + 1) kX12_luck 31 [.ref 131, .int x1, .int x2, .int x3, .int x4, .retAddr 0, .retAddr 0, .retAddr 0] (zRstk r ++ []) σ' Q)) := by
  refine Iff.trans (zw_if_eq (t := 34) (show decode cX12_luck 21 = .ok (.ifCond .eq 13, 3) by decide +kernel) (by decide)) ?_
  refine zw_ite ?_ ?_
  · refine Iff.trans (zw_iconst (x := (-1)) (show decode cX12_luck 34 = .ok (.iconst (-1), 1) by decide +kernel) (by decide)) ?_
    exact zw_iret1 (show decode cX12_luck 35 = .ok (.ireturn, 1) by decide +kernel) rfl
  · refine Iff.trans (zw_iload (show decode cX12_luck 24 = .ok (.iload 4, 2) by decide +kernel) rfl) ?_
    refine Iff.trans (zw_iconst (x := 0) (show decode cX12_luck 26 = .ok (.iconst 0, 1) by decide +kernel) (by decide)) ?_
    refine Iff.trans (zw_iload_n (show decode cX12_luck 27 = .ok (.iload_n 3, 1) by decide +kernel) rfl) ?_
    refine Iff.trans (zw_invS (K' := kX12_isIn) (as := [.int x4, .int 0, .int x3]) (rest := []) (show decode cX12_luck 28 = .ok (.invokestatic 163, 3) by decide +kernel) (by rfl) rfl rfl rfl ⟨Nat.le_of_ble_eq_true rfl, Nat.le_of_ble_eq_true rfl, Nat.le_of_ble_eq_true rfl⟩) ?_
    exact Iff.rfl

theorem bX12_luck_31 {d : Nat} {σ : zS} {Q : Option Value → zS → Prop} (hl : zLay σ) {x1 x2 x3 x4 y0 : Int32} : zW (d + 1) kX12_luck 31 [.ref 131, .int x1, .int x2, .int x3, .int x4, .retAddr 0, .retAddr 0, .retAddr 0] [.int y0] σ Q ↔ (if y0 = (0 : Int32) then Q (some (.int (-1))) σ else zCall d kX12_oddsOf [.ref 131, .int x1, .int x2, .int 1] σ (fun r σ' => zisN r = true ∧ zW (d + 1) kX12_luck 43 [.ref 131, .int x1, .int x2, .int x3, .int x4, .retAddr 0, .retAddr 0, .retAddr 0] (zRstk r ++ []) σ' Q)) := by
  refine Iff.trans (zw_if_ne (t := 36) (show decode cX12_luck 31 = .ok (.ifCond .ne 5, 3) by decide +kernel) (by decide)) ?_
  refine zw_ite ?_ ?_
  · refine Iff.trans (zw_iconst (x := (-1)) (show decode cX12_luck 34 = .ok (.iconst (-1), 1) by decide +kernel) (by decide)) ?_
    exact zw_iret1 (show decode cX12_luck 35 = .ok (.ireturn, 1) by decide +kernel) rfl
  · refine Iff.trans (zw_aload_n (show decode cX12_luck 36 = .ok (.aload_n 0, 1) by decide +kernel) rfl) ?_
    refine Iff.trans (zw_iload_n (show decode cX12_luck 37 = .ok (.iload_n 1, 1) by decide +kernel) rfl) ?_
    refine Iff.trans (zw_iload_n (show decode cX12_luck 38 = .ok (.iload_n 2, 1) by decide +kernel) rfl) ?_
    refine Iff.trans (zw_iconst (x := 1) (show decode cX12_luck 39 = .ok (.iconst 1, 1) by decide +kernel) (by decide)) ?_
    refine Iff.trans (zw_invV (K' := kX12_oddsOf) (as' := [.int x1, .int x2, .int 1]) (rest := []) (show decode cX12_luck 40 = .ok (.invokevirtual 350, 3) by decide +kernel) (by rfl) rfl rfl rfl (hl.k2 zk_131) (by decide) (hl.n2 zk_131) ⟨Nat.le_of_ble_eq_true rfl, Nat.le_of_ble_eq_true rfl, Nat.le_of_ble_eq_true rfl⟩) ?_
    exact Iff.rfl

theorem bX12_luck_43 {d : Nat} {σ : zS} {Q : Option Value → zS → Prop} (hl : zLay σ) {x1 x2 x3 x4 y0 : Int32} : zW (d + 1) kX12_luck 43 [.ref 131, .int x1, .int x2, .int x3, .int x4, .retAddr 0, .retAddr 0, .retAddr 0] [.int y0] σ Q ↔ zW (d + 1) kX12_luck 48 [.ref 131, .int x1, .int x2, .int x3, .int x4, .int y0, .int 0, .retAddr 0] [] σ Q := by
  refine Iff.trans (zw_istore (ls' := [.ref 131, .int x1, .int x2, .int x3, .int x4, .int y0, .retAddr 0, .retAddr 0]) (show decode cX12_luck 43 = .ok (.istore 5, 2) by decide +kernel) (zset_s (Nat.le_of_ble_eq_true rfl) rfl)) ?_
  refine Iff.trans (zw_iconst (x := 0) (show decode cX12_luck 45 = .ok (.iconst 0, 1) by decide +kernel) (by decide)) ?_
  refine Iff.trans (zw_istore (ls' := [.ref 131, .int x1, .int x2, .int x3, .int x4, .int y0, .int 0, .retAddr 0]) (show decode cX12_luck 46 = .ok (.istore 6, 2) by decide +kernel) (zset_s (Nat.le_of_ble_eq_true rfl) rfl)) ?_
  exact Iff.rfl

theorem bX12_luck_48 {d : Nat} {σ : zS} {Q : Option Value → zS → Prop} (hl : zLay σ) {x1 x2 x3 x4 x5 x6 : Int32} : zW (d + 1) kX12_luck 48 [.ref 131, .int x1, .int x2, .int x3, .int x4, .int x5, .int x6, .retAddr 0] [] σ Q ↔ (if 20 < x6 then zW (d + 1) kX12_luck 83 [.ref 131, .int x1, .int x2, .int x3, .int x4, .int x5, .int 0, .retAddr 0] [] σ Q else (if x6 = (0 : Int32) then (vp_in x6 22 ∧ zW (d + 1) kX12_luck 48 [.ref 131, .int x1, .int x2, .int x3, .int x4, .int x5, .int (x6 + 1), .retAddr 0] [] (zsI σ 152 (upd (zI σ 152) (x6 : Int32).toNatClampNeg 1000000)) Q) else (vp_in x6 22 ∧ zW (d + 1) kX12_luck 48 [.ref 131, .int x1, .int x2, .int x3, .int x4, .int x5, .int (x6 + 1), .retAddr 0] [] (zsI σ 152 (upd (zI σ 152) (x6 : Int32).toNatClampNeg 0)) Q))) := by
  refine Iff.trans (zw_iload (show decode cX12_luck 48 = .ok (.iload 6, 2) by decide +kernel) rfl) ?_
  refine Iff.trans (zw_bipush (x := 20) (show decode cX12_luck 50 = .ok (.bipush 20, 2) by decide +kernel) (by decide)) ?_
  refine Iff.trans (zw_icmp_gt (t := 80) (show decode cX12_luck 52 = .ok (.if_icmp .gt 28, 3) by decide +kernel) (by decide)) ?_
  refine zw_ite ?_ ?_
  · refine Iff.trans (zw_iconst (x := 0) (show decode cX12_luck 80 = .ok (.iconst 0, 1) by decide +kernel) (by decide)) ?_
    refine Iff.trans (zw_istore (ls' := [.ref 131, .int x1, .int x2, .int x3, .int x4, .int x5, .int 0, .retAddr 0]) (show decode cX12_luck 81 = .ok (.istore 6, 2) by decide +kernel) (zset_s (Nat.le_of_ble_eq_true rfl) rfl)) ?_
    exact Iff.rfl
  · refine Iff.trans (zw_aload_n (show decode cX12_luck 55 = .ok (.aload_n 0, 1) by decide +kernel) rfl) ?_
    refine Iff.trans (zw_get (show decode cX12_luck 56 = .ok (.getfield 82, 3) by decide +kernel) (by decide +kernel : zfld 12 82 = some (12, 46)) (hl.k2 zk_131) (hl.n2 zk_131) (zgetR (v := 152) (hl.r zrt_131_46) rfl)) ?_
    refine Iff.trans (zw_iload (show decode cX12_luck 59 = .ok (.iload 6, 2) by decide +kernel) rfl) ?_
    refine Iff.trans (zw_iload (show decode cX12_luck 61 = .ok (.iload 6, 2) by decide +kernel) rfl) ?_
    refine Iff.trans (zw_if_ne (t := 72) (show decode cX12_luck 63 = .ok (.ifCond .ne 9, 3) by decide +kernel) (by decide)) ?_
    refine zw_ite ?_ ?_
    · refine Iff.trans (zw_ldc_w (x := 1000000) (show decode cX12_luck 66 = .ok (.ldc_w 364, 3) by decide +kernel) (by decide +kernel)) ?_
      refine Iff.trans (zw_goto (t := 73) (show decode cX12_luck 69 = .ok (.goto 4, 3) by decide +kernel) (by decide)) ?_
      refine Iff.trans (zw_iast2 (show decode cX12_luck 73 = .ok (.iastore, 1) by decide +kernel) (hl.k2 zk_152) (hl.n2 zk_152) (hl.l2 zk_152 zl_152) (σ' := (zsI σ 152 (upd (zI σ 152) (x6 : Int32).toNatClampNeg 1000000))) rfl) ?_
      refine zw_and ?_
      refine Iff.trans (zw_iinc (w := 1) (ls' := [.ref 131, .int x1, .int x2, .int x3, .int x4, .int x5, .int (x6 + 1), .retAddr 0]) (show decode cX12_luck 74 = .ok (.iinc 6 1, 3) by decide +kernel) rfl (by decide) (zset_s (Nat.le_of_ble_eq_true rfl) rfl)) ?_
      refine Iff.trans (zw_goto (t := 48) (show decode cX12_luck 77 = .ok (.goto (-29), 3) by decide +kernel) (by decide)) ?_
      exact Iff.rfl
    · refine Iff.trans (zw_iconst (x := 0) (show decode cX12_luck 72 = .ok (.iconst 0, 1) by decide +kernel) (by decide)) ?_
      refine Iff.trans (zw_iast2 (show decode cX12_luck 73 = .ok (.iastore, 1) by decide +kernel) (hl.k2 zk_152) (hl.n2 zk_152) (hl.l2 zk_152 zl_152) (σ' := (zsI σ 152 (upd (zI σ 152) (x6 : Int32).toNatClampNeg 0))) rfl) ?_
      refine zw_and ?_
      refine Iff.trans (zw_iinc (w := 1) (ls' := [.ref 131, .int x1, .int x2, .int x3, .int x4, .int x5, .int (x6 + 1), .retAddr 0]) (show decode cX12_luck 74 = .ok (.iinc 6 1, 3) by decide +kernel) rfl (by decide) (zset_s (Nat.le_of_ble_eq_true rfl) rfl)) ?_
      refine Iff.trans (zw_goto (t := 48) (show decode cX12_luck 77 = .ok (.goto (-29), 3) by decide +kernel) (by decide)) ?_
      exact Iff.rfl

theorem bX12_luck_83 {d : Nat} {σ : zS} {Q : Option Value → zS → Prop} (hl : zLay σ) {x1 x2 x3 x4 x5 x6 : Int32} {v7 : Value} (hv7 : v7.category = 1) : zW (d + 1) kX12_luck 83 [.ref 131, .int x1, .int x2, .int x3, .int x4, .int x5, .int x6, v7] [] σ Q ↔ (if x3 ≤ x6 then zW (d + 1) kX12_luck 162 [.ref 131, .int x1, .int x2, .int x3, .int x4, .int x5, .int 0, .int x4] [] σ Q else zW (d + 1) kX12_luck 93 [.ref 131, .int x1, .int x2, .int x3, .int x4, .int x5, .int x6, .int 20] [] σ Q) := by
  refine Iff.trans (zw_iload (show decode cX12_luck 83 = .ok (.iload 6, 2) by decide +kernel) rfl) ?_
  refine Iff.trans (zw_iload_n (show decode cX12_luck 85 = .ok (.iload_n 3, 1) by decide +kernel) rfl) ?_
  refine Iff.trans (zw_icmp_ge (t := 155) (show decode cX12_luck 86 = .ok (.if_icmp .ge 69, 3) by decide +kernel) (by decide)) ?_
  refine zw_ite ?_ ?_
  · refine Iff.trans (zw_iconst (x := 0) (show decode cX12_luck 155 = .ok (.iconst 0, 1) by decide +kernel) (by decide)) ?_
    refine Iff.trans (zw_istore (ls' := [.ref 131, .int x1, .int x2, .int x3, .int x4, .int x5, .int 0, v7]) (show decode cX12_luck 156 = .ok (.istore 6, 2) by decide +kernel) (zset_s (Nat.le_of_ble_eq_true rfl) rfl)) ?_
    refine Iff.trans (zw_iload (show decode cX12_luck 158 = .ok (.iload 4, 2) by decide +kernel) rfl) ?_
    refine Iff.trans (zw_istore (ls' := [.ref 131, .int x1, .int x2, .int x3, .int x4, .int x5, .int 0, .int x4]) (show decode cX12_luck 160 = .ok (.istore 7, 2) by decide +kernel) (zset_s (Nat.le_of_ble_eq_true rfl) rfl)) ?_
    exact Iff.rfl
  · refine Iff.trans (zw_bipush (x := 20) (show decode cX12_luck 89 = .ok (.bipush 20, 2) by decide +kernel) (by decide)) ?_
    refine Iff.trans (zw_istore (ls' := [.ref 131, .int x1, .int x2, .int x3, .int x4, .int x5, .int x6, .int 20]) (show decode cX12_luck 91 = .ok (.istore 7, 2) by decide +kernel) (zset_s (Nat.le_of_ble_eq_true rfl) rfl)) ?_
    exact Iff.rfl

theorem bX12_luck_93 {d : Nat} {σ : zS} {Q : Option Value → zS → Prop} (hl : zLay σ) {x1 x2 x3 x4 x5 x6 x7 : Int32} : zW (d + 1) kX12_luck 93 [.ref 131, .int x1, .int x2, .int x3, .int x4, .int x5, .int x6, .int x7] [] σ Q ↔ (if x7 < (0 : Int32) then zW (d + 1) kX12_luck 83 [.ref 131, .int x1, .int x2, .int x3, .int x4, .int x5, .int (x6 + 1), .int x7] [] σ Q else (vp_in x7 22 ∧ (¬ x2 = (0 : Int32) ∧ (if x7 = (0 : Int32) then (vp_in x7 22 ∧ zW (d + 1) kX12_luck 93 [.ref 131, .int x1, .int x2, .int x3, .int x4, .int x5, .int x6, .int (x7 + (-1))] [] (zsI σ 152 (upd (zI σ 152) (x7 : Int32).toNatClampNeg ((((zI σ 152 (x7 : Int32).toNatClampNeg) * (x2 - x5)) / x2) + 0))) Q) else (vp_in (x7 - 1) 22 ∧ (¬ x2 = (0 : Int32) ∧ (vp_in x7 22 ∧ zW (d + 1) kX12_luck 93 [.ref 131, .int x1, .int x2, .int x3, .int x4, .int x5, .int x6, .int (x7 + (-1))] [] (zsI σ 152 (upd (zI σ 152) (x7 : Int32).toNatClampNeg ((((zI σ 152 (x7 : Int32).toNatClampNeg) * (x2 - x5)) / x2) + (((zI σ 152 (x7 - 1 : Int32).toNatClampNeg) * x5) / x2)))) Q))))))) := by
  refine Iff.trans (zw_iload (show decode cX12_luck 93 = .ok (.iload 7, 2) by decide +kernel) rfl) ?_
  refine Iff.trans (zw_if_lt (t := 149) (show decode cX12_luck 95 = .ok (.ifCond .lt 54, 3) by decide +kernel) (by decide)) ?_
  refine zw_ite ?_ ?_
  · refine Iff.trans (zw_iinc (w := 1) (ls' := [.ref 131, .int x1, .int x2, .int x3, .int x4, .int x5, .int (x6 + 1), .int x7]) (show decode cX12_luck 149 = .ok (.iinc 6 1, 3) by decide +kernel) rfl (by decide) (zset_s (Nat.le_of_ble_eq_true rfl) rfl)) ?_
    refine Iff.trans (zw_goto (t := 83) (show decode cX12_luck 152 = .ok (.goto (-69), 3) by decide +kernel) (by decide)) ?_
    exact Iff.rfl
  · refine Iff.trans (zw_aload_n (show decode cX12_luck 98 = .ok (.aload_n 0, 1) by decide +kernel) rfl) ?_
    refine Iff.trans (zw_get (show decode cX12_luck 99 = .ok (.getfield 82, 3) by decide +kernel) (by decide +kernel : zfld 12 82 = some (12, 46)) (hl.k2 zk_131) (hl.n2 zk_131) (zgetR (v := 152) (hl.r zrt_131_46) rfl)) ?_
    refine Iff.trans (zw_iload (show decode cX12_luck 102 = .ok (.iload 7, 2) by decide +kernel) rfl) ?_
    refine Iff.trans (zw_aload_n (show decode cX12_luck 104 = .ok (.aload_n 0, 1) by decide +kernel) rfl) ?_
    refine Iff.trans (zw_get (show decode cX12_luck 105 = .ok (.getfield 82, 3) by decide +kernel) (by decide +kernel : zfld 12 82 = some (12, 46)) (hl.k2 zk_131) (hl.n2 zk_131) (zgetR (v := 152) (hl.r zrt_131_46) rfl)) ?_
    refine Iff.trans (zw_iload (show decode cX12_luck 108 = .ok (.iload 7, 2) by decide +kernel) rfl) ?_
    refine Iff.trans (zw_iald2 (show decode cX12_luck 110 = .ok (.iaload, 1) by decide +kernel) (hl.k2 zk_152) (hl.n2 zk_152) (hl.l2 zk_152 zl_152) (w := zI σ 152 (x7 : Int32).toNatClampNeg) rfl) ?_
    refine zw_and ?_
    refine Iff.trans (zw_iload_n (show decode cX12_luck 111 = .ok (.iload_n 2, 1) by decide +kernel) rfl) ?_
    refine Iff.trans (zw_iload (show decode cX12_luck 112 = .ok (.iload 5, 2) by decide +kernel) rfl) ?_
    refine Iff.trans (zw_isub (show decode cX12_luck 114 = .ok (.isub, 1) by decide +kernel)) ?_
    refine Iff.trans (zw_imul (show decode cX12_luck 115 = .ok (.imul, 1) by decide +kernel)) ?_
    refine Iff.trans (zw_iload_n (show decode cX12_luck 116 = .ok (.iload_n 2, 1) by decide +kernel) rfl) ?_
    refine Iff.trans (zw_idiv (show decode cX12_luck 117 = .ok (.idiv, 1) by decide +kernel)) ?_
    refine zw_and ?_
    refine Iff.trans (zw_iload (show decode cX12_luck 118 = .ok (.iload 7, 2) by decide +kernel) rfl) ?_
    refine Iff.trans (zw_if_ne (t := 127) (show decode cX12_luck 120 = .ok (.ifCond .ne 7, 3) by decide +kernel) (by decide)) ?_
    refine zw_ite ?_ ?_
    · refine Iff.trans (zw_iconst (x := 0) (show decode cX12_luck 123 = .ok (.iconst 0, 1) by decide +kernel) (by decide)) ?_
      refine Iff.trans (zw_goto (t := 141) (show decode cX12_luck 124 = .ok (.goto 17, 3) by decide +kernel) (by decide)) ?_
      refine Iff.trans (zw_iadd (show decode cX12_luck 141 = .ok (.iadd, 1) by decide +kernel)) ?_
      refine Iff.trans (zw_iast2 (show decode cX12_luck 142 = .ok (.iastore, 1) by decide +kernel) (hl.k2 zk_152) (hl.n2 zk_152) (hl.l2 zk_152 zl_152) (σ' := (zsI σ 152 (upd (zI σ 152) (x7 : Int32).toNatClampNeg ((((zI σ 152 (x7 : Int32).toNatClampNeg) * (x2 - x5)) / x2) + 0)))) rfl) ?_
      refine zw_and ?_
      refine Iff.trans (zw_iinc (w := (-1)) (ls' := [.ref 131, .int x1, .int x2, .int x3, .int x4, .int x5, .int x6, .int (x7 + (-1))]) (show decode cX12_luck 143 = .ok (.iinc 7 (-1), 3) by decide +kernel) rfl (by decide) (zset_s (Nat.le_of_ble_eq_true rfl) rfl)) ?_
      refine Iff.trans (zw_goto (t := 93) (show decode cX12_luck 146 = .ok (.goto (-53), 3) by decide +kernel) (by decide)) ?_
      exact Iff.rfl
    · refine Iff.trans (zw_aload_n (show decode cX12_luck 127 = .ok (.aload_n 0, 1) by decide +kernel) rfl) ?_
      refine Iff.trans (zw_get (show decode cX12_luck 128 = .ok (.getfield 82, 3) by decide +kernel) (by decide +kernel : zfld 12 82 = some (12, 46)) (hl.k2 zk_131) (hl.n2 zk_131) (zgetR (v := 152) (hl.r zrt_131_46) rfl)) ?_
      refine Iff.trans (zw_iload (show decode cX12_luck 131 = .ok (.iload 7, 2) by decide +kernel) rfl) ?_
      refine Iff.trans (zw_iconst (x := 1) (show decode cX12_luck 133 = .ok (.iconst 1, 1) by decide +kernel) (by decide)) ?_
      refine Iff.trans (zw_isub (show decode cX12_luck 134 = .ok (.isub, 1) by decide +kernel)) ?_
      refine Iff.trans (zw_iald2 (show decode cX12_luck 135 = .ok (.iaload, 1) by decide +kernel) (hl.k2 zk_152) (hl.n2 zk_152) (hl.l2 zk_152 zl_152) (w := zI σ 152 (x7 - 1 : Int32).toNatClampNeg) rfl) ?_
      refine zw_and ?_
      refine Iff.trans (zw_iload (show decode cX12_luck 136 = .ok (.iload 5, 2) by decide +kernel) rfl) ?_
      refine Iff.trans (zw_imul (show decode cX12_luck 138 = .ok (.imul, 1) by decide +kernel)) ?_
      refine Iff.trans (zw_iload_n (show decode cX12_luck 139 = .ok (.iload_n 2, 1) by decide +kernel) rfl) ?_
      refine Iff.trans (zw_idiv (show decode cX12_luck 140 = .ok (.idiv, 1) by decide +kernel)) ?_
      refine zw_and ?_
      refine Iff.trans (zw_iadd (show decode cX12_luck 141 = .ok (.iadd, 1) by decide +kernel)) ?_
      refine Iff.trans (zw_iast2 (show decode cX12_luck 142 = .ok (.iastore, 1) by decide +kernel) (hl.k2 zk_152) (hl.n2 zk_152) (hl.l2 zk_152 zl_152) (σ' := (zsI σ 152 (upd (zI σ 152) (x7 : Int32).toNatClampNeg ((((zI σ 152 (x7 : Int32).toNatClampNeg) * (x2 - x5)) / x2) + (((zI σ 152 (x7 - 1 : Int32).toNatClampNeg) * x5) / x2))))) rfl) ?_
      refine zw_and ?_
      refine Iff.trans (zw_iinc (w := (-1)) (ls' := [.ref 131, .int x1, .int x2, .int x3, .int x4, .int x5, .int x6, .int (x7 + (-1))]) (show decode cX12_luck 143 = .ok (.iinc 7 (-1), 3) by decide +kernel) rfl (by decide) (zset_s (Nat.le_of_ble_eq_true rfl) rfl)) ?_
      refine Iff.trans (zw_goto (t := 93) (show decode cX12_luck 146 = .ok (.goto (-53), 3) by decide +kernel) (by decide)) ?_
      exact Iff.rfl

theorem bX12_luck_162 {d : Nat} {σ : zS} {Q : Option Value → zS → Prop} (hl : zLay σ) {x1 x2 x3 x4 x5 x6 x7 : Int32} : zW (d + 1) kX12_luck 162 [.ref 131, .int x1, .int x2, .int x3, .int x4, .int x5, .int x6, .int x7] [] σ Q ↔ (if x3 < x7 then Q (some (.int x6)) σ else (vp_in x7 22 ∧ zW (d + 1) kX12_luck 162 [.ref 131, .int x1, .int x2, .int x3, .int x4, .int x5, .int (x6 + (zI σ 152 (x7 : Int32).toNatClampNeg)), .int (x7 + 1)] [] σ Q)) := by
  refine Iff.trans (zw_iload (show decode cX12_luck 162 = .ok (.iload 7, 2) by decide +kernel) rfl) ?_
  refine Iff.trans (zw_iload_n (show decode cX12_luck 164 = .ok (.iload_n 3, 1) by decide +kernel) rfl) ?_
  refine Iff.trans (zw_icmp_gt (t := 186) (show decode cX12_luck 165 = .ok (.if_icmp .gt 21, 3) by decide +kernel) (by decide)) ?_
  refine zw_ite ?_ ?_
  · refine Iff.trans (zw_iload (show decode cX12_luck 186 = .ok (.iload 6, 2) by decide +kernel) rfl) ?_
    exact zw_iret1 (show decode cX12_luck 188 = .ok (.ireturn, 1) by decide +kernel) rfl
  · refine Iff.trans (zw_iload (show decode cX12_luck 168 = .ok (.iload 6, 2) by decide +kernel) rfl) ?_
    refine Iff.trans (zw_aload_n (show decode cX12_luck 170 = .ok (.aload_n 0, 1) by decide +kernel) rfl) ?_
    refine Iff.trans (zw_get (show decode cX12_luck 171 = .ok (.getfield 82, 3) by decide +kernel) (by decide +kernel : zfld 12 82 = some (12, 46)) (hl.k2 zk_131) (hl.n2 zk_131) (zgetR (v := 152) (hl.r zrt_131_46) rfl)) ?_
    refine Iff.trans (zw_iload (show decode cX12_luck 174 = .ok (.iload 7, 2) by decide +kernel) rfl) ?_
    refine Iff.trans (zw_iald2 (show decode cX12_luck 176 = .ok (.iaload, 1) by decide +kernel) (hl.k2 zk_152) (hl.n2 zk_152) (hl.l2 zk_152 zl_152) (w := zI σ 152 (x7 : Int32).toNatClampNeg) rfl) ?_
    refine zw_and ?_
    refine Iff.trans (zw_iadd (show decode cX12_luck 177 = .ok (.iadd, 1) by decide +kernel)) ?_
    refine Iff.trans (zw_istore (ls' := [.ref 131, .int x1, .int x2, .int x3, .int x4, .int x5, .int (x6 + (zI σ 152 (x7 : Int32).toNatClampNeg)), .int x7]) (show decode cX12_luck 178 = .ok (.istore 6, 2) by decide +kernel) (zset_s (Nat.le_of_ble_eq_true rfl) rfl)) ?_
    refine Iff.trans (zw_iinc (w := 1) (ls' := [.ref 131, .int x1, .int x2, .int x3, .int x4, .int x5, .int (x6 + (zI σ 152 (x7 : Int32).toNatClampNeg)), .int (x7 + 1)]) (show decode cX12_luck 180 = .ok (.iinc 7 1, 3) by decide +kernel) rfl (by decide) (zset_s (Nat.le_of_ble_eq_true rfl) rfl)) ?_
    refine Iff.trans (zw_goto (t := 162) (show decode cX12_luck 183 = .ok (.goto (-21), 3) by decide +kernel) (by decide)) ?_
    exact Iff.rfl

theorem bX12_areSticks_0 {d : Nat} {σ : zS} {Q : Option Value → zS → Prop} (hl : zLay σ) {x1 : Int32} : zCall d kX12_areSticks [.ref 131, .int x1] σ Q ↔ (if x1 ≤ (0 : Int32) then Q (some (.int 0)) σ else (if (1 <<< ((zI σ 131 12) &&& 31)) ≤ x1 then Q (some (.int 0)) σ else Q (some (.int 1)) σ)) := by
  show zW d kX12_areSticks 0 [.ref 131, .int x1] [] σ Q ↔ _
  refine Iff.trans (zw_iload_n (show decode cX12_areSticks 0 = .ok (.iload_n 1, 1) by decide +kernel) rfl) ?_
  refine Iff.trans (zw_if_le (t := 18) (show decode cX12_areSticks 1 = .ok (.ifCond .le 17, 3) by decide +kernel) (by decide)) ?_
  refine zw_ite ?_ ?_
  · refine Iff.trans (zw_iconst (x := 0) (show decode cX12_areSticks 18 = .ok (.iconst 0, 1) by decide +kernel) (by decide)) ?_
    exact zw_iret2c (show decode cX12_areSticks 19 = .ok (.ireturn, 1) by decide +kernel) rfl (Or.inl rfl)
  · refine Iff.trans (zw_iload_n (show decode cX12_areSticks 4 = .ok (.iload_n 1, 1) by decide +kernel) rfl) ?_
    refine Iff.trans (zw_iconst (x := 1) (show decode cX12_areSticks 5 = .ok (.iconst 1, 1) by decide +kernel) (by decide)) ?_
    refine Iff.trans (zw_aload_n (show decode cX12_areSticks 6 = .ok (.aload_n 0, 1) by decide +kernel) rfl) ?_
    refine Iff.trans (zw_getI (show decode cX12_areSticks 7 = .ok (.getfield 184, 3) by decide +kernel) (by decide +kernel : zfld 12 184 = some (12, 12)) (hl.k2 zk_131) (hl.n2 zk_131) (Or.inl rfl) (w := zI σ 131 12) rfl) ?_
    refine Iff.trans (zw_ishl (show decode cX12_areSticks 10 = .ok (.ishl, 1) by decide +kernel)) ?_
    refine Iff.trans (zw_icmp_ge (t := 18) (show decode cX12_areSticks 11 = .ok (.if_icmp .ge 7, 3) by decide +kernel) (by decide)) ?_
    refine zw_ite ?_ ?_
    · refine Iff.trans (zw_iconst (x := 0) (show decode cX12_areSticks 18 = .ok (.iconst 0, 1) by decide +kernel) (by decide)) ?_
      exact zw_iret2c (show decode cX12_areSticks 19 = .ok (.ireturn, 1) by decide +kernel) rfl (Or.inl rfl)
    · refine Iff.trans (zw_iconst (x := 1) (show decode cX12_areSticks 14 = .ok (.iconst 1, 1) by decide +kernel) (by decide)) ?_
      refine Iff.trans (zw_goto (t := 19) (show decode cX12_areSticks 15 = .ok (.goto 4, 3) by decide +kernel) (by decide)) ?_
      exact zw_iret2c (show decode cX12_areSticks 19 = .ok (.ireturn, 1) by decide +kernel) rfl (Or.inr rfl)

theorem bX12_areBrooks_0 {d : Nat} {σ : zS} {Q : Option Value → zS → Prop} (hl : zLay σ) {x1 : Int32} : zCall d kX12_areBrooks [.ref 131, .int x1] σ Q ↔ (if x1 ≤ (0 : Int32) then Q (some (.int 0)) σ else (if (1 <<< ((zI σ 131 11) &&& 31)) ≤ x1 then Q (some (.int 0)) σ else Q (some (.int 1)) σ)) := by
  show zW d kX12_areBrooks 0 [.ref 131, .int x1] [] σ Q ↔ _
  refine Iff.trans (zw_iload_n (show decode cX12_areBrooks 0 = .ok (.iload_n 1, 1) by decide +kernel) rfl) ?_
  refine Iff.trans (zw_if_le (t := 18) (show decode cX12_areBrooks 1 = .ok (.ifCond .le 17, 3) by decide +kernel) (by decide)) ?_
  refine zw_ite ?_ ?_
  · refine Iff.trans (zw_iconst (x := 0) (show decode cX12_areBrooks 18 = .ok (.iconst 0, 1) by decide +kernel) (by decide)) ?_
    exact zw_iret2c (show decode cX12_areBrooks 19 = .ok (.ireturn, 1) by decide +kernel) rfl (Or.inl rfl)
  · refine Iff.trans (zw_iload_n (show decode cX12_areBrooks 4 = .ok (.iload_n 1, 1) by decide +kernel) rfl) ?_
    refine Iff.trans (zw_iconst (x := 1) (show decode cX12_areBrooks 5 = .ok (.iconst 1, 1) by decide +kernel) (by decide)) ?_
    refine Iff.trans (zw_aload_n (show decode cX12_areBrooks 6 = .ok (.aload_n 0, 1) by decide +kernel) rfl) ?_
    refine Iff.trans (zw_getI (show decode cX12_areBrooks 7 = .ok (.getfield 181, 3) by decide +kernel) (by decide +kernel : zfld 12 181 = some (12, 11)) (hl.k2 zk_131) (hl.n2 zk_131) (Or.inl rfl) (w := zI σ 131 11) rfl) ?_
    refine Iff.trans (zw_ishl (show decode cX12_areBrooks 10 = .ok (.ishl, 1) by decide +kernel)) ?_
    refine Iff.trans (zw_icmp_ge (t := 18) (show decode cX12_areBrooks 11 = .ok (.if_icmp .ge 7, 3) by decide +kernel) (by decide)) ?_
    refine zw_ite ?_ ?_
    · refine Iff.trans (zw_iconst (x := 0) (show decode cX12_areBrooks 18 = .ok (.iconst 0, 1) by decide +kernel) (by decide)) ?_
      exact zw_iret2c (show decode cX12_areBrooks 19 = .ok (.ireturn, 1) by decide +kernel) rfl (Or.inl rfl)
    · refine Iff.trans (zw_iconst (x := 1) (show decode cX12_areBrooks 14 = .ok (.iconst 1, 1) by decide +kernel) (by decide)) ?_
      refine Iff.trans (zw_goto (t := 19) (show decode cX12_areBrooks 15 = .ok (.goto 4, 3) by decide +kernel) (by decide)) ?_
      exact zw_iret2c (show decode cX12_areBrooks 19 = .ok (.ireturn, 1) by decide +kernel) rfl (Or.inr rfl)

theorem bX12_best_0 {d : Nat} {σ : zS} {Q : Option Value → zS → Prop} (hl : zLay σ) {x1 x2 x3 x4 : Int32} : zCall (d + 1) kX12_best [.ref 131, .int x1, .int x2, .int x3, .int x4] σ Q ↔ zCall d kX12_isBrook [.ref 131, .int x1] (zsI σ 131 (upd (zI σ 131) 0 0)) (fun r σ' => zisN r = true ∧ zW (d + 1) kX12_best 10 [.ref 131, .int x1, .int x2, .int x3, .int x4, .retAddr 0, .retAddr 0, .retAddr 0, .retAddr 0, .retAddr 0, .retAddr 0, .retAddr 0] (zRstk r ++ []) σ' Q) := by
  show zW (d + 1) kX12_best 0 [.ref 131, .int x1, .int x2, .int x3, .int x4, .retAddr 0, .retAddr 0, .retAddr 0, .retAddr 0, .retAddr 0, .retAddr 0, .retAddr 0] [] σ Q ↔ _
  refine Iff.trans (zw_aload_n (show decode cX12_best 0 = .ok (.aload_n 0, 1) by decide +kernel) rfl) ?_
  refine Iff.trans (zw_iconst (x := 0) (show decode cX12_best 1 = .ok (.iconst 0, 1) by decide +kernel) (by decide)) ?_
  refine Iff.trans (zw_putI (show decode cX12_best 2 = .ok (.putfield 118, 3) by decide +kernel) (by decide +kernel : zfld 12 118 = some (12, 0)) (hl.k2 zk_131) (hl.n2 zk_131) rfl (Or.inl rfl) (σ' := (zsI σ 131 (upd (zI σ 131) 0 0))) rfl) ?_
  refine Iff.trans (zw_aload_n (show decode cX12_best 5 = .ok (.aload_n 0, 1) by decide +kernel) rfl) ?_
  refine Iff.trans (zw_iload_n (show decode cX12_best 6 = .ok (.iload_n 1, 1) by decide +kernel) rfl) ?_
  refine Iff.trans (zw_invV (K' := kX12_isBrook) (as' := [.int x1]) (rest := []) (show decode cX12_best 7 = .ok (.invokevirtual 193, 3) by decide +kernel) (by rfl) rfl rfl rfl (hl.I.k2 zk_131) (by decide) (hl.I.n2 zk_131) ⟨Nat.le_of_ble_eq_true rfl, Nat.le_of_ble_eq_true rfl, Nat.le_of_ble_eq_true rfl⟩) ?_
  exact Iff.rfl

theorem bX12_best_10 {d : Nat} {σ : zS} {Q : Option Value → zS → Prop} (hl : zLay σ) {x1 x2 x3 x4 y0 : Int32} : zW (d + 1) kX12_best 10 [.ref 131, .int x1, .int x2, .int x3, .int x4, .retAddr 0, .retAddr 0, .retAddr 0, .retAddr 0, .retAddr 0, .retAddr 0, .retAddr 0] [.int y0] σ Q ↔ (if y0 = (0 : Int32) then Q (some (.int (-1))) σ else zCall d kX12_areSticks [.ref 131, .int x2] σ (fun r σ' => zisN r = true ∧ zW (d + 1) kX12_best 18 [.ref 131, .int x1, .int x2, .int x3, .int x4, .retAddr 0, .retAddr 0, .retAddr 0, .retAddr 0, .retAddr 0, .retAddr 0, .retAddr 0] (zRstk r ++ []) σ' Q)) := by
  refine Iff.trans (zw_if_eq (t := 41) (show decode cX12_best 10 = .ok (.ifCond .eq 31, 3) by decide +kernel) (by decide)) ?_
  refine zw_ite ?_ ?_
  · refine Iff.trans (zw_iconst (x := (-1)) (show decode cX12_best 41 = .ok (.iconst (-1), 1) by decide +kernel) (by decide)) ?_
    exact zw_iret1 (show decode cX12_best 42 = .ok (.ireturn, 1) by decide +kernel) rfl
  · refine Iff.trans (zw_aload_n (show decode cX12_best 13 = .ok (.aload_n 0, 1) by decide +kernel) rfl) ?_
    refine Iff.trans (zw_iload_n (show decode cX12_best 14 = .ok (.iload_n 2, 1) by decide +kernel) rfl) ?_
    refine Iff.trans (zw_invV (K' := kX12_areSticks) (as' := [.int x2]) (rest := []) (show decode cX12_best 15 = .ok (.invokevirtual 365, 3) by decide +kernel) (by rfl) rfl rfl rfl (hl.k2 zk_131) (by decide) (hl.n2 zk_131) ⟨Nat.le_of_ble_eq_true rfl, Nat.le_of_ble_eq_true rfl, Nat.le_of_ble_eq_true rfl⟩) ?_
    exact Iff.rfl

theorem bX12_best_18 {d : Nat} {σ : zS} {Q : Option Value → zS → Prop} (hl : zLay σ) {x1 x2 x3 x4 y0 : Int32} : zW (d + 1) kX12_best 18 [.ref 131, .int x1, .int x2, .int x3, .int x4, .retAddr 0, .retAddr 0, .retAddr 0, .retAddr 0, .retAddr 0, .retAddr 0, .retAddr 0] [.int y0] σ Q ↔ (if y0 = (0 : Int32) then Q (some (.int (-1))) σ else zCall d kX12_isIn [.int x3, .int 1, .int 40] σ (fun r σ' => zisN r = true ∧ zW (d + 1) kX12_best 28 [.ref 131, .int x1, .int x2, .int x3, .int x4, .retAddr 0, .retAddr 0, .retAddr 0, .retAddr 0, .retAddr 0, .retAddr 0, .retAddr 0] (zRstk r ++ []) σ' Q)) := by
  refine Iff.trans (zw_if_eq (t := 41) (show decode cX12_best 18 = .ok (.ifCond .eq 23, 3) by decide +kernel) (by decide)) ?_
  refine zw_ite ?_ ?_
  · refine Iff.trans (zw_iconst (x := (-1)) (show decode cX12_best 41 = .ok (.iconst (-1), 1) by decide +kernel) (by decide)) ?_
    exact zw_iret1 (show decode cX12_best 42 = .ok (.ireturn, 1) by decide +kernel) rfl
  · refine Iff.trans (zw_iload_n (show decode cX12_best 21 = .ok (.iload_n 3, 1) by decide +kernel) rfl) ?_
    refine Iff.trans (zw_iconst (x := 1) (show decode cX12_best 22 = .ok (.iconst 1, 1) by decide +kernel) (by decide)) ?_
    refine Iff.trans (zw_bipush (x := 40) (show decode cX12_best 23 = .ok (.bipush 40, 2) by decide +kernel) (by decide)) ?_
    refine Iff.trans (zw_invS (K' := kX12_isIn) (as := [.int x3, .int 1, .int 40]) (rest := []) (show decode cX12_best 25 = .ok (.invokestatic 163, 3) by decide +kernel) (by rfl) rfl rfl rfl ⟨Nat.le_of_ble_eq_true rfl, Nat.le_of_ble_eq_true rfl, Nat.le_of_ble_eq_true rfl⟩) ?_
    exact Iff.rfl

theorem bX12_best_28 {d : Nat} {σ : zS} {Q : Option Value → zS → Prop} (hl : zLay σ) {x1 x2 x3 x4 y0 : Int32} : zW (d + 1) kX12_best 28 [.ref 131, .int x1, .int x2, .int x3, .int x4, .retAddr 0, .retAddr 0, .retAddr 0, .retAddr 0, .retAddr 0, .retAddr 0, .retAddr 0] [.int y0] σ Q ↔ (if y0 = (0 : Int32) then Q (some (.int (-1))) σ else zCall d kX12_isIn [.int x4, .int 0, .int 2] σ (fun r σ' => zisN r = true ∧ zW (d + 1) kX12_best 38 [.ref 131, .int x1, .int x2, .int x3, .int x4, .retAddr 0, .retAddr 0, .retAddr 0, .retAddr 0, .retAddr 0, .retAddr 0, .retAddr 0] (zRstk r ++ []) σ' Q)) := by
  refine Iff.trans (zw_if_eq (t := 41) (show decode cX12_best 28 = .ok (.ifCond .eq 13, 3) by decide +kernel) (by decide)) ?_
  refine zw_ite ?_ ?_
  · refine Iff.trans (zw_iconst (x := (-1)) (show decode cX12_best 41 = .ok (.iconst (-1), 1) by decide +kernel) (by decide)) ?_
    exact zw_iret1 (show decode cX12_best 42 = .ok (.ireturn, 1) by decide +kernel) rfl
  · refine Iff.trans (zw_iload (show decode cX12_best 31 = .ok (.iload 4, 2) by decide +kernel) rfl) ?_
    refine Iff.trans (zw_iconst (x := 0) (show decode cX12_best 33 = .ok (.iconst 0, 1) by decide +kernel) (by decide)) ?_
    refine Iff.trans (zw_iconst (x := 2) (show decode cX12_best 34 = .ok (.iconst 2, 1) by decide +kernel) (by decide)) ?_
    refine Iff.trans (zw_invS (K' := kX12_isIn) (as := [.int x4, .int 0, .int 2]) (rest := []) (show decode cX12_best 35 = .ok (.invokestatic 163, 3) by decide +kernel) (by rfl) rfl rfl rfl ⟨Nat.le_of_ble_eq_true rfl, Nat.le_of_ble_eq_true rfl, Nat.le_of_ble_eq_true rfl⟩) ?_
    exact Iff.rfl

theorem bX12_best_38 {d : Nat} {σ : zS} {Q : Option Value → zS → Prop} (hl : zLay σ) {x1 x2 x3 x4 y0 : Int32} : zW (d + 1) kX12_best 38 [.ref 131, .int x1, .int x2, .int x3, .int x4, .retAddr 0, .retAddr 0, .retAddr 0, .retAddr 0, .retAddr 0, .retAddr 0, .retAddr 0] [.int y0] σ Q ↔ (if y0 = (0 : Int32) then Q (some (.int (-1))) σ else zW (d + 1) kX12_best 55 [.ref 131, .int x1, .int x2, .int x3, .int x4, .int (-1), .int (-1), .int (-1), .int 0, .retAddr 0, .retAddr 0, .retAddr 0] [] σ Q) := by
  refine Iff.trans (zw_if_ne (t := 43) (show decode cX12_best 38 = .ok (.ifCond .ne 5, 3) by decide +kernel) (by decide)) ?_
  refine zw_ite ?_ ?_
  · refine Iff.trans (zw_iconst (x := (-1)) (show decode cX12_best 41 = .ok (.iconst (-1), 1) by decide +kernel) (by decide)) ?_
    exact zw_iret1 (show decode cX12_best 42 = .ok (.ireturn, 1) by decide +kernel) rfl
  · refine Iff.trans (zw_iconst (x := (-1)) (show decode cX12_best 43 = .ok (.iconst (-1), 1) by decide +kernel) (by decide)) ?_
    refine Iff.trans (zw_istore (ls' := [.ref 131, .int x1, .int x2, .int x3, .int x4, .int (-1), .retAddr 0, .retAddr 0, .retAddr 0, .retAddr 0, .retAddr 0, .retAddr 0]) (show decode cX12_best 44 = .ok (.istore 5, 2) by decide +kernel) (zset_s (Nat.le_of_ble_eq_true rfl) rfl)) ?_
    refine Iff.trans (zw_iconst (x := (-1)) (show decode cX12_best 46 = .ok (.iconst (-1), 1) by decide +kernel) (by decide)) ?_
    refine Iff.trans (zw_istore (ls' := [.ref 131, .int x1, .int x2, .int x3, .int x4, .int (-1), .int (-1), .retAddr 0, .retAddr 0, .retAddr 0, .retAddr 0, .retAddr 0]) (show decode cX12_best 47 = .ok (.istore 6, 2) by decide +kernel) (zset_s (Nat.le_of_ble_eq_true rfl) rfl)) ?_
    refine Iff.trans (zw_iconst (x := (-1)) (show decode cX12_best 49 = .ok (.iconst (-1), 1) by decide +kernel) (by decide)) ?_
    refine Iff.trans (zw_istore (ls' := [.ref 131, .int x1, .int x2, .int x3, .int x4, .int (-1), .int (-1), .int (-1), .retAddr 0, .retAddr 0, .retAddr 0, .retAddr 0]) (show decode cX12_best 50 = .ok (.istore 7, 2) by decide +kernel) (zset_s (Nat.le_of_ble_eq_true rfl) rfl)) ?_
    refine Iff.trans (zw_iconst (x := 0) (show decode cX12_best 52 = .ok (.iconst 0, 1) by decide +kernel) (by decide)) ?_
    refine Iff.trans (zw_istore (ls' := [.ref 131, .int x1, .int x2, .int x3, .int x4, .int (-1), .int (-1), .int (-1), .int 0, .retAddr 0, .retAddr 0, .retAddr 0]) (show decode cX12_best 53 = .ok (.istore 8, 2) by decide +kernel) (zset_s (Nat.le_of_ble_eq_true rfl) rfl)) ?_
    exact Iff.rfl

theorem bX12_best_55 {d : Nat} {σ : zS} {Q : Option Value → zS → Prop} (hl : zLay σ) {x1 x2 x3 x4 x5 x6 x7 x8 : Int32} {v9 v10 v11 : Value} (hv9 : v9.category = 1) (hv10 : v10.category = 1) (hv11 : v11.category = 1) : zW (d + 1) kX12_best 55 [.ref 131, .int x1, .int x2, .int x3, .int x4, .int x5, .int x6, .int x7, .int x8, v9, v10, v11] [] σ Q ↔ (if (zI σ 131 12) ≤ x8 then (if x4 = (0 : Int32) then Q (some (.int x5)) σ else (if x4 = 1 then Q (some (.int x6)) σ else Q (some (.int x7)) σ)) else zW (d + 1) kX12_best 67 [.ref 131, .int x1, .int x2, .int x3, .int x4, .int x5, .int x6, .int x7, .int x8, .int 0, v10, v11] [] σ Q) := by
  refine Iff.trans (zw_iload (show decode cX12_best 55 = .ok (.iload 8, 2) by decide +kernel) rfl) ?_
  refine Iff.trans (zw_aload_n (show decode cX12_best 57 = .ok (.aload_n 0, 1) by decide +kernel) rfl) ?_
  refine Iff.trans (zw_getI (show decode cX12_best 58 = .ok (.getfield 184, 3) by decide +kernel) (by decide +kernel : zfld 12 184 = some (12, 12)) (hl.k2 zk_131) (hl.n2 zk_131) (Or.inl rfl) (w := zI σ 131 12) rfl) ?_
  refine Iff.trans (zw_icmp_ge (t := 177) (show decode cX12_best 61 = .ok (.if_icmp .ge 116, 3) by decide +kernel) (by decide)) ?_
  refine zw_ite ?_ ?_
  · refine Iff.trans (zw_iload (show decode cX12_best 177 = .ok (.iload 4, 2) by decide +kernel) rfl) ?_
    refine Iff.trans (zw_if_ne (t := 187) (show decode cX12_best 179 = .ok (.ifCond .ne 8, 3) by decide +kernel) (by decide)) ?_
    refine zw_ite ?_ ?_
    · refine Iff.trans (zw_iload (show decode cX12_best 182 = .ok (.iload 5, 2) by decide +kernel) rfl) ?_
      refine Iff.trans (zw_goto (t := 200) (show decode cX12_best 184 = .ok (.goto 16, 3) by decide +kernel) (by decide)) ?_
      exact zw_iret1 (show decode cX12_best 200 = .ok (.ireturn, 1) by decide +kernel) rfl
    · refine Iff.trans (zw_iload (show decode cX12_best 187 = .ok (.iload 4, 2) by decide +kernel) rfl) ?_
      refine Iff.trans (zw_iconst (x := 1) (show decode cX12_best 189 = .ok (.iconst 1, 1) by decide +kernel) (by decide)) ?_
      refine Iff.trans (zw_icmp_ne (t := 198) (show decode cX12_best 190 = .ok (.if_icmp .ne 8, 3) by decide +kernel) (by decide)) ?_
      refine zw_ite ?_ ?_
      · refine Iff.trans (zw_iload (show decode cX12_best 193 = .ok (.iload 6, 2) by decide +kernel) rfl) ?_
        refine Iff.trans (zw_goto (t := 200) (show decode cX12_best 195 = .ok (.goto 5, 3) by decide +kernel) (by decide)) ?_
        exact zw_iret1 (show decode cX12_best 200 = .ok (.ireturn, 1) by decide +kernel) rfl
      · refine Iff.trans (zw_iload (show decode cX12_best 198 = .ok (.iload 7, 2) by decide +kernel) rfl) ?_
        exact zw_iret1 (show decode cX12_best 200 = .ok (.ireturn, 1) by decide +kernel) rfl
  · refine Iff.trans (zw_iconst (x := 0) (show decode cX12_best 64 = .ok (.iconst 0, 1) by decide +kernel) (by decide)) ?_
    refine Iff.trans (zw_istore (ls' := [.ref 131, .int x1, .int x2, .int x3, .int x4, .int x5, .int x6, .int x7, .int x8, .int 0, v10, v11]) (show decode cX12_best 65 = .ok (.istore 9, 2) by decide +kernel) (zset_s (Nat.le_of_ble_eq_true rfl) rfl)) ?_
    exact Iff.rfl

theorem bX12_best_67 {d : Nat} {σ : zS} {Q : Option Value → zS → Prop} (hl : zLay σ) {x1 x2 x3 x4 x5 x6 x7 x8 x9 : Int32} {v10 v11 : Value} (hv10 : v10.category = 1) (hv11 : v11.category = 1) : zW (d + 1) kX12_best 67 [.ref 131, .int x1, .int x2, .int x3, .int x4, .int x5, .int x6, .int x7, .int x8, .int x9, v10, v11] [] σ Q ↔ (vp_in x1 7 ∧ (if (zI σ 134 (x1 : Int32).toNatClampNeg) ≤ x9 then zW (d + 1) kX12_best 55 [.ref 131, .int x1, .int x2, .int x3, .int x4, .int x5, .int x6, .int x7, .int (x8 + 1), .int x9, v10, v11] [] σ Q else zCall d kX12_has [.int x2, .int x8] σ (fun r σ' => zisN r = true ∧ zW (d + 1) kX12_best 84 [.ref 131, .int x1, .int x2, .int x3, .int x4, .int x5, .int x6, .int x7, .int x8, .int x9, v10, v11] (zRstk r ++ []) σ' Q))) := by
  refine Iff.trans (zw_iload (show decode cX12_best 67 = .ok (.iload 9, 2) by decide +kernel) rfl) ?_
  refine Iff.trans (zw_aload_n (show decode cX12_best 69 = .ok (.aload_n 0, 1) by decide +kernel) rfl) ?_
  refine Iff.trans (zw_get (show decode cX12_best 70 = .ok (.getfield 17, 3) by decide +kernel) (by decide +kernel : zfld 12 17 = some (12, 6)) (hl.k2 zk_131) (hl.n2 zk_131) (zgetR (v := 134) (hl.r zrt_131_6) rfl)) ?_
  refine Iff.trans (zw_iload_n (show decode cX12_best 73 = .ok (.iload_n 1, 1) by decide +kernel) rfl) ?_
  refine Iff.trans (zw_iald2 (show decode cX12_best 74 = .ok (.iaload, 1) by decide +kernel) (hl.k2 zk_134) (hl.n2 zk_134) (hl.l2 zk_134 zl_134) (w := zI σ 134 (x1 : Int32).toNatClampNeg) rfl) ?_
  refine zw_and ?_
  refine Iff.trans (zw_icmp_ge (t := 171) (show decode cX12_best 75 = .ok (.if_icmp .ge 96, 3) by decide +kernel) (by decide)) ?_
  refine zw_ite ?_ ?_
  · refine Iff.trans (zw_iinc (w := 1) (ls' := [.ref 131, .int x1, .int x2, .int x3, .int x4, .int x5, .int x6, .int x7, .int (x8 + 1), .int x9, v10, v11]) (show decode cX12_best 171 = .ok (.iinc 8 1, 3) by decide +kernel) rfl (by decide) (zset_s (Nat.le_of_ble_eq_true rfl) rfl)) ?_
    refine Iff.trans (zw_goto (t := 55) (show decode cX12_best 174 = .ok (.goto (-119), 3) by decide +kernel) (by decide)) ?_
    exact Iff.rfl
  · refine Iff.trans (zw_iload_n (show decode cX12_best 78 = .ok (.iload_n 2, 1) by decide +kernel) rfl) ?_
    refine Iff.trans (zw_iload (show decode cX12_best 79 = .ok (.iload 8, 2) by decide +kernel) rfl) ?_
    refine Iff.trans (zw_invS (K' := kX12_has) (as := [.int x2, .int x8]) (rest := []) (show decode cX12_best 81 = .ok (.invokestatic 167, 3) by decide +kernel) (by rfl) rfl rfl rfl ⟨Nat.le_of_ble_eq_true rfl, Nat.le_of_ble_eq_true rfl, Nat.le_of_ble_eq_true rfl⟩) ?_
    exact Iff.rfl

theorem bX12_best_84 {d : Nat} {σ : zS} {Q : Option Value → zS → Prop} (hl : zLay σ) {x1 x2 x3 x4 x5 x6 x7 x8 x9 y0 : Int32} {v10 v11 : Value} (hv10 : v10.category = 1) (hv11 : v11.category = 1) : zW (d + 1) kX12_best 84 [.ref 131, .int x1, .int x2, .int x3, .int x4, .int x5, .int x6, .int x7, .int x8, .int x9, v10, v11] [.int y0] σ Q ↔ (if y0 = (0 : Int32) then zW (d + 1) kX12_best 67 [.ref 131, .int x1, .int x2, .int x3, .int x4, .int x5, .int x6, .int x7, .int x8, .int (x9 + 1), v10, v11] [] σ Q else zCall d kX12_canBegin [.ref 131, .int x1, .int x8, .int x9] σ (fun r σ' => zisN r = true ∧ zW (d + 1) kX12_best 96 [.ref 131, .int x1, .int x2, .int x3, .int x4, .int x5, .int x6, .int x7, .int x8, .int x9, v10, v11] (zRstk r ++ []) σ' Q)) := by
  refine Iff.trans (zw_if_eq (t := 165) (show decode cX12_best 84 = .ok (.ifCond .eq 81, 3) by decide +kernel) (by decide)) ?_
  refine zw_ite ?_ ?_
  · refine Iff.trans (zw_iinc (w := 1) (ls' := [.ref 131, .int x1, .int x2, .int x3, .int x4, .int x5, .int x6, .int x7, .int x8, .int (x9 + 1), v10, v11]) (show decode cX12_best 165 = .ok (.iinc 9 1, 3) by decide +kernel) rfl (by decide) (zset_s (Nat.le_of_ble_eq_true rfl) rfl)) ?_
    refine Iff.trans (zw_goto (t := 67) (show decode cX12_best 168 = .ok (.goto (-101), 3) by decide +kernel) (by decide)) ?_
    exact Iff.rfl
  · refine Iff.trans (zw_aload_n (show decode cX12_best 87 = .ok (.aload_n 0, 1) by decide +kernel) rfl) ?_
    refine Iff.trans (zw_iload_n (show decode cX12_best 88 = .ok (.iload_n 1, 1) by decide +kernel) rfl) ?_
    refine Iff.trans (zw_iload (show decode cX12_best 89 = .ok (.iload 8, 2) by decide +kernel) rfl) ?_
    refine Iff.trans (zw_iload (show decode cX12_best 91 = .ok (.iload 9, 2) by decide +kernel) rfl) ?_
    refine Iff.trans (zw_invV (K' := kX12_canBegin) (as' := [.int x1, .int x8, .int x9]) (rest := []) (show decode cX12_best 93 = .ok (.invokevirtual 357, 3) by decide +kernel) (by rfl) rfl rfl rfl (hl.k2 zk_131) (by decide) (hl.n2 zk_131) ⟨Nat.le_of_ble_eq_true rfl, Nat.le_of_ble_eq_true rfl, Nat.le_of_ble_eq_true rfl⟩) ?_
    exact Iff.rfl

theorem bX12_best_96 {d : Nat} {σ : zS} {Q : Option Value → zS → Prop} (hl : zLay σ) {x1 x2 x3 x4 x5 x6 x7 x8 x9 y0 : Int32} {v10 v11 : Value} (hv10 : v10.category = 1) (hv11 : v11.category = 1) : zW (d + 1) kX12_best 96 [.ref 131, .int x1, .int x2, .int x3, .int x4, .int x5, .int x6, .int x7, .int x8, .int x9, v10, v11] [.int y0] σ Q ↔ (if y0 = (0 : Int32) then zW (d + 1) kX12_best 67 [.ref 131, .int x1, .int x2, .int x3, .int x4, .int x5, .int x6, .int x7, .int x8, .int (x9 + 1), v10, v11] [] σ Q else zW (d + 1) kX12_best 108 [.ref 131, .int x1, .int x2, .int x3, .int x4, .int x5, .int x6, .int x7, .int x8, .int x9, .int 0, .int 0] [] σ Q) := by
  refine Iff.trans (zw_if_ne (t := 102) (show decode cX12_best 96 = .ok (.ifCond .ne 6, 3) by decide +kernel) (by decide)) ?_
  refine zw_ite ?_ ?_
  · refine Iff.trans (zw_goto (t := 165) (show decode cX12_best 99 = .ok (.goto 66, 3) by decide +kernel) (by decide)) ?_
    refine Iff.trans (zw_iinc (w := 1) (ls' := [.ref 131, .int x1, .int x2, .int x3, .int x4, .int x5, .int x6, .int x7, .int x8, .int (x9 + 1), v10, v11]) (show decode cX12_best 165 = .ok (.iinc 9 1, 3) by decide +kernel) rfl (by decide) (zset_s (Nat.le_of_ble_eq_true rfl) rfl)) ?_
    refine Iff.trans (zw_goto (t := 67) (show decode cX12_best 168 = .ok (.goto (-101), 3) by decide +kernel) (by decide)) ?_
    exact Iff.rfl
  · refine Iff.trans (zw_iconst (x := 0) (show decode cX12_best 102 = .ok (.iconst 0, 1) by decide +kernel) (by decide)) ?_
    refine Iff.trans (zw_istore (ls' := [.ref 131, .int x1, .int x2, .int x3, .int x4, .int x5, .int x6, .int x7, .int x8, .int x9, .int 0, v11]) (show decode cX12_best 103 = .ok (.istore 10, 2) by decide +kernel) (zset_s (Nat.le_of_ble_eq_true rfl) rfl)) ?_
    refine Iff.trans (zw_iconst (x := 0) (show decode cX12_best 105 = .ok (.iconst 0, 1) by decide +kernel) (by decide)) ?_
    refine Iff.trans (zw_istore (ls' := [.ref 131, .int x1, .int x2, .int x3, .int x4, .int x5, .int x6, .int x7, .int x8, .int x9, .int 0, .int 0]) (show decode cX12_best 106 = .ok (.istore 11, 2) by decide +kernel) (zset_s (Nat.le_of_ble_eq_true rfl) rfl)) ?_
    exact Iff.rfl

theorem bX12_best_108 {d : Nat} {σ : zS} {Q : Option Value → zS → Prop} (hl : zLay σ) {x1 x2 x3 x4 x5 x6 x7 x8 x9 x10 x11 : Int32} : zW (d + 1) kX12_best 108 [.ref 131, .int x1, .int x2, .int x3, .int x4, .int x5, .int x6, .int x7, .int x8, .int x9, .int x10, .int x11] [] σ Q ↔ (if x3 ≤ x11 then (if x7 = (-1) then zW (d + 1) kX12_best 153 [.ref 131, .int x1, .int x2, .int x3, .int x4, .int x5, .int x6, .int x7, .int x8, .int x9, .int x10, .int x11] [] σ Q else (if x10 < x7 then zW (d + 1) kX12_best 153 [.ref 131, .int x1, .int x2, .int x3, .int x4, .int x5, .int x6, .int x7, .int x8, .int x9, .int x10, .int x11] [] σ Q else zW (d + 1) kX12_best 67 [.ref 131, .int x1, .int x2, .int x3, .int x4, .int x5, .int x6, .int x7, .int x8, .int (x9 + 1), .int x10, .int x11] [] σ Q)) else zCall d kX12_aloneBy [.ref 131, .int x1, .int x8, .int x9, .long ((x11 : Int32).toInt64)] σ (fun r σ' => zisN r = true ∧ zW (d + 1) kX12_best 128 [.ref 131, .int x1, .int x2, .int x3, .int x4, .int x5, .int x6, .int x7, .int x8, .int x9, .int x10, .int x11] (zRstk r ++ [.int x10]) σ' Q)) := by
  refine Iff.trans (zw_iload (show decode cX12_best 108 = .ok (.iload 11, 2) by decide +kernel) rfl) ?_
  refine Iff.trans (zw_iload_n (show decode cX12_best 110 = .ok (.iload_n 3, 1) by decide +kernel) rfl) ?_
  refine Iff.trans (zw_icmp_ge (t := 137) (show decode cX12_best 111 = .ok (.if_icmp .ge 26, 3) by decide +kernel) (by decide)) ?_
  refine zw_ite ?_ ?_
  · refine Iff.trans (zw_iload (show decode cX12_best 137 = .ok (.iload 7, 2) by decide +kernel) rfl) ?_
    refine Iff.trans (zw_iconst (x := (-1)) (show decode cX12_best 139 = .ok (.iconst (-1), 1) by decide +kernel) (by decide)) ?_
    refine Iff.trans (zw_icmp_eq (t := 153) (show decode cX12_best 140 = .ok (.if_icmp .eq 13, 3) by decide +kernel) (by decide)) ?_
    refine zw_ite ?_ ?_
    · exact Iff.rfl
    · refine Iff.trans (zw_iload (show decode cX12_best 143 = .ok (.iload 10, 2) by decide +kernel) rfl) ?_
      refine Iff.trans (zw_iload (show decode cX12_best 145 = .ok (.iload 7, 2) by decide +kernel) rfl) ?_
      refine Iff.trans (zw_icmp_lt (t := 153) (show decode cX12_best 147 = .ok (.if_icmp .lt 6, 3) by decide +kernel) (by decide)) ?_
      refine zw_ite ?_ ?_
      · exact Iff.rfl
      · refine Iff.trans (zw_goto (t := 165) (show decode cX12_best 150 = .ok (.goto 15, 3) by decide +kernel) (by decide)) ?_
        refine Iff.trans (zw_iinc (w := 1) (ls' := [.ref 131, .int x1, .int x2, .int x3, .int x4, .int x5, .int x6, .int x7, .int x8, .int (x9 + 1), .int x10, .int x11]) (show decode cX12_best 165 = .ok (.iinc 9 1, 3) by decide +kernel) rfl (by decide) (zset_s (Nat.le_of_ble_eq_true rfl) rfl)) ?_
        refine Iff.trans (zw_goto (t := 67) (show decode cX12_best 168 = .ok (.goto (-101), 3) by decide +kernel) (by decide)) ?_
        exact Iff.rfl
  · refine Iff.trans (zw_iload (show decode cX12_best 114 = .ok (.iload 10, 2) by decide +kernel) rfl) ?_
    refine Iff.trans (zw_aload_n (show decode cX12_best 116 = .ok (.aload_n 0, 1) by decide +kernel) rfl) ?_
    refine Iff.trans (zw_iload_n (show decode cX12_best 117 = .ok (.iload_n 1, 1) by decide +kernel) rfl) ?_
    refine Iff.trans (zw_iload (show decode cX12_best 118 = .ok (.iload 8, 2) by decide +kernel) rfl) ?_
    refine Iff.trans (zw_iload (show decode cX12_best 120 = .ok (.iload 9, 2) by decide +kernel) rfl) ?_
    refine Iff.trans (zw_iload (show decode cX12_best 122 = .ok (.iload 11, 2) by decide +kernel) rfl) ?_
    refine Iff.trans (zw_i2l (show decode cX12_best 124 = .ok (.i2l, 1) by decide +kernel)) ?_
    refine Iff.trans (zw_invV (K' := kX12_aloneBy) (as' := [.int x1, .int x8, .int x9, .long ((x11 : Int32).toInt64)]) (rest := [.int x10]) (show decode cX12_best 125 = .ok (.invokevirtual 360, 3) by decide +kernel) (by rfl) rfl rfl rfl (hl.k2 zk_131) (by decide) (hl.n2 zk_131) ⟨Nat.le_of_ble_eq_true rfl, Nat.le_of_ble_eq_true rfl, Nat.le_of_ble_eq_true rfl⟩) ?_
    exact Iff.rfl

theorem bX12_best_128 {d : Nat} {σ : zS} {Q : Option Value → zS → Prop} (hl : zLay σ) {x1 x2 x3 x4 x5 x6 x7 x8 x9 x10 x11 y0 y1 : Int32} : zW (d + 1) kX12_best 128 [.ref 131, .int x1, .int x2, .int x3, .int x4, .int x5, .int x6, .int x7, .int x8, .int x9, .int x10, .int x11] [.int y0, .int y1] σ Q ↔ zW (d + 1) kX12_best 108 [.ref 131, .int x1, .int x2, .int x3, .int x4, .int x5, .int x6, .int x7, .int x8, .int x9, .int (y1 + y0), .int (x11 + 1)] [] σ Q := by
  refine Iff.trans (zw_iadd (show decode cX12_best 128 = .ok (.iadd, 1) by decide +kernel)) ?_
  refine Iff.trans (zw_istore (ls' := [.ref 131, .int x1, .int x2, .int x3, .int x4, .int x5, .int x6, .int x7, .int x8, .int x9, .int (y1 + y0), .int x11]) (show decode cX12_best 129 = .ok (.istore 10, 2) by decide +kernel) (zset_s (Nat.le_of_ble_eq_true rfl) rfl)) ?_
  refine Iff.trans (zw_iinc (w := 1) (ls' := [.ref 131, .int x1, .int x2, .int x3, .int x4, .int x5, .int x6, .int x7, .int x8, .int x9, .int (y1 + y0), .int (x11 + 1)]) (show decode cX12_best 131 = .ok (.iinc 11 1, 3) by decide +kernel) rfl (by decide) (zset_s (Nat.le_of_ble_eq_true rfl) rfl)) ?_
  refine Iff.trans (zw_goto (t := 108) (show decode cX12_best 134 = .ok (.goto (-26), 3) by decide +kernel) (by decide)) ?_
  exact Iff.rfl

theorem bX12_best_153 {d : Nat} {σ : zS} {Q : Option Value → zS → Prop} (hl : zLay σ) {x1 x2 x3 x4 x5 x6 x7 x8 x9 x10 x11 : Int32} : zW (d + 1) kX12_best 153 [.ref 131, .int x1, .int x2, .int x3, .int x4, .int x5, .int x6, .int x7, .int x8, .int x9, .int x10, .int x11] [] σ Q ↔ zW (d + 1) kX12_best 67 [.ref 131, .int x1, .int x2, .int x3, .int x4, .int x8, .int x9, .int x10, .int x8, .int (x9 + 1), .int x10, .int x11] [] σ Q := by
  refine Iff.trans (zw_iload (show decode cX12_best 153 = .ok (.iload 10, 2) by decide +kernel) rfl) ?_
  refine Iff.trans (zw_istore (ls' := [.ref 131, .int x1, .int x2, .int x3, .int x4, .int x5, .int x6, .int x10, .int x8, .int x9, .int x10, .int x11]) (show decode cX12_best 155 = .ok (.istore 7, 2) by decide +kernel) (zset_s (Nat.le_of_ble_eq_true rfl) rfl)) ?_
  refine Iff.trans (zw_iload (show decode cX12_best 157 = .ok (.iload 8, 2) by decide +kernel) rfl) ?_
  refine Iff.trans (zw_istore (ls' := [.ref 131, .int x1, .int x2, .int x3, .int x4, .int x8, .int x6, .int x10, .int x8, .int x9, .int x10, .int x11]) (show decode cX12_best 159 = .ok (.istore 5, 2) by decide +kernel) (zset_s (Nat.le_of_ble_eq_true rfl) rfl)) ?_
  refine Iff.trans (zw_iload (show decode cX12_best 161 = .ok (.iload 9, 2) by decide +kernel) rfl) ?_
  refine Iff.trans (zw_istore (ls' := [.ref 131, .int x1, .int x2, .int x3, .int x4, .int x8, .int x9, .int x10, .int x8, .int x9, .int x10, .int x11]) (show decode cX12_best 163 = .ok (.istore 6, 2) by decide +kernel) (zset_s (Nat.le_of_ble_eq_true rfl) rfl)) ?_
  refine Iff.trans (zw_iinc (w := 1) (ls' := [.ref 131, .int x1, .int x2, .int x3, .int x4, .int x8, .int x9, .int x10, .int x8, .int (x9 + 1), .int x10, .int x11]) (show decode cX12_best 165 = .ok (.iinc 9 1, 3) by decide +kernel) rfl (by decide) (zset_s (Nat.le_of_ble_eq_true rfl) rfl)) ?_
  refine Iff.trans (zw_goto (t := 67) (show decode cX12_best 168 = .ok (.goto (-101), 3) by decide +kernel) (by decide)) ?_
  exact Iff.rfl

