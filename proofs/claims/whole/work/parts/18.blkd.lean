theorem bX12_thrown_0 {d : Nat} {σ : zS} {Q : Option Value → zS → Prop} (hl : zLay σ) : zCall d kX12_thrown [.ref 131] σ Q ↔ Q (some (.int (zI σ 131 0))) σ := by
  show zW d kX12_thrown 0 [.ref 131] [] σ Q ↔ _
  refine Iff.trans (zw_aload_n (show decode cX12_thrown 0 = .ok (.aload_n 0, 1) by decide +kernel) rfl) ?_
  refine Iff.trans (zw_getI (show decode cX12_thrown 1 = .ok (.getfield 118, 3) by decide +kernel) (by decide +kernel : zfld 12 118 = some (12, 0)) (hl.k2 zk_131) (hl.n2 zk_131) (Or.inl rfl) (w := zI σ 131 0) rfl) ?_
  exact zw_iret1 (show decode cX12_thrown 4 = .ok (.ireturn, 1) by decide +kernel) rfl

theorem bX12_isIn_0 {d : Nat} {σ : zS} {Q : Option Value → zS → Prop} (hl : zLay σ) {x0 x1 x2 : Int32} : zCall d kX12_isIn [.int x0, .int x1, .int x2] σ Q ↔ (if x0 < x1 then Q (some (.int 0)) σ else (if x2 < x0 then Q (some (.int 0)) σ else Q (some (.int 1)) σ)) := by
  show zW d kX12_isIn 0 [.int x0, .int x1, .int x2] [] σ Q ↔ _
  refine Iff.trans (zw_iload_n (show decode cX12_isIn 0 = .ok (.iload_n 0, 1) by decide +kernel) rfl) ?_
  refine Iff.trans (zw_iload_n (show decode cX12_isIn 1 = .ok (.iload_n 1, 1) by decide +kernel) rfl) ?_
  refine Iff.trans (zw_icmp_lt (t := 14) (show decode cX12_isIn 2 = .ok (.if_icmp .lt 12, 3) by decide +kernel) (by decide)) ?_
  refine zw_ite ?_ ?_
  · refine Iff.trans (zw_iconst (x := 0) (show decode cX12_isIn 14 = .ok (.iconst 0, 1) by decide +kernel) (by decide)) ?_
    exact zw_iret2c (show decode cX12_isIn 15 = .ok (.ireturn, 1) by decide +kernel) rfl (Or.inl rfl)
  · refine Iff.trans (zw_iload_n (show decode cX12_isIn 5 = .ok (.iload_n 0, 1) by decide +kernel) rfl) ?_
    refine Iff.trans (zw_iload_n (show decode cX12_isIn 6 = .ok (.iload_n 2, 1) by decide +kernel) rfl) ?_
    refine Iff.trans (zw_icmp_gt (t := 14) (show decode cX12_isIn 7 = .ok (.if_icmp .gt 7, 3) by decide +kernel) (by decide)) ?_
    refine zw_ite ?_ ?_
    · refine Iff.trans (zw_iconst (x := 0) (show decode cX12_isIn 14 = .ok (.iconst 0, 1) by decide +kernel) (by decide)) ?_
      exact zw_iret2c (show decode cX12_isIn 15 = .ok (.ireturn, 1) by decide +kernel) rfl (Or.inl rfl)
    · refine Iff.trans (zw_iconst (x := 1) (show decode cX12_isIn 10 = .ok (.iconst 1, 1) by decide +kernel) (by decide)) ?_
      refine Iff.trans (zw_goto (t := 15) (show decode cX12_isIn 11 = .ok (.goto 4, 3) by decide +kernel) (by decide)) ?_
      exact zw_iret2c (show decode cX12_isIn 15 = .ok (.ireturn, 1) by decide +kernel) rfl (Or.inr rfl)

theorem bX12_has_0 {d : Nat} {σ : zS} {Q : Option Value → zS → Prop} (hl : zLay σ) {x0 x1 : Int32} : zCall d kX12_has [.int x0, .int x1] σ Q ↔ (if ((x0 >>> (x1 &&& 31)) &&& 1) = 1 then Q (some (.int 1)) σ else Q (some (.int 0)) σ) := by
  show zW d kX12_has 0 [.int x0, .int x1] [] σ Q ↔ _
  refine Iff.trans (zw_iload_n (show decode cX12_has 0 = .ok (.iload_n 0, 1) by decide +kernel) rfl) ?_
  refine Iff.trans (zw_iload_n (show decode cX12_has 1 = .ok (.iload_n 1, 1) by decide +kernel) rfl) ?_
  refine Iff.trans (zw_ishr (show decode cX12_has 2 = .ok (.ishr, 1) by decide +kernel)) ?_
  refine Iff.trans (zw_iconst (x := 1) (show decode cX12_has 3 = .ok (.iconst 1, 1) by decide +kernel) (by decide)) ?_
  refine Iff.trans (zw_iand (show decode cX12_has 4 = .ok (.iand, 1) by decide +kernel)) ?_
  refine Iff.trans (zw_iconst (x := 1) (show decode cX12_has 5 = .ok (.iconst 1, 1) by decide +kernel) (by decide)) ?_
  refine Iff.trans (zw_icmp_ne (t := 13) (show decode cX12_has 6 = .ok (.if_icmp .ne 7, 3) by decide +kernel) (by decide)) ?_
  refine zw_ite ?_ ?_
  · refine Iff.trans (zw_iconst (x := 1) (show decode cX12_has 9 = .ok (.iconst 1, 1) by decide +kernel) (by decide)) ?_
    refine Iff.trans (zw_goto (t := 14) (show decode cX12_has 10 = .ok (.goto 4, 3) by decide +kernel) (by decide)) ?_
    exact zw_iret2c (show decode cX12_has 14 = .ok (.ireturn, 1) by decide +kernel) rfl (Or.inr rfl)
  · refine Iff.trans (zw_iconst (x := 0) (show decode cX12_has 13 = .ok (.iconst 0, 1) by decide +kernel) (by decide)) ?_
    exact zw_iret2c (show decode cX12_has 14 = .ok (.ireturn, 1) by decide +kernel) rfl (Or.inl rfl)

theorem bX12_isBefore_0 {d : Nat} {σ : zS} {Q : Option Value → zS → Prop} (hl : zLay σ) {x0 x1 : Int32} : zCall (d + 1) kX12_isBefore [.int x0, .int x1] σ Q ↔ zCall d kJ6_bitCount_0f7a4 [.int x0] σ (fun r σ' => zisN r = true ∧ zW (d + 1) kX12_isBefore 4 [.int x0, .int x1, .retAddr 0, .retAddr 0, .retAddr 0] (zRstk r ++ []) σ' Q) := by
  show zW (d + 1) kX12_isBefore 0 [.int x0, .int x1, .retAddr 0, .retAddr 0, .retAddr 0] [] σ Q ↔ _
  refine Iff.trans (zw_iload_n (show decode cX12_isBefore 0 = .ok (.iload_n 0, 1) by decide +kernel) rfl) ?_
  refine Iff.trans (zw_invS (K' := kJ6_bitCount_0f7a4) (as := [.int x0]) (rest := []) (show decode cX12_isBefore 1 = .ok (.invokestatic 121, 3) by decide +kernel) (by rfl) rfl rfl rfl ⟨Nat.le_of_ble_eq_true rfl, Nat.le_of_ble_eq_true rfl, Nat.le_of_ble_eq_true rfl⟩) ?_
  exact Iff.rfl

theorem bX12_isBefore_4 {d : Nat} {σ : zS} {Q : Option Value → zS → Prop} (hl : zLay σ) {x0 x1 y0 : Int32} : zW (d + 1) kX12_isBefore 4 [.int x0, .int x1, .retAddr 0, .retAddr 0, .retAddr 0] [.int y0] σ Q ↔ zCall d kJ6_bitCount_0f7a4 [.int x1] σ (fun r σ' => zisN r = true ∧ zW (d + 1) kX12_isBefore 9 [.int x0, .int x1, .int y0, .retAddr 0, .retAddr 0] (zRstk r ++ []) σ' Q) := by
  refine Iff.trans (zw_istore_n (ls' := [.int x0, .int x1, .int y0, .retAddr 0, .retAddr 0]) (show decode cX12_isBefore 4 = .ok (.istore_n 2, 1) by decide +kernel) (zset_s (Nat.le_of_ble_eq_true rfl) rfl)) ?_
  refine Iff.trans (zw_iload_n (show decode cX12_isBefore 5 = .ok (.iload_n 1, 1) by decide +kernel) rfl) ?_
  refine Iff.trans (zw_invS (K' := kJ6_bitCount_0f7a4) (as := [.int x1]) (rest := []) (show decode cX12_isBefore 6 = .ok (.invokestatic 121, 3) by decide +kernel) (by rfl) rfl rfl rfl ⟨Nat.le_of_ble_eq_true rfl, Nat.le_of_ble_eq_true rfl, Nat.le_of_ble_eq_true rfl⟩) ?_
  exact Iff.rfl

theorem bX12_isBefore_9 {d : Nat} {σ : zS} {Q : Option Value → zS → Prop} (hl : zLay σ) {x0 x1 x2 y0 : Int32} : zW (d + 1) kX12_isBefore 9 [.int x0, .int x1, .int x2, .retAddr 0, .retAddr 0] [.int y0] σ Q ↔ (if x2 = y0 then (if ((x0 &&& (x0 ^^^ x1)) &&& (-(x0 ^^^ x1))) = (0 : Int32) then Q (some (.int 0)) σ else Q (some (.int 1)) σ) else (if y0 ≤ x2 then Q (some (.int 0)) σ else Q (some (.int 1)) σ)) := by
  refine Iff.trans (zw_istore_n (ls' := [.int x0, .int x1, .int x2, .int y0, .retAddr 0]) (show decode cX12_isBefore 9 = .ok (.istore_n 3, 1) by decide +kernel) (zset_s (Nat.le_of_ble_eq_true rfl) rfl)) ?_
  refine Iff.trans (zw_iload_n (show decode cX12_isBefore 10 = .ok (.iload_n 0, 1) by decide +kernel) rfl) ?_
  refine Iff.trans (zw_iload_n (show decode cX12_isBefore 11 = .ok (.iload_n 1, 1) by decide +kernel) rfl) ?_
  refine Iff.trans (zw_ixor (show decode cX12_isBefore 12 = .ok (.ixor, 1) by decide +kernel)) ?_
  refine Iff.trans (zw_istore (ls' := [.int x0, .int x1, .int x2, .int y0, .int (x0 ^^^ x1)]) (show decode cX12_isBefore 13 = .ok (.istore 4, 2) by decide +kernel) (zset_s (Nat.le_of_ble_eq_true rfl) rfl)) ?_
  refine Iff.trans (zw_iload_n (show decode cX12_isBefore 15 = .ok (.iload_n 2, 1) by decide +kernel) rfl) ?_
  refine Iff.trans (zw_iload_n (show decode cX12_isBefore 16 = .ok (.iload_n 3, 1) by decide +kernel) rfl) ?_
  refine Iff.trans (zw_icmp_eq (t := 33) (show decode cX12_isBefore 17 = .ok (.if_icmp .eq 16, 3) by decide +kernel) (by decide)) ?_
  refine zw_ite ?_ ?_
  · refine Iff.trans (zw_iload_n (show decode cX12_isBefore 33 = .ok (.iload_n 0, 1) by decide +kernel) rfl) ?_
    refine Iff.trans (zw_iload (show decode cX12_isBefore 34 = .ok (.iload 4, 2) by decide +kernel) rfl) ?_
    refine Iff.trans (zw_iand (show decode cX12_isBefore 36 = .ok (.iand, 1) by decide +kernel)) ?_
    refine Iff.trans (zw_iload (show decode cX12_isBefore 37 = .ok (.iload 4, 2) by decide +kernel) rfl) ?_
    refine Iff.trans (zw_ineg (show decode cX12_isBefore 39 = .ok (.ineg, 1) by decide +kernel)) ?_
    refine Iff.trans (zw_iand (show decode cX12_isBefore 40 = .ok (.iand, 1) by decide +kernel)) ?_
    refine Iff.trans (zw_if_eq (t := 48) (show decode cX12_isBefore 41 = .ok (.ifCond .eq 7, 3) by decide +kernel) (by decide)) ?_
    refine zw_ite ?_ ?_
    · refine Iff.trans (zw_iconst (x := 0) (show decode cX12_isBefore 48 = .ok (.iconst 0, 1) by decide +kernel) (by decide)) ?_
      exact zw_iret2c (show decode cX12_isBefore 49 = .ok (.ireturn, 1) by decide +kernel) rfl (Or.inl rfl)
    · refine Iff.trans (zw_iconst (x := 1) (show decode cX12_isBefore 44 = .ok (.iconst 1, 1) by decide +kernel) (by decide)) ?_
      refine Iff.trans (zw_goto (t := 49) (show decode cX12_isBefore 45 = .ok (.goto 4, 3) by decide +kernel) (by decide)) ?_
      exact zw_iret2c (show decode cX12_isBefore 49 = .ok (.ireturn, 1) by decide +kernel) rfl (Or.inr rfl)
  · refine Iff.trans (zw_iload_n (show decode cX12_isBefore 20 = .ok (.iload_n 2, 1) by decide +kernel) rfl) ?_
    refine Iff.trans (zw_iload_n (show decode cX12_isBefore 21 = .ok (.iload_n 3, 1) by decide +kernel) rfl) ?_
    refine Iff.trans (zw_icmp_ge (t := 29) (show decode cX12_isBefore 22 = .ok (.if_icmp .ge 7, 3) by decide +kernel) (by decide)) ?_
    refine zw_ite ?_ ?_
    · refine Iff.trans (zw_iconst (x := 0) (show decode cX12_isBefore 29 = .ok (.iconst 0, 1) by decide +kernel) (by decide)) ?_
      refine Iff.trans (zw_goto (t := 49) (show decode cX12_isBefore 30 = .ok (.goto 19, 3) by decide +kernel) (by decide)) ?_
      exact zw_iret2c (show decode cX12_isBefore 49 = .ok (.ireturn, 1) by decide +kernel) rfl (Or.inl rfl)
    · refine Iff.trans (zw_iconst (x := 1) (show decode cX12_isBefore 25 = .ok (.iconst 1, 1) by decide +kernel) (by decide)) ?_
      refine Iff.trans (zw_goto (t := 49) (show decode cX12_isBefore 26 = .ok (.goto 23, 3) by decide +kernel) (by decide)) ?_
      exact zw_iret2c (show decode cX12_isBefore 49 = .ok (.ireturn, 1) by decide +kernel) rfl (Or.inr rfl)

theorem bX12_bytesIn_0 {d : Nat} {σ : zS} {Q : Option Value → zS → Prop} (hl : zLay σ) {x0 : Int32} : zCall d kX12_bytesIn [.int x0] σ Q ↔ zW d kX12_bytesIn 5 [.int x0, .int 0, .int 24] [] σ Q := by
  show zW d kX12_bytesIn 0 [.int x0, .retAddr 0, .retAddr 0] [] σ Q ↔ _
  refine Iff.trans (zw_iconst (x := 0) (show decode cX12_bytesIn 0 = .ok (.iconst 0, 1) by decide +kernel) (by decide)) ?_
  refine Iff.trans (zw_istore_n (ls' := [.int x0, .int 0, .retAddr 0]) (show decode cX12_bytesIn 1 = .ok (.istore_n 1, 1) by decide +kernel) (zset_s (Nat.le_of_ble_eq_true rfl) rfl)) ?_
  refine Iff.trans (zw_bipush (x := 24) (show decode cX12_bytesIn 2 = .ok (.bipush 24, 2) by decide +kernel) (by decide)) ?_
  refine Iff.trans (zw_istore_n (ls' := [.int x0, .int 0, .int 24]) (show decode cX12_bytesIn 4 = .ok (.istore_n 2, 1) by decide +kernel) (zset_s (Nat.le_of_ble_eq_true rfl) rfl)) ?_
  exact Iff.rfl

theorem bX12_bytesIn_5 {d : Nat} {σ : zS} {Q : Option Value → zS → Prop} (hl : zLay σ) {x0 x1 x2 : Int32} : zW d kX12_bytesIn 5 [.int x0, .int x1, .int x2] [] σ Q ↔ (if x2 < (0 : Int32) then Q (some (.int x1)) σ else (if ((x0 >>> (x2 &&& 31)) &&& 255) = (0 : Int32) then zW d kX12_bytesIn 5 [.int x0, .int (x1 + 0), .int (x2 + (-8))] [] σ Q else zW d kX12_bytesIn 5 [.int x0, .int (x1 + 1), .int (x2 + (-8))] [] σ Q)) := by
  refine Iff.trans (zw_iload_n (show decode cX12_bytesIn 5 = .ok (.iload_n 2, 1) by decide +kernel) rfl) ?_
  refine Iff.trans (zw_if_lt (t := 33) (show decode cX12_bytesIn 6 = .ok (.ifCond .lt 27, 3) by decide +kernel) (by decide)) ?_
  refine zw_ite ?_ ?_
  · refine Iff.trans (zw_iload_n (show decode cX12_bytesIn 33 = .ok (.iload_n 1, 1) by decide +kernel) rfl) ?_
    exact zw_iret1 (show decode cX12_bytesIn 34 = .ok (.ireturn, 1) by decide +kernel) rfl
  · refine Iff.trans (zw_iload_n (show decode cX12_bytesIn 9 = .ok (.iload_n 1, 1) by decide +kernel) rfl) ?_
    refine Iff.trans (zw_iload_n (show decode cX12_bytesIn 10 = .ok (.iload_n 0, 1) by decide +kernel) rfl) ?_
    refine Iff.trans (zw_iload_n (show decode cX12_bytesIn 11 = .ok (.iload_n 2, 1) by decide +kernel) rfl) ?_
    refine Iff.trans (zw_ishr (show decode cX12_bytesIn 12 = .ok (.ishr, 1) by decide +kernel)) ?_
    refine Iff.trans (zw_sipush (x := 255) (show decode cX12_bytesIn 13 = .ok (.sipush 255, 3) by decide +kernel) (by decide)) ?_
    refine Iff.trans (zw_iand (show decode cX12_bytesIn 16 = .ok (.iand, 1) by decide +kernel)) ?_
    refine Iff.trans (zw_if_eq (t := 24) (show decode cX12_bytesIn 17 = .ok (.ifCond .eq 7, 3) by decide +kernel) (by decide)) ?_
    refine zw_ite ?_ ?_
    · refine Iff.trans (zw_iconst (x := 0) (show decode cX12_bytesIn 24 = .ok (.iconst 0, 1) by decide +kernel) (by decide)) ?_
      refine Iff.trans (zw_iadd (show decode cX12_bytesIn 25 = .ok (.iadd, 1) by decide +kernel)) ?_
      refine Iff.trans (zw_istore_n (ls' := [.int x0, .int (x1 + 0), .int x2]) (show decode cX12_bytesIn 26 = .ok (.istore_n 1, 1) by decide +kernel) (zset_s (Nat.le_of_ble_eq_true rfl) rfl)) ?_
      refine Iff.trans (zw_iinc (w := (-8)) (ls' := [.int x0, .int (x1 + 0), .int (x2 + (-8))]) (show decode cX12_bytesIn 27 = .ok (.iinc 2 (-8), 3) by decide +kernel) rfl (by decide) (zset_s (Nat.le_of_ble_eq_true rfl) rfl)) ?_
      refine Iff.trans (zw_goto (t := 5) (show decode cX12_bytesIn 30 = .ok (.goto (-25), 3) by decide +kernel) (by decide)) ?_
      exact Iff.rfl
    · refine Iff.trans (zw_iconst (x := 1) (show decode cX12_bytesIn 20 = .ok (.iconst 1, 1) by decide +kernel) (by decide)) ?_
      refine Iff.trans (zw_goto (t := 25) (show decode cX12_bytesIn 21 = .ok (.goto 4, 3) by decide +kernel) (by decide)) ?_
      refine Iff.trans (zw_iadd (show decode cX12_bytesIn 25 = .ok (.iadd, 1) by decide +kernel)) ?_
      refine Iff.trans (zw_istore_n (ls' := [.int x0, .int (x1 + 1), .int x2]) (show decode cX12_bytesIn 26 = .ok (.istore_n 1, 1) by decide +kernel) (zset_s (Nat.le_of_ble_eq_true rfl) rfl)) ?_
      refine Iff.trans (zw_iinc (w := (-8)) (ls' := [.int x0, .int (x1 + 1), .int (x2 + (-8))]) (show decode cX12_bytesIn 27 = .ok (.iinc 2 (-8), 3) by decide +kernel) rfl (by decide) (zset_s (Nat.le_of_ble_eq_true rfl) rfl)) ?_
      refine Iff.trans (zw_goto (t := 5) (show decode cX12_bytesIn 30 = .ok (.goto (-25), 3) by decide +kernel) (by decide)) ?_
      exact Iff.rfl

theorem bX12_put_0 {d : Nat} {σ : zS} {Q : Option Value → zS → Prop} (hl : zLay σ) {x1 : Int32} : zCall d kX12_put [.ref 131, .int x1] σ Q ↔ zW d kX12_put 3 [.ref 131, .int x1, .int 24] [] σ Q := by
  show zW d kX12_put 0 [.ref 131, .int x1, .retAddr 0] [] σ Q ↔ _
  refine Iff.trans (zw_bipush (x := 24) (show decode cX12_put 0 = .ok (.bipush 24, 2) by decide +kernel) (by decide)) ?_
  refine Iff.trans (zw_istore_n (ls' := [.ref 131, .int x1, .int 24]) (show decode cX12_put 2 = .ok (.istore_n 2, 1) by decide +kernel) (zset_s (Nat.le_of_ble_eq_true rfl) rfl)) ?_
  exact Iff.rfl

theorem bX12_put_3 {d : Nat} {σ : zS} {Q : Option Value → zS → Prop} (hl : zLay σ) {x1 x2 : Int32} : zW d kX12_put 3 [.ref 131, .int x1, .int x2] [] σ Q ↔ (if x2 < (0 : Int32) then Q none σ else (if ((x1 >>> (x2 &&& 31)) &&& 255) = (0 : Int32) then zW d kX12_put 3 [.ref 131, .int x1, .int (x2 + (-8))] [] σ Q else (vp_in (zI σ 131 2) 160 ∧ zW d kX12_put 3 [.ref 131, .int x1, .int (x2 + (-8))] [] (zsI (zsI σ 132 (upd (zI σ 132) (zI σ 131 2 : Int32).toNatClampNeg (vp_nar (zAty 13) (((x1 >>> (x2 &&& 31)) : Int32).toInt8.toInt32)))) 131 (upd (zI σ 131) 2 ((zI σ 131 2) + 1))) Q))) := by
  refine Iff.trans (zw_iload_n (show decode cX12_put 3 = .ok (.iload_n 2, 1) by decide +kernel) rfl) ?_
  refine Iff.trans (zw_if_lt (t := 49) (show decode cX12_put 4 = .ok (.ifCond .lt 45, 3) by decide +kernel) (by decide)) ?_
  refine zw_ite ?_ ?_
  · exact zw_ret (show decode cX12_put 49 = .ok (.return_, 1) by decide +kernel) rfl
  · refine Iff.trans (zw_iload_n (show decode cX12_put 7 = .ok (.iload_n 1, 1) by decide +kernel) rfl) ?_
    refine Iff.trans (zw_iload_n (show decode cX12_put 8 = .ok (.iload_n 2, 1) by decide +kernel) rfl) ?_
    refine Iff.trans (zw_ishr (show decode cX12_put 9 = .ok (.ishr, 1) by decide +kernel)) ?_
    refine Iff.trans (zw_sipush (x := 255) (show decode cX12_put 10 = .ok (.sipush 255, 3) by decide +kernel) (by decide)) ?_
    refine Iff.trans (zw_iand (show decode cX12_put 13 = .ok (.iand, 1) by decide +kernel)) ?_
    refine Iff.trans (zw_if_ne (t := 20) (show decode cX12_put 14 = .ok (.ifCond .ne 6, 3) by decide +kernel) (by decide)) ?_
    refine zw_ite ?_ ?_
    · refine Iff.trans (zw_goto (t := 43) (show decode cX12_put 17 = .ok (.goto 26, 3) by decide +kernel) (by decide)) ?_
      refine Iff.trans (zw_iinc (w := (-8)) (ls' := [.ref 131, .int x1, .int (x2 + (-8))]) (show decode cX12_put 43 = .ok (.iinc 2 (-8), 3) by decide +kernel) rfl (by decide) (zset_s (Nat.le_of_ble_eq_true rfl) rfl)) ?_
      refine Iff.trans (zw_goto (t := 3) (show decode cX12_put 46 = .ok (.goto (-43), 3) by decide +kernel) (by decide)) ?_
      exact Iff.rfl
    · refine Iff.trans (zw_aload_n (show decode cX12_put 20 = .ok (.aload_n 0, 1) by decide +kernel) rfl) ?_
      refine Iff.trans (zw_get (show decode cX12_put 21 = .ok (.getfield 9, 3) by decide +kernel) (by decide +kernel : zfld 12 9 = some (12, 1)) (hl.k2 zk_131) (hl.n2 zk_131) (zgetR (v := 132) (hl.r zrt_131_1) rfl)) ?_
      refine Iff.trans (zw_aload_n (show decode cX12_put 24 = .ok (.aload_n 0, 1) by decide +kernel) rfl) ?_
      refine Iff.trans (zw_getI (show decode cX12_put 25 = .ok (.getfield 127, 3) by decide +kernel) (by decide +kernel : zfld 12 127 = some (12, 2)) (hl.k2 zk_131) (hl.n2 zk_131) (Or.inl rfl) (w := zI σ 131 2) rfl) ?_
      refine Iff.trans (zw_iload_n (show decode cX12_put 28 = .ok (.iload_n 1, 1) by decide +kernel) rfl) ?_
      refine Iff.trans (zw_iload_n (show decode cX12_put 29 = .ok (.iload_n 2, 1) by decide +kernel) rfl) ?_
      refine Iff.trans (zw_ishr (show decode cX12_put 30 = .ok (.ishr, 1) by decide +kernel)) ?_
      refine Iff.trans (zw_i2b (show decode cX12_put 31 = .ok (.i2b, 1) by decide +kernel)) ?_
      refine Iff.trans (zw_bast2 (show decode cX12_put 32 = .ok (.bastore, 1) by decide +kernel) (hl.k2 zk_132) (by decide) (hl.n2 zk_132) (hl.l2 zk_132 zl_132) (σ' := (zsI σ 132 (upd (zI σ 132) (zI σ 131 2 : Int32).toNatClampNeg (vp_nar (zAty 13) (((x1 >>> (x2 &&& 31)) : Int32).toInt8.toInt32))))) rfl) ?_
      refine zw_and ?_
      refine Iff.trans (zw_aload_n (show decode cX12_put 33 = .ok (.aload_n 0, 1) by decide +kernel) rfl) ?_
      refine Iff.trans (zw_dup (show decode cX12_put 34 = .ok (.dup, 1) by decide +kernel) rfl) ?_
      refine Iff.trans (zw_getI (show decode cX12_put 35 = .ok (.getfield 127, 3) by decide +kernel) (by decide +kernel : zfld 12 127 = some (12, 2)) (hl.I.k2 zk_131) (hl.I.n2 zk_131) (Or.inl rfl) (w := zI σ 131 2) (congrFun (zI_ne (by decide)) 2)) ?_
      refine Iff.trans (zw_iconst (x := 1) (show decode cX12_put 38 = .ok (.iconst 1, 1) by decide +kernel) (by decide)) ?_
      refine Iff.trans (zw_iadd (show decode cX12_put 39 = .ok (.iadd, 1) by decide +kernel)) ?_
      refine Iff.trans (zw_putI (show decode cX12_put 40 = .ok (.putfield 127, 3) by decide +kernel) (by decide +kernel : zfld 12 127 = some (12, 2)) (hl.I.k2 zk_131) (hl.I.n2 zk_131) rfl (Or.inl rfl) (σ' := (zsI (zsI σ 132 (upd (zI σ 132) (zI σ 131 2 : Int32).toNatClampNeg (vp_nar (zAty 13) (((x1 >>> (x2 &&& 31)) : Int32).toInt8.toInt32)))) 131 (upd (zI σ 131) 2 ((zI σ 131 2) + 1)))) (congrArg (fun f => zsI (zsI σ 132 (upd (zI σ 132) (zI σ 131 2 : Int32).toNatClampNeg (vp_nar (zAty 13) (((x1 >>> (x2 &&& 31)) : Int32).toInt8.toInt32)))) 131 (upd f 2 ((zI σ 131 2) + 1))) (zI_ne (by decide)))) ?_
      refine Iff.trans (zw_iinc (w := (-8)) (ls' := [.ref 131, .int x1, .int (x2 + (-8))]) (show decode cX12_put 43 = .ok (.iinc 2 (-8), 3) by decide +kernel) rfl (by decide) (zset_s (Nat.le_of_ble_eq_true rfl) rfl)) ?_
      refine Iff.trans (zw_goto (t := 3) (show decode cX12_put 46 = .ok (.goto (-43), 3) by decide +kernel) (by decide)) ?_
      exact Iff.rfl

theorem bX12_feed_0 {d : Nat} {σ : zS} {Q : Option Value → zS → Prop} (hl : zLay σ) {x1 x2 x3 x4 x5 : Int32} : zCall (d + 1) kX12_feed [.ref 131, .int x1, .int x2, .int x3, .int x4, .int x5] σ Q ↔ zCall d kX12_bytesIn [.int x1] (zsI σ 131 (upd (zI σ 131) 0 0)) (fun r σ' => zisN r = true ∧ zW (d + 1) kX12_feed 13 [.ref 131, .int x1, .int x2, .int x3, .int x4, .int x5] (zRstk r ++ [.int (zI σ 131 2)]) σ' Q) := by
  show zW (d + 1) kX12_feed 0 [.ref 131, .int x1, .int x2, .int x3, .int x4, .int x5] [] σ Q ↔ _
  refine Iff.trans (zw_aload_n (show decode cX12_feed 0 = .ok (.aload_n 0, 1) by decide +kernel) rfl) ?_
  refine Iff.trans (zw_iconst (x := 0) (show decode cX12_feed 1 = .ok (.iconst 0, 1) by decide +kernel) (by decide)) ?_
  refine Iff.trans (zw_putI (show decode cX12_feed 2 = .ok (.putfield 118, 3) by decide +kernel) (by decide +kernel : zfld 12 118 = some (12, 0)) (hl.k2 zk_131) (hl.n2 zk_131) rfl (Or.inl rfl) (σ' := (zsI σ 131 (upd (zI σ 131) 0 0))) rfl) ?_
  refine Iff.trans (zw_aload_n (show decode cX12_feed 5 = .ok (.aload_n 0, 1) by decide +kernel) rfl) ?_
  refine Iff.trans (zw_getI (show decode cX12_feed 6 = .ok (.getfield 127, 3) by decide +kernel) (by decide +kernel : zfld 12 127 = some (12, 2)) (hl.I.k2 zk_131) (hl.I.n2 zk_131) (Or.inl rfl) (w := zI σ 131 2) (congrFun zI_self 2)) ?_
  refine Iff.trans (zw_iload_n (show decode cX12_feed 9 = .ok (.iload_n 1, 1) by decide +kernel) rfl) ?_
  refine Iff.trans (zw_invS (K' := kX12_bytesIn) (as := [.int x1]) (rest := [.int (zI σ 131 2)]) (show decode cX12_feed 10 = .ok (.invokestatic 130, 3) by decide +kernel) (by rfl) rfl rfl rfl ⟨Nat.le_of_ble_eq_true rfl, Nat.le_of_ble_eq_true rfl, Nat.le_of_ble_eq_true rfl⟩) ?_
  exact Iff.rfl

theorem bX12_feed_13 {d : Nat} {σ : zS} {Q : Option Value → zS → Prop} (hl : zLay σ) {x1 x2 x3 x4 x5 y0 y1 : Int32} : zW (d + 1) kX12_feed 13 [.ref 131, .int x1, .int x2, .int x3, .int x4, .int x5] [.int y0, .int y1] σ Q ↔ zCall d kX12_bytesIn [.int x2] σ (fun r σ' => zisN r = true ∧ zW (d + 1) kX12_feed 18 [.ref 131, .int x1, .int x2, .int x3, .int x4, .int x5] (zRstk r ++ [.int (y1 + y0)]) σ' Q) := by
  refine Iff.trans (zw_iadd (show decode cX12_feed 13 = .ok (.iadd, 1) by decide +kernel)) ?_
  refine Iff.trans (zw_iload_n (show decode cX12_feed 14 = .ok (.iload_n 2, 1) by decide +kernel) rfl) ?_
  refine Iff.trans (zw_invS (K' := kX12_bytesIn) (as := [.int x2]) (rest := [.int (y1 + y0)]) (show decode cX12_feed 15 = .ok (.invokestatic 130, 3) by decide +kernel) (by rfl) rfl rfl rfl ⟨Nat.le_of_ble_eq_true rfl, Nat.le_of_ble_eq_true rfl, Nat.le_of_ble_eq_true rfl⟩) ?_
  exact Iff.rfl

theorem bX12_feed_18 {d : Nat} {σ : zS} {Q : Option Value → zS → Prop} (hl : zLay σ) {x1 x2 x3 x4 x5 y0 y1 : Int32} : zW (d + 1) kX12_feed 18 [.ref 131, .int x1, .int x2, .int x3, .int x4, .int x5] [.int y0, .int y1] σ Q ↔ zCall d kX12_bytesIn [.int x3] σ (fun r σ' => zisN r = true ∧ zW (d + 1) kX12_feed 23 [.ref 131, .int x1, .int x2, .int x3, .int x4, .int x5] (zRstk r ++ [.int (y1 + y0)]) σ' Q) := by
  refine Iff.trans (zw_iadd (show decode cX12_feed 18 = .ok (.iadd, 1) by decide +kernel)) ?_
  refine Iff.trans (zw_iload_n (show decode cX12_feed 19 = .ok (.iload_n 3, 1) by decide +kernel) rfl) ?_
  refine Iff.trans (zw_invS (K' := kX12_bytesIn) (as := [.int x3]) (rest := [.int (y1 + y0)]) (show decode cX12_feed 20 = .ok (.invokestatic 130, 3) by decide +kernel) (by rfl) rfl rfl rfl ⟨Nat.le_of_ble_eq_true rfl, Nat.le_of_ble_eq_true rfl, Nat.le_of_ble_eq_true rfl⟩) ?_
  exact Iff.rfl

theorem bX12_feed_23 {d : Nat} {σ : zS} {Q : Option Value → zS → Prop} (hl : zLay σ) {x1 x2 x3 x4 x5 y0 y1 : Int32} : zW (d + 1) kX12_feed 23 [.ref 131, .int x1, .int x2, .int x3, .int x4, .int x5] [.int y0, .int y1] σ Q ↔ zCall d kX12_bytesIn [.int x4] σ (fun r σ' => zisN r = true ∧ zW (d + 1) kX12_feed 29 [.ref 131, .int x1, .int x2, .int x3, .int x4, .int x5] (zRstk r ++ [.int (y1 + y0)]) σ' Q) := by
  refine Iff.trans (zw_iadd (show decode cX12_feed 23 = .ok (.iadd, 1) by decide +kernel)) ?_
  refine Iff.trans (zw_iload (show decode cX12_feed 24 = .ok (.iload 4, 2) by decide +kernel) rfl) ?_
  refine Iff.trans (zw_invS (K' := kX12_bytesIn) (as := [.int x4]) (rest := [.int (y1 + y0)]) (show decode cX12_feed 26 = .ok (.invokestatic 130, 3) by decide +kernel) (by rfl) rfl rfl rfl ⟨Nat.le_of_ble_eq_true rfl, Nat.le_of_ble_eq_true rfl, Nat.le_of_ble_eq_true rfl⟩) ?_
  exact Iff.rfl

theorem bX12_feed_29 {d : Nat} {σ : zS} {Q : Option Value → zS → Prop} (hl : zLay σ) {x1 x2 x3 x4 x5 y0 y1 : Int32} : zW (d + 1) kX12_feed 29 [.ref 131, .int x1, .int x2, .int x3, .int x4, .int x5] [.int y0, .int y1] σ Q ↔ zCall d kX12_bytesIn [.int x5] σ (fun r σ' => zisN r = true ∧ zW (d + 1) kX12_feed 35 [.ref 131, .int x1, .int x2, .int x3, .int x4, .int x5] (zRstk r ++ [.int (y1 + y0)]) σ' Q) := by
  refine Iff.trans (zw_iadd (show decode cX12_feed 29 = .ok (.iadd, 1) by decide +kernel)) ?_
  refine Iff.trans (zw_iload (show decode cX12_feed 30 = .ok (.iload 5, 2) by decide +kernel) rfl) ?_
  refine Iff.trans (zw_invS (K' := kX12_bytesIn) (as := [.int x5]) (rest := [.int (y1 + y0)]) (show decode cX12_feed 32 = .ok (.invokestatic 130, 3) by decide +kernel) (by rfl) rfl rfl rfl ⟨Nat.le_of_ble_eq_true rfl, Nat.le_of_ble_eq_true rfl, Nat.le_of_ble_eq_true rfl⟩) ?_
  exact Iff.rfl

theorem bX12_feed_35 {d : Nat} {σ : zS} {Q : Option Value → zS → Prop} (hl : zLay σ) {x1 x2 x3 x4 x5 y0 y1 : Int32} : zW (d + 1) kX12_feed 35 [.ref 131, .int x1, .int x2, .int x3, .int x4, .int x5] [.int y0, .int y1] σ Q ↔ (if (y1 + y0) ≤ 160 then zCall d kX12_put [.ref 131, .int x1] σ (fun r σ' => zisN r = true ∧ zW (d + 1) kX12_feed 49 [.ref 131, .int x1, .int x2, .int x3, .int x4, .int x5] (zRstk r ++ []) σ' Q) else Q (some (.int (-1))) σ) := by
  refine Iff.trans (zw_iadd (show decode cX12_feed 35 = .ok (.iadd, 1) by decide +kernel)) ?_
  refine Iff.trans (zw_sipush (x := 160) (show decode cX12_feed 36 = .ok (.sipush 160, 3) by decide +kernel) (by decide)) ?_
  refine Iff.trans (zw_icmp_le (t := 44) (show decode cX12_feed 39 = .ok (.if_icmp .le 5, 3) by decide +kernel) (by decide)) ?_
  refine zw_ite ?_ ?_
  · refine Iff.trans (zw_aload_n (show decode cX12_feed 44 = .ok (.aload_n 0, 1) by decide +kernel) rfl) ?_
    refine Iff.trans (zw_iload_n (show decode cX12_feed 45 = .ok (.iload_n 1, 1) by decide +kernel) rfl) ?_
    refine Iff.trans (zw_invV (K' := kX12_put) (as' := [.int x1]) (rest := []) (show decode cX12_feed 46 = .ok (.invokevirtual 133, 3) by decide +kernel) (by rfl) rfl rfl rfl (hl.k2 zk_131) (by decide) (hl.n2 zk_131) ⟨Nat.le_of_ble_eq_true rfl, Nat.le_of_ble_eq_true rfl, Nat.le_of_ble_eq_true rfl⟩) ?_
    exact Iff.rfl
  · refine Iff.trans (zw_iconst (x := (-1)) (show decode cX12_feed 42 = .ok (.iconst (-1), 1) by decide +kernel) (by decide)) ?_
    exact zw_iret1 (show decode cX12_feed 43 = .ok (.ireturn, 1) by decide +kernel) rfl

theorem bX12_feed_49 {d : Nat} {σ : zS} {Q : Option Value → zS → Prop} (hl : zLay σ) {x1 x2 x3 x4 x5 : Int32} : zW (d + 1) kX12_feed 49 [.ref 131, .int x1, .int x2, .int x3, .int x4, .int x5] [] σ Q ↔ zCall d kX12_put [.ref 131, .int x2] σ (fun r σ' => zisN r = true ∧ zW (d + 1) kX12_feed 54 [.ref 131, .int x1, .int x2, .int x3, .int x4, .int x5] (zRstk r ++ []) σ' Q) := by
  refine Iff.trans (zw_aload_n (show decode cX12_feed 49 = .ok (.aload_n 0, 1) by decide +kernel) rfl) ?_
  refine Iff.trans (zw_iload_n (show decode cX12_feed 50 = .ok (.iload_n 2, 1) by decide +kernel) rfl) ?_
  refine Iff.trans (zw_invV (K' := kX12_put) (as' := [.int x2]) (rest := []) (show decode cX12_feed 51 = .ok (.invokevirtual 133, 3) by decide +kernel) (by rfl) rfl rfl rfl (hl.k2 zk_131) (by decide) (hl.n2 zk_131) ⟨Nat.le_of_ble_eq_true rfl, Nat.le_of_ble_eq_true rfl, Nat.le_of_ble_eq_true rfl⟩) ?_
  exact Iff.rfl

theorem bX12_feed_54 {d : Nat} {σ : zS} {Q : Option Value → zS → Prop} (hl : zLay σ) {x1 x2 x3 x4 x5 : Int32} : zW (d + 1) kX12_feed 54 [.ref 131, .int x1, .int x2, .int x3, .int x4, .int x5] [] σ Q ↔ zCall d kX12_put [.ref 131, .int x3] σ (fun r σ' => zisN r = true ∧ zW (d + 1) kX12_feed 59 [.ref 131, .int x1, .int x2, .int x3, .int x4, .int x5] (zRstk r ++ []) σ' Q) := by
  refine Iff.trans (zw_aload_n (show decode cX12_feed 54 = .ok (.aload_n 0, 1) by decide +kernel) rfl) ?_
  refine Iff.trans (zw_iload_n (show decode cX12_feed 55 = .ok (.iload_n 3, 1) by decide +kernel) rfl) ?_
  refine Iff.trans (zw_invV (K' := kX12_put) (as' := [.int x3]) (rest := []) (show decode cX12_feed 56 = .ok (.invokevirtual 133, 3) by decide +kernel) (by rfl) rfl rfl rfl (hl.k2 zk_131) (by decide) (hl.n2 zk_131) ⟨Nat.le_of_ble_eq_true rfl, Nat.le_of_ble_eq_true rfl, Nat.le_of_ble_eq_true rfl⟩) ?_
  exact Iff.rfl

theorem bX12_feed_59 {d : Nat} {σ : zS} {Q : Option Value → zS → Prop} (hl : zLay σ) {x1 x2 x3 x4 x5 : Int32} : zW (d + 1) kX12_feed 59 [.ref 131, .int x1, .int x2, .int x3, .int x4, .int x5] [] σ Q ↔ zCall d kX12_put [.ref 131, .int x4] σ (fun r σ' => zisN r = true ∧ zW (d + 1) kX12_feed 65 [.ref 131, .int x1, .int x2, .int x3, .int x4, .int x5] (zRstk r ++ []) σ' Q) := by
  refine Iff.trans (zw_aload_n (show decode cX12_feed 59 = .ok (.aload_n 0, 1) by decide +kernel) rfl) ?_
  refine Iff.trans (zw_iload (show decode cX12_feed 60 = .ok (.iload 4, 2) by decide +kernel) rfl) ?_
  refine Iff.trans (zw_invV (K' := kX12_put) (as' := [.int x4]) (rest := []) (show decode cX12_feed 62 = .ok (.invokevirtual 133, 3) by decide +kernel) (by rfl) rfl rfl rfl (hl.k2 zk_131) (by decide) (hl.n2 zk_131) ⟨Nat.le_of_ble_eq_true rfl, Nat.le_of_ble_eq_true rfl, Nat.le_of_ble_eq_true rfl⟩) ?_
  exact Iff.rfl

theorem bX12_feed_65 {d : Nat} {σ : zS} {Q : Option Value → zS → Prop} (hl : zLay σ) {x1 x2 x3 x4 x5 : Int32} : zW (d + 1) kX12_feed 65 [.ref 131, .int x1, .int x2, .int x3, .int x4, .int x5] [] σ Q ↔ zCall d kX12_put [.ref 131, .int x5] σ (fun r σ' => zisN r = true ∧ zW (d + 1) kX12_feed 71 [.ref 131, .int x1, .int x2, .int x3, .int x4, .int x5] (zRstk r ++ []) σ' Q) := by
  refine Iff.trans (zw_aload_n (show decode cX12_feed 65 = .ok (.aload_n 0, 1) by decide +kernel) rfl) ?_
  refine Iff.trans (zw_iload (show decode cX12_feed 66 = .ok (.iload 5, 2) by decide +kernel) rfl) ?_
  refine Iff.trans (zw_invV (K' := kX12_put) (as' := [.int x5]) (rest := []) (show decode cX12_feed 68 = .ok (.invokevirtual 133, 3) by decide +kernel) (by rfl) rfl rfl rfl (hl.k2 zk_131) (by decide) (hl.n2 zk_131) ⟨Nat.le_of_ble_eq_true rfl, Nat.le_of_ble_eq_true rfl, Nat.le_of_ble_eq_true rfl⟩) ?_
  exact Iff.rfl

theorem bX12_feed_71 {d : Nat} {σ : zS} {Q : Option Value → zS → Prop} (hl : zLay σ) {x1 x2 x3 x4 x5 : Int32} : zW (d + 1) kX12_feed 71 [.ref 131, .int x1, .int x2, .int x3, .int x4, .int x5] [] σ Q ↔ Q (some (.int (zI σ 131 2))) σ := by
  refine Iff.trans (zw_aload_n (show decode cX12_feed 71 = .ok (.aload_n 0, 1) by decide +kernel) rfl) ?_
  refine Iff.trans (zw_getI (show decode cX12_feed 72 = .ok (.getfield 127, 3) by decide +kernel) (by decide +kernel : zfld 12 127 = some (12, 2)) (hl.k2 zk_131) (hl.n2 zk_131) (Or.inl rfl) (w := zI σ 131 2) rfl) ?_
  exact zw_iret1 (show decode cX12_feed 75 = .ok (.ireturn, 1) by decide +kernel) rfl

theorem bX12_end_0 {d : Nat} {σ : zS} {Q : Option Value → zS → Prop} (hl : zLay σ) {x1 : Int32} : zCall d kX12_end [.ref 131, .int x1] σ Q ↔ (if x1 < (0 : Int32) then Q (some (.int 0)) (zsI σ 131 (upd (zI σ 131) 0 0)) else (if x1 ≤ (zI σ 131 2) then Q (some (.int 1)) (zsI σ 131 (upd (upd (zI σ 131) 0 0) 2 x1)) else Q (some (.int 0)) (zsI σ 131 (upd (zI σ 131) 0 0)))) := by
  show zW d kX12_end 0 [.ref 131, .int x1] [] σ Q ↔ _
  refine Iff.trans (zw_aload_n (show decode cX12_end 0 = .ok (.aload_n 0, 1) by decide +kernel) rfl) ?_
  refine Iff.trans (zw_iconst (x := 0) (show decode cX12_end 1 = .ok (.iconst 0, 1) by decide +kernel) (by decide)) ?_
  refine Iff.trans (zw_putI (show decode cX12_end 2 = .ok (.putfield 118, 3) by decide +kernel) (by decide +kernel : zfld 12 118 = some (12, 0)) (hl.k2 zk_131) (hl.n2 zk_131) rfl (Or.inl rfl) (σ' := (zsI σ 131 (upd (zI σ 131) 0 0))) rfl) ?_
  refine Iff.trans (zw_iload_n (show decode cX12_end 5 = .ok (.iload_n 1, 1) by decide +kernel) rfl) ?_
  refine Iff.trans (zw_if_lt (t := 17) (show decode cX12_end 6 = .ok (.ifCond .lt 11, 3) by decide +kernel) (by decide)) ?_
  refine zw_ite ?_ ?_
  · refine Iff.trans (zw_iconst (x := 0) (show decode cX12_end 17 = .ok (.iconst 0, 1) by decide +kernel) (by decide)) ?_
    exact zw_iret2c (show decode cX12_end 18 = .ok (.ireturn, 1) by decide +kernel) rfl (Or.inl rfl)
  · refine Iff.trans (zw_iload_n (show decode cX12_end 9 = .ok (.iload_n 1, 1) by decide +kernel) rfl) ?_
    refine Iff.trans (zw_aload_n (show decode cX12_end 10 = .ok (.aload_n 0, 1) by decide +kernel) rfl) ?_
    refine Iff.trans (zw_getI (show decode cX12_end 11 = .ok (.getfield 127, 3) by decide +kernel) (by decide +kernel : zfld 12 127 = some (12, 2)) (hl.I.k2 zk_131) (hl.I.n2 zk_131) (Or.inl rfl) (w := zI σ 131 2) (congrFun zI_self 2)) ?_
    refine Iff.trans (zw_icmp_le (t := 19) (show decode cX12_end 14 = .ok (.if_icmp .le 5, 3) by decide +kernel) (by decide)) ?_
    refine zw_ite ?_ ?_
    · refine Iff.trans (zw_aload_n (show decode cX12_end 19 = .ok (.aload_n 0, 1) by decide +kernel) rfl) ?_
      refine Iff.trans (zw_iload_n (show decode cX12_end 20 = .ok (.iload_n 1, 1) by decide +kernel) rfl) ?_
      refine Iff.trans (zw_putI (show decode cX12_end 21 = .ok (.putfield 127, 3) by decide +kernel) (by decide +kernel : zfld 12 127 = some (12, 2)) (hl.I.k2 zk_131) (hl.I.n2 zk_131) rfl (Or.inl rfl) (σ' := (zsI σ 131 (upd (upd (zI σ 131) 0 0) 2 x1))) (Eq.trans (congrArg (fun f => zsI (zsI σ 131 (upd (zI σ 131) 0 0)) 131 (upd f 2 x1)) zI_self) zsI_s)) ?_
      refine Iff.trans (zw_iconst (x := 1) (show decode cX12_end 24 = .ok (.iconst 1, 1) by decide +kernel) (by decide)) ?_
      exact zw_iret2c (show decode cX12_end 25 = .ok (.ireturn, 1) by decide +kernel) rfl (Or.inr rfl)
    · refine Iff.trans (zw_iconst (x := 0) (show decode cX12_end 17 = .ok (.iconst 0, 1) by decide +kernel) (by decide)) ?_
      exact zw_iret2c (show decode cX12_end 18 = .ok (.ireturn, 1) by decide +kernel) rfl (Or.inl rfl)

theorem bX12_here_0 {d : Nat} {σ : zS} {Q : Option Value → zS → Prop} (hl : zLay σ) : zCall d kX12_here [.ref 131] σ Q ↔ (if (zI σ 131 2) ≤ (zI σ 131 3) then Q (some (.int (-1))) σ else (vp_in (zI σ 131 3) 160 ∧ Q (some (.int ((zI σ 132 (zI σ 131 3 : Int32).toNatClampNeg) &&& 255))) σ)) := by
  show zW d kX12_here 0 [.ref 131] [] σ Q ↔ _
  refine Iff.trans (zw_aload_n (show decode cX12_here 0 = .ok (.aload_n 0, 1) by decide +kernel) rfl) ?_
  refine Iff.trans (zw_getI (show decode cX12_here 1 = .ok (.getfield 137, 3) by decide +kernel) (by decide +kernel : zfld 12 137 = some (12, 3)) (hl.k2 zk_131) (hl.n2 zk_131) (Or.inl rfl) (w := zI σ 131 3) rfl) ?_
  refine Iff.trans (zw_aload_n (show decode cX12_here 4 = .ok (.aload_n 0, 1) by decide +kernel) rfl) ?_
  refine Iff.trans (zw_getI (show decode cX12_here 5 = .ok (.getfield 127, 3) by decide +kernel) (by decide +kernel : zfld 12 127 = some (12, 2)) (hl.k2 zk_131) (hl.n2 zk_131) (Or.inl rfl) (w := zI σ 131 2) rfl) ?_
  refine Iff.trans (zw_icmp_ge (t := 27) (show decode cX12_here 8 = .ok (.if_icmp .ge 19, 3) by decide +kernel) (by decide)) ?_
  refine zw_ite ?_ ?_
  · refine Iff.trans (zw_iconst (x := (-1)) (show decode cX12_here 27 = .ok (.iconst (-1), 1) by decide +kernel) (by decide)) ?_
    exact zw_iret1 (show decode cX12_here 28 = .ok (.ireturn, 1) by decide +kernel) rfl
  · refine Iff.trans (zw_aload_n (show decode cX12_here 11 = .ok (.aload_n 0, 1) by decide +kernel) rfl) ?_
    refine Iff.trans (zw_get (show decode cX12_here 12 = .ok (.getfield 9, 3) by decide +kernel) (by decide +kernel : zfld 12 9 = some (12, 1)) (hl.k2 zk_131) (hl.n2 zk_131) (zgetR (v := 132) (hl.r zrt_131_1) rfl)) ?_
    refine Iff.trans (zw_aload_n (show decode cX12_here 15 = .ok (.aload_n 0, 1) by decide +kernel) rfl) ?_
    refine Iff.trans (zw_getI (show decode cX12_here 16 = .ok (.getfield 137, 3) by decide +kernel) (by decide +kernel : zfld 12 137 = some (12, 3)) (hl.k2 zk_131) (hl.n2 zk_131) (Or.inl rfl) (w := zI σ 131 3) rfl) ?_
    refine Iff.trans (zw_bald2 (show decode cX12_here 19 = .ok (.baload, 1) by decide +kernel) (by rw [(hl.k2 zk_132)]; decide) (hl.n2 zk_132) (hl.l2 zk_132 zl_132) (w := zI σ 132 (zI σ 131 3 : Int32).toNatClampNeg) rfl) ?_
    refine zw_and ?_
    refine Iff.trans (zw_sipush (x := 255) (show decode cX12_here 20 = .ok (.sipush 255, 3) by decide +kernel) (by decide)) ?_
    refine Iff.trans (zw_iand (show decode cX12_here 23 = .ok (.iand, 1) by decide +kernel)) ?_
    refine Iff.trans (zw_goto (t := 28) (show decode cX12_here 24 = .ok (.goto 4, 3) by decide +kernel) (by decide)) ?_
    exact zw_iret1 (show decode cX12_here 28 = .ok (.ireturn, 1) by decide +kernel) rfl

theorem bX12_look_0 {d : Nat} {σ : zS} {Q : Option Value → zS → Prop} (hl : zLay σ) : zCall (d + 1) kX12_look [.ref 131] σ Q ↔ zCall d kX12_here [.ref 131] σ (fun r σ' => zisN r = true ∧ zW (d + 1) kX12_look 4 [.ref 131] (zRstk r ++ []) σ' Q) := by
  show zW (d + 1) kX12_look 0 [.ref 131] [] σ Q ↔ _
  refine Iff.trans (zw_aload_n (show decode cX12_look 0 = .ok (.aload_n 0, 1) by decide +kernel) rfl) ?_
  refine Iff.trans (zw_invV (K' := kX12_here) (as' := []) (rest := []) (show decode cX12_look 1 = .ok (.invokevirtual 140, 3) by decide +kernel) (by rfl) rfl rfl rfl (hl.k2 zk_131) (by decide) (hl.n2 zk_131) ⟨Nat.le_of_ble_eq_true rfl, Nat.le_of_ble_eq_true rfl, Nat.le_of_ble_eq_true rfl⟩) ?_
  exact Iff.rfl

theorem bX12_look_4 {d : Nat} {σ : zS} {Q : Option Value → zS → Prop} (hl : zLay σ) {y0 : Int32} : zW (d + 1) kX12_look 4 [.ref 131] [.int y0] σ Q ↔ (if y0 = 32 then zW (d + 1) kX12_look 0 [.ref 131] [] (zsI σ 131 (upd (zI σ 131) 3 ((zI σ 131 3) + 1))) Q else zCall d kX12_here [.ref 131] σ (fun r σ' => zisN r = true ∧ zW (d + 1) kX12_look 26 [.ref 131] (zRstk r ++ []) σ' Q)) := by
  refine Iff.trans (zw_bipush (x := 32) (show decode cX12_look 4 = .ok (.bipush 32, 2) by decide +kernel) (by decide)) ?_
  refine Iff.trans (zw_icmp_ne (t := 22) (show decode cX12_look 6 = .ok (.if_icmp .ne 16, 3) by decide +kernel) (by decide)) ?_
  refine zw_ite ?_ ?_
  · refine Iff.trans (zw_aload_n (show decode cX12_look 9 = .ok (.aload_n 0, 1) by decide +kernel) rfl) ?_
    refine Iff.trans (zw_dup (show decode cX12_look 10 = .ok (.dup, 1) by decide +kernel) rfl) ?_
    refine Iff.trans (zw_getI (show decode cX12_look 11 = .ok (.getfield 137, 3) by decide +kernel) (by decide +kernel : zfld 12 137 = some (12, 3)) (hl.k2 zk_131) (hl.n2 zk_131) (Or.inl rfl) (w := zI σ 131 3) rfl) ?_
    refine Iff.trans (zw_iconst (x := 1) (show decode cX12_look 14 = .ok (.iconst 1, 1) by decide +kernel) (by decide)) ?_
    refine Iff.trans (zw_iadd (show decode cX12_look 15 = .ok (.iadd, 1) by decide +kernel)) ?_
    refine Iff.trans (zw_putI (show decode cX12_look 16 = .ok (.putfield 137, 3) by decide +kernel) (by decide +kernel : zfld 12 137 = some (12, 3)) (hl.k2 zk_131) (hl.n2 zk_131) rfl (Or.inl rfl) (σ' := (zsI σ 131 (upd (zI σ 131) 3 ((zI σ 131 3) + 1)))) rfl) ?_
    refine Iff.trans (zw_goto (t := 0) (show decode cX12_look 19 = .ok (.goto (-19), 3) by decide +kernel) (by decide)) ?_
    exact Iff.rfl
  · refine Iff.trans (zw_aload_n (show decode cX12_look 22 = .ok (.aload_n 0, 1) by decide +kernel) rfl) ?_
    refine Iff.trans (zw_invV (K' := kX12_here) (as' := []) (rest := []) (show decode cX12_look 23 = .ok (.invokevirtual 140, 3) by decide +kernel) (by rfl) rfl rfl rfl (hl.k2 zk_131) (by decide) (hl.n2 zk_131) ⟨Nat.le_of_ble_eq_true rfl, Nat.le_of_ble_eq_true rfl, Nat.le_of_ble_eq_true rfl⟩) ?_
    exact Iff.rfl

theorem bX12_look_26 {d : Nat} {σ : zS} {Q : Option Value → zS → Prop} (hl : zLay σ) {y0 : Int32} : zW (d + 1) kX12_look 26 [.ref 131] [.int y0] σ Q ↔ Q (some (.int y0)) σ := by
  exact zw_iret1 (show decode cX12_look 26 = .ok (.ireturn, 1) by decide +kernel) rfl

theorem bX12_fails_0 {d : Nat} {σ : zS} {Q : Option Value → zS → Prop} (hl : zLay σ) : zCall d kX12_fails [.ref 131] σ Q ↔ (if (zI σ 131 4) = (-1) then Q none (zsI σ 131 (upd (zI σ 131) 4 (zI σ 131 3))) else Q none σ) := by
  show zW d kX12_fails 0 [.ref 131] [] σ Q ↔ _
  refine Iff.trans (zw_aload_n (show decode cX12_fails 0 = .ok (.aload_n 0, 1) by decide +kernel) rfl) ?_
  refine Iff.trans (zw_getI (show decode cX12_fails 1 = .ok (.getfield 144, 3) by decide +kernel) (by decide +kernel : zfld 12 144 = some (12, 4)) (hl.k2 zk_131) (hl.n2 zk_131) (Or.inl rfl) (w := zI σ 131 4) rfl) ?_
  refine Iff.trans (zw_iconst (x := (-1)) (show decode cX12_fails 4 = .ok (.iconst (-1), 1) by decide +kernel) (by decide)) ?_
  refine Iff.trans (zw_icmp_ne (t := 16) (show decode cX12_fails 5 = .ok (.if_icmp .ne 11, 3) by decide +kernel) (by decide)) ?_
  refine zw_ite ?_ ?_
  · refine Iff.trans (zw_aload_n (show decode cX12_fails 8 = .ok (.aload_n 0, 1) by decide +kernel) rfl) ?_
    refine Iff.trans (zw_aload_n (show decode cX12_fails 9 = .ok (.aload_n 0, 1) by decide +kernel) rfl) ?_
    refine Iff.trans (zw_getI (show decode cX12_fails 10 = .ok (.getfield 137, 3) by decide +kernel) (by decide +kernel : zfld 12 137 = some (12, 3)) (hl.k2 zk_131) (hl.n2 zk_131) (Or.inl rfl) (w := zI σ 131 3) rfl) ?_
    refine Iff.trans (zw_putI (show decode cX12_fails 13 = .ok (.putfield 144, 3) by decide +kernel) (by decide +kernel : zfld 12 144 = some (12, 4)) (hl.k2 zk_131) (hl.n2 zk_131) rfl (Or.inl rfl) (σ' := (zsI σ 131 (upd (zI σ 131) 4 (zI σ 131 3)))) rfl) ?_
    exact zw_ret (show decode cX12_fails 16 = .ok (.return_, 1) by decide +kernel) rfl
  · exact zw_ret (show decode cX12_fails 16 = .ok (.return_, 1) by decide +kernel) rfl

theorem bX12_begin_0 {d : Nat} {σ : zS} {Q : Option Value → zS → Prop} (hl : zLay σ) : zCall d kX12_begin [.ref 131] σ Q ↔ Q none (zsI σ 131 (upd (upd (zI σ 131) 3 0) 4 (-1))) := by
  show zW d kX12_begin 0 [.ref 131] [] σ Q ↔ _
  refine Iff.trans (zw_aload_n (show decode cX12_begin 0 = .ok (.aload_n 0, 1) by decide +kernel) rfl) ?_
  refine Iff.trans (zw_iconst (x := 0) (show decode cX12_begin 1 = .ok (.iconst 0, 1) by decide +kernel) (by decide)) ?_
  refine Iff.trans (zw_putI (show decode cX12_begin 2 = .ok (.putfield 137, 3) by decide +kernel) (by decide +kernel : zfld 12 137 = some (12, 3)) (hl.k2 zk_131) (hl.n2 zk_131) rfl (Or.inl rfl) (σ' := (zsI σ 131 (upd (zI σ 131) 3 0))) rfl) ?_
  refine Iff.trans (zw_aload_n (show decode cX12_begin 5 = .ok (.aload_n 0, 1) by decide +kernel) rfl) ?_
  refine Iff.trans (zw_iconst (x := (-1)) (show decode cX12_begin 6 = .ok (.iconst (-1), 1) by decide +kernel) (by decide)) ?_
  refine Iff.trans (zw_putI (show decode cX12_begin 7 = .ok (.putfield 144, 3) by decide +kernel) (by decide +kernel : zfld 12 144 = some (12, 4)) (hl.I.k2 zk_131) (hl.I.n2 zk_131) rfl (Or.inl rfl) (σ' := (zsI σ 131 (upd (upd (zI σ 131) 3 0) 4 (-1)))) (Eq.trans (congrArg (fun f => zsI (zsI σ 131 (upd (zI σ 131) 3 0)) 131 (upd f 4 (-1))) zI_self) zsI_s)) ?_
  exact zw_ret (show decode cX12_begin 10 = .ok (.return_, 1) by decide +kernel) rfl

theorem bX12_signOf_0 {d : Nat} {σ : zS} {Q : Option Value → zS → Prop} (hl : zLay σ) {x0 : Int32} : zCall d kX12_signOf [.int x0] σ Q ↔ (if x0 < 49 then zW d kX12_signOf 19 [.int x0] [] σ Q else (if 57 < x0 then zW d kX12_signOf 19 [.int x0] [] σ Q else Q (some (.int (x0 - 48))) σ)) := by
  show zW d kX12_signOf 0 [.int x0] [] σ Q ↔ _
  refine Iff.trans (zw_iload_n (show decode cX12_signOf 0 = .ok (.iload_n 0, 1) by decide +kernel) rfl) ?_
  refine Iff.trans (zw_bipush (x := 49) (show decode cX12_signOf 1 = .ok (.bipush 49, 2) by decide +kernel) (by decide)) ?_
  refine Iff.trans (zw_icmp_lt (t := 19) (show decode cX12_signOf 3 = .ok (.if_icmp .lt 16, 3) by decide +kernel) (by decide)) ?_
  refine zw_ite ?_ ?_
  · exact Iff.rfl
  · refine Iff.trans (zw_iload_n (show decode cX12_signOf 6 = .ok (.iload_n 0, 1) by decide +kernel) rfl) ?_
    refine Iff.trans (zw_bipush (x := 57) (show decode cX12_signOf 7 = .ok (.bipush 57, 2) by decide +kernel) (by decide)) ?_
    refine Iff.trans (zw_icmp_gt (t := 19) (show decode cX12_signOf 9 = .ok (.if_icmp .gt 10, 3) by decide +kernel) (by decide)) ?_
    refine zw_ite ?_ ?_
    · exact Iff.rfl
    · refine Iff.trans (zw_iload_n (show decode cX12_signOf 12 = .ok (.iload_n 0, 1) by decide +kernel) rfl) ?_
      refine Iff.trans (zw_bipush (x := 48) (show decode cX12_signOf 13 = .ok (.bipush 48, 2) by decide +kernel) (by decide)) ?_
      refine Iff.trans (zw_isub (show decode cX12_signOf 15 = .ok (.isub, 1) by decide +kernel)) ?_
      refine Iff.trans (zw_goto (t := 41) (show decode cX12_signOf 16 = .ok (.goto 25, 3) by decide +kernel) (by decide)) ?_
      exact zw_iret1 (show decode cX12_signOf 41 = .ok (.ireturn, 1) by decide +kernel) rfl

theorem bX12_signOf_19 {d : Nat} {σ : zS} {Q : Option Value → zS → Prop} (hl : zLay σ) {x0 : Int32} : zW d kX12_signOf 19 [.int x0] [] σ Q ↔ (if x0 = 111 then Q (some (.int 0)) σ else (if x0 = 64 then Q (some (.int 10)) σ else Q (some (.int (-1))) σ)) := by
  refine Iff.trans (zw_iload_n (show decode cX12_signOf 19 = .ok (.iload_n 0, 1) by decide +kernel) rfl) ?_
  refine Iff.trans (zw_bipush (x := 111) (show decode cX12_signOf 20 = .ok (.bipush 111, 2) by decide +kernel) (by decide)) ?_
  refine Iff.trans (zw_icmp_ne (t := 29) (show decode cX12_signOf 22 = .ok (.if_icmp .ne 7, 3) by decide +kernel) (by decide)) ?_
  refine zw_ite ?_ ?_
  · refine Iff.trans (zw_iconst (x := 0) (show decode cX12_signOf 25 = .ok (.iconst 0, 1) by decide +kernel) (by decide)) ?_
    refine Iff.trans (zw_goto (t := 41) (show decode cX12_signOf 26 = .ok (.goto 15, 3) by decide +kernel) (by decide)) ?_
    exact zw_iret1 (show decode cX12_signOf 41 = .ok (.ireturn, 1) by decide +kernel) rfl
  · refine Iff.trans (zw_iload_n (show decode cX12_signOf 29 = .ok (.iload_n 0, 1) by decide +kernel) rfl) ?_
    refine Iff.trans (zw_bipush (x := 64) (show decode cX12_signOf 30 = .ok (.bipush 64, 2) by decide +kernel) (by decide)) ?_
    refine Iff.trans (zw_icmp_ne (t := 40) (show decode cX12_signOf 32 = .ok (.if_icmp .ne 8, 3) by decide +kernel) (by decide)) ?_
    refine zw_ite ?_ ?_
    · refine Iff.trans (zw_bipush (x := 10) (show decode cX12_signOf 35 = .ok (.bipush 10, 2) by decide +kernel) (by decide)) ?_
      refine Iff.trans (zw_goto (t := 41) (show decode cX12_signOf 37 = .ok (.goto 4, 3) by decide +kernel) (by decide)) ?_
      exact zw_iret1 (show decode cX12_signOf 41 = .ok (.ireturn, 1) by decide +kernel) rfl
    · refine Iff.trans (zw_iconst (x := (-1)) (show decode cX12_signOf 40 = .ok (.iconst (-1), 1) by decide +kernel) (by decide)) ?_
      exact zw_iret1 (show decode cX12_signOf 41 = .ok (.ireturn, 1) by decide +kernel) rfl

theorem bX12_readBrook_0 {d : Nat} {σ : zS} {Q : Option Value → zS → Prop} (hl : zLay σ) {x1 : Int32} : zCall (d + 1) kX12_readBrook [.ref 131, .int x1] σ Q ↔ zCall d kX12_begin [.ref 131] σ (fun r σ' => zisN r = true ∧ zW (d + 1) kX12_readBrook 4 [.ref 131, .int x1, .retAddr 0, .retAddr 0] (zRstk r ++ []) σ' Q) := by
  show zW (d + 1) kX12_readBrook 0 [.ref 131, .int x1, .retAddr 0, .retAddr 0] [] σ Q ↔ _
  refine Iff.trans (zw_aload_n (show decode cX12_readBrook 0 = .ok (.aload_n 0, 1) by decide +kernel) rfl) ?_
  refine Iff.trans (zw_invV (K' := kX12_begin) (as' := []) (rest := []) (show decode cX12_readBrook 1 = .ok (.invokevirtual 147, 3) by decide +kernel) (by rfl) rfl rfl rfl (hl.k2 zk_131) (by decide) (hl.n2 zk_131) ⟨Nat.le_of_ble_eq_true rfl, Nat.le_of_ble_eq_true rfl, Nat.le_of_ble_eq_true rfl⟩) ?_
  exact Iff.rfl

theorem bX12_readBrook_4 {d : Nat} {σ : zS} {Q : Option Value → zS → Prop} (hl : zLay σ) {x1 : Int32} : zW (d + 1) kX12_readBrook 4 [.ref 131, .int x1, .retAddr 0, .retAddr 0] [] σ Q ↔ (vp_in x1 7 ∧ (vp_in x1 7 ∧ zCall d kX12_look [.ref 131] (zsI (zsI σ 134 (upd (zI σ 134) (x1 : Int32).toNatClampNeg 1)) 135 (upd (zI σ 135) (x1 : Int32).toNatClampNeg 0)) (fun r σ' => zisN r = true ∧ zW (d + 1) kX12_readBrook 24 [.ref 131, .int x1, .int 0, .retAddr 0] (zRstk r ++ []) σ' Q))) := by
  refine Iff.trans (zw_aload_n (show decode cX12_readBrook 4 = .ok (.aload_n 0, 1) by decide +kernel) rfl) ?_
  refine Iff.trans (zw_get (show decode cX12_readBrook 5 = .ok (.getfield 17, 3) by decide +kernel) (by decide +kernel : zfld 12 17 = some (12, 6)) (hl.k2 zk_131) (hl.n2 zk_131) (zgetR (v := 134) (hl.r zrt_131_6) rfl)) ?_
  refine Iff.trans (zw_iload_n (show decode cX12_readBrook 8 = .ok (.iload_n 1, 1) by decide +kernel) rfl) ?_
  refine Iff.trans (zw_iconst (x := 1) (show decode cX12_readBrook 9 = .ok (.iconst 1, 1) by decide +kernel) (by decide)) ?_
  refine Iff.trans (zw_iast2 (show decode cX12_readBrook 10 = .ok (.iastore, 1) by decide +kernel) (hl.k2 zk_134) (hl.n2 zk_134) (hl.l2 zk_134 zl_134) (σ' := (zsI σ 134 (upd (zI σ 134) (x1 : Int32).toNatClampNeg 1))) rfl) ?_
  refine zw_and ?_
  refine Iff.trans (zw_aload_n (show decode cX12_readBrook 11 = .ok (.aload_n 0, 1) by decide +kernel) rfl) ?_
  refine Iff.trans (zw_get (show decode cX12_readBrook 12 = .ok (.getfield 20, 3) by decide +kernel) (by decide +kernel : zfld 12 20 = some (12, 7)) (hl.I.k2 zk_131) (hl.I.n2 zk_131) (zgetR (v := 135) (hl.I.r zrt_131_7) rfl)) ?_
  refine Iff.trans (zw_iload_n (show decode cX12_readBrook 15 = .ok (.iload_n 1, 1) by decide +kernel) rfl) ?_
  refine Iff.trans (zw_iconst (x := 0) (show decode cX12_readBrook 16 = .ok (.iconst 0, 1) by decide +kernel) (by decide)) ?_
  refine Iff.trans (zw_iast2 (show decode cX12_readBrook 17 = .ok (.iastore, 1) by decide +kernel) (hl.I.k2 zk_135) (hl.I.n2 zk_135) (hl.I.l2 zk_135 zl_135) (σ' := (zsI (zsI σ 134 (upd (zI σ 134) (x1 : Int32).toNatClampNeg 1)) 135 (upd (zI σ 135) (x1 : Int32).toNatClampNeg 0))) (congrArg (fun f => zsI (zsI σ 134 (upd (zI σ 134) (x1 : Int32).toNatClampNeg 1)) 135 (upd f (x1 : Int32).toNatClampNeg 0)) (zI_ne (by decide)))) ?_
  refine zw_and ?_
  refine Iff.trans (zw_iconst (x := 0) (show decode cX12_readBrook 18 = .ok (.iconst 0, 1) by decide +kernel) (by decide)) ?_
  refine Iff.trans (zw_istore_n (ls' := [.ref 131, .int x1, .int 0, .retAddr 0]) (show decode cX12_readBrook 19 = .ok (.istore_n 2, 1) by decide +kernel) (zset_s (Nat.le_of_ble_eq_true rfl) rfl)) ?_
  refine Iff.trans (zw_aload_n (show decode cX12_readBrook 20 = .ok (.aload_n 0, 1) by decide +kernel) rfl) ?_
  refine Iff.trans (zw_invV (K' := kX12_look) (as' := []) (rest := []) (show decode cX12_readBrook 21 = .ok (.invokevirtual 150, 3) by decide +kernel) (by rfl) rfl rfl rfl (hl.I.I.k2 zk_131) (by decide) (hl.I.I.n2 zk_131) ⟨Nat.le_of_ble_eq_true rfl, Nat.le_of_ble_eq_true rfl, Nat.le_of_ble_eq_true rfl⟩) ?_
  exact Iff.rfl

theorem bX12_readBrook_24 {d : Nat} {σ : zS} {Q : Option Value → zS → Prop} (hl : zLay σ) {x1 x2 y0 : Int32} : zW (d + 1) kX12_readBrook 24 [.ref 131, .int x1, .int x2, .retAddr 0] [.int y0] σ Q ↔ zW (d + 1) kX12_readBrook 25 [.ref 131, .int x1, .int x2, .int y0] [] σ Q := by
  refine Iff.trans (zw_istore_n (ls' := [.ref 131, .int x1, .int x2, .int y0]) (show decode cX12_readBrook 24 = .ok (.istore_n 3, 1) by decide +kernel) (zset_s (Nat.le_of_ble_eq_true rfl) rfl)) ?_
  exact Iff.rfl

theorem bX12_readBrook_25 {d : Nat} {σ : zS} {Q : Option Value → zS → Prop} (hl : zLay σ) {x1 x2 x3 : Int32} : zW (d + 1) kX12_readBrook 25 [.ref 131, .int x1, .int x2, .int x3] [] σ Q ↔ (if x3 = (-1) then (vp_in x1 7 ∧ (if (zI σ 134 (x1 : Int32).toNatClampNeg) = 1 then zW (d + 1) kX12_readBrook 204 [.ref 131, .int x1, .int x2, .int x3] [] σ Q else (vp_in x1 7 ∧ (if (zI σ 135 (x1 : Int32).toNatClampNeg) ≤ x2 then zW (d + 1) kX12_readBrook 208 [.ref 131, .int x1, .int x2, .int x3] [] σ Q else zW (d + 1) kX12_readBrook 204 [.ref 131, .int x1, .int x2, .int x3] [] σ Q)))) else (if x3 = 59 then (vp_in x1 7 ∧ (if (zI σ 134 (x1 : Int32).toNatClampNeg) = 6 then zW (d + 1) kX12_readBrook 71 [.ref 131, .int x1, .int x2, .int x3] [] σ Q else (vp_in x1 7 ∧ (if (zI σ 134 (x1 : Int32).toNatClampNeg) = 1 then zW (d + 1) kX12_readBrook 68 [.ref 131, .int x1, .int x2, .int x3] [.int 4, .int x2] σ Q else (vp_in x1 7 ∧ zW (d + 1) kX12_readBrook 68 [.ref 131, .int x1, .int x2, .int x3] [.int (zI σ 135 (x1 : Int32).toNatClampNeg), .int x2] σ Q))))) else zCall d kX12_signOf [.int x3] σ (fun r σ' => zisN r = true ∧ zW (d + 1) kX12_readBrook 102 [.ref 131, .int x1, .int x2, .int x3] (zRstk r ++ []) σ' Q))) := by
  refine Iff.trans (zw_iload_n (show decode cX12_readBrook 25 = .ok (.iload_n 3, 1) by decide +kernel) rfl) ?_
  refine Iff.trans (zw_iconst (x := (-1)) (show decode cX12_readBrook 26 = .ok (.iconst (-1), 1) by decide +kernel) (by decide)) ?_
  refine Iff.trans (zw_icmp_eq (t := 184) (show decode cX12_readBrook 27 = .ok (.if_icmp .eq 157, 3) by decide +kernel) (by decide)) ?_
  refine zw_ite ?_ ?_
  · refine Iff.trans (zw_aload_n (show decode cX12_readBrook 184 = .ok (.aload_n 0, 1) by decide +kernel) rfl) ?_
    refine Iff.trans (zw_get (show decode cX12_readBrook 185 = .ok (.getfield 17, 3) by decide +kernel) (by decide +kernel : zfld 12 17 = some (12, 6)) (hl.k2 zk_131) (hl.n2 zk_131) (zgetR (v := 134) (hl.r zrt_131_6) rfl)) ?_
    refine Iff.trans (zw_iload_n (show decode cX12_readBrook 188 = .ok (.iload_n 1, 1) by decide +kernel) rfl) ?_
    refine Iff.trans (zw_iald2 (show decode cX12_readBrook 189 = .ok (.iaload, 1) by decide +kernel) (hl.k2 zk_134) (hl.n2 zk_134) (hl.l2 zk_134 zl_134) (w := zI σ 134 (x1 : Int32).toNatClampNeg) rfl) ?_
    refine zw_and ?_
    refine Iff.trans (zw_iconst (x := 1) (show decode cX12_readBrook 190 = .ok (.iconst 1, 1) by decide +kernel) (by decide)) ?_
    refine Iff.trans (zw_icmp_eq (t := 204) (show decode cX12_readBrook 191 = .ok (.if_icmp .eq 13, 3) by decide +kernel) (by decide)) ?_
    refine zw_ite ?_ ?_
    · exact Iff.rfl
    · refine Iff.trans (zw_iload_n (show decode cX12_readBrook 194 = .ok (.iload_n 2, 1) by decide +kernel) rfl) ?_
      refine Iff.trans (zw_aload_n (show decode cX12_readBrook 195 = .ok (.aload_n 0, 1) by decide +kernel) rfl) ?_
      refine Iff.trans (zw_get (show decode cX12_readBrook 196 = .ok (.getfield 20, 3) by decide +kernel) (by decide +kernel : zfld 12 20 = some (12, 7)) (hl.k2 zk_131) (hl.n2 zk_131) (zgetR (v := 135) (hl.r zrt_131_7) rfl)) ?_
      refine Iff.trans (zw_iload_n (show decode cX12_readBrook 199 = .ok (.iload_n 1, 1) by decide +kernel) rfl) ?_
      refine Iff.trans (zw_iald2 (show decode cX12_readBrook 200 = .ok (.iaload, 1) by decide +kernel) (hl.k2 zk_135) (hl.n2 zk_135) (hl.l2 zk_135 zl_135) (w := zI σ 135 (x1 : Int32).toNatClampNeg) rfl) ?_
      refine zw_and ?_
      refine Iff.trans (zw_icmp_ge (t := 208) (show decode cX12_readBrook 201 = .ok (.if_icmp .ge 7, 3) by decide +kernel) (by decide)) ?_
      refine zw_ite ?_ ?_
      · exact Iff.rfl
      · exact Iff.rfl
  · refine Iff.trans (zw_iload_n (show decode cX12_readBrook 30 = .ok (.iload_n 3, 1) by decide +kernel) rfl) ?_
    refine Iff.trans (zw_bipush (x := 59) (show decode cX12_readBrook 31 = .ok (.bipush 59, 2) by decide +kernel) (by decide)) ?_
    refine Iff.trans (zw_icmp_ne (t := 98) (show decode cX12_readBrook 33 = .ok (.if_icmp .ne 65, 3) by decide +kernel) (by decide)) ?_
    refine zw_ite ?_ ?_
    · refine Iff.trans (zw_aload_n (show decode cX12_readBrook 36 = .ok (.aload_n 0, 1) by decide +kernel) rfl) ?_
      refine Iff.trans (zw_get (show decode cX12_readBrook 37 = .ok (.getfield 17, 3) by decide +kernel) (by decide +kernel : zfld 12 17 = some (12, 6)) (hl.k2 zk_131) (hl.n2 zk_131) (zgetR (v := 134) (hl.r zrt_131_6) rfl)) ?_
      refine Iff.trans (zw_iload_n (show decode cX12_readBrook 40 = .ok (.iload_n 1, 1) by decide +kernel) rfl) ?_
      refine Iff.trans (zw_iald2 (show decode cX12_readBrook 41 = .ok (.iaload, 1) by decide +kernel) (hl.k2 zk_134) (hl.n2 zk_134) (hl.l2 zk_134 zl_134) (w := zI σ 134 (x1 : Int32).toNatClampNeg) rfl) ?_
      refine zw_and ?_
      refine Iff.trans (zw_bipush (x := 6) (show decode cX12_readBrook 42 = .ok (.bipush 6, 2) by decide +kernel) (by decide)) ?_
      refine Iff.trans (zw_icmp_eq (t := 71) (show decode cX12_readBrook 44 = .ok (.if_icmp .eq 27, 3) by decide +kernel) (by decide)) ?_
      refine zw_ite ?_ ?_
      · exact Iff.rfl
      · refine Iff.trans (zw_iload_n (show decode cX12_readBrook 47 = .ok (.iload_n 2, 1) by decide +kernel) rfl) ?_
        refine Iff.trans (zw_aload_n (show decode cX12_readBrook 48 = .ok (.aload_n 0, 1) by decide +kernel) rfl) ?_
        refine Iff.trans (zw_get (show decode cX12_readBrook 49 = .ok (.getfield 17, 3) by decide +kernel) (by decide +kernel : zfld 12 17 = some (12, 6)) (hl.k2 zk_131) (hl.n2 zk_131) (zgetR (v := 134) (hl.r zrt_131_6) rfl)) ?_
        refine Iff.trans (zw_iload_n (show decode cX12_readBrook 52 = .ok (.iload_n 1, 1) by decide +kernel) rfl) ?_
        refine Iff.trans (zw_iald2 (show decode cX12_readBrook 53 = .ok (.iaload, 1) by decide +kernel) (hl.k2 zk_134) (hl.n2 zk_134) (hl.l2 zk_134 zl_134) (w := zI σ 134 (x1 : Int32).toNatClampNeg) rfl) ?_
        refine zw_and ?_
        refine Iff.trans (zw_iconst (x := 1) (show decode cX12_readBrook 54 = .ok (.iconst 1, 1) by decide +kernel) (by decide)) ?_
        refine Iff.trans (zw_icmp_ne (t := 62) (show decode cX12_readBrook 55 = .ok (.if_icmp .ne 7, 3) by decide +kernel) (by decide)) ?_
        refine zw_ite ?_ ?_
        · refine Iff.trans (zw_iconst (x := 4) (show decode cX12_readBrook 58 = .ok (.iconst 4, 1) by decide +kernel) (by decide)) ?_
          refine Iff.trans (zw_goto (t := 68) (show decode cX12_readBrook 59 = .ok (.goto 9, 3) by decide +kernel) (by decide)) ?_
          exact Iff.rfl
        · refine Iff.trans (zw_aload_n (show decode cX12_readBrook 62 = .ok (.aload_n 0, 1) by decide +kernel) rfl) ?_
          refine Iff.trans (zw_get (show decode cX12_readBrook 63 = .ok (.getfield 20, 3) by decide +kernel) (by decide +kernel : zfld 12 20 = some (12, 7)) (hl.k2 zk_131) (hl.n2 zk_131) (zgetR (v := 135) (hl.r zrt_131_7) rfl)) ?_
          refine Iff.trans (zw_iload_n (show decode cX12_readBrook 66 = .ok (.iload_n 1, 1) by decide +kernel) rfl) ?_
          refine Iff.trans (zw_iald2 (show decode cX12_readBrook 67 = .ok (.iaload, 1) by decide +kernel) (hl.k2 zk_135) (hl.n2 zk_135) (hl.l2 zk_135 zl_135) (w := zI σ 135 (x1 : Int32).toNatClampNeg) rfl) ?_
          refine zw_and ?_
          exact Iff.rfl
    · refine Iff.trans (zw_iload_n (show decode cX12_readBrook 98 = .ok (.iload_n 3, 1) by decide +kernel) rfl) ?_
      refine Iff.trans (zw_invS (K' := kX12_signOf) (as := [.int x3]) (rest := []) (show decode cX12_readBrook 99 = .ok (.invokestatic 156, 3) by decide +kernel) (by rfl) rfl rfl rfl ⟨Nat.le_of_ble_eq_true rfl, Nat.le_of_ble_eq_true rfl, Nat.le_of_ble_eq_true rfl⟩) ?_
      exact Iff.rfl

theorem bX12_readBrook_68 {d : Nat} {σ : zS} {Q : Option Value → zS → Prop} (hl : zLay σ) {x1 x2 x3 y0 y1 : Int32} : zW (d + 1) kX12_readBrook 68 [.ref 131, .int x1, .int x2, .int x3] [.int y0, .int y1] σ Q ↔ (if y0 ≤ y1 then (vp_in x1 7 ∧ (vp_in x1 7 ∧ (vp_in x1 7 ∧ zW (d + 1) kX12_readBrook 166 [.ref 131, .int x1, .int 0, .int x3] [] (zsI (zsI σ 135 (upd (zI σ 135) (x1 : Int32).toNatClampNeg x2)) 134 (upd (zI σ 134) (x1 : Int32).toNatClampNeg ((zI σ 134 (x1 : Int32).toNatClampNeg) + 1))) Q))) else zW (d + 1) kX12_readBrook 71 [.ref 131, .int x1, .int x2, .int x3] [] σ Q) := by
  refine Iff.trans (zw_icmp_ge (t := 76) (show decode cX12_readBrook 68 = .ok (.if_icmp .ge 8, 3) by decide +kernel) (by decide)) ?_
  refine zw_ite ?_ ?_
  · refine Iff.trans (zw_aload_n (show decode cX12_readBrook 76 = .ok (.aload_n 0, 1) by decide +kernel) rfl) ?_
    refine Iff.trans (zw_get (show decode cX12_readBrook 77 = .ok (.getfield 20, 3) by decide +kernel) (by decide +kernel : zfld 12 20 = some (12, 7)) (hl.k2 zk_131) (hl.n2 zk_131) (zgetR (v := 135) (hl.r zrt_131_7) rfl)) ?_
    refine Iff.trans (zw_iload_n (show decode cX12_readBrook 80 = .ok (.iload_n 1, 1) by decide +kernel) rfl) ?_
    refine Iff.trans (zw_iload_n (show decode cX12_readBrook 81 = .ok (.iload_n 2, 1) by decide +kernel) rfl) ?_
    refine Iff.trans (zw_iast2 (show decode cX12_readBrook 82 = .ok (.iastore, 1) by decide +kernel) (hl.k2 zk_135) (hl.n2 zk_135) (hl.l2 zk_135 zl_135) (σ' := (zsI σ 135 (upd (zI σ 135) (x1 : Int32).toNatClampNeg x2))) rfl) ?_
    refine zw_and ?_
    refine Iff.trans (zw_aload_n (show decode cX12_readBrook 83 = .ok (.aload_n 0, 1) by decide +kernel) rfl) ?_
    refine Iff.trans (zw_get (show decode cX12_readBrook 84 = .ok (.getfield 17, 3) by decide +kernel) (by decide +kernel : zfld 12 17 = some (12, 6)) (hl.I.k2 zk_131) (hl.I.n2 zk_131) (zgetR (v := 134) (hl.I.r zrt_131_6) rfl)) ?_
    refine Iff.trans (zw_iload_n (show decode cX12_readBrook 87 = .ok (.iload_n 1, 1) by decide +kernel) rfl) ?_
    refine Iff.trans (zw_dup2 (show decode cX12_readBrook 88 = .ok (.dup2, 1) by decide +kernel) ⟨rfl, rfl⟩) ?_
    refine Iff.trans (zw_iald2 (show decode cX12_readBrook 89 = .ok (.iaload, 1) by decide +kernel) (hl.I.k2 zk_134) (hl.I.n2 zk_134) (hl.I.l2 zk_134 zl_134) (w := zI σ 134 (x1 : Int32).toNatClampNeg) (congrFun (zI_ne (by decide)) _)) ?_
    refine zw_and ?_
    refine Iff.trans (zw_iconst (x := 1) (show decode cX12_readBrook 90 = .ok (.iconst 1, 1) by decide +kernel) (by decide)) ?_
    refine Iff.trans (zw_iadd (show decode cX12_readBrook 91 = .ok (.iadd, 1) by decide +kernel)) ?_
    refine Iff.trans (zw_iast2 (show decode cX12_readBrook 92 = .ok (.iastore, 1) by decide +kernel) (hl.I.k2 zk_134) (hl.I.n2 zk_134) (hl.I.l2 zk_134 zl_134) (σ' := (zsI (zsI σ 135 (upd (zI σ 135) (x1 : Int32).toNatClampNeg x2)) 134 (upd (zI σ 134) (x1 : Int32).toNatClampNeg ((zI σ 134 (x1 : Int32).toNatClampNeg) + 1)))) (congrArg (fun f => zsI (zsI σ 135 (upd (zI σ 135) (x1 : Int32).toNatClampNeg x2)) 134 (upd f (x1 : Int32).toNatClampNeg ((zI σ 134 (x1 : Int32).toNatClampNeg) + 1))) (zI_ne (by decide)))) ?_
    refine zw_and ?_
    refine Iff.trans (zw_iconst (x := 0) (show decode cX12_readBrook 93 = .ok (.iconst 0, 1) by decide +kernel) (by decide)) ?_
    refine Iff.trans (zw_istore_n (ls' := [.ref 131, .int x1, .int 0, .int x3]) (show decode cX12_readBrook 94 = .ok (.istore_n 2, 1) by decide +kernel) (zset_s (Nat.le_of_ble_eq_true rfl) rfl)) ?_
    refine Iff.trans (zw_goto (t := 166) (show decode cX12_readBrook 95 = .ok (.goto 71, 3) by decide +kernel) (by decide)) ?_
    exact Iff.rfl
  · exact Iff.rfl

theorem bX12_readBrook_71 {d : Nat} {σ : zS} {Q : Option Value → zS → Prop} (hl : zLay σ) {x1 x2 x3 : Int32} : zW (d + 1) kX12_readBrook 71 [.ref 131, .int x1, .int x2, .int x3] [] σ Q ↔ zCall d kX12_fails [.ref 131] σ (fun r σ' => zisN r = true ∧ zW (d + 1) kX12_readBrook 75 [.ref 131, .int x1, .int x2, .int x3] (zRstk r ++ []) σ' Q) := by
  refine Iff.trans (zw_aload_n (show decode cX12_readBrook 71 = .ok (.aload_n 0, 1) by decide +kernel) rfl) ?_
  refine Iff.trans (zw_invV (K' := kX12_fails) (as' := []) (rest := []) (show decode cX12_readBrook 72 = .ok (.invokevirtual 153, 3) by decide +kernel) (by rfl) rfl rfl rfl (hl.k2 zk_131) (by decide) (hl.n2 zk_131) ⟨Nat.le_of_ble_eq_true rfl, Nat.le_of_ble_eq_true rfl, Nat.le_of_ble_eq_true rfl⟩) ?_
  exact Iff.rfl

theorem bX12_readBrook_75 {d : Nat} {σ : zS} {Q : Option Value → zS → Prop} (hl : zLay σ) {x1 x2 x3 : Int32} : zW (d + 1) kX12_readBrook 75 [.ref 131, .int x1, .int x2, .int x3] [] σ Q ↔ Q none σ := by
  exact zw_ret (show decode cX12_readBrook 75 = .ok (.return_, 1) by decide +kernel) rfl

theorem bX12_readBrook_102 {d : Nat} {σ : zS} {Q : Option Value → zS → Prop} (hl : zLay σ) {x1 x2 x3 y0 : Int32} : zW (d + 1) kX12_readBrook 102 [.ref 131, .int x1, .int x2, .int x3] [.int y0] σ Q ↔ (if y0 = (-1) then zW (d + 1) kX12_readBrook 131 [.ref 131, .int x1, .int x2, .int x3] [] σ Q else (vp_in x1 7 ∧ (if (zI σ 134 (x1 : Int32).toNatClampNeg) = 1 then zW (d + 1) kX12_readBrook 128 [.ref 131, .int x1, .int x2, .int x3] [.int 16, .int x2] σ Q else (vp_in x1 7 ∧ zW (d + 1) kX12_readBrook 128 [.ref 131, .int x1, .int x2, .int x3] [.int (zI σ 135 (x1 : Int32).toNatClampNeg), .int x2] σ Q)))) := by
  refine Iff.trans (zw_iconst (x := (-1)) (show decode cX12_readBrook 102 = .ok (.iconst (-1), 1) by decide +kernel) (by decide)) ?_
  refine Iff.trans (zw_icmp_eq (t := 131) (show decode cX12_readBrook 103 = .ok (.if_icmp .eq 28, 3) by decide +kernel) (by decide)) ?_
  refine zw_ite ?_ ?_
  · exact Iff.rfl
  · refine Iff.trans (zw_iload_n (show decode cX12_readBrook 106 = .ok (.iload_n 2, 1) by decide +kernel) rfl) ?_
    refine Iff.trans (zw_aload_n (show decode cX12_readBrook 107 = .ok (.aload_n 0, 1) by decide +kernel) rfl) ?_
    refine Iff.trans (zw_get (show decode cX12_readBrook 108 = .ok (.getfield 17, 3) by decide +kernel) (by decide +kernel : zfld 12 17 = some (12, 6)) (hl.k2 zk_131) (hl.n2 zk_131) (zgetR (v := 134) (hl.r zrt_131_6) rfl)) ?_
    refine Iff.trans (zw_iload_n (show decode cX12_readBrook 111 = .ok (.iload_n 1, 1) by decide +kernel) rfl) ?_
    refine Iff.trans (zw_iald2 (show decode cX12_readBrook 112 = .ok (.iaload, 1) by decide +kernel) (hl.k2 zk_134) (hl.n2 zk_134) (hl.l2 zk_134 zl_134) (w := zI σ 134 (x1 : Int32).toNatClampNeg) rfl) ?_
    refine zw_and ?_
    refine Iff.trans (zw_iconst (x := 1) (show decode cX12_readBrook 113 = .ok (.iconst 1, 1) by decide +kernel) (by decide)) ?_
    refine Iff.trans (zw_icmp_ne (t := 122) (show decode cX12_readBrook 114 = .ok (.if_icmp .ne 8, 3) by decide +kernel) (by decide)) ?_
    refine zw_ite ?_ ?_
    · refine Iff.trans (zw_bipush (x := 16) (show decode cX12_readBrook 117 = .ok (.bipush 16, 2) by decide +kernel) (by decide)) ?_
      refine Iff.trans (zw_goto (t := 128) (show decode cX12_readBrook 119 = .ok (.goto 9, 3) by decide +kernel) (by decide)) ?_
      exact Iff.rfl
    · refine Iff.trans (zw_aload_n (show decode cX12_readBrook 122 = .ok (.aload_n 0, 1) by decide +kernel) rfl) ?_
      refine Iff.trans (zw_get (show decode cX12_readBrook 123 = .ok (.getfield 20, 3) by decide +kernel) (by decide +kernel : zfld 12 20 = some (12, 7)) (hl.k2 zk_131) (hl.n2 zk_131) (zgetR (v := 135) (hl.r zrt_131_7) rfl)) ?_
      refine Iff.trans (zw_iload_n (show decode cX12_readBrook 126 = .ok (.iload_n 1, 1) by decide +kernel) rfl) ?_
      refine Iff.trans (zw_iald2 (show decode cX12_readBrook 127 = .ok (.iaload, 1) by decide +kernel) (hl.k2 zk_135) (hl.n2 zk_135) (hl.l2 zk_135 zl_135) (w := zI σ 135 (x1 : Int32).toNatClampNeg) rfl) ?_
      refine zw_and ?_
      exact Iff.rfl

theorem bX12_readBrook_128 {d : Nat} {σ : zS} {Q : Option Value → zS → Prop} (hl : zLay σ) {x1 x2 x3 y0 y1 : Int32} : zW (d + 1) kX12_readBrook 128 [.ref 131, .int x1, .int x2, .int x3] [.int y0, .int y1] σ Q ↔ (if y1 = y0 then zW (d + 1) kX12_readBrook 131 [.ref 131, .int x1, .int x2, .int x3] [] σ Q else (vp_in x1 7 ∧ zCall d kX12_signOf [.int x3] σ (fun r σ' => zisN r = true ∧ zW (d + 1) kX12_readBrook 162 [.ref 131, .int x1, .int x2, .int x3] (zRstk r ++ [.int ((16 * (((6 * x1) + (zI σ 134 (x1 : Int32).toNatClampNeg)) - 1)) + x2), .ref 133]) σ' Q))) := by
  refine Iff.trans (zw_icmp_ne (t := 136) (show decode cX12_readBrook 128 = .ok (.if_icmp .ne 8, 3) by decide +kernel) (by decide)) ?_
  refine zw_ite ?_ ?_
  · exact Iff.rfl
  · refine Iff.trans (zw_aload_n (show decode cX12_readBrook 136 = .ok (.aload_n 0, 1) by decide +kernel) rfl) ?_
    refine Iff.trans (zw_get (show decode cX12_readBrook 137 = .ok (.getfield 13, 3) by decide +kernel) (by decide +kernel : zfld 12 13 = some (12, 5)) (hl.k2 zk_131) (hl.n2 zk_131) (zgetR (v := 133) (hl.r zrt_131_5) rfl)) ?_
    refine Iff.trans (zw_bipush (x := 16) (show decode cX12_readBrook 140 = .ok (.bipush 16, 2) by decide +kernel) (by decide)) ?_
    refine Iff.trans (zw_bipush (x := 6) (show decode cX12_readBrook 142 = .ok (.bipush 6, 2) by decide +kernel) (by decide)) ?_
    refine Iff.trans (zw_iload_n (show decode cX12_readBrook 144 = .ok (.iload_n 1, 1) by decide +kernel) rfl) ?_
    refine Iff.trans (zw_imul (show decode cX12_readBrook 145 = .ok (.imul, 1) by decide +kernel)) ?_
    refine Iff.trans (zw_aload_n (show decode cX12_readBrook 146 = .ok (.aload_n 0, 1) by decide +kernel) rfl) ?_
    refine Iff.trans (zw_get (show decode cX12_readBrook 147 = .ok (.getfield 17, 3) by decide +kernel) (by decide +kernel : zfld 12 17 = some (12, 6)) (hl.k2 zk_131) (hl.n2 zk_131) (zgetR (v := 134) (hl.r zrt_131_6) rfl)) ?_
    refine Iff.trans (zw_iload_n (show decode cX12_readBrook 150 = .ok (.iload_n 1, 1) by decide +kernel) rfl) ?_
    refine Iff.trans (zw_iald2 (show decode cX12_readBrook 151 = .ok (.iaload, 1) by decide +kernel) (hl.k2 zk_134) (hl.n2 zk_134) (hl.l2 zk_134 zl_134) (w := zI σ 134 (x1 : Int32).toNatClampNeg) rfl) ?_
    refine zw_and ?_
    refine Iff.trans (zw_iadd (show decode cX12_readBrook 152 = .ok (.iadd, 1) by decide +kernel)) ?_
    refine Iff.trans (zw_iconst (x := 1) (show decode cX12_readBrook 153 = .ok (.iconst 1, 1) by decide +kernel) (by decide)) ?_
    refine Iff.trans (zw_isub (show decode cX12_readBrook 154 = .ok (.isub, 1) by decide +kernel)) ?_
    refine Iff.trans (zw_imul (show decode cX12_readBrook 155 = .ok (.imul, 1) by decide +kernel)) ?_
    refine Iff.trans (zw_iload_n (show decode cX12_readBrook 156 = .ok (.iload_n 2, 1) by decide +kernel) rfl) ?_
    refine Iff.trans (zw_iadd (show decode cX12_readBrook 157 = .ok (.iadd, 1) by decide +kernel)) ?_
    refine Iff.trans (zw_iload_n (show decode cX12_readBrook 158 = .ok (.iload_n 3, 1) by decide +kernel) rfl) ?_
    refine Iff.trans (zw_invS (K' := kX12_signOf) (as := [.int x3]) (rest := [.int ((16 * (((6 * x1) + (zI σ 134 (x1 : Int32).toNatClampNeg)) - 1)) + x2), .ref 133]) (show decode cX12_readBrook 159 = .ok (.invokestatic 156, 3) by decide +kernel) (by rfl) rfl rfl rfl ⟨Nat.le_of_ble_eq_true rfl, Nat.le_of_ble_eq_true rfl, Nat.le_of_ble_eq_true rfl⟩) ?_
    exact Iff.rfl

theorem bX12_readBrook_131 {d : Nat} {σ : zS} {Q : Option Value → zS → Prop} (hl : zLay σ) {x1 x2 x3 : Int32} : zW (d + 1) kX12_readBrook 131 [.ref 131, .int x1, .int x2, .int x3] [] σ Q ↔ zCall d kX12_fails [.ref 131] σ (fun r σ' => zisN r = true ∧ zW (d + 1) kX12_readBrook 135 [.ref 131, .int x1, .int x2, .int x3] (zRstk r ++ []) σ' Q) := by
  refine Iff.trans (zw_aload_n (show decode cX12_readBrook 131 = .ok (.aload_n 0, 1) by decide +kernel) rfl) ?_
  refine Iff.trans (zw_invV (K' := kX12_fails) (as' := []) (rest := []) (show decode cX12_readBrook 132 = .ok (.invokevirtual 153, 3) by decide +kernel) (by rfl) rfl rfl rfl (hl.k2 zk_131) (by decide) (hl.n2 zk_131) ⟨Nat.le_of_ble_eq_true rfl, Nat.le_of_ble_eq_true rfl, Nat.le_of_ble_eq_true rfl⟩) ?_
  exact Iff.rfl

theorem bX12_readBrook_135 {d : Nat} {σ : zS} {Q : Option Value → zS → Prop} (hl : zLay σ) {x1 x2 x3 : Int32} : zW (d + 1) kX12_readBrook 135 [.ref 131, .int x1, .int x2, .int x3] [] σ Q ↔ Q none σ := by
  exact zw_ret (show decode cX12_readBrook 135 = .ok (.return_, 1) by decide +kernel) rfl

theorem bX12_readBrook_162 {d : Nat} {σ : zS} {Q : Option Value → zS → Prop} (hl : zLay σ) {x1 x2 x3 y0 y1 : Int32} : zW (d + 1) kX12_readBrook 162 [.ref 131, .int x1, .int x2, .int x3] [.int y0, .int y1, .ref 133] σ Q ↔ (vp_in y1 672 ∧ zW (d + 1) kX12_readBrook 166 [.ref 131, .int x1, .int (x2 + 1), .int x3] [] (zsI σ 133 (upd (zI σ 133) (y1 : Int32).toNatClampNeg y0)) Q) := by
  refine Iff.trans (zw_iast2 (show decode cX12_readBrook 162 = .ok (.iastore, 1) by decide +kernel) (hl.k2 zk_133) (hl.n2 zk_133) (hl.l2 zk_133 zl_133) (σ' := (zsI σ 133 (upd (zI σ 133) (y1 : Int32).toNatClampNeg y0))) rfl) ?_
  refine zw_and ?_
  refine Iff.trans (zw_iinc (w := 1) (ls' := [.ref 131, .int x1, .int (x2 + 1), .int x3]) (show decode cX12_readBrook 163 = .ok (.iinc 2 1, 3) by decide +kernel) rfl (by decide) (zset_s (Nat.le_of_ble_eq_true rfl) rfl)) ?_
  exact Iff.rfl

theorem bX12_readBrook_166 {d : Nat} {σ : zS} {Q : Option Value → zS → Prop} (hl : zLay σ) {x1 x2 x3 : Int32} : zW (d + 1) kX12_readBrook 166 [.ref 131, .int x1, .int x2, .int x3] [] σ Q ↔ zCall d kX12_look [.ref 131] (zsI σ 131 (upd (zI σ 131) 3 ((zI σ 131 3) + 1))) (fun r σ' => zisN r = true ∧ zW (d + 1) kX12_readBrook 180 [.ref 131, .int x1, .int x2, .int x3] (zRstk r ++ []) σ' Q) := by
  refine Iff.trans (zw_aload_n (show decode cX12_readBrook 166 = .ok (.aload_n 0, 1) by decide +kernel) rfl) ?_
  refine Iff.trans (zw_dup (show decode cX12_readBrook 167 = .ok (.dup, 1) by decide +kernel) rfl) ?_
  refine Iff.trans (zw_getI (show decode cX12_readBrook 168 = .ok (.getfield 137, 3) by decide +kernel) (by decide +kernel : zfld 12 137 = some (12, 3)) (hl.k2 zk_131) (hl.n2 zk_131) (Or.inl rfl) (w := zI σ 131 3) rfl) ?_
  refine Iff.trans (zw_iconst (x := 1) (show decode cX12_readBrook 171 = .ok (.iconst 1, 1) by decide +kernel) (by decide)) ?_
  refine Iff.trans (zw_iadd (show decode cX12_readBrook 172 = .ok (.iadd, 1) by decide +kernel)) ?_
  refine Iff.trans (zw_putI (show decode cX12_readBrook 173 = .ok (.putfield 137, 3) by decide +kernel) (by decide +kernel : zfld 12 137 = some (12, 3)) (hl.k2 zk_131) (hl.n2 zk_131) rfl (Or.inl rfl) (σ' := (zsI σ 131 (upd (zI σ 131) 3 ((zI σ 131 3) + 1)))) rfl) ?_
  refine Iff.trans (zw_aload_n (show decode cX12_readBrook 176 = .ok (.aload_n 0, 1) by decide +kernel) rfl) ?_
  refine Iff.trans (zw_invV (K' := kX12_look) (as' := []) (rest := []) (show decode cX12_readBrook 177 = .ok (.invokevirtual 150, 3) by decide +kernel) (by rfl) rfl rfl rfl (hl.I.k2 zk_131) (by decide) (hl.I.n2 zk_131) ⟨Nat.le_of_ble_eq_true rfl, Nat.le_of_ble_eq_true rfl, Nat.le_of_ble_eq_true rfl⟩) ?_
  exact Iff.rfl

theorem bX12_readBrook_180 {d : Nat} {σ : zS} {Q : Option Value → zS → Prop} (hl : zLay σ) {x1 x2 x3 y0 : Int32} : zW (d + 1) kX12_readBrook 180 [.ref 131, .int x1, .int x2, .int x3] [.int y0] σ Q ↔ zW (d + 1) kX12_readBrook 25 [.ref 131, .int x1, .int x2, .int y0] [] σ Q := by
  refine Iff.trans (zw_istore_n (ls' := [.ref 131, .int x1, .int x2, .int y0]) (show decode cX12_readBrook 180 = .ok (.istore_n 3, 1) by decide +kernel) (zset_s (Nat.le_of_ble_eq_true rfl) rfl)) ?_
  refine Iff.trans (zw_goto (t := 25) (show decode cX12_readBrook 181 = .ok (.goto (-156), 3) by decide +kernel) (by decide)) ?_
  exact Iff.rfl

theorem bX12_readBrook_204 {d : Nat} {σ : zS} {Q : Option Value → zS → Prop} (hl : zLay σ) {x1 x2 x3 : Int32} : zW (d + 1) kX12_readBrook 204 [.ref 131, .int x1, .int x2, .int x3] [] σ Q ↔ zCall d kX12_fails [.ref 131] σ (fun r σ' => zisN r = true ∧ zW (d + 1) kX12_readBrook 208 [.ref 131, .int x1, .int x2, .int x3] (zRstk r ++ []) σ' Q) := by
  refine Iff.trans (zw_aload_n (show decode cX12_readBrook 204 = .ok (.aload_n 0, 1) by decide +kernel) rfl) ?_
  refine Iff.trans (zw_invV (K' := kX12_fails) (as' := []) (rest := []) (show decode cX12_readBrook 205 = .ok (.invokevirtual 153, 3) by decide +kernel) (by rfl) rfl rfl rfl (hl.k2 zk_131) (by decide) (hl.n2 zk_131) ⟨Nat.le_of_ble_eq_true rfl, Nat.le_of_ble_eq_true rfl, Nat.le_of_ble_eq_true rfl⟩) ?_
  exact Iff.rfl

theorem bX12_readBrook_208 {d : Nat} {σ : zS} {Q : Option Value → zS → Prop} (hl : zLay σ) {x1 x2 x3 : Int32} : zW (d + 1) kX12_readBrook 208 [.ref 131, .int x1, .int x2, .int x3] [] σ Q ↔ Q none σ := by
  exact zw_ret (show decode cX12_readBrook 208 = .ok (.return_, 1) by decide +kernel) rfl

theorem bX12_isDigit_0 {d : Nat} {σ : zS} {Q : Option Value → zS → Prop} (hl : zLay σ) : zCall (d + 1) kX12_isDigit [.ref 131] σ Q ↔ zCall d kX12_here [.ref 131] σ (fun r σ' => zisN r = true ∧ zW (d + 1) kX12_isDigit 4 [.ref 131] (zRstk r ++ []) σ' Q) := by
  show zW (d + 1) kX12_isDigit 0 [.ref 131] [] σ Q ↔ _
  refine Iff.trans (zw_aload_n (show decode cX12_isDigit 0 = .ok (.aload_n 0, 1) by decide +kernel) rfl) ?_
  refine Iff.trans (zw_invV (K' := kX12_here) (as' := []) (rest := []) (show decode cX12_isDigit 1 = .ok (.invokevirtual 140, 3) by decide +kernel) (by rfl) rfl rfl rfl (hl.k2 zk_131) (by decide) (hl.n2 zk_131) ⟨Nat.le_of_ble_eq_true rfl, Nat.le_of_ble_eq_true rfl, Nat.le_of_ble_eq_true rfl⟩) ?_
  exact Iff.rfl

theorem bX12_isDigit_4 {d : Nat} {σ : zS} {Q : Option Value → zS → Prop} (hl : zLay σ) {y0 : Int32} : zW (d + 1) kX12_isDigit 4 [.ref 131] [.int y0] σ Q ↔ (if y0 < 48 then Q (some (.int 0)) σ else zCall d kX12_here [.ref 131] σ (fun r σ' => zisN r = true ∧ zW (d + 1) kX12_isDigit 13 [.ref 131] (zRstk r ++ []) σ' Q)) := by
  refine Iff.trans (zw_bipush (x := 48) (show decode cX12_isDigit 4 = .ok (.bipush 48, 2) by decide +kernel) (by decide)) ?_
  refine Iff.trans (zw_icmp_lt (t := 22) (show decode cX12_isDigit 6 = .ok (.if_icmp .lt 16, 3) by decide +kernel) (by decide)) ?_
  refine zw_ite ?_ ?_
  · refine Iff.trans (zw_iconst (x := 0) (show decode cX12_isDigit 22 = .ok (.iconst 0, 1) by decide +kernel) (by decide)) ?_
    exact zw_iret2c (show decode cX12_isDigit 23 = .ok (.ireturn, 1) by decide +kernel) rfl (Or.inl rfl)
  · refine Iff.trans (zw_aload_n (show decode cX12_isDigit 9 = .ok (.aload_n 0, 1) by decide +kernel) rfl) ?_
    refine Iff.trans (zw_invV (K' := kX12_here) (as' := []) (rest := []) (show decode cX12_isDigit 10 = .ok (.invokevirtual 140, 3) by decide +kernel) (by rfl) rfl rfl rfl (hl.k2 zk_131) (by decide) (hl.n2 zk_131) ⟨Nat.le_of_ble_eq_true rfl, Nat.le_of_ble_eq_true rfl, Nat.le_of_ble_eq_true rfl⟩) ?_
    exact Iff.rfl

theorem bX12_isDigit_13 {d : Nat} {σ : zS} {Q : Option Value → zS → Prop} (hl : zLay σ) {y0 : Int32} : zW (d + 1) kX12_isDigit 13 [.ref 131] [.int y0] σ Q ↔ (if 57 < y0 then Q (some (.int 0)) σ else Q (some (.int 1)) σ) := by
  refine Iff.trans (zw_bipush (x := 57) (show decode cX12_isDigit 13 = .ok (.bipush 57, 2) by decide +kernel) (by decide)) ?_
  refine Iff.trans (zw_icmp_gt (t := 22) (show decode cX12_isDigit 15 = .ok (.if_icmp .gt 7, 3) by decide +kernel) (by decide)) ?_
  refine zw_ite ?_ ?_
  · refine Iff.trans (zw_iconst (x := 0) (show decode cX12_isDigit 22 = .ok (.iconst 0, 1) by decide +kernel) (by decide)) ?_
    exact zw_iret2c (show decode cX12_isDigit 23 = .ok (.ireturn, 1) by decide +kernel) rfl (Or.inl rfl)
  · refine Iff.trans (zw_iconst (x := 1) (show decode cX12_isDigit 18 = .ok (.iconst 1, 1) by decide +kernel) (by decide)) ?_
    refine Iff.trans (zw_goto (t := 23) (show decode cX12_isDigit 19 = .ok (.goto 4, 3) by decide +kernel) (by decide)) ?_
    exact zw_iret2c (show decode cX12_isDigit 23 = .ok (.ireturn, 1) by decide +kernel) rfl (Or.inr rfl)

theorem bX12_number_0 {d : Nat} {σ : zS} {Q : Option Value → zS → Prop} (hl : zLay σ) {x1 x2 : Int32} : zCall (d + 1) kX12_number [.ref 131, .int x1, .int x2] σ Q ↔ zCall d kX12_look [.ref 131] σ (fun r σ' => zisN r = true ∧ zW (d + 1) kX12_number 4 [.ref 131, .int x1, .int x2, .retAddr 0, .retAddr 0] (zRstk r ++ []) σ' Q) := by
  show zW (d + 1) kX12_number 0 [.ref 131, .int x1, .int x2, .retAddr 0, .retAddr 0] [] σ Q ↔ _
  refine Iff.trans (zw_aload_n (show decode cX12_number 0 = .ok (.aload_n 0, 1) by decide +kernel) rfl) ?_
  refine Iff.trans (zw_invV (K' := kX12_look) (as' := []) (rest := []) (show decode cX12_number 1 = .ok (.invokevirtual 150, 3) by decide +kernel) (by rfl) rfl rfl rfl (hl.k2 zk_131) (by decide) (hl.n2 zk_131) ⟨Nat.le_of_ble_eq_true rfl, Nat.le_of_ble_eq_true rfl, Nat.le_of_ble_eq_true rfl⟩) ?_
  exact Iff.rfl

theorem bX12_number_4 {d : Nat} {σ : zS} {Q : Option Value → zS → Prop} (hl : zLay σ) {x1 x2 y0 : Int32} : zW (d + 1) kX12_number 4 [.ref 131, .int x1, .int x2, .retAddr 0, .retAddr 0] [.int y0] σ Q ↔ zCall d kX12_isDigit [.ref 131] σ (fun r σ' => zisN r = true ∧ zW (d + 1) kX12_number 9 [.ref 131, .int x1, .int x2, .int y0, .retAddr 0] (zRstk r ++ []) σ' Q) := by
  refine Iff.trans (zw_istore_n (ls' := [.ref 131, .int x1, .int x2, .int y0, .retAddr 0]) (show decode cX12_number 4 = .ok (.istore_n 3, 1) by decide +kernel) (zset_s (Nat.le_of_ble_eq_true rfl) rfl)) ?_
  refine Iff.trans (zw_aload_n (show decode cX12_number 5 = .ok (.aload_n 0, 1) by decide +kernel) rfl) ?_
  refine Iff.trans (zw_invV (K' := kX12_isDigit) (as' := []) (rest := []) (show decode cX12_number 6 = .ok (.invokevirtual 159, 3) by decide +kernel) (by rfl) rfl rfl rfl (hl.k2 zk_131) (by decide) (hl.n2 zk_131) ⟨Nat.le_of_ble_eq_true rfl, Nat.le_of_ble_eq_true rfl, Nat.le_of_ble_eq_true rfl⟩) ?_
  exact Iff.rfl

theorem bX12_number_9 {d : Nat} {σ : zS} {Q : Option Value → zS → Prop} (hl : zLay σ) {x1 x2 x3 y0 : Int32} : zW (d + 1) kX12_number 9 [.ref 131, .int x1, .int x2, .int x3, .retAddr 0] [.int y0] σ Q ↔ (if y0 = (0 : Int32) then zCall d kX12_fails [.ref 131] σ (fun r σ' => zisN r = true ∧ zW (d + 1) kX12_number 16 [.ref 131, .int x1, .int x2, .int x3, .retAddr 0] (zRstk r ++ []) σ' Q) else zCall d kX12_isDigit [.ref 131] (zsI σ 131 (upd (zI σ 131) 3 ((zI σ 131 3) + 1))) (fun r σ' => zisN r = true ∧ zW (d + 1) kX12_number 38 [.ref 131, .int x1, .int x2, .int x3, .int (x3 - 48)] (zRstk r ++ []) σ' Q)) := by
  refine Iff.trans (zw_if_ne (t := 18) (show decode cX12_number 9 = .ok (.ifCond .ne 9, 3) by decide +kernel) (by decide)) ?_
  refine zw_ite ?_ ?_
  · refine Iff.trans (zw_aload_n (show decode cX12_number 12 = .ok (.aload_n 0, 1) by decide +kernel) rfl) ?_
    refine Iff.trans (zw_invV (K' := kX12_fails) (as' := []) (rest := []) (show decode cX12_number 13 = .ok (.invokevirtual 153, 3) by decide +kernel) (by rfl) rfl rfl rfl (hl.k2 zk_131) (by decide) (hl.n2 zk_131) ⟨Nat.le_of_ble_eq_true rfl, Nat.le_of_ble_eq_true rfl, Nat.le_of_ble_eq_true rfl⟩) ?_
    exact Iff.rfl
  · refine Iff.trans (zw_iload_n (show decode cX12_number 18 = .ok (.iload_n 3, 1) by decide +kernel) rfl) ?_
    refine Iff.trans (zw_bipush (x := 48) (show decode cX12_number 19 = .ok (.bipush 48, 2) by decide +kernel) (by decide)) ?_
    refine Iff.trans (zw_isub (show decode cX12_number 21 = .ok (.isub, 1) by decide +kernel)) ?_
    refine Iff.trans (zw_istore (ls' := [.ref 131, .int x1, .int x2, .int x3, .int (x3 - 48)]) (show decode cX12_number 22 = .ok (.istore 4, 2) by decide +kernel) (zset_s (Nat.le_of_ble_eq_true rfl) rfl)) ?_
    refine Iff.trans (zw_aload_n (show decode cX12_number 24 = .ok (.aload_n 0, 1) by decide +kernel) rfl) ?_
    refine Iff.trans (zw_dup (show decode cX12_number 25 = .ok (.dup, 1) by decide +kernel) rfl) ?_
    refine Iff.trans (zw_getI (show decode cX12_number 26 = .ok (.getfield 137, 3) by decide +kernel) (by decide +kernel : zfld 12 137 = some (12, 3)) (hl.k2 zk_131) (hl.n2 zk_131) (Or.inl rfl) (w := zI σ 131 3) rfl) ?_
    refine Iff.trans (zw_iconst (x := 1) (show decode cX12_number 29 = .ok (.iconst 1, 1) by decide +kernel) (by decide)) ?_
    refine Iff.trans (zw_iadd (show decode cX12_number 30 = .ok (.iadd, 1) by decide +kernel)) ?_
    refine Iff.trans (zw_putI (show decode cX12_number 31 = .ok (.putfield 137, 3) by decide +kernel) (by decide +kernel : zfld 12 137 = some (12, 3)) (hl.k2 zk_131) (hl.n2 zk_131) rfl (Or.inl rfl) (σ' := (zsI σ 131 (upd (zI σ 131) 3 ((zI σ 131 3) + 1)))) rfl) ?_
    refine Iff.trans (zw_aload_n (show decode cX12_number 34 = .ok (.aload_n 0, 1) by decide +kernel) rfl) ?_
    refine Iff.trans (zw_invV (K' := kX12_isDigit) (as' := []) (rest := []) (show decode cX12_number 35 = .ok (.invokevirtual 159, 3) by decide +kernel) (by rfl) rfl rfl rfl (hl.I.k2 zk_131) (by decide) (hl.I.n2 zk_131) ⟨Nat.le_of_ble_eq_true rfl, Nat.le_of_ble_eq_true rfl, Nat.le_of_ble_eq_true rfl⟩) ?_
    exact Iff.rfl

theorem bX12_number_16 {d : Nat} {σ : zS} {Q : Option Value → zS → Prop} (hl : zLay σ) {x1 x2 x3 : Int32} : zW (d + 1) kX12_number 16 [.ref 131, .int x1, .int x2, .int x3, .retAddr 0] [] σ Q ↔ Q (some (.int (-1))) σ := by
  refine Iff.trans (zw_iconst (x := (-1)) (show decode cX12_number 16 = .ok (.iconst (-1), 1) by decide +kernel) (by decide)) ?_
  exact zw_iret1 (show decode cX12_number 17 = .ok (.ireturn, 1) by decide +kernel) rfl

theorem bX12_number_38 {d : Nat} {σ : zS} {Q : Option Value → zS → Prop} (hl : zLay σ) {x1 x2 x3 x4 y0 : Int32} : zW (d + 1) kX12_number 38 [.ref 131, .int x1, .int x2, .int x3, .int x4] [.int y0] σ Q ↔ (if y0 = (0 : Int32) then zW (d + 1) kX12_number 66 [.ref 131, .int x1, .int x2, .int x3, .int x4] [] σ Q else zCall d kX12_here [.ref 131] σ (fun r σ' => zisN r = true ∧ zW (d + 1) kX12_number 50 [.ref 131, .int x1, .int x2, .int x3, .int x4] (zRstk r ++ [.int (10 * x4)]) σ' Q)) := by
  refine Iff.trans (zw_if_eq (t := 66) (show decode cX12_number 38 = .ok (.ifCond .eq 28, 3) by decide +kernel) (by decide)) ?_
  refine zw_ite ?_ ?_
  · exact Iff.rfl
  · refine Iff.trans (zw_bipush (x := 10) (show decode cX12_number 41 = .ok (.bipush 10, 2) by decide +kernel) (by decide)) ?_
    refine Iff.trans (zw_iload (show decode cX12_number 43 = .ok (.iload 4, 2) by decide +kernel) rfl) ?_
    refine Iff.trans (zw_imul (show decode cX12_number 45 = .ok (.imul, 1) by decide +kernel)) ?_
    refine Iff.trans (zw_aload_n (show decode cX12_number 46 = .ok (.aload_n 0, 1) by decide +kernel) rfl) ?_
    refine Iff.trans (zw_invV (K' := kX12_here) (as' := []) (rest := [.int (10 * x4)]) (show decode cX12_number 47 = .ok (.invokevirtual 140, 3) by decide +kernel) (by rfl) rfl rfl rfl (hl.k2 zk_131) (by decide) (hl.n2 zk_131) ⟨Nat.le_of_ble_eq_true rfl, Nat.le_of_ble_eq_true rfl, Nat.le_of_ble_eq_true rfl⟩) ?_
    exact Iff.rfl

theorem bX12_number_50 {d : Nat} {σ : zS} {Q : Option Value → zS → Prop} (hl : zLay σ) {x1 x2 x3 x4 y0 y1 : Int32} : zW (d + 1) kX12_number 50 [.ref 131, .int x1, .int x2, .int x3, .int x4] [.int y0, .int y1] σ Q ↔ zW (d + 1) kX12_number 66 [.ref 131, .int x1, .int x2, .int x3, .int ((y1 + y0) - 48)] [] (zsI σ 131 (upd (zI σ 131) 3 ((zI σ 131 3) + 1))) Q := by
  refine Iff.trans (zw_iadd (show decode cX12_number 50 = .ok (.iadd, 1) by decide +kernel)) ?_
  refine Iff.trans (zw_bipush (x := 48) (show decode cX12_number 51 = .ok (.bipush 48, 2) by decide +kernel) (by decide)) ?_
  refine Iff.trans (zw_isub (show decode cX12_number 53 = .ok (.isub, 1) by decide +kernel)) ?_
  refine Iff.trans (zw_istore (ls' := [.ref 131, .int x1, .int x2, .int x3, .int ((y1 + y0) - 48)]) (show decode cX12_number 54 = .ok (.istore 4, 2) by decide +kernel) (zset_s (Nat.le_of_ble_eq_true rfl) rfl)) ?_
  refine Iff.trans (zw_aload_n (show decode cX12_number 56 = .ok (.aload_n 0, 1) by decide +kernel) rfl) ?_
  refine Iff.trans (zw_dup (show decode cX12_number 57 = .ok (.dup, 1) by decide +kernel) rfl) ?_
  refine Iff.trans (zw_getI (show decode cX12_number 58 = .ok (.getfield 137, 3) by decide +kernel) (by decide +kernel : zfld 12 137 = some (12, 3)) (hl.k2 zk_131) (hl.n2 zk_131) (Or.inl rfl) (w := zI σ 131 3) rfl) ?_
  refine Iff.trans (zw_iconst (x := 1) (show decode cX12_number 61 = .ok (.iconst 1, 1) by decide +kernel) (by decide)) ?_
  refine Iff.trans (zw_iadd (show decode cX12_number 62 = .ok (.iadd, 1) by decide +kernel)) ?_
  refine Iff.trans (zw_putI (show decode cX12_number 63 = .ok (.putfield 137, 3) by decide +kernel) (by decide +kernel : zfld 12 137 = some (12, 3)) (hl.k2 zk_131) (hl.n2 zk_131) rfl (Or.inl rfl) (σ' := (zsI σ 131 (upd (zI σ 131) 3 ((zI σ 131 3) + 1)))) rfl) ?_
  exact Iff.rfl

theorem bX12_number_66 {d : Nat} {σ : zS} {Q : Option Value → zS → Prop} (hl : zLay σ) {x1 x2 x3 x4 : Int32} : zW (d + 1) kX12_number 66 [.ref 131, .int x1, .int x2, .int x3, .int x4] [] σ Q ↔ zCall d kX12_isDigit [.ref 131] σ (fun r σ' => zisN r = true ∧ zW (d + 1) kX12_number 70 [.ref 131, .int x1, .int x2, .int x3, .int x4] (zRstk r ++ []) σ' Q) := by
  refine Iff.trans (zw_aload_n (show decode cX12_number 66 = .ok (.aload_n 0, 1) by decide +kernel) rfl) ?_
  refine Iff.trans (zw_invV (K' := kX12_isDigit) (as' := []) (rest := []) (show decode cX12_number 67 = .ok (.invokevirtual 159, 3) by decide +kernel) (by rfl) rfl rfl rfl (hl.k2 zk_131) (by decide) (hl.n2 zk_131) ⟨Nat.le_of_ble_eq_true rfl, Nat.le_of_ble_eq_true rfl, Nat.le_of_ble_eq_true rfl⟩) ?_
  exact Iff.rfl

theorem bX12_number_70 {d : Nat} {σ : zS} {Q : Option Value → zS → Prop} (hl : zLay σ) {x1 x2 x3 x4 y0 : Int32} : zW (d + 1) kX12_number 70 [.ref 131, .int x1, .int x2, .int x3, .int x4] [.int y0] σ Q ↔ (if y0 = (0 : Int32) then zCall d kX12_isIn [.int x4, .int x1, .int x2] σ (fun r σ' => zisN r = true ∧ zW (d + 1) kX12_number 86 [.ref 131, .int x1, .int x2, .int x3, .int x4] (zRstk r ++ []) σ' Q) else zCall d kX12_fails [.ref 131] σ (fun r σ' => zisN r = true ∧ zW (d + 1) kX12_number 77 [.ref 131, .int x1, .int x2, .int x3, .int x4] (zRstk r ++ []) σ' Q)) := by
  refine Iff.trans (zw_if_eq (t := 79) (show decode cX12_number 70 = .ok (.ifCond .eq 9, 3) by decide +kernel) (by decide)) ?_
  refine zw_ite ?_ ?_
  · refine Iff.trans (zw_iload (show decode cX12_number 79 = .ok (.iload 4, 2) by decide +kernel) rfl) ?_
    refine Iff.trans (zw_iload_n (show decode cX12_number 81 = .ok (.iload_n 1, 1) by decide +kernel) rfl) ?_
    refine Iff.trans (zw_iload_n (show decode cX12_number 82 = .ok (.iload_n 2, 1) by decide +kernel) rfl) ?_
    refine Iff.trans (zw_invS (K' := kX12_isIn) (as := [.int x4, .int x1, .int x2]) (rest := []) (show decode cX12_number 83 = .ok (.invokestatic 163, 3) by decide +kernel) (by rfl) rfl rfl rfl ⟨Nat.le_of_ble_eq_true rfl, Nat.le_of_ble_eq_true rfl, Nat.le_of_ble_eq_true rfl⟩) ?_
    exact Iff.rfl
  · refine Iff.trans (zw_aload_n (show decode cX12_number 73 = .ok (.aload_n 0, 1) by decide +kernel) rfl) ?_
    refine Iff.trans (zw_invV (K' := kX12_fails) (as' := []) (rest := []) (show decode cX12_number 74 = .ok (.invokevirtual 153, 3) by decide +kernel) (by rfl) rfl rfl rfl (hl.k2 zk_131) (by decide) (hl.n2 zk_131) ⟨Nat.le_of_ble_eq_true rfl, Nat.le_of_ble_eq_true rfl, Nat.le_of_ble_eq_true rfl⟩) ?_
    exact Iff.rfl

theorem bX12_number_77 {d : Nat} {σ : zS} {Q : Option Value → zS → Prop} (hl : zLay σ) {x1 x2 x3 x4 : Int32} : zW (d + 1) kX12_number 77 [.ref 131, .int x1, .int x2, .int x3, .int x4] [] σ Q ↔ Q (some (.int (-1))) σ := by
  refine Iff.trans (zw_iconst (x := (-1)) (show decode cX12_number 77 = .ok (.iconst (-1), 1) by decide +kernel) (by decide)) ?_
  exact zw_iret1 (show decode cX12_number 78 = .ok (.ireturn, 1) by decide +kernel) rfl

theorem bX12_number_86 {d : Nat} {σ : zS} {Q : Option Value → zS → Prop} (hl : zLay σ) {x1 x2 x3 x4 y0 : Int32} : zW (d + 1) kX12_number 86 [.ref 131, .int x1, .int x2, .int x3, .int x4] [.int y0] σ Q ↔ (if y0 = (0 : Int32) then zCall d kX12_fails [.ref 131] (zsI σ 131 (upd (zI σ 131) 3 ((zI σ 131 3) - 1))) (fun r σ' => zisN r = true ∧ zW (d + 1) kX12_number 103 [.ref 131, .int x1, .int x2, .int x3, .int x4] (zRstk r ++ []) σ' Q) else Q (some (.int x4)) σ) := by
  refine Iff.trans (zw_if_ne (t := 105) (show decode cX12_number 86 = .ok (.ifCond .ne 19, 3) by decide +kernel) (by decide)) ?_
  refine zw_ite ?_ ?_
  · refine Iff.trans (zw_aload_n (show decode cX12_number 89 = .ok (.aload_n 0, 1) by decide +kernel) rfl) ?_
    refine Iff.trans (zw_dup (show decode cX12_number 90 = .ok (.dup, 1) by decide +kernel) rfl) ?_
    refine Iff.trans (zw_getI (show decode cX12_number 91 = .ok (.getfield 137, 3) by decide +kernel) (by decide +kernel : zfld 12 137 = some (12, 3)) (hl.k2 zk_131) (hl.n2 zk_131) (Or.inl rfl) (w := zI σ 131 3) rfl) ?_
    refine Iff.trans (zw_iconst (x := 1) (show decode cX12_number 94 = .ok (.iconst 1, 1) by decide +kernel) (by decide)) ?_
    refine Iff.trans (zw_isub (show decode cX12_number 95 = .ok (.isub, 1) by decide +kernel)) ?_
    refine Iff.trans (zw_putI (show decode cX12_number 96 = .ok (.putfield 137, 3) by decide +kernel) (by decide +kernel : zfld 12 137 = some (12, 3)) (hl.k2 zk_131) (hl.n2 zk_131) rfl (Or.inl rfl) (σ' := (zsI σ 131 (upd (zI σ 131) 3 ((zI σ 131 3) - 1)))) rfl) ?_
    refine Iff.trans (zw_aload_n (show decode cX12_number 99 = .ok (.aload_n 0, 1) by decide +kernel) rfl) ?_
    refine Iff.trans (zw_invV (K' := kX12_fails) (as' := []) (rest := []) (show decode cX12_number 100 = .ok (.invokevirtual 153, 3) by decide +kernel) (by rfl) rfl rfl rfl (hl.I.k2 zk_131) (by decide) (hl.I.n2 zk_131) ⟨Nat.le_of_ble_eq_true rfl, Nat.le_of_ble_eq_true rfl, Nat.le_of_ble_eq_true rfl⟩) ?_
    exact Iff.rfl
  · refine Iff.trans (zw_iload (show decode cX12_number 105 = .ok (.iload 4, 2) by decide +kernel) rfl) ?_
    exact zw_iret1 (show decode cX12_number 107 = .ok (.ireturn, 1) by decide +kernel) rfl

theorem bX12_number_103 {d : Nat} {σ : zS} {Q : Option Value → zS → Prop} (hl : zLay σ) {x1 x2 x3 x4 : Int32} : zW (d + 1) kX12_number 103 [.ref 131, .int x1, .int x2, .int x3, .int x4] [] σ Q ↔ Q (some (.int (-1))) σ := by
  refine Iff.trans (zw_iconst (x := (-1)) (show decode cX12_number 103 = .ok (.iconst (-1), 1) by decide +kernel) (by decide)) ?_
  exact zw_iret1 (show decode cX12_number 104 = .ok (.ireturn, 1) by decide +kernel) rfl

theorem bX12_readStick_0 {d : Nat} {σ : zS} {Q : Option Value → zS → Prop} (hl : zLay σ) {x1 : Int32} : zCall (d + 1) kX12_readStick [.ref 131, .int x1] σ Q ↔ zCall d kX12_begin [.ref 131] σ (fun r σ' => zisN r = true ∧ zW (d + 1) kX12_readStick 4 [.ref 131, .int x1, .retAddr 0, .retAddr 0, .retAddr 0, .retAddr 0, .retAddr 0] (zRstk r ++ []) σ' Q) := by
  show zW (d + 1) kX12_readStick 0 [.ref 131, .int x1, .retAddr 0, .retAddr 0, .retAddr 0, .retAddr 0, .retAddr 0] [] σ Q ↔ _
  refine Iff.trans (zw_aload_n (show decode cX12_readStick 0 = .ok (.aload_n 0, 1) by decide +kernel) rfl) ?_
  refine Iff.trans (zw_invV (K' := kX12_begin) (as' := []) (rest := []) (show decode cX12_readStick 1 = .ok (.invokevirtual 147, 3) by decide +kernel) (by rfl) rfl rfl rfl (hl.k2 zk_131) (by decide) (hl.n2 zk_131) ⟨Nat.le_of_ble_eq_true rfl, Nat.le_of_ble_eq_true rfl, Nat.le_of_ble_eq_true rfl⟩) ?_
  exact Iff.rfl

theorem bX12_readStick_4 {d : Nat} {σ : zS} {Q : Option Value → zS → Prop} (hl : zLay σ) {x1 : Int32} : zW (d + 1) kX12_readStick 4 [.ref 131, .int x1, .retAddr 0, .retAddr 0, .retAddr 0, .retAddr 0, .retAddr 0] [] σ Q ↔ (vp_in x1 11 ∧ (vp_in x1 11 ∧ (vp_in x1 11 ∧ zW (d + 1) kX12_readStick 29 [.ref 131, .int x1, .int 0, .int 1, .retAddr 0, .retAddr 0, .retAddr 0] [] (zsI (zsI (zsI σ 136 (upd (zI σ 136) (x1 : Int32).toNatClampNeg 1)) 137 (upd (zI σ 137) (x1 : Int32).toNatClampNeg 5)) 138 (upd (zI σ 138) (x1 : Int32).toNatClampNeg 0)) Q))) := by
  refine Iff.trans (zw_aload_n (show decode cX12_readStick 4 = .ok (.aload_n 0, 1) by decide +kernel) rfl) ?_
  refine Iff.trans (zw_get (show decode cX12_readStick 5 = .ok (.getfield 23, 3) by decide +kernel) (by decide +kernel : zfld 12 23 = some (12, 8)) (hl.k2 zk_131) (hl.n2 zk_131) (zgetR (v := 136) (hl.r zrt_131_8) rfl)) ?_
  refine Iff.trans (zw_iload_n (show decode cX12_readStick 8 = .ok (.iload_n 1, 1) by decide +kernel) rfl) ?_
  refine Iff.trans (zw_iconst (x := 1) (show decode cX12_readStick 9 = .ok (.iconst 1, 1) by decide +kernel) (by decide)) ?_
  refine Iff.trans (zw_iast2 (show decode cX12_readStick 10 = .ok (.iastore, 1) by decide +kernel) (hl.k2 zk_136) (hl.n2 zk_136) (hl.l2 zk_136 zl_136) (σ' := (zsI σ 136 (upd (zI σ 136) (x1 : Int32).toNatClampNeg 1))) rfl) ?_
  refine zw_and ?_
  refine Iff.trans (zw_aload_n (show decode cX12_readStick 11 = .ok (.aload_n 0, 1) by decide +kernel) rfl) ?_
  refine Iff.trans (zw_get (show decode cX12_readStick 12 = .ok (.getfield 26, 3) by decide +kernel) (by decide +kernel : zfld 12 26 = some (12, 9)) (hl.I.k2 zk_131) (hl.I.n2 zk_131) (zgetR (v := 137) (hl.I.r zrt_131_9) rfl)) ?_
  refine Iff.trans (zw_iload_n (show decode cX12_readStick 15 = .ok (.iload_n 1, 1) by decide +kernel) rfl) ?_
  refine Iff.trans (zw_iconst (x := 5) (show decode cX12_readStick 16 = .ok (.iconst 5, 1) by decide +kernel) (by decide)) ?_
  refine Iff.trans (zw_iast2 (show decode cX12_readStick 17 = .ok (.iastore, 1) by decide +kernel) (hl.I.k2 zk_137) (hl.I.n2 zk_137) (hl.I.l2 zk_137 zl_137) (σ' := (zsI (zsI σ 136 (upd (zI σ 136) (x1 : Int32).toNatClampNeg 1)) 137 (upd (zI σ 137) (x1 : Int32).toNatClampNeg 5))) (congrArg (fun f => zsI (zsI σ 136 (upd (zI σ 136) (x1 : Int32).toNatClampNeg 1)) 137 (upd f (x1 : Int32).toNatClampNeg 5)) (zI_ne (by decide)))) ?_
  refine zw_and ?_
  refine Iff.trans (zw_aload_n (show decode cX12_readStick 18 = .ok (.aload_n 0, 1) by decide +kernel) rfl) ?_
  refine Iff.trans (zw_get (show decode cX12_readStick 19 = .ok (.getfield 29, 3) by decide +kernel) (by decide +kernel : zfld 12 29 = some (12, 10)) (hl.I.I.k2 zk_131) (hl.I.I.n2 zk_131) (zgetR (v := 138) (hl.I.I.r zrt_131_10) rfl)) ?_
  refine Iff.trans (zw_iload_n (show decode cX12_readStick 22 = .ok (.iload_n 1, 1) by decide +kernel) rfl) ?_
  refine Iff.trans (zw_iconst (x := 0) (show decode cX12_readStick 23 = .ok (.iconst 0, 1) by decide +kernel) (by decide)) ?_
  refine Iff.trans (zw_iast2 (show decode cX12_readStick 24 = .ok (.iastore, 1) by decide +kernel) (hl.I.I.k2 zk_138) (hl.I.I.n2 zk_138) (hl.I.I.l2 zk_138 zl_138) (σ' := (zsI (zsI (zsI σ 136 (upd (zI σ 136) (x1 : Int32).toNatClampNeg 1)) 137 (upd (zI σ 137) (x1 : Int32).toNatClampNeg 5)) 138 (upd (zI σ 138) (x1 : Int32).toNatClampNeg 0))) (congrArg (fun f => zsI (zsI (zsI σ 136 (upd (zI σ 136) (x1 : Int32).toNatClampNeg 1)) 137 (upd (zI σ 137) (x1 : Int32).toNatClampNeg 5)) 138 (upd f (x1 : Int32).toNatClampNeg 0)) (Eq.trans (zI_ne (by decide)) (zI_ne (by decide))))) ?_
  refine zw_and ?_
  refine Iff.trans (zw_iconst (x := 0) (show decode cX12_readStick 25 = .ok (.iconst 0, 1) by decide +kernel) (by decide)) ?_
  refine Iff.trans (zw_istore_n (ls' := [.ref 131, .int x1, .int 0, .retAddr 0, .retAddr 0, .retAddr 0, .retAddr 0]) (show decode cX12_readStick 26 = .ok (.istore_n 2, 1) by decide +kernel) (zset_s (Nat.le_of_ble_eq_true rfl) rfl)) ?_
  refine Iff.trans (zw_iconst (x := 1) (show decode cX12_readStick 27 = .ok (.iconst 1, 1) by decide +kernel) (by decide)) ?_
  refine Iff.trans (zw_istore_n (ls' := [.ref 131, .int x1, .int 0, .int 1, .retAddr 0, .retAddr 0, .retAddr 0]) (show decode cX12_readStick 28 = .ok (.istore_n 3, 1) by decide +kernel) (zset_s (Nat.le_of_ble_eq_true rfl) rfl)) ?_
  exact Iff.rfl

theorem bX12_readStick_29 {d : Nat} {σ : zS} {Q : Option Value → zS → Prop} (hl : zLay σ) {x1 x2 x3 : Int32} {v4 v5 v6 : Value} (hv4 : v4.category = 1) (hv5 : v5.category = 1) (hv6 : v6.category = 1) : zW (d + 1) kX12_readStick 29 [.ref 131, .int x1, .int x2, .int x3, v4, v5, v6] [] σ Q ↔ (if x3 = (0 : Int32) then zCall d kX12_look [.ref 131] σ (fun r σ' => zisN r = true ∧ zW (d + 1) kX12_readStick 225 [.ref 131, .int x1, .int x2, .int x3, v4, v5, v6] (zRstk r ++ []) σ' Q) else zCall d kX12_look [.ref 131] σ (fun r σ' => zisN r = true ∧ zW (d + 1) kX12_readStick 37 [.ref 131, .int x1, .int x2, .int x3, v4, v5, v6] (zRstk r ++ []) σ' Q)) := by
  refine Iff.trans (zw_iload_n (show decode cX12_readStick 29 = .ok (.iload_n 3, 1) by decide +kernel) rfl) ?_
  refine Iff.trans (zw_if_eq (t := 221) (show decode cX12_readStick 30 = .ok (.ifCond .eq 191, 3) by decide +kernel) (by decide)) ?_
  refine zw_ite ?_ ?_
  · refine Iff.trans (zw_aload_n (show decode cX12_readStick 221 = .ok (.aload_n 0, 1) by decide +kernel) rfl) ?_
    refine Iff.trans (zw_invV (K' := kX12_look) (as' := []) (rest := []) (show decode cX12_readStick 222 = .ok (.invokevirtual 150, 3) by decide +kernel) (by rfl) rfl rfl rfl (hl.k2 zk_131) (by decide) (hl.n2 zk_131) ⟨Nat.le_of_ble_eq_true rfl, Nat.le_of_ble_eq_true rfl, Nat.le_of_ble_eq_true rfl⟩) ?_
    exact Iff.rfl
  · refine Iff.trans (zw_aload_n (show decode cX12_readStick 33 = .ok (.aload_n 0, 1) by decide +kernel) rfl) ?_
    refine Iff.trans (zw_invV (K' := kX12_look) (as' := []) (rest := []) (show decode cX12_readStick 34 = .ok (.invokevirtual 150, 3) by decide +kernel) (by rfl) rfl rfl rfl (hl.k2 zk_131) (by decide) (hl.n2 zk_131) ⟨Nat.le_of_ble_eq_true rfl, Nat.le_of_ble_eq_true rfl, Nat.le_of_ble_eq_true rfl⟩) ?_
    exact Iff.rfl

theorem bX12_readStick_37 {d : Nat} {σ : zS} {Q : Option Value → zS → Prop} (hl : zLay σ) {x1 x2 x3 y0 : Int32} {v4 v5 v6 : Value} (hv4 : v4.category = 1) (hv5 : v5.category = 1) (hv6 : v6.category = 1) : zW (d + 1) kX12_readStick 37 [.ref 131, .int x1, .int x2, .int x3, v4, v5, v6] [.int y0] σ Q ↔ (if y0 = 108 then zW (d + 1) kX12_readStick 73 [.ref 131, .int x1, .int x2, .int x3, .int y0, v5, v6] [.int 0] σ Q else (if y0 = 104 then zW (d + 1) kX12_readStick 73 [.ref 131, .int x1, .int x2, .int x3, .int y0, v5, v6] [.int 1] σ Q else (if y0 = 102 then zW (d + 1) kX12_readStick 73 [.ref 131, .int x1, .int x2, .int x3, .int y0, v5, v6] [.int 2] σ Q else zW (d + 1) kX12_readStick 73 [.ref 131, .int x1, .int x2, .int x3, .int y0, v5, v6] [.int (-1)] σ Q))) := by
  refine Iff.trans (zw_istore (ls' := [.ref 131, .int x1, .int x2, .int x3, .int y0, v5, v6]) (show decode cX12_readStick 37 = .ok (.istore 4, 2) by decide +kernel) (zset_s (Nat.le_of_ble_eq_true rfl) rfl)) ?_
  refine Iff.trans (zw_iload (show decode cX12_readStick 39 = .ok (.iload 4, 2) by decide +kernel) rfl) ?_
  refine Iff.trans (zw_bipush (x := 108) (show decode cX12_readStick 41 = .ok (.bipush 108, 2) by decide +kernel) (by decide)) ?_
  refine Iff.trans (zw_icmp_ne (t := 50) (show decode cX12_readStick 43 = .ok (.if_icmp .ne 7, 3) by decide +kernel) (by decide)) ?_
  refine zw_ite ?_ ?_
  · refine Iff.trans (zw_iconst (x := 0) (show decode cX12_readStick 46 = .ok (.iconst 0, 1) by decide +kernel) (by decide)) ?_
    refine Iff.trans (zw_goto (t := 73) (show decode cX12_readStick 47 = .ok (.goto 26, 3) by decide +kernel) (by decide)) ?_
    exact Iff.rfl
  · refine Iff.trans (zw_iload (show decode cX12_readStick 50 = .ok (.iload 4, 2) by decide +kernel) rfl) ?_
    refine Iff.trans (zw_bipush (x := 104) (show decode cX12_readStick 52 = .ok (.bipush 104, 2) by decide +kernel) (by decide)) ?_
    refine Iff.trans (zw_icmp_ne (t := 61) (show decode cX12_readStick 54 = .ok (.if_icmp .ne 7, 3) by decide +kernel) (by decide)) ?_
    refine zw_ite ?_ ?_
    · refine Iff.trans (zw_iconst (x := 1) (show decode cX12_readStick 57 = .ok (.iconst 1, 1) by decide +kernel) (by decide)) ?_
      refine Iff.trans (zw_goto (t := 73) (show decode cX12_readStick 58 = .ok (.goto 15, 3) by decide +kernel) (by decide)) ?_
      exact Iff.rfl
    · refine Iff.trans (zw_iload (show decode cX12_readStick 61 = .ok (.iload 4, 2) by decide +kernel) rfl) ?_
      refine Iff.trans (zw_bipush (x := 102) (show decode cX12_readStick 63 = .ok (.bipush 102, 2) by decide +kernel) (by decide)) ?_
      refine Iff.trans (zw_icmp_ne (t := 72) (show decode cX12_readStick 65 = .ok (.if_icmp .ne 7, 3) by decide +kernel) (by decide)) ?_
      refine zw_ite ?_ ?_
      · refine Iff.trans (zw_iconst (x := 2) (show decode cX12_readStick 68 = .ok (.iconst 2, 1) by decide +kernel) (by decide)) ?_
        refine Iff.trans (zw_goto (t := 73) (show decode cX12_readStick 69 = .ok (.goto 4, 3) by decide +kernel) (by decide)) ?_
        exact Iff.rfl
      · refine Iff.trans (zw_iconst (x := (-1)) (show decode cX12_readStick 72 = .ok (.iconst (-1), 1) by decide +kernel) (by decide)) ?_
        exact Iff.rfl

theorem bX12_readStick_73 {d : Nat} {σ : zS} {Q : Option Value → zS → Prop} (hl : zLay σ) {x1 x2 x3 x4 y0 : Int32} {v5 v6 : Value} (hv5 : v5.category = 1) (hv6 : v6.category = 1) : zW (d + 1) kX12_readStick 73 [.ref 131, .int x1, .int x2, .int x3, .int x4, v5, v6] [.int y0] σ Q ↔ (if y0 = (-1) then zW (d + 1) kX12_readStick 90 [.ref 131, .int x1, .int x2, .int x3, .int x4, .int y0, v6] [] σ Q else zCall d kX12_has [.int x2, .int y0] σ (fun r σ' => zisN r = true ∧ zW (d + 1) kX12_readStick 87 [.ref 131, .int x1, .int x2, .int x3, .int x4, .int y0, v6] (zRstk r ++ []) σ' Q)) := by
  refine Iff.trans (zw_istore (ls' := [.ref 131, .int x1, .int x2, .int x3, .int x4, .int y0, v6]) (show decode cX12_readStick 73 = .ok (.istore 5, 2) by decide +kernel) (zset_s (Nat.le_of_ble_eq_true rfl) rfl)) ?_
  refine Iff.trans (zw_iload (show decode cX12_readStick 75 = .ok (.iload 5, 2) by decide +kernel) rfl) ?_
  refine Iff.trans (zw_iconst (x := (-1)) (show decode cX12_readStick 77 = .ok (.iconst (-1), 1) by decide +kernel) (by decide)) ?_
  refine Iff.trans (zw_icmp_eq (t := 90) (show decode cX12_readStick 78 = .ok (.if_icmp .eq 12, 3) by decide +kernel) (by decide)) ?_
  refine zw_ite ?_ ?_
  · exact Iff.rfl
  · refine Iff.trans (zw_iload_n (show decode cX12_readStick 81 = .ok (.iload_n 2, 1) by decide +kernel) rfl) ?_
    refine Iff.trans (zw_iload (show decode cX12_readStick 82 = .ok (.iload 5, 2) by decide +kernel) rfl) ?_
    refine Iff.trans (zw_invS (K' := kX12_has) (as := [.int x2, .int y0]) (rest := []) (show decode cX12_readStick 84 = .ok (.invokestatic 167, 3) by decide +kernel) (by rfl) rfl rfl rfl ⟨Nat.le_of_ble_eq_true rfl, Nat.le_of_ble_eq_true rfl, Nat.le_of_ble_eq_true rfl⟩) ?_
    exact Iff.rfl

theorem bX12_readStick_87 {d : Nat} {σ : zS} {Q : Option Value → zS → Prop} (hl : zLay σ) {x1 x2 x3 x4 x5 y0 : Int32} {v6 : Value} (hv6 : v6.category = 1) : zW (d + 1) kX12_readStick 87 [.ref 131, .int x1, .int x2, .int x3, .int x4, .int x5, v6] [.int y0] σ Q ↔ (if y0 = (0 : Int32) then (if x5 = (0 : Int32) then zW (d + 1) kX12_readStick 123 [.ref 131, .int x1, .int (x2 ||| (1 <<< (x5 &&& 31))), .int x3, .int x4, .int x5, v6] [.int 1, .ref 131] (zsI σ 131 (upd (zI σ 131) 3 ((zI σ 131 3) + 1))) Q else zW (d + 1) kX12_readStick 123 [.ref 131, .int x1, .int (x2 ||| (1 <<< (x5 &&& 31))), .int x3, .int x4, .int x5, v6] [.int 0, .ref 131] (zsI σ 131 (upd (zI σ 131) 3 ((zI σ 131 3) + 1))) Q) else zW (d + 1) kX12_readStick 90 [.ref 131, .int x1, .int x2, .int x3, .int x4, .int x5, v6] [] σ Q) := by
  refine Iff.trans (zw_if_eq (t := 95) (show decode cX12_readStick 87 = .ok (.ifCond .eq 8, 3) by decide +kernel) (by decide)) ?_
  refine zw_ite ?_ ?_
  · refine Iff.trans (zw_iload_n (show decode cX12_readStick 95 = .ok (.iload_n 2, 1) by decide +kernel) rfl) ?_
    refine Iff.trans (zw_iconst (x := 1) (show decode cX12_readStick 96 = .ok (.iconst 1, 1) by decide +kernel) (by decide)) ?_
    refine Iff.trans (zw_iload (show decode cX12_readStick 97 = .ok (.iload 5, 2) by decide +kernel) rfl) ?_
    refine Iff.trans (zw_ishl (show decode cX12_readStick 99 = .ok (.ishl, 1) by decide +kernel)) ?_
    refine Iff.trans (zw_ior (show decode cX12_readStick 100 = .ok (.ior, 1) by decide +kernel)) ?_
    refine Iff.trans (zw_istore_n (ls' := [.ref 131, .int x1, .int (x2 ||| (1 <<< (x5 &&& 31))), .int x3, .int x4, .int x5, v6]) (show decode cX12_readStick 101 = .ok (.istore_n 2, 1) by decide +kernel) (zset_s (Nat.le_of_ble_eq_true rfl) rfl)) ?_
    refine Iff.trans (zw_aload_n (show decode cX12_readStick 102 = .ok (.aload_n 0, 1) by decide +kernel) rfl) ?_
    refine Iff.trans (zw_dup (show decode cX12_readStick 103 = .ok (.dup, 1) by decide +kernel) rfl) ?_
    refine Iff.trans (zw_getI (show decode cX12_readStick 104 = .ok (.getfield 137, 3) by decide +kernel) (by decide +kernel : zfld 12 137 = some (12, 3)) (hl.k2 zk_131) (hl.n2 zk_131) (Or.inl rfl) (w := zI σ 131 3) rfl) ?_
    refine Iff.trans (zw_iconst (x := 1) (show decode cX12_readStick 107 = .ok (.iconst 1, 1) by decide +kernel) (by decide)) ?_
    refine Iff.trans (zw_iadd (show decode cX12_readStick 108 = .ok (.iadd, 1) by decide +kernel)) ?_
    refine Iff.trans (zw_putI (show decode cX12_readStick 109 = .ok (.putfield 137, 3) by decide +kernel) (by decide +kernel : zfld 12 137 = some (12, 3)) (hl.k2 zk_131) (hl.n2 zk_131) rfl (Or.inl rfl) (σ' := (zsI σ 131 (upd (zI σ 131) 3 ((zI σ 131 3) + 1)))) rfl) ?_
    refine Iff.trans (zw_aload_n (show decode cX12_readStick 112 = .ok (.aload_n 0, 1) by decide +kernel) rfl) ?_
    refine Iff.trans (zw_iload (show decode cX12_readStick 113 = .ok (.iload 5, 2) by decide +kernel) rfl) ?_
    refine Iff.trans (zw_if_ne (t := 122) (show decode cX12_readStick 115 = .ok (.ifCond .ne 7, 3) by decide +kernel) (by decide)) ?_
    refine zw_ite ?_ ?_
    · refine Iff.trans (zw_iconst (x := 1) (show decode cX12_readStick 118 = .ok (.iconst 1, 1) by decide +kernel) (by decide)) ?_
      refine Iff.trans (zw_goto (t := 123) (show decode cX12_readStick 119 = .ok (.goto 4, 3) by decide +kernel) (by decide)) ?_
      exact Iff.rfl
    · refine Iff.trans (zw_iconst (x := 0) (show decode cX12_readStick 122 = .ok (.iconst 0, 1) by decide +kernel) (by decide)) ?_
      exact Iff.rfl
  · exact Iff.rfl

theorem bX12_readStick_90 {d : Nat} {σ : zS} {Q : Option Value → zS → Prop} (hl : zLay σ) {x1 x2 x3 x4 x5 : Int32} {v6 : Value} (hv6 : v6.category = 1) : zW (d + 1) kX12_readStick 90 [.ref 131, .int x1, .int x2, .int x3, .int x4, .int x5, v6] [] σ Q ↔ zCall d kX12_fails [.ref 131] σ (fun r σ' => zisN r = true ∧ zW (d + 1) kX12_readStick 94 [.ref 131, .int x1, .int x2, .int x3, .int x4, .int x5, v6] (zRstk r ++ []) σ' Q) := by
  refine Iff.trans (zw_aload_n (show decode cX12_readStick 90 = .ok (.aload_n 0, 1) by decide +kernel) rfl) ?_
  refine Iff.trans (zw_invV (K' := kX12_fails) (as' := []) (rest := []) (show decode cX12_readStick 91 = .ok (.invokevirtual 153, 3) by decide +kernel) (by rfl) rfl rfl rfl (hl.k2 zk_131) (by decide) (hl.n2 zk_131) ⟨Nat.le_of_ble_eq_true rfl, Nat.le_of_ble_eq_true rfl, Nat.le_of_ble_eq_true rfl⟩) ?_
  exact Iff.rfl

theorem bX12_readStick_94 {d : Nat} {σ : zS} {Q : Option Value → zS → Prop} (hl : zLay σ) {x1 x2 x3 x4 x5 : Int32} {v6 : Value} (hv6 : v6.category = 1) : zW (d + 1) kX12_readStick 94 [.ref 131, .int x1, .int x2, .int x3, .int x4, .int x5, v6] [] σ Q ↔ Q none σ := by
  exact zw_ret (show decode cX12_readStick 94 = .ok (.return_, 1) by decide +kernel) rfl

theorem bX12_readStick_123 {d : Nat} {σ : zS} {Q : Option Value → zS → Prop} (hl : zLay σ) {x1 x2 x3 x4 x5 y0 : Int32} {v6 : Value} (hv6 : v6.category = 1) : zW (d + 1) kX12_readStick 123 [.ref 131, .int x1, .int x2, .int x3, .int x4, .int x5, v6] [.int y0, .ref 131] σ Q ↔ (if x5 = (0 : Int32) then zW (d + 1) kX12_readStick 134 [.ref 131, .int x1, .int x2, .int x3, .int x4, .int x5, v6] [.int 5, .int y0, .ref 131] σ Q else zW (d + 1) kX12_readStick 134 [.ref 131, .int x1, .int x2, .int x3, .int x4, .int x5, v6] [.int 9, .int y0, .ref 131] σ Q) := by
  refine Iff.trans (zw_iload (show decode cX12_readStick 123 = .ok (.iload 5, 2) by decide +kernel) rfl) ?_
  refine Iff.trans (zw_if_ne (t := 132) (show decode cX12_readStick 125 = .ok (.ifCond .ne 7, 3) by decide +kernel) (by decide)) ?_
  refine zw_ite ?_ ?_
  · refine Iff.trans (zw_iconst (x := 5) (show decode cX12_readStick 128 = .ok (.iconst 5, 1) by decide +kernel) (by decide)) ?_
    refine Iff.trans (zw_goto (t := 134) (show decode cX12_readStick 129 = .ok (.goto 5, 3) by decide +kernel) (by decide)) ?_
    exact Iff.rfl
  · refine Iff.trans (zw_bipush (x := 9) (show decode cX12_readStick 132 = .ok (.bipush 9, 2) by decide +kernel) (by decide)) ?_
    exact Iff.rfl

theorem bX12_readStick_134 {d : Nat} {σ : zS} {Q : Option Value → zS → Prop} (hl : zLay σ) {x1 x2 x3 x4 x5 y0 y1 : Int32} {v6 : Value} (hv6 : v6.category = 1) : zW (d + 1) kX12_readStick 134 [.ref 131, .int x1, .int x2, .int x3, .int x4, .int x5, v6] [.int y0, .int y1, .ref 131] σ Q ↔ zCall d kX12_number [.ref 131, .int y1, .int y0] σ (fun r σ' => zisN r = true ∧ zW (d + 1) kX12_readStick 137 [.ref 131, .int x1, .int x2, .int x3, .int x4, .int x5, v6] (zRstk r ++ []) σ' Q) := by
  refine Iff.trans (zw_invV (K' := kX12_number) (as' := [.int y1, .int y0]) (rest := []) (show decode cX12_readStick 134 = .ok (.invokevirtual 171, 3) by decide +kernel) (by rfl) rfl rfl rfl (hl.k2 zk_131) (by decide) (hl.n2 zk_131) ⟨Nat.le_of_ble_eq_true rfl, Nat.le_of_ble_eq_true rfl, Nat.le_of_ble_eq_true rfl⟩) ?_
  exact Iff.rfl

theorem bX12_readStick_137 {d : Nat} {σ : zS} {Q : Option Value → zS → Prop} (hl : zLay σ) {x1 x2 x3 x4 x5 y0 : Int32} {v6 : Value} (hv6 : v6.category = 1) : zW (d + 1) kX12_readStick 137 [.ref 131, .int x1, .int x2, .int x3, .int x4, .int x5, v6] [.int y0] σ Q ↔ (if (zI σ 131 4) = (-1) then (if x5 = (0 : Int32) then (vp_in x1 11 ∧ zW (d + 1) kX12_readStick 161 [.ref 131, .int x1, .int x2, .int x3, .int x4, .int x5, .int y0] [] (zsI σ 136 (upd (zI σ 136) (x1 : Int32).toNatClampNeg y0)) Q) else zW (d + 1) kX12_readStick 161 [.ref 131, .int x1, .int x2, .int x3, .int x4, .int x5, .int y0] [] σ Q) else Q none σ) := by
  refine Iff.trans (zw_istore (ls' := [.ref 131, .int x1, .int x2, .int x3, .int x4, .int x5, .int y0]) (show decode cX12_readStick 137 = .ok (.istore 6, 2) by decide +kernel) (zset_s (Nat.le_of_ble_eq_true rfl) rfl)) ?_
  refine Iff.trans (zw_aload_n (show decode cX12_readStick 139 = .ok (.aload_n 0, 1) by decide +kernel) rfl) ?_
  refine Iff.trans (zw_getI (show decode cX12_readStick 140 = .ok (.getfield 144, 3) by decide +kernel) (by decide +kernel : zfld 12 144 = some (12, 4)) (hl.k2 zk_131) (hl.n2 zk_131) (Or.inl rfl) (w := zI σ 131 4) rfl) ?_
  refine Iff.trans (zw_iconst (x := (-1)) (show decode cX12_readStick 143 = .ok (.iconst (-1), 1) by decide +kernel) (by decide)) ?_
  refine Iff.trans (zw_icmp_eq (t := 148) (show decode cX12_readStick 144 = .ok (.if_icmp .eq 4, 3) by decide +kernel) (by decide)) ?_
  refine zw_ite ?_ ?_
  · refine Iff.trans (zw_iload (show decode cX12_readStick 148 = .ok (.iload 5, 2) by decide +kernel) rfl) ?_
    refine Iff.trans (zw_if_ne (t := 161) (show decode cX12_readStick 150 = .ok (.ifCond .ne 11, 3) by decide +kernel) (by decide)) ?_
    refine zw_ite ?_ ?_
    · refine Iff.trans (zw_aload_n (show decode cX12_readStick 153 = .ok (.aload_n 0, 1) by decide +kernel) rfl) ?_
      refine Iff.trans (zw_get (show decode cX12_readStick 154 = .ok (.getfield 23, 3) by decide +kernel) (by decide +kernel : zfld 12 23 = some (12, 8)) (hl.k2 zk_131) (hl.n2 zk_131) (zgetR (v := 136) (hl.r zrt_131_8) rfl)) ?_
      refine Iff.trans (zw_iload_n (show decode cX12_readStick 157 = .ok (.iload_n 1, 1) by decide +kernel) rfl) ?_
      refine Iff.trans (zw_iload (show decode cX12_readStick 158 = .ok (.iload 6, 2) by decide +kernel) rfl) ?_
      refine Iff.trans (zw_iast2 (show decode cX12_readStick 160 = .ok (.iastore, 1) by decide +kernel) (hl.k2 zk_136) (hl.n2 zk_136) (hl.l2 zk_136 zl_136) (σ' := (zsI σ 136 (upd (zI σ 136) (x1 : Int32).toNatClampNeg y0))) rfl) ?_
      refine zw_and ?_
      exact Iff.rfl
    · exact Iff.rfl
  · exact zw_ret (show decode cX12_readStick 147 = .ok (.return_, 1) by decide +kernel) rfl

theorem bX12_readStick_161 {d : Nat} {σ : zS} {Q : Option Value → zS → Prop} (hl : zLay σ) {x1 x2 x3 x4 x5 x6 : Int32} : zW (d + 1) kX12_readStick 161 [.ref 131, .int x1, .int x2, .int x3, .int x4, .int x5, .int x6] [] σ Q ↔ (if x5 = 1 then (vp_in x1 11 ∧ zW (d + 1) kX12_readStick 175 [.ref 131, .int x1, .int x2, .int x3, .int x4, .int x5, .int x6] [] (zsI σ 137 (upd (zI σ 137) (x1 : Int32).toNatClampNeg x6)) Q) else zW (d + 1) kX12_readStick 175 [.ref 131, .int x1, .int x2, .int x3, .int x4, .int x5, .int x6] [] σ Q) := by
  refine Iff.trans (zw_iload (show decode cX12_readStick 161 = .ok (.iload 5, 2) by decide +kernel) rfl) ?_
  refine Iff.trans (zw_iconst (x := 1) (show decode cX12_readStick 163 = .ok (.iconst 1, 1) by decide +kernel) (by decide)) ?_
  refine Iff.trans (zw_icmp_ne (t := 175) (show decode cX12_readStick 164 = .ok (.if_icmp .ne 11, 3) by decide +kernel) (by decide)) ?_
  refine zw_ite ?_ ?_
  · refine Iff.trans (zw_aload_n (show decode cX12_readStick 167 = .ok (.aload_n 0, 1) by decide +kernel) rfl) ?_
    refine Iff.trans (zw_get (show decode cX12_readStick 168 = .ok (.getfield 26, 3) by decide +kernel) (by decide +kernel : zfld 12 26 = some (12, 9)) (hl.k2 zk_131) (hl.n2 zk_131) (zgetR (v := 137) (hl.r zrt_131_9) rfl)) ?_
    refine Iff.trans (zw_iload_n (show decode cX12_readStick 171 = .ok (.iload_n 1, 1) by decide +kernel) rfl) ?_
    refine Iff.trans (zw_iload (show decode cX12_readStick 172 = .ok (.iload 6, 2) by decide +kernel) rfl) ?_
    refine Iff.trans (zw_iast2 (show decode cX12_readStick 174 = .ok (.iastore, 1) by decide +kernel) (hl.k2 zk_137) (hl.n2 zk_137) (hl.l2 zk_137 zl_137) (σ' := (zsI σ 137 (upd (zI σ 137) (x1 : Int32).toNatClampNeg x6))) rfl) ?_
    refine zw_and ?_
    exact Iff.rfl
  · exact Iff.rfl

theorem bX12_readStick_175 {d : Nat} {σ : zS} {Q : Option Value → zS → Prop} (hl : zLay σ) {x1 x2 x3 x4 x5 x6 : Int32} : zW (d + 1) kX12_readStick 175 [.ref 131, .int x1, .int x2, .int x3, .int x4, .int x5, .int x6] [] σ Q ↔ (if x5 = 2 then (vp_in x1 11 ∧ zW (d + 1) kX12_readStick 189 [.ref 131, .int x1, .int x2, .int x3, .int x4, .int x5, .int x6] [] (zsI σ 138 (upd (zI σ 138) (x1 : Int32).toNatClampNeg x6)) Q) else zW (d + 1) kX12_readStick 189 [.ref 131, .int x1, .int x2, .int x3, .int x4, .int x5, .int x6] [] σ Q) := by
  refine Iff.trans (zw_iload (show decode cX12_readStick 175 = .ok (.iload 5, 2) by decide +kernel) rfl) ?_
  refine Iff.trans (zw_iconst (x := 2) (show decode cX12_readStick 177 = .ok (.iconst 2, 1) by decide +kernel) (by decide)) ?_
  refine Iff.trans (zw_icmp_ne (t := 189) (show decode cX12_readStick 178 = .ok (.if_icmp .ne 11, 3) by decide +kernel) (by decide)) ?_
  refine zw_ite ?_ ?_
  · refine Iff.trans (zw_aload_n (show decode cX12_readStick 181 = .ok (.aload_n 0, 1) by decide +kernel) rfl) ?_
    refine Iff.trans (zw_get (show decode cX12_readStick 182 = .ok (.getfield 29, 3) by decide +kernel) (by decide +kernel : zfld 12 29 = some (12, 10)) (hl.k2 zk_131) (hl.n2 zk_131) (zgetR (v := 138) (hl.r zrt_131_10) rfl)) ?_
    refine Iff.trans (zw_iload_n (show decode cX12_readStick 185 = .ok (.iload_n 1, 1) by decide +kernel) rfl) ?_
    refine Iff.trans (zw_iload (show decode cX12_readStick 186 = .ok (.iload 6, 2) by decide +kernel) rfl) ?_
    refine Iff.trans (zw_iast2 (show decode cX12_readStick 188 = .ok (.iastore, 1) by decide +kernel) (hl.k2 zk_138) (hl.n2 zk_138) (hl.l2 zk_138 zl_138) (σ' := (zsI σ 138 (upd (zI σ 138) (x1 : Int32).toNatClampNeg x6))) rfl) ?_
    refine zw_and ?_
    exact Iff.rfl
  · exact Iff.rfl

theorem bX12_readStick_189 {d : Nat} {σ : zS} {Q : Option Value → zS → Prop} (hl : zLay σ) {x1 x2 x3 x4 x5 x6 : Int32} : zW (d + 1) kX12_readStick 189 [.ref 131, .int x1, .int x2, .int x3, .int x4, .int x5, .int x6] [] σ Q ↔ zCall d kX12_look [.ref 131] σ (fun r σ' => zisN r = true ∧ zW (d + 1) kX12_readStick 193 [.ref 131, .int x1, .int x2, .int x3, .int x4, .int x5, .int x6] (zRstk r ++ []) σ' Q) := by
  refine Iff.trans (zw_aload_n (show decode cX12_readStick 189 = .ok (.aload_n 0, 1) by decide +kernel) rfl) ?_
  refine Iff.trans (zw_invV (K' := kX12_look) (as' := []) (rest := []) (show decode cX12_readStick 190 = .ok (.invokevirtual 150, 3) by decide +kernel) (by rfl) rfl rfl rfl (hl.k2 zk_131) (by decide) (hl.n2 zk_131) ⟨Nat.le_of_ble_eq_true rfl, Nat.le_of_ble_eq_true rfl, Nat.le_of_ble_eq_true rfl⟩) ?_
  exact Iff.rfl

theorem bX12_readStick_193 {d : Nat} {σ : zS} {Q : Option Value → zS → Prop} (hl : zLay σ) {x1 x2 x3 x4 x5 x6 y0 : Int32} : zW (d + 1) kX12_readStick 193 [.ref 131, .int x1, .int x2, .int x3, .int x4, .int x5, .int x6] [.int y0] σ Q ↔ (if y0 = 44 then zW (d + 1) kX12_readStick 203 [.ref 131, .int x1, .int x2, .int x3, .int x4, .int x5, .int x6] [.int 1] σ Q else zW (d + 1) kX12_readStick 203 [.ref 131, .int x1, .int x2, .int x3, .int x4, .int x5, .int x6] [.int 0] σ Q) := by
  refine Iff.trans (zw_bipush (x := 44) (show decode cX12_readStick 193 = .ok (.bipush 44, 2) by decide +kernel) (by decide)) ?_
  refine Iff.trans (zw_icmp_ne (t := 202) (show decode cX12_readStick 195 = .ok (.if_icmp .ne 7, 3) by decide +kernel) (by decide)) ?_
  refine zw_ite ?_ ?_
  · refine Iff.trans (zw_iconst (x := 1) (show decode cX12_readStick 198 = .ok (.iconst 1, 1) by decide +kernel) (by decide)) ?_
    refine Iff.trans (zw_goto (t := 203) (show decode cX12_readStick 199 = .ok (.goto 4, 3) by decide +kernel) (by decide)) ?_
    exact Iff.rfl
  · refine Iff.trans (zw_iconst (x := 0) (show decode cX12_readStick 202 = .ok (.iconst 0, 1) by decide +kernel) (by decide)) ?_
    exact Iff.rfl

theorem bX12_readStick_203 {d : Nat} {σ : zS} {Q : Option Value → zS → Prop} (hl : zLay σ) {x1 x2 x3 x4 x5 x6 y0 : Int32} : zW (d + 1) kX12_readStick 203 [.ref 131, .int x1, .int x2, .int x3, .int x4, .int x5, .int x6] [.int y0] σ Q ↔ (if y0 = (0 : Int32) then zW (d + 1) kX12_readStick 29 [.ref 131, .int x1, .int x2, .int y0, .int x4, .int x5, .int x6] [] σ Q else zW (d + 1) kX12_readStick 29 [.ref 131, .int x1, .int x2, .int y0, .int x4, .int x5, .int x6] [] (zsI σ 131 (upd (zI σ 131) 3 ((zI σ 131 3) + 1))) Q) := by
  refine Iff.trans (zw_istore_n (ls' := [.ref 131, .int x1, .int x2, .int y0, .int x4, .int x5, .int x6]) (show decode cX12_readStick 203 = .ok (.istore_n 3, 1) by decide +kernel) (zset_s (Nat.le_of_ble_eq_true rfl) rfl)) ?_
  refine Iff.trans (zw_iload_n (show decode cX12_readStick 204 = .ok (.iload_n 3, 1) by decide +kernel) rfl) ?_
  refine Iff.trans (zw_if_eq (t := 218) (show decode cX12_readStick 205 = .ok (.ifCond .eq 13, 3) by decide +kernel) (by decide)) ?_
  refine zw_ite ?_ ?_
  · refine Iff.trans (zw_goto (t := 29) (show decode cX12_readStick 218 = .ok (.goto (-189), 3) by decide +kernel) (by decide)) ?_
    exact Iff.rfl
  · refine Iff.trans (zw_aload_n (show decode cX12_readStick 208 = .ok (.aload_n 0, 1) by decide +kernel) rfl) ?_
    refine Iff.trans (zw_dup (show decode cX12_readStick 209 = .ok (.dup, 1) by decide +kernel) rfl) ?_
    refine Iff.trans (zw_getI (show decode cX12_readStick 210 = .ok (.getfield 137, 3) by decide +kernel) (by decide +kernel : zfld 12 137 = some (12, 3)) (hl.k2 zk_131) (hl.n2 zk_131) (Or.inl rfl) (w := zI σ 131 3) rfl) ?_
    refine Iff.trans (zw_iconst (x := 1) (show decode cX12_readStick 213 = .ok (.iconst 1, 1) by decide +kernel) (by decide)) ?_
    refine Iff.trans (zw_iadd (show decode cX12_readStick 214 = .ok (.iadd, 1) by decide +kernel)) ?_
    refine Iff.trans (zw_putI (show decode cX12_readStick 215 = .ok (.putfield 137, 3) by decide +kernel) (by decide +kernel : zfld 12 137 = some (12, 3)) (hl.k2 zk_131) (hl.n2 zk_131) rfl (Or.inl rfl) (σ' := (zsI σ 131 (upd (zI σ 131) 3 ((zI σ 131 3) + 1)))) rfl) ?_
    refine Iff.trans (zw_goto (t := 29) (show decode cX12_readStick 218 = .ok (.goto (-189), 3) by decide +kernel) (by decide)) ?_
    exact Iff.rfl

theorem bX12_readStick_225 {d : Nat} {σ : zS} {Q : Option Value → zS → Prop} (hl : zLay σ) {x1 x2 x3 y0 : Int32} {v4 v5 v6 : Value} (hv4 : v4.category = 1) (hv5 : v5.category = 1) (hv6 : v6.category = 1) : zW (d + 1) kX12_readStick 225 [.ref 131, .int x1, .int x2, .int x3, v4, v5, v6] [.int y0] σ Q ↔ (if y0 = (-1) then zW (d + 1) kX12_readStick 233 [.ref 131, .int x1, .int x2, .int x3, v4, v5, v6] [] σ Q else zCall d kX12_fails [.ref 131] σ (fun r σ' => zisN r = true ∧ zW (d + 1) kX12_readStick 233 [.ref 131, .int x1, .int x2, .int x3, v4, v5, v6] (zRstk r ++ []) σ' Q)) := by
  refine Iff.trans (zw_iconst (x := (-1)) (show decode cX12_readStick 225 = .ok (.iconst (-1), 1) by decide +kernel) (by decide)) ?_
  refine Iff.trans (zw_icmp_eq (t := 233) (show decode cX12_readStick 226 = .ok (.if_icmp .eq 7, 3) by decide +kernel) (by decide)) ?_
  refine zw_ite ?_ ?_
  · exact Iff.rfl
  · refine Iff.trans (zw_aload_n (show decode cX12_readStick 229 = .ok (.aload_n 0, 1) by decide +kernel) rfl) ?_
    refine Iff.trans (zw_invV (K' := kX12_fails) (as' := []) (rest := []) (show decode cX12_readStick 230 = .ok (.invokevirtual 153, 3) by decide +kernel) (by rfl) rfl rfl rfl (hl.k2 zk_131) (by decide) (hl.n2 zk_131) ⟨Nat.le_of_ble_eq_true rfl, Nat.le_of_ble_eq_true rfl, Nat.le_of_ble_eq_true rfl⟩) ?_
    exact Iff.rfl

theorem bX12_readStick_233 {d : Nat} {σ : zS} {Q : Option Value → zS → Prop} (hl : zLay σ) {x1 x2 x3 : Int32} {v4 v5 v6 : Value} (hv4 : v4.category = 1) (hv5 : v5.category = 1) (hv6 : v6.category = 1) : zW (d + 1) kX12_readStick 233 [.ref 131, .int x1, .int x2, .int x3, v4, v5, v6] [] σ Q ↔ Q none σ := by
  exact zw_ret (show decode cX12_readStick 233 = .ok (.return_, 1) by decide +kernel) rfl

theorem bX12_fault_0 {d : Nat} {σ : zS} {Q : Option Value → zS → Prop} (hl : zLay σ) {x1 : Int32} : zCall (d + 1) kX12_fault [.ref 131, .int x1] σ Q ↔ zCall d kX12_isIn [.int x1, .int 0, .int 1] (zsI σ 131 (upd (zI σ 131) 0 0)) (fun r σ' => zisN r = true ∧ zW (d + 1) kX12_fault 11 [.ref 131, .int x1] (zRstk r ++ []) σ' Q) := by
  show zW (d + 1) kX12_fault 0 [.ref 131, .int x1] [] σ Q ↔ _
  refine Iff.trans (zw_aload_n (show decode cX12_fault 0 = .ok (.aload_n 0, 1) by decide +kernel) rfl) ?_
  refine Iff.trans (zw_iconst (x := 0) (show decode cX12_fault 1 = .ok (.iconst 0, 1) by decide +kernel) (by decide)) ?_
  refine Iff.trans (zw_putI (show decode cX12_fault 2 = .ok (.putfield 118, 3) by decide +kernel) (by decide +kernel : zfld 12 118 = some (12, 0)) (hl.k2 zk_131) (hl.n2 zk_131) rfl (Or.inl rfl) (σ' := (zsI σ 131 (upd (zI σ 131) 0 0))) rfl) ?_
  refine Iff.trans (zw_iload_n (show decode cX12_fault 5 = .ok (.iload_n 1, 1) by decide +kernel) rfl) ?_
  refine Iff.trans (zw_iconst (x := 0) (show decode cX12_fault 6 = .ok (.iconst 0, 1) by decide +kernel) (by decide)) ?_
  refine Iff.trans (zw_iconst (x := 1) (show decode cX12_fault 7 = .ok (.iconst 1, 1) by decide +kernel) (by decide)) ?_
  refine Iff.trans (zw_invS (K' := kX12_isIn) (as := [.int x1, .int 0, .int 1]) (rest := []) (show decode cX12_fault 8 = .ok (.invokestatic 163, 3) by decide +kernel) (by rfl) rfl rfl rfl ⟨Nat.le_of_ble_eq_true rfl, Nat.le_of_ble_eq_true rfl, Nat.le_of_ble_eq_true rfl⟩) ?_
  exact Iff.rfl

theorem bX12_fault_11 {d : Nat} {σ : zS} {Q : Option Value → zS → Prop} (hl : zLay σ) {x1 y0 : Int32} : zW (d + 1) kX12_fault 11 [.ref 131, .int x1] [.int y0] σ Q ↔ (if y0 = (0 : Int32) then Q (some (.int (-2))) σ else (if x1 = (0 : Int32) then zCall d kX12_readBrook [.ref 131, .int 6] σ (fun r σ' => zisN r = true ∧ zW (d + 1) kX12_fault 27 [.ref 131, .int x1] (zRstk r ++ []) σ' Q) else zCall d kX12_readStick [.ref 131, .int 10] σ (fun r σ' => zisN r = true ∧ zW (d + 1) kX12_fault 36 [.ref 131, .int x1] (zRstk r ++ []) σ' Q))) := by
  refine Iff.trans (zw_if_ne (t := 17) (show decode cX12_fault 11 = .ok (.ifCond .ne 6, 3) by decide +kernel) (by decide)) ?_
  refine zw_ite ?_ ?_
  · refine Iff.trans (zw_bipush (x := (-2)) (show decode cX12_fault 14 = .ok (.bipush (-2), 2) by decide +kernel) (by decide)) ?_
    exact zw_iret1 (show decode cX12_fault 16 = .ok (.ireturn, 1) by decide +kernel) rfl
  · refine Iff.trans (zw_iload_n (show decode cX12_fault 17 = .ok (.iload_n 1, 1) by decide +kernel) rfl) ?_
    refine Iff.trans (zw_if_ne (t := 30) (show decode cX12_fault 18 = .ok (.ifCond .ne 12, 3) by decide +kernel) (by decide)) ?_
    refine zw_ite ?_ ?_
    · refine Iff.trans (zw_aload_n (show decode cX12_fault 21 = .ok (.aload_n 0, 1) by decide +kernel) rfl) ?_
      refine Iff.trans (zw_bipush (x := 6) (show decode cX12_fault 22 = .ok (.bipush 6, 2) by decide +kernel) (by decide)) ?_
      refine Iff.trans (zw_invV (K' := kX12_readBrook) (as' := [.int 6]) (rest := []) (show decode cX12_fault 24 = .ok (.invokevirtual 175, 3) by decide +kernel) (by rfl) rfl rfl rfl (hl.k2 zk_131) (by decide) (hl.n2 zk_131) ⟨Nat.le_of_ble_eq_true rfl, Nat.le_of_ble_eq_true rfl, Nat.le_of_ble_eq_true rfl⟩) ?_
      exact Iff.rfl
    · refine Iff.trans (zw_aload_n (show decode cX12_fault 30 = .ok (.aload_n 0, 1) by decide +kernel) rfl) ?_
      refine Iff.trans (zw_bipush (x := 10) (show decode cX12_fault 31 = .ok (.bipush 10, 2) by decide +kernel) (by decide)) ?_
      refine Iff.trans (zw_invV (K' := kX12_readStick) (as' := [.int 10]) (rest := []) (show decode cX12_fault 33 = .ok (.invokevirtual 178, 3) by decide +kernel) (by rfl) rfl rfl rfl (hl.k2 zk_131) (by decide) (hl.n2 zk_131) ⟨Nat.le_of_ble_eq_true rfl, Nat.le_of_ble_eq_true rfl, Nat.le_of_ble_eq_true rfl⟩) ?_
      exact Iff.rfl

theorem bX12_fault_27 {d : Nat} {σ : zS} {Q : Option Value → zS → Prop} (hl : zLay σ) {x1 : Int32} : zW (d + 1) kX12_fault 27 [.ref 131, .int x1] [] σ Q ↔ zW (d + 1) kX12_fault 36 [.ref 131, .int x1] [] σ Q := by
  refine Iff.trans (zw_goto (t := 36) (show decode cX12_fault 27 = .ok (.goto 9, 3) by decide +kernel) (by decide)) ?_
  exact Iff.rfl

theorem bX12_fault_36 {d : Nat} {σ : zS} {Q : Option Value → zS → Prop} (hl : zLay σ) {x1 : Int32} : zW (d + 1) kX12_fault 36 [.ref 131, .int x1] [] σ Q ↔ Q (some (.int (zI σ 131 4))) σ := by
  refine Iff.trans (zw_aload_n (show decode cX12_fault 36 = .ok (.aload_n 0, 1) by decide +kernel) rfl) ?_
  refine Iff.trans (zw_getI (show decode cX12_fault 37 = .ok (.getfield 144, 3) by decide +kernel) (by decide +kernel : zfld 12 144 = some (12, 4)) (hl.k2 zk_131) (hl.n2 zk_131) (Or.inl rfl) (w := zI σ 131 4) rfl) ?_
  exact zw_iret1 (show decode cX12_fault 40 = .ok (.ireturn, 1) by decide +kernel) rfl

theorem bX12_text_0 {d : Nat} {σ : zS} {Q : Option Value → zS → Prop} (hl : zLay σ) {x1 : Int32} : zCall (d + 1) kX12_text [.ref 131, .int x1] σ Q ↔ zCall d kX12_isIn [.int x1, .int 0, .int 1] (zsI σ 131 (upd (zI σ 131) 0 0)) (fun r σ' => zisN r = true ∧ zW (d + 1) kX12_text 11 [.ref 131, .int x1] (zRstk r ++ []) σ' Q) := by
  show zW (d + 1) kX12_text 0 [.ref 131, .int x1] [] σ Q ↔ _
  refine Iff.trans (zw_aload_n (show decode cX12_text 0 = .ok (.aload_n 0, 1) by decide +kernel) rfl) ?_
  refine Iff.trans (zw_iconst (x := 0) (show decode cX12_text 1 = .ok (.iconst 0, 1) by decide +kernel) (by decide)) ?_
  refine Iff.trans (zw_putI (show decode cX12_text 2 = .ok (.putfield 118, 3) by decide +kernel) (by decide +kernel : zfld 12 118 = some (12, 0)) (hl.k2 zk_131) (hl.n2 zk_131) rfl (Or.inl rfl) (σ' := (zsI σ 131 (upd (zI σ 131) 0 0))) rfl) ?_
  refine Iff.trans (zw_iload_n (show decode cX12_text 5 = .ok (.iload_n 1, 1) by decide +kernel) rfl) ?_
  refine Iff.trans (zw_iconst (x := 0) (show decode cX12_text 6 = .ok (.iconst 0, 1) by decide +kernel) (by decide)) ?_
  refine Iff.trans (zw_iconst (x := 1) (show decode cX12_text 7 = .ok (.iconst 1, 1) by decide +kernel) (by decide)) ?_
  refine Iff.trans (zw_invS (K' := kX12_isIn) (as := [.int x1, .int 0, .int 1]) (rest := []) (show decode cX12_text 8 = .ok (.invokestatic 163, 3) by decide +kernel) (by rfl) rfl rfl rfl ⟨Nat.le_of_ble_eq_true rfl, Nat.le_of_ble_eq_true rfl, Nat.le_of_ble_eq_true rfl⟩) ?_
  exact Iff.rfl

theorem bX12_text_11 {d : Nat} {σ : zS} {Q : Option Value → zS → Prop} (hl : zLay σ) {x1 y0 : Int32} : zW (d + 1) kX12_text 11 [.ref 131, .int x1] [.int y0] σ Q ↔ (if y0 = (0 : Int32) then Q (some (.int (-1))) σ else (if x1 = (0 : Int32) then (if (zI σ 131 11) = 6 then Q (some (.int (-1))) σ else zW (d + 1) kX12_text 39 [.ref 131, .int x1] [] σ Q) else (if (zI σ 131 12) = 10 then Q (some (.int (-1))) σ else zW (d + 1) kX12_text 39 [.ref 131, .int x1] [] σ Q))) := by
  refine Iff.trans (zw_if_eq (t := 48) (show decode cX12_text 11 = .ok (.ifCond .eq 37, 3) by decide +kernel) (by decide)) ?_
  refine zw_ite ?_ ?_
  · refine Iff.trans (zw_iconst (x := (-1)) (show decode cX12_text 48 = .ok (.iconst (-1), 1) by decide +kernel) (by decide)) ?_
    exact zw_iret1 (show decode cX12_text 49 = .ok (.ireturn, 1) by decide +kernel) rfl
  · refine Iff.trans (zw_iload_n (show decode cX12_text 14 = .ok (.iload_n 1, 1) by decide +kernel) rfl) ?_
    refine Iff.trans (zw_if_ne (t := 30) (show decode cX12_text 15 = .ok (.ifCond .ne 15, 3) by decide +kernel) (by decide)) ?_
    refine zw_ite ?_ ?_
    · refine Iff.trans (zw_aload_n (show decode cX12_text 18 = .ok (.aload_n 0, 1) by decide +kernel) rfl) ?_
      refine Iff.trans (zw_getI (show decode cX12_text 19 = .ok (.getfield 181, 3) by decide +kernel) (by decide +kernel : zfld 12 181 = some (12, 11)) (hl.k2 zk_131) (hl.n2 zk_131) (Or.inl rfl) (w := zI σ 131 11) rfl) ?_
      refine Iff.trans (zw_bipush (x := 6) (show decode cX12_text 22 = .ok (.bipush 6, 2) by decide +kernel) (by decide)) ?_
      refine Iff.trans (zw_icmp_ne (t := 39) (show decode cX12_text 24 = .ok (.if_icmp .ne 15, 3) by decide +kernel) (by decide)) ?_
      refine zw_ite ?_ ?_
      · refine Iff.trans (zw_goto (t := 48) (show decode cX12_text 27 = .ok (.goto 21, 3) by decide +kernel) (by decide)) ?_
        refine Iff.trans (zw_iconst (x := (-1)) (show decode cX12_text 48 = .ok (.iconst (-1), 1) by decide +kernel) (by decide)) ?_
        exact zw_iret1 (show decode cX12_text 49 = .ok (.ireturn, 1) by decide +kernel) rfl
      · exact Iff.rfl
    · refine Iff.trans (zw_aload_n (show decode cX12_text 30 = .ok (.aload_n 0, 1) by decide +kernel) rfl) ?_
      refine Iff.trans (zw_getI (show decode cX12_text 31 = .ok (.getfield 184, 3) by decide +kernel) (by decide +kernel : zfld 12 184 = some (12, 12)) (hl.k2 zk_131) (hl.n2 zk_131) (Or.inl rfl) (w := zI σ 131 12) rfl) ?_
      refine Iff.trans (zw_bipush (x := 10) (show decode cX12_text 34 = .ok (.bipush 10, 2) by decide +kernel) (by decide)) ?_
      refine Iff.trans (zw_icmp_eq (t := 48) (show decode cX12_text 36 = .ok (.if_icmp .eq 12, 3) by decide +kernel) (by decide)) ?_
      refine zw_ite ?_ ?_
      · refine Iff.trans (zw_iconst (x := (-1)) (show decode cX12_text 48 = .ok (.iconst (-1), 1) by decide +kernel) (by decide)) ?_
        exact zw_iret1 (show decode cX12_text 49 = .ok (.ireturn, 1) by decide +kernel) rfl
      · exact Iff.rfl

theorem bX12_text_39 {d : Nat} {σ : zS} {Q : Option Value → zS → Prop} (hl : zLay σ) {x1 : Int32} : zW (d + 1) kX12_text 39 [.ref 131, .int x1] [] σ Q ↔ zCall d kX12_fault [.ref 131, .int x1] σ (fun r σ' => zisN r = true ∧ zW (d + 1) kX12_text 44 [.ref 131, .int x1] (zRstk r ++ []) σ' Q) := by
  refine Iff.trans (zw_aload_n (show decode cX12_text 39 = .ok (.aload_n 0, 1) by decide +kernel) rfl) ?_
  refine Iff.trans (zw_iload_n (show decode cX12_text 40 = .ok (.iload_n 1, 1) by decide +kernel) rfl) ?_
  refine Iff.trans (zw_invV (K' := kX12_fault) (as' := [.int x1]) (rest := []) (show decode cX12_text 41 = .ok (.invokevirtual 187, 3) by decide +kernel) (by rfl) rfl rfl rfl (hl.k2 zk_131) (by decide) (hl.n2 zk_131) ⟨Nat.le_of_ble_eq_true rfl, Nat.le_of_ble_eq_true rfl, Nat.le_of_ble_eq_true rfl⟩) ?_
  exact Iff.rfl

theorem bX12_text_44 {d : Nat} {σ : zS} {Q : Option Value → zS → Prop} (hl : zLay σ) {x1 y0 : Int32} : zW (d + 1) kX12_text 44 [.ref 131, .int x1] [.int y0] σ Q ↔ (if y0 = (-1) then (if x1 = (0 : Int32) then zCall d kX12_readBrook [.ref 131, .int (zI σ 131 11)] σ (fun r σ' => zisN r = true ∧ zW (d + 1) kX12_text 62 [.ref 131, .int x1] (zRstk r ++ []) σ' Q) else zCall d kX12_readStick [.ref 131, .int (zI σ 131 12)] σ (fun r σ' => zisN r = true ∧ zW (d + 1) kX12_text 73 [.ref 131, .int x1] (zRstk r ++ []) σ' Q)) else Q (some (.int (-1))) σ) := by
  refine Iff.trans (zw_iconst (x := (-1)) (show decode cX12_text 44 = .ok (.iconst (-1), 1) by decide +kernel) (by decide)) ?_
  refine Iff.trans (zw_icmp_eq (t := 50) (show decode cX12_text 45 = .ok (.if_icmp .eq 5, 3) by decide +kernel) (by decide)) ?_
  refine zw_ite ?_ ?_
  · refine Iff.trans (zw_iload_n (show decode cX12_text 50 = .ok (.iload_n 1, 1) by decide +kernel) rfl) ?_
    refine Iff.trans (zw_if_ne (t := 65) (show decode cX12_text 51 = .ok (.ifCond .ne 14, 3) by decide +kernel) (by decide)) ?_
    refine zw_ite ?_ ?_
    · refine Iff.trans (zw_aload_n (show decode cX12_text 54 = .ok (.aload_n 0, 1) by decide +kernel) rfl) ?_
      refine Iff.trans (zw_aload_n (show decode cX12_text 55 = .ok (.aload_n 0, 1) by decide +kernel) rfl) ?_
      refine Iff.trans (zw_getI (show decode cX12_text 56 = .ok (.getfield 181, 3) by decide +kernel) (by decide +kernel : zfld 12 181 = some (12, 11)) (hl.k2 zk_131) (hl.n2 zk_131) (Or.inl rfl) (w := zI σ 131 11) rfl) ?_
      refine Iff.trans (zw_invV (K' := kX12_readBrook) (as' := [.int (zI σ 131 11)]) (rest := []) (show decode cX12_text 59 = .ok (.invokevirtual 175, 3) by decide +kernel) (by rfl) rfl rfl rfl (hl.k2 zk_131) (by decide) (hl.n2 zk_131) ⟨Nat.le_of_ble_eq_true rfl, Nat.le_of_ble_eq_true rfl, Nat.le_of_ble_eq_true rfl⟩) ?_
      exact Iff.rfl
    · refine Iff.trans (zw_aload_n (show decode cX12_text 65 = .ok (.aload_n 0, 1) by decide +kernel) rfl) ?_
      refine Iff.trans (zw_aload_n (show decode cX12_text 66 = .ok (.aload_n 0, 1) by decide +kernel) rfl) ?_
      refine Iff.trans (zw_getI (show decode cX12_text 67 = .ok (.getfield 184, 3) by decide +kernel) (by decide +kernel : zfld 12 184 = some (12, 12)) (hl.k2 zk_131) (hl.n2 zk_131) (Or.inl rfl) (w := zI σ 131 12) rfl) ?_
      refine Iff.trans (zw_invV (K' := kX12_readStick) (as' := [.int (zI σ 131 12)]) (rest := []) (show decode cX12_text 70 = .ok (.invokevirtual 178, 3) by decide +kernel) (by rfl) rfl rfl rfl (hl.k2 zk_131) (by decide) (hl.n2 zk_131) ⟨Nat.le_of_ble_eq_true rfl, Nat.le_of_ble_eq_true rfl, Nat.le_of_ble_eq_true rfl⟩) ?_
      exact Iff.rfl
  · refine Iff.trans (zw_iconst (x := (-1)) (show decode cX12_text 48 = .ok (.iconst (-1), 1) by decide +kernel) (by decide)) ?_
    exact zw_iret1 (show decode cX12_text 49 = .ok (.ireturn, 1) by decide +kernel) rfl

theorem bX12_text_62 {d : Nat} {σ : zS} {Q : Option Value → zS → Prop} (hl : zLay σ) {x1 : Int32} : zW (d + 1) kX12_text 62 [.ref 131, .int x1] [] σ Q ↔ zW (d + 1) kX12_text 73 [.ref 131, .int x1] [] σ Q := by
  refine Iff.trans (zw_goto (t := 73) (show decode cX12_text 62 = .ok (.goto 11, 3) by decide +kernel) (by decide)) ?_
  exact Iff.rfl

theorem bX12_text_73 {d : Nat} {σ : zS} {Q : Option Value → zS → Prop} (hl : zLay σ) {x1 : Int32} : zW (d + 1) kX12_text 73 [.ref 131, .int x1] [] σ Q ↔ (if x1 = (0 : Int32) then Q (some (.int (((zI σ 131 11) + 1) - 1))) (zsI σ 131 (upd (upd (zI σ 131) 2 0) 11 ((zI σ 131 11) + 1))) else Q (some (.int (((zI σ 131 12) + 1) - 1))) (zsI σ 131 (upd (upd (zI σ 131) 2 0) 12 ((zI σ 131 12) + 1)))) := by
  refine Iff.trans (zw_aload_n (show decode cX12_text 73 = .ok (.aload_n 0, 1) by decide +kernel) rfl) ?_
  refine Iff.trans (zw_iconst (x := 0) (show decode cX12_text 74 = .ok (.iconst 0, 1) by decide +kernel) (by decide)) ?_
  refine Iff.trans (zw_putI (show decode cX12_text 75 = .ok (.putfield 127, 3) by decide +kernel) (by decide +kernel : zfld 12 127 = some (12, 2)) (hl.k2 zk_131) (hl.n2 zk_131) rfl (Or.inl rfl) (σ' := (zsI σ 131 (upd (zI σ 131) 2 0))) rfl) ?_
  refine Iff.trans (zw_iload_n (show decode cX12_text 78 = .ok (.iload_n 1, 1) by decide +kernel) rfl) ?_
  refine Iff.trans (zw_if_ne (t := 99) (show decode cX12_text 79 = .ok (.ifCond .ne 20, 3) by decide +kernel) (by decide)) ?_
  refine zw_ite ?_ ?_
  · refine Iff.trans (zw_aload_n (show decode cX12_text 82 = .ok (.aload_n 0, 1) by decide +kernel) rfl) ?_
    refine Iff.trans (zw_dup (show decode cX12_text 83 = .ok (.dup, 1) by decide +kernel) rfl) ?_
    refine Iff.trans (zw_getI (show decode cX12_text 84 = .ok (.getfield 181, 3) by decide +kernel) (by decide +kernel : zfld 12 181 = some (12, 11)) (hl.I.k2 zk_131) (hl.I.n2 zk_131) (Or.inl rfl) (w := zI σ 131 11) (congrFun zI_self 11)) ?_
    refine Iff.trans (zw_iconst (x := 1) (show decode cX12_text 87 = .ok (.iconst 1, 1) by decide +kernel) (by decide)) ?_
    refine Iff.trans (zw_iadd (show decode cX12_text 88 = .ok (.iadd, 1) by decide +kernel)) ?_
    refine Iff.trans (zw_putI (show decode cX12_text 89 = .ok (.putfield 181, 3) by decide +kernel) (by decide +kernel : zfld 12 181 = some (12, 11)) (hl.I.k2 zk_131) (hl.I.n2 zk_131) rfl (Or.inl rfl) (σ' := (zsI σ 131 (upd (upd (zI σ 131) 2 0) 11 ((zI σ 131 11) + 1)))) (Eq.trans (congrArg (fun f => zsI (zsI σ 131 (upd (zI σ 131) 2 0)) 131 (upd f 11 ((zI σ 131 11) + 1))) zI_self) zsI_s)) ?_
    refine Iff.trans (zw_aload_n (show decode cX12_text 92 = .ok (.aload_n 0, 1) by decide +kernel) rfl) ?_
    refine Iff.trans (zw_getI (show decode cX12_text 93 = .ok (.getfield 181, 3) by decide +kernel) (by decide +kernel : zfld 12 181 = some (12, 11)) (hl.I.k2 zk_131) (hl.I.n2 zk_131) (Or.inl rfl) (w := ((zI σ 131 11) + 1)) (congrFun zI_self 11)) ?_
    refine Iff.trans (zw_iconst (x := 1) (show decode cX12_text 96 = .ok (.iconst 1, 1) by decide +kernel) (by decide)) ?_
    refine Iff.trans (zw_isub (show decode cX12_text 97 = .ok (.isub, 1) by decide +kernel)) ?_
    exact zw_iret1 (show decode cX12_text 98 = .ok (.ireturn, 1) by decide +kernel) rfl
  · refine Iff.trans (zw_aload_n (show decode cX12_text 99 = .ok (.aload_n 0, 1) by decide +kernel) rfl) ?_
    refine Iff.trans (zw_dup (show decode cX12_text 100 = .ok (.dup, 1) by decide +kernel) rfl) ?_
    refine Iff.trans (zw_getI (show decode cX12_text 101 = .ok (.getfield 184, 3) by decide +kernel) (by decide +kernel : zfld 12 184 = some (12, 12)) (hl.I.k2 zk_131) (hl.I.n2 zk_131) (Or.inl rfl) (w := zI σ 131 12) (congrFun zI_self 12)) ?_
    refine Iff.trans (zw_iconst (x := 1) (show decode cX12_text 104 = .ok (.iconst 1, 1) by decide +kernel) (by decide)) ?_
    refine Iff.trans (zw_iadd (show decode cX12_text 105 = .ok (.iadd, 1) by decide +kernel)) ?_
    refine Iff.trans (zw_putI (show decode cX12_text 106 = .ok (.putfield 184, 3) by decide +kernel) (by decide +kernel : zfld 12 184 = some (12, 12)) (hl.I.k2 zk_131) (hl.I.n2 zk_131) rfl (Or.inl rfl) (σ' := (zsI σ 131 (upd (upd (zI σ 131) 2 0) 12 ((zI σ 131 12) + 1)))) (Eq.trans (congrArg (fun f => zsI (zsI σ 131 (upd (zI σ 131) 2 0)) 131 (upd f 12 ((zI σ 131 12) + 1))) zI_self) zsI_s)) ?_
    refine Iff.trans (zw_aload_n (show decode cX12_text 109 = .ok (.aload_n 0, 1) by decide +kernel) rfl) ?_
    refine Iff.trans (zw_getI (show decode cX12_text 110 = .ok (.getfield 184, 3) by decide +kernel) (by decide +kernel : zfld 12 184 = some (12, 12)) (hl.I.k2 zk_131) (hl.I.n2 zk_131) (Or.inl rfl) (w := ((zI σ 131 12) + 1)) (congrFun zI_self 12)) ?_
    refine Iff.trans (zw_iconst (x := 1) (show decode cX12_text 113 = .ok (.iconst 1, 1) by decide +kernel) (by decide)) ?_
    refine Iff.trans (zw_isub (show decode cX12_text 114 = .ok (.isub, 1) by decide +kernel)) ?_
    exact zw_iret1 (show decode cX12_text 115 = .ok (.ireturn, 1) by decide +kernel) rfl

theorem bX12_isBrook_0 {d : Nat} {σ : zS} {Q : Option Value → zS → Prop} (hl : zLay σ) {x1 : Int32} : zCall d kX12_isBrook [.ref 131, .int x1] σ Q ↔ (if x1 < (0 : Int32) then Q (some (.int 0)) σ else (if (zI σ 131 11) ≤ x1 then Q (some (.int 0)) σ else Q (some (.int 1)) σ)) := by
  show zW d kX12_isBrook 0 [.ref 131, .int x1] [] σ Q ↔ _
  refine Iff.trans (zw_iload_n (show decode cX12_isBrook 0 = .ok (.iload_n 1, 1) by decide +kernel) rfl) ?_
  refine Iff.trans (zw_if_lt (t := 16) (show decode cX12_isBrook 1 = .ok (.ifCond .lt 15, 3) by decide +kernel) (by decide)) ?_
  refine zw_ite ?_ ?_
  · refine Iff.trans (zw_iconst (x := 0) (show decode cX12_isBrook 16 = .ok (.iconst 0, 1) by decide +kernel) (by decide)) ?_
    exact zw_iret2c (show decode cX12_isBrook 17 = .ok (.ireturn, 1) by decide +kernel) rfl (Or.inl rfl)
  · refine Iff.trans (zw_iload_n (show decode cX12_isBrook 4 = .ok (.iload_n 1, 1) by decide +kernel) rfl) ?_
    refine Iff.trans (zw_aload_n (show decode cX12_isBrook 5 = .ok (.aload_n 0, 1) by decide +kernel) rfl) ?_
    refine Iff.trans (zw_getI (show decode cX12_isBrook 6 = .ok (.getfield 181, 3) by decide +kernel) (by decide +kernel : zfld 12 181 = some (12, 11)) (hl.k2 zk_131) (hl.n2 zk_131) (Or.inl rfl) (w := zI σ 131 11) rfl) ?_
    refine Iff.trans (zw_icmp_ge (t := 16) (show decode cX12_isBrook 9 = .ok (.if_icmp .ge 7, 3) by decide +kernel) (by decide)) ?_
    refine zw_ite ?_ ?_
    · refine Iff.trans (zw_iconst (x := 0) (show decode cX12_isBrook 16 = .ok (.iconst 0, 1) by decide +kernel) (by decide)) ?_
      exact zw_iret2c (show decode cX12_isBrook 17 = .ok (.ireturn, 1) by decide +kernel) rfl (Or.inl rfl)
    · refine Iff.trans (zw_iconst (x := 1) (show decode cX12_isBrook 12 = .ok (.iconst 1, 1) by decide +kernel) (by decide)) ?_
      refine Iff.trans (zw_goto (t := 17) (show decode cX12_isBrook 13 = .ok (.goto 4, 3) by decide +kernel) (by decide)) ?_
      exact zw_iret2c (show decode cX12_isBrook 17 = .ok (.ireturn, 1) by decide +kernel) rfl (Or.inr rfl)

theorem bX12_isStick_0 {d : Nat} {σ : zS} {Q : Option Value → zS → Prop} (hl : zLay σ) {x1 : Int32} : zCall d kX12_isStick [.ref 131, .int x1] σ Q ↔ (if x1 < (0 : Int32) then Q (some (.int 0)) σ else (if (zI σ 131 12) ≤ x1 then Q (some (.int 0)) σ else Q (some (.int 1)) σ)) := by
  show zW d kX12_isStick 0 [.ref 131, .int x1] [] σ Q ↔ _
  refine Iff.trans (zw_iload_n (show decode cX12_isStick 0 = .ok (.iload_n 1, 1) by decide +kernel) rfl) ?_
  refine Iff.trans (zw_if_lt (t := 16) (show decode cX12_isStick 1 = .ok (.ifCond .lt 15, 3) by decide +kernel) (by decide)) ?_
  refine zw_ite ?_ ?_
  · refine Iff.trans (zw_iconst (x := 0) (show decode cX12_isStick 16 = .ok (.iconst 0, 1) by decide +kernel) (by decide)) ?_
    exact zw_iret2c (show decode cX12_isStick 17 = .ok (.ireturn, 1) by decide +kernel) rfl (Or.inl rfl)
  · refine Iff.trans (zw_iload_n (show decode cX12_isStick 4 = .ok (.iload_n 1, 1) by decide +kernel) rfl) ?_
    refine Iff.trans (zw_aload_n (show decode cX12_isStick 5 = .ok (.aload_n 0, 1) by decide +kernel) rfl) ?_
    refine Iff.trans (zw_getI (show decode cX12_isStick 6 = .ok (.getfield 184, 3) by decide +kernel) (by decide +kernel : zfld 12 184 = some (12, 12)) (hl.k2 zk_131) (hl.n2 zk_131) (Or.inl rfl) (w := zI σ 131 12) rfl) ?_
    refine Iff.trans (zw_icmp_ge (t := 16) (show decode cX12_isStick 9 = .ok (.if_icmp .ge 7, 3) by decide +kernel) (by decide)) ?_
    refine zw_ite ?_ ?_
    · refine Iff.trans (zw_iconst (x := 0) (show decode cX12_isStick 16 = .ok (.iconst 0, 1) by decide +kernel) (by decide)) ?_
      exact zw_iret2c (show decode cX12_isStick 17 = .ok (.ireturn, 1) by decide +kernel) rfl (Or.inl rfl)
    · refine Iff.trans (zw_iconst (x := 1) (show decode cX12_isStick 12 = .ok (.iconst 1, 1) by decide +kernel) (by decide)) ?_
      refine Iff.trans (zw_goto (t := 17) (show decode cX12_isStick 13 = .ok (.goto 4, 3) by decide +kernel) (by decide)) ?_
      exact zw_iret2c (show decode cX12_isStick 17 = .ok (.ireturn, 1) by decide +kernel) rfl (Or.inr rfl)

theorem bX12_sign_0 {d : Nat} {σ : zS} {Q : Option Value → zS → Prop} (hl : zLay σ) {x1 x2 x3 : Int32} : zCall d kX12_sign [.ref 131, .int x1, .int x2, .int x3] σ Q ↔ (vp_in ((16 * ((6 * x1) + x3)) + x2) 672 ∧ Q (some (.int (zI σ 133 ((16 * ((6 * x1) + x3)) + x2 : Int32).toNatClampNeg))) σ) := by
  show zW d kX12_sign 0 [.ref 131, .int x1, .int x2, .int x3] [] σ Q ↔ _
  refine Iff.trans (zw_aload_n (show decode cX12_sign 0 = .ok (.aload_n 0, 1) by decide +kernel) rfl) ?_
  refine Iff.trans (zw_get (show decode cX12_sign 1 = .ok (.getfield 13, 3) by decide +kernel) (by decide +kernel : zfld 12 13 = some (12, 5)) (hl.k2 zk_131) (hl.n2 zk_131) (zgetR (v := 133) (hl.r zrt_131_5) rfl)) ?_
  refine Iff.trans (zw_bipush (x := 16) (show decode cX12_sign 4 = .ok (.bipush 16, 2) by decide +kernel) (by decide)) ?_
  refine Iff.trans (zw_bipush (x := 6) (show decode cX12_sign 6 = .ok (.bipush 6, 2) by decide +kernel) (by decide)) ?_
  refine Iff.trans (zw_iload_n (show decode cX12_sign 8 = .ok (.iload_n 1, 1) by decide +kernel) rfl) ?_
  refine Iff.trans (zw_imul (show decode cX12_sign 9 = .ok (.imul, 1) by decide +kernel)) ?_
  refine Iff.trans (zw_iload_n (show decode cX12_sign 10 = .ok (.iload_n 3, 1) by decide +kernel) rfl) ?_
  refine Iff.trans (zw_iadd (show decode cX12_sign 11 = .ok (.iadd, 1) by decide +kernel)) ?_
  refine Iff.trans (zw_imul (show decode cX12_sign 12 = .ok (.imul, 1) by decide +kernel)) ?_
  refine Iff.trans (zw_iload_n (show decode cX12_sign 13 = .ok (.iload_n 2, 1) by decide +kernel) rfl) ?_
  refine Iff.trans (zw_iadd (show decode cX12_sign 14 = .ok (.iadd, 1) by decide +kernel)) ?_
  refine Iff.trans (zw_iald2 (show decode cX12_sign 15 = .ok (.iaload, 1) by decide +kernel) (hl.k2 zk_133) (hl.n2 zk_133) (hl.l2 zk_133 zl_133) (w := zI σ 133 ((16 * ((6 * x1) + x3)) + x2 : Int32).toNatClampNeg) rfl) ?_
  refine zw_and ?_
  exact zw_iret1 (show decode cX12_sign 16 = .ok (.ireturn, 1) by decide +kernel) rfl

theorem bX12_signsOf_0 {d : Nat} {σ : zS} {Q : Option Value → zS → Prop} (hl : zLay σ) {x1 x2 : Int32} : zCall (d + 1) kX12_signsOf [.ref 131, .int x1, .int x2] σ Q ↔ zW (d + 1) kX12_signsOf 5 [.ref 131, .int x1, .int x2, .int 0, .int 0, .retAddr 0] [] σ Q := by
  show zW (d + 1) kX12_signsOf 0 [.ref 131, .int x1, .int x2, .retAddr 0, .retAddr 0, .retAddr 0] [] σ Q ↔ _
  refine Iff.trans (zw_iconst (x := 0) (show decode cX12_signsOf 0 = .ok (.iconst 0, 1) by decide +kernel) (by decide)) ?_
  refine Iff.trans (zw_istore_n (ls' := [.ref 131, .int x1, .int x2, .int 0, .retAddr 0, .retAddr 0]) (show decode cX12_signsOf 1 = .ok (.istore_n 3, 1) by decide +kernel) (zset_s (Nat.le_of_ble_eq_true rfl) rfl)) ?_
  refine Iff.trans (zw_iconst (x := 0) (show decode cX12_signsOf 2 = .ok (.iconst 0, 1) by decide +kernel) (by decide)) ?_
  refine Iff.trans (zw_istore (ls' := [.ref 131, .int x1, .int x2, .int 0, .int 0, .retAddr 0]) (show decode cX12_signsOf 3 = .ok (.istore 4, 2) by decide +kernel) (zset_s (Nat.le_of_ble_eq_true rfl) rfl)) ?_
  exact Iff.rfl

theorem bX12_signsOf_5 {d : Nat} {σ : zS} {Q : Option Value → zS → Prop} (hl : zLay σ) {x1 x2 x3 x4 : Int32} {v5 : Value} (hv5 : v5.category = 1) : zW (d + 1) kX12_signsOf 5 [.ref 131, .int x1, .int x2, .int x3, .int x4, v5] [] σ Q ↔ (vp_in x1 7 ∧ (if (zI σ 134 (x1 : Int32).toNatClampNeg) ≤ x4 then Q (some (.int x3)) σ else zW (d + 1) kX12_signsOf 19 [.ref 131, .int x1, .int x2, .int x3, .int x4, .int 0] [] σ Q)) := by
  refine Iff.trans (zw_iload (show decode cX12_signsOf 5 = .ok (.iload 4, 2) by decide +kernel) rfl) ?_
  refine Iff.trans (zw_aload_n (show decode cX12_signsOf 7 = .ok (.aload_n 0, 1) by decide +kernel) rfl) ?_
  refine Iff.trans (zw_get (show decode cX12_signsOf 8 = .ok (.getfield 17, 3) by decide +kernel) (by decide +kernel : zfld 12 17 = some (12, 6)) (hl.k2 zk_131) (hl.n2 zk_131) (zgetR (v := 134) (hl.r zrt_131_6) rfl)) ?_
  refine Iff.trans (zw_iload_n (show decode cX12_signsOf 11 = .ok (.iload_n 1, 1) by decide +kernel) rfl) ?_
  refine Iff.trans (zw_iald2 (show decode cX12_signsOf 12 = .ok (.iaload, 1) by decide +kernel) (hl.k2 zk_134) (hl.n2 zk_134) (hl.l2 zk_134 zl_134) (w := zI σ 134 (x1 : Int32).toNatClampNeg) rfl) ?_
  refine zw_and ?_
  refine Iff.trans (zw_icmp_ge (t := 63) (show decode cX12_signsOf 13 = .ok (.if_icmp .ge 50, 3) by decide +kernel) (by decide)) ?_
  refine zw_ite ?_ ?_
  · refine Iff.trans (zw_iload_n (show decode cX12_signsOf 63 = .ok (.iload_n 3, 1) by decide +kernel) rfl) ?_
    exact zw_iret1 (show decode cX12_signsOf 64 = .ok (.ireturn, 1) by decide +kernel) rfl
  · refine Iff.trans (zw_iconst (x := 0) (show decode cX12_signsOf 16 = .ok (.iconst 0, 1) by decide +kernel) (by decide)) ?_
    refine Iff.trans (zw_istore (ls' := [.ref 131, .int x1, .int x2, .int x3, .int x4, .int 0]) (show decode cX12_signsOf 17 = .ok (.istore 5, 2) by decide +kernel) (zset_s (Nat.le_of_ble_eq_true rfl) rfl)) ?_
    exact Iff.rfl

theorem bX12_signsOf_19 {d : Nat} {σ : zS} {Q : Option Value → zS → Prop} (hl : zLay σ) {x1 x2 x3 x4 x5 : Int32} : zW (d + 1) kX12_signsOf 19 [.ref 131, .int x1, .int x2, .int x3, .int x4, .int x5] [] σ Q ↔ (vp_in x1 7 ∧ (if (zI σ 135 (x1 : Int32).toNatClampNeg) ≤ x5 then zW (d + 1) kX12_signsOf 5 [.ref 131, .int x1, .int x2, .int x3, .int (x4 + 1), .int x5] [] σ Q else zCall d kX12_sign [.ref 131, .int x1, .int x5, .int x4] σ (fun r σ' => zisN r = true ∧ zW (d + 1) kX12_signsOf 40 [.ref 131, .int x1, .int x2, .int x3, .int x4, .int x5] (zRstk r ++ [.int x3]) σ' Q))) := by
  refine Iff.trans (zw_iload (show decode cX12_signsOf 19 = .ok (.iload 5, 2) by decide +kernel) rfl) ?_
  refine Iff.trans (zw_aload_n (show decode cX12_signsOf 21 = .ok (.aload_n 0, 1) by decide +kernel) rfl) ?_
  refine Iff.trans (zw_get (show decode cX12_signsOf 22 = .ok (.getfield 20, 3) by decide +kernel) (by decide +kernel : zfld 12 20 = some (12, 7)) (hl.k2 zk_131) (hl.n2 zk_131) (zgetR (v := 135) (hl.r zrt_131_7) rfl)) ?_
  refine Iff.trans (zw_iload_n (show decode cX12_signsOf 25 = .ok (.iload_n 1, 1) by decide +kernel) rfl) ?_
  refine Iff.trans (zw_iald2 (show decode cX12_signsOf 26 = .ok (.iaload, 1) by decide +kernel) (hl.k2 zk_135) (hl.n2 zk_135) (hl.l2 zk_135 zl_135) (w := zI σ 135 (x1 : Int32).toNatClampNeg) rfl) ?_
  refine zw_and ?_
  refine Iff.trans (zw_icmp_ge (t := 57) (show decode cX12_signsOf 27 = .ok (.if_icmp .ge 30, 3) by decide +kernel) (by decide)) ?_
  refine zw_ite ?_ ?_
  · refine Iff.trans (zw_iinc (w := 1) (ls' := [.ref 131, .int x1, .int x2, .int x3, .int (x4 + 1), .int x5]) (show decode cX12_signsOf 57 = .ok (.iinc 4 1, 3) by decide +kernel) rfl (by decide) (zset_s (Nat.le_of_ble_eq_true rfl) rfl)) ?_
    refine Iff.trans (zw_goto (t := 5) (show decode cX12_signsOf 60 = .ok (.goto (-55), 3) by decide +kernel) (by decide)) ?_
    exact Iff.rfl
  · refine Iff.trans (zw_iload_n (show decode cX12_signsOf 30 = .ok (.iload_n 3, 1) by decide +kernel) rfl) ?_
    refine Iff.trans (zw_aload_n (show decode cX12_signsOf 31 = .ok (.aload_n 0, 1) by decide +kernel) rfl) ?_
    refine Iff.trans (zw_iload_n (show decode cX12_signsOf 32 = .ok (.iload_n 1, 1) by decide +kernel) rfl) ?_
    refine Iff.trans (zw_iload (show decode cX12_signsOf 33 = .ok (.iload 5, 2) by decide +kernel) rfl) ?_
    refine Iff.trans (zw_iload (show decode cX12_signsOf 35 = .ok (.iload 4, 2) by decide +kernel) rfl) ?_
    refine Iff.trans (zw_invV (K' := kX12_sign) (as' := [.int x1, .int x5, .int x4]) (rest := [.int x3]) (show decode cX12_signsOf 37 = .ok (.invokevirtual 189, 3) by decide +kernel) (by rfl) rfl rfl rfl (hl.k2 zk_131) (by decide) (hl.n2 zk_131) ⟨Nat.le_of_ble_eq_true rfl, Nat.le_of_ble_eq_true rfl, Nat.le_of_ble_eq_true rfl⟩) ?_
    exact Iff.rfl

theorem bX12_signsOf_40 {d : Nat} {σ : zS} {Q : Option Value → zS → Prop} (hl : zLay σ) {x1 x2 x3 x4 x5 y0 y1 : Int32} : zW (d + 1) kX12_signsOf 40 [.ref 131, .int x1, .int x2, .int x3, .int x4, .int x5] [.int y0, .int y1] σ Q ↔ (if y0 = x2 then zW (d + 1) kX12_signsOf 19 [.ref 131, .int x1, .int x2, .int (y1 + 1), .int x4, .int (x5 + 1)] [] σ Q else zW (d + 1) kX12_signsOf 19 [.ref 131, .int x1, .int x2, .int (y1 + 0), .int x4, .int (x5 + 1)] [] σ Q) := by
  refine Iff.trans (zw_iload_n (show decode cX12_signsOf 40 = .ok (.iload_n 2, 1) by decide +kernel) rfl) ?_
  refine Iff.trans (zw_icmp_ne (t := 48) (show decode cX12_signsOf 41 = .ok (.if_icmp .ne 7, 3) by decide +kernel) (by decide)) ?_
  refine zw_ite ?_ ?_
  · refine Iff.trans (zw_iconst (x := 1) (show decode cX12_signsOf 44 = .ok (.iconst 1, 1) by decide +kernel) (by decide)) ?_
    refine Iff.trans (zw_goto (t := 49) (show decode cX12_signsOf 45 = .ok (.goto 4, 3) by decide +kernel) (by decide)) ?_
    refine Iff.trans (zw_iadd (show decode cX12_signsOf 49 = .ok (.iadd, 1) by decide +kernel)) ?_
    refine Iff.trans (zw_istore_n (ls' := [.ref 131, .int x1, .int x2, .int (y1 + 1), .int x4, .int x5]) (show decode cX12_signsOf 50 = .ok (.istore_n 3, 1) by decide +kernel) (zset_s (Nat.le_of_ble_eq_true rfl) rfl)) ?_
    refine Iff.trans (zw_iinc (w := 1) (ls' := [.ref 131, .int x1, .int x2, .int (y1 + 1), .int x4, .int (x5 + 1)]) (show decode cX12_signsOf 51 = .ok (.iinc 5 1, 3) by decide +kernel) rfl (by decide) (zset_s (Nat.le_of_ble_eq_true rfl) rfl)) ?_
    refine Iff.trans (zw_goto (t := 19) (show decode cX12_signsOf 54 = .ok (.goto (-35), 3) by decide +kernel) (by decide)) ?_
    exact Iff.rfl
  · refine Iff.trans (zw_iconst (x := 0) (show decode cX12_signsOf 48 = .ok (.iconst 0, 1) by decide +kernel) (by decide)) ?_
    refine Iff.trans (zw_iadd (show decode cX12_signsOf 49 = .ok (.iadd, 1) by decide +kernel)) ?_
    refine Iff.trans (zw_istore_n (ls' := [.ref 131, .int x1, .int x2, .int (y1 + 0), .int x4, .int x5]) (show decode cX12_signsOf 50 = .ok (.istore_n 3, 1) by decide +kernel) (zset_s (Nat.le_of_ble_eq_true rfl) rfl)) ?_
    refine Iff.trans (zw_iinc (w := 1) (ls' := [.ref 131, .int x1, .int x2, .int (y1 + 0), .int x4, .int (x5 + 1)]) (show decode cX12_signsOf 51 = .ok (.iinc 5 1, 3) by decide +kernel) rfl (by decide) (zset_s (Nat.le_of_ble_eq_true rfl) rfl)) ?_
    refine Iff.trans (zw_goto (t := 19) (show decode cX12_signsOf 54 = .ok (.goto (-35), 3) by decide +kernel) (by decide)) ?_
    exact Iff.rfl

theorem bX12_brook_0 {d : Nat} {σ : zS} {Q : Option Value → zS → Prop} (hl : zLay σ) {x1 x2 : Int32} : zCall (d + 1) kX12_brook [.ref 131, .int x1, .int x2] σ Q ↔ zCall d kX12_isBrook [.ref 131, .int x1] σ (fun r σ' => zisN r = true ∧ zW (d + 1) kX12_brook 6 [.ref 131, .int x1, .int x2] (zRstk r ++ [.ref 131]) σ' Q) := by
  show zW (d + 1) kX12_brook 0 [.ref 131, .int x1, .int x2] [] σ Q ↔ _
  refine Iff.trans (zw_aload_n (show decode cX12_brook 0 = .ok (.aload_n 0, 1) by decide +kernel) rfl) ?_
  refine Iff.trans (zw_aload_n (show decode cX12_brook 1 = .ok (.aload_n 0, 1) by decide +kernel) rfl) ?_
  refine Iff.trans (zw_iload_n (show decode cX12_brook 2 = .ok (.iload_n 1, 1) by decide +kernel) rfl) ?_
  refine Iff.trans (zw_invV (K' := kX12_isBrook) (as' := [.int x1]) (rest := [.ref 131]) (show decode cX12_brook 3 = .ok (.invokevirtual 193, 3) by decide +kernel) (by rfl) rfl rfl rfl (hl.k2 zk_131) (by decide) (hl.n2 zk_131) ⟨Nat.le_of_ble_eq_true rfl, Nat.le_of_ble_eq_true rfl, Nat.le_of_ble_eq_true rfl⟩) ?_
  exact Iff.rfl

theorem bX12_brook_6 {d : Nat} {σ : zS} {Q : Option Value → zS → Prop} (hl : zLay σ) {x1 x2 y0 : Int32} : zW (d + 1) kX12_brook 6 [.ref 131, .int x1, .int x2] [.int y0, .ref 131] σ Q ↔ (if y0 = (0 : Int32) then zW (d + 1) kX12_brook 22 [.ref 131, .int x1, .int x2] [.ref 131] σ Q else zCall d kX12_isIn [.int x2, .int 0, .int 3] σ (fun r σ' => zisN r = true ∧ zW (d + 1) kX12_brook 15 [.ref 131, .int x1, .int x2] (zRstk r ++ [.ref 131]) σ' Q)) := by
  refine Iff.trans (zw_if_eq (t := 22) (show decode cX12_brook 6 = .ok (.ifCond .eq 16, 3) by decide +kernel) (by decide)) ?_
  refine zw_ite ?_ ?_
  · exact Iff.rfl
  · refine Iff.trans (zw_iload_n (show decode cX12_brook 9 = .ok (.iload_n 2, 1) by decide +kernel) rfl) ?_
    refine Iff.trans (zw_iconst (x := 0) (show decode cX12_brook 10 = .ok (.iconst 0, 1) by decide +kernel) (by decide)) ?_
    refine Iff.trans (zw_iconst (x := 3) (show decode cX12_brook 11 = .ok (.iconst 3, 1) by decide +kernel) (by decide)) ?_
    refine Iff.trans (zw_invS (K' := kX12_isIn) (as := [.int x2, .int 0, .int 3]) (rest := [.ref 131]) (show decode cX12_brook 12 = .ok (.invokestatic 163, 3) by decide +kernel) (by rfl) rfl rfl rfl ⟨Nat.le_of_ble_eq_true rfl, Nat.le_of_ble_eq_true rfl, Nat.le_of_ble_eq_true rfl⟩) ?_
    exact Iff.rfl

theorem bX12_brook_15 {d : Nat} {σ : zS} {Q : Option Value → zS → Prop} (hl : zLay σ) {x1 x2 y0 : Int32} : zW (d + 1) kX12_brook 15 [.ref 131, .int x1, .int x2] [.int y0, .ref 131] σ Q ↔ (if y0 = (0 : Int32) then zW (d + 1) kX12_brook 22 [.ref 131, .int x1, .int x2] [.ref 131] σ Q else zW (d + 1) kX12_brook 23 [.ref 131, .int x1, .int x2] [.int 0, .ref 131] σ Q) := by
  refine Iff.trans (zw_if_eq (t := 22) (show decode cX12_brook 15 = .ok (.ifCond .eq 7, 3) by decide +kernel) (by decide)) ?_
  refine zw_ite ?_ ?_
  · exact Iff.rfl
  · refine Iff.trans (zw_iconst (x := 0) (show decode cX12_brook 18 = .ok (.iconst 0, 1) by decide +kernel) (by decide)) ?_
    refine Iff.trans (zw_goto (t := 23) (show decode cX12_brook 19 = .ok (.goto 4, 3) by decide +kernel) (by decide)) ?_
    exact Iff.rfl

theorem bX12_brook_22 {d : Nat} {σ : zS} {Q : Option Value → zS → Prop} (hl : zLay σ) {x1 x2 : Int32} : zW (d + 1) kX12_brook 22 [.ref 131, .int x1, .int x2] [.ref 131] σ Q ↔ zW (d + 1) kX12_brook 23 [.ref 131, .int x1, .int x2] [.int 1, .ref 131] σ Q := by
  refine Iff.trans (zw_iconst (x := 1) (show decode cX12_brook 22 = .ok (.iconst 1, 1) by decide +kernel) (by decide)) ?_
  exact Iff.rfl

theorem bX12_brook_23 {d : Nat} {σ : zS} {Q : Option Value → zS → Prop} (hl : zLay σ) {x1 x2 y0 : Int32} : zW (d + 1) kX12_brook 23 [.ref 131, .int x1, .int x2] [.int y0, .ref 131] σ Q ↔ (if y0 ≤ (0 : Int32) then (if x2 = (0 : Int32) then (vp_in x1 7 ∧ zW (d + 1) kX12_brook 78 [.ref 131, .int x1, .int x2] [.int (zI σ 134 (x1 : Int32).toNatClampNeg)] (zsI σ 131 (upd (zI σ 131) 0 y0)) Q) else (if x2 = 1 then (vp_in x1 7 ∧ zW (d + 1) kX12_brook 78 [.ref 131, .int x1, .int x2] [.int (zI σ 135 (x1 : Int32).toNatClampNeg)] (zsI σ 131 (upd (zI σ 131) 0 y0)) Q) else (if x2 = 2 then zW (d + 1) kX12_brook 75 [.ref 131, .int x1, .int x2] [.int 0, .int x1, .ref 131] (zsI σ 131 (upd (zI σ 131) 0 y0)) Q else zW (d + 1) kX12_brook 75 [.ref 131, .int x1, .int x2] [.int 10, .int x1, .ref 131] (zsI σ 131 (upd (zI σ 131) 0 y0)) Q))) else Q (some (.int 0)) (zsI σ 131 (upd (zI σ 131) 0 y0))) := by
  refine Iff.trans (zw_putI (show decode cX12_brook 23 = .ok (.putfield 118, 3) by decide +kernel) (by decide +kernel : zfld 12 118 = some (12, 0)) (hl.k2 zk_131) (hl.n2 zk_131) rfl (Or.inl rfl) (σ' := (zsI σ 131 (upd (zI σ 131) 0 y0))) rfl) ?_
  refine Iff.trans (zw_aload_n (show decode cX12_brook 26 = .ok (.aload_n 0, 1) by decide +kernel) rfl) ?_
  refine Iff.trans (zw_getI (show decode cX12_brook 27 = .ok (.getfield 118, 3) by decide +kernel) (by decide +kernel : zfld 12 118 = some (12, 0)) (hl.I.k2 zk_131) (hl.I.n2 zk_131) (Or.inl rfl) (w := y0) (congrFun zI_self 0)) ?_
  refine Iff.trans (zw_if_le (t := 35) (show decode cX12_brook 30 = .ok (.ifCond .le 5, 3) by decide +kernel) (by decide)) ?_
  refine zw_ite ?_ ?_
  · refine Iff.trans (zw_iload_n (show decode cX12_brook 35 = .ok (.iload_n 2, 1) by decide +kernel) rfl) ?_
    refine Iff.trans (zw_if_ne (t := 48) (show decode cX12_brook 36 = .ok (.ifCond .ne 12, 3) by decide +kernel) (by decide)) ?_
    refine zw_ite ?_ ?_
    · refine Iff.trans (zw_aload_n (show decode cX12_brook 39 = .ok (.aload_n 0, 1) by decide +kernel) rfl) ?_
      refine Iff.trans (zw_get (show decode cX12_brook 40 = .ok (.getfield 17, 3) by decide +kernel) (by decide +kernel : zfld 12 17 = some (12, 6)) (hl.I.k2 zk_131) (hl.I.n2 zk_131) (zgetR (v := 134) (hl.I.r zrt_131_6) rfl)) ?_
      refine Iff.trans (zw_iload_n (show decode cX12_brook 43 = .ok (.iload_n 1, 1) by decide +kernel) rfl) ?_
      refine Iff.trans (zw_iald2 (show decode cX12_brook 44 = .ok (.iaload, 1) by decide +kernel) (hl.I.k2 zk_134) (hl.I.n2 zk_134) (hl.I.l2 zk_134 zl_134) (w := zI σ 134 (x1 : Int32).toNatClampNeg) (congrFun (zI_ne (by decide)) _)) ?_
      refine zw_and ?_
      refine Iff.trans (zw_goto (t := 78) (show decode cX12_brook 45 = .ok (.goto 33, 3) by decide +kernel) (by decide)) ?_
      exact Iff.rfl
    · refine Iff.trans (zw_iload_n (show decode cX12_brook 48 = .ok (.iload_n 2, 1) by decide +kernel) rfl) ?_
      refine Iff.trans (zw_iconst (x := 1) (show decode cX12_brook 49 = .ok (.iconst 1, 1) by decide +kernel) (by decide)) ?_
      refine Iff.trans (zw_icmp_ne (t := 62) (show decode cX12_brook 50 = .ok (.if_icmp .ne 12, 3) by decide +kernel) (by decide)) ?_
      refine zw_ite ?_ ?_
      · refine Iff.trans (zw_aload_n (show decode cX12_brook 53 = .ok (.aload_n 0, 1) by decide +kernel) rfl) ?_
        refine Iff.trans (zw_get (show decode cX12_brook 54 = .ok (.getfield 20, 3) by decide +kernel) (by decide +kernel : zfld 12 20 = some (12, 7)) (hl.I.k2 zk_131) (hl.I.n2 zk_131) (zgetR (v := 135) (hl.I.r zrt_131_7) rfl)) ?_
        refine Iff.trans (zw_iload_n (show decode cX12_brook 57 = .ok (.iload_n 1, 1) by decide +kernel) rfl) ?_
        refine Iff.trans (zw_iald2 (show decode cX12_brook 58 = .ok (.iaload, 1) by decide +kernel) (hl.I.k2 zk_135) (hl.I.n2 zk_135) (hl.I.l2 zk_135 zl_135) (w := zI σ 135 (x1 : Int32).toNatClampNeg) (congrFun (zI_ne (by decide)) _)) ?_
        refine zw_and ?_
        refine Iff.trans (zw_goto (t := 78) (show decode cX12_brook 59 = .ok (.goto 19, 3) by decide +kernel) (by decide)) ?_
        exact Iff.rfl
      · refine Iff.trans (zw_aload_n (show decode cX12_brook 62 = .ok (.aload_n 0, 1) by decide +kernel) rfl) ?_
        refine Iff.trans (zw_iload_n (show decode cX12_brook 63 = .ok (.iload_n 1, 1) by decide +kernel) rfl) ?_
        refine Iff.trans (zw_iload_n (show decode cX12_brook 64 = .ok (.iload_n 2, 1) by decide +kernel) rfl) ?_
        refine Iff.trans (zw_iconst (x := 2) (show decode cX12_brook 65 = .ok (.iconst 2, 1) by decide +kernel) (by decide)) ?_
        refine Iff.trans (zw_icmp_ne (t := 73) (show decode cX12_brook 66 = .ok (.if_icmp .ne 7, 3) by decide +kernel) (by decide)) ?_
        refine zw_ite ?_ ?_
        · refine Iff.trans (zw_iconst (x := 0) (show decode cX12_brook 69 = .ok (.iconst 0, 1) by decide +kernel) (by decide)) ?_
          refine Iff.trans (zw_goto (t := 75) (show decode cX12_brook 70 = .ok (.goto 5, 3) by decide +kernel) (by decide)) ?_
          exact Iff.rfl
        · refine Iff.trans (zw_bipush (x := 10) (show decode cX12_brook 73 = .ok (.bipush 10, 2) by decide +kernel) (by decide)) ?_
          exact Iff.rfl
  · refine Iff.trans (zw_iconst (x := 0) (show decode cX12_brook 33 = .ok (.iconst 0, 1) by decide +kernel) (by decide)) ?_
    exact zw_iret1 (show decode cX12_brook 34 = .ok (.ireturn, 1) by decide +kernel) rfl

theorem bX12_brook_75 {d : Nat} {σ : zS} {Q : Option Value → zS → Prop} (hl : zLay σ) {x1 x2 y0 y1 : Int32} : zW (d + 1) kX12_brook 75 [.ref 131, .int x1, .int x2] [.int y0, .int y1, .ref 131] σ Q ↔ zCall d kX12_signsOf [.ref 131, .int y1, .int y0] σ (fun r σ' => zisN r = true ∧ zW (d + 1) kX12_brook 78 [.ref 131, .int x1, .int x2] (zRstk r ++ []) σ' Q) := by
  refine Iff.trans (zw_invV (K' := kX12_signsOf) (as' := [.int y1, .int y0]) (rest := []) (show decode cX12_brook 75 = .ok (.invokevirtual 197, 3) by decide +kernel) (by rfl) rfl rfl rfl (hl.k2 zk_131) (by decide) (hl.n2 zk_131) ⟨Nat.le_of_ble_eq_true rfl, Nat.le_of_ble_eq_true rfl, Nat.le_of_ble_eq_true rfl⟩) ?_
  exact Iff.rfl

theorem bX12_brook_78 {d : Nat} {σ : zS} {Q : Option Value → zS → Prop} (hl : zLay σ) {x1 x2 y0 : Int32} : zW (d + 1) kX12_brook 78 [.ref 131, .int x1, .int x2] [.int y0] σ Q ↔ Q (some (.int y0)) σ := by
  exact zw_iret1 (show decode cX12_brook 78 = .ok (.ireturn, 1) by decide +kernel) rfl

theorem bX12_isCell_0 {d : Nat} {σ : zS} {Q : Option Value → zS → Prop} (hl : zLay σ) {x1 x2 x3 : Int32} : zCall (d + 1) kX12_isCell [.ref 131, .int x1, .int x2, .int x3] σ Q ↔ (vp_in x1 7 ∧ zCall d kX12_isIn [.int x2, .int 0, .int ((zI σ 135 (x1 : Int32).toNatClampNeg) - 1)] σ (fun r σ' => zisN r = true ∧ zW (d + 1) kX12_isCell 13 [.ref 131, .int x1, .int x2, .int x3] (zRstk r ++ []) σ' Q)) := by
  show zW (d + 1) kX12_isCell 0 [.ref 131, .int x1, .int x2, .int x3] [] σ Q ↔ _
  refine Iff.trans (zw_iload_n (show decode cX12_isCell 0 = .ok (.iload_n 2, 1) by decide +kernel) rfl) ?_
  refine Iff.trans (zw_iconst (x := 0) (show decode cX12_isCell 1 = .ok (.iconst 0, 1) by decide +kernel) (by decide)) ?_
  refine Iff.trans (zw_aload_n (show decode cX12_isCell 2 = .ok (.aload_n 0, 1) by decide +kernel) rfl) ?_
  refine Iff.trans (zw_get (show decode cX12_isCell 3 = .ok (.getfield 20, 3) by decide +kernel) (by decide +kernel : zfld 12 20 = some (12, 7)) (hl.k2 zk_131) (hl.n2 zk_131) (zgetR (v := 135) (hl.r zrt_131_7) rfl)) ?_
  refine Iff.trans (zw_iload_n (show decode cX12_isCell 6 = .ok (.iload_n 1, 1) by decide +kernel) rfl) ?_
  refine Iff.trans (zw_iald2 (show decode cX12_isCell 7 = .ok (.iaload, 1) by decide +kernel) (hl.k2 zk_135) (hl.n2 zk_135) (hl.l2 zk_135 zl_135) (w := zI σ 135 (x1 : Int32).toNatClampNeg) rfl) ?_
  refine zw_and ?_
  refine Iff.trans (zw_iconst (x := 1) (show decode cX12_isCell 8 = .ok (.iconst 1, 1) by decide +kernel) (by decide)) ?_
  refine Iff.trans (zw_isub (show decode cX12_isCell 9 = .ok (.isub, 1) by decide +kernel)) ?_
  refine Iff.trans (zw_invS (K' := kX12_isIn) (as := [.int x2, .int 0, .int ((zI σ 135 (x1 : Int32).toNatClampNeg) - 1)]) (rest := []) (show decode cX12_isCell 10 = .ok (.invokestatic 163, 3) by decide +kernel) (by rfl) rfl rfl rfl ⟨Nat.le_of_ble_eq_true rfl, Nat.le_of_ble_eq_true rfl, Nat.le_of_ble_eq_true rfl⟩) ?_
  exact Iff.rfl

theorem bX12_isCell_13 {d : Nat} {σ : zS} {Q : Option Value → zS → Prop} (hl : zLay σ) {x1 x2 x3 y0 : Int32} : zW (d + 1) kX12_isCell 13 [.ref 131, .int x1, .int x2, .int x3] [.int y0] σ Q ↔ (if y0 = (0 : Int32) then Q (some (.int 0)) σ else (vp_in x1 7 ∧ zCall d kX12_isIn [.int x3, .int 0, .int ((zI σ 134 (x1 : Int32).toNatClampNeg) - 1)] σ (fun r σ' => zisN r = true ∧ zW (d + 1) kX12_isCell 29 [.ref 131, .int x1, .int x2, .int x3] (zRstk r ++ []) σ' Q))) := by
  refine Iff.trans (zw_if_eq (t := 36) (show decode cX12_isCell 13 = .ok (.ifCond .eq 23, 3) by decide +kernel) (by decide)) ?_
  refine zw_ite ?_ ?_
  · refine Iff.trans (zw_iconst (x := 0) (show decode cX12_isCell 36 = .ok (.iconst 0, 1) by decide +kernel) (by decide)) ?_
    exact zw_iret2c (show decode cX12_isCell 37 = .ok (.ireturn, 1) by decide +kernel) rfl (Or.inl rfl)
  · refine Iff.trans (zw_iload_n (show decode cX12_isCell 16 = .ok (.iload_n 3, 1) by decide +kernel) rfl) ?_
    refine Iff.trans (zw_iconst (x := 0) (show decode cX12_isCell 17 = .ok (.iconst 0, 1) by decide +kernel) (by decide)) ?_
    refine Iff.trans (zw_aload_n (show decode cX12_isCell 18 = .ok (.aload_n 0, 1) by decide +kernel) rfl) ?_
    refine Iff.trans (zw_get (show decode cX12_isCell 19 = .ok (.getfield 17, 3) by decide +kernel) (by decide +kernel : zfld 12 17 = some (12, 6)) (hl.k2 zk_131) (hl.n2 zk_131) (zgetR (v := 134) (hl.r zrt_131_6) rfl)) ?_
    refine Iff.trans (zw_iload_n (show decode cX12_isCell 22 = .ok (.iload_n 1, 1) by decide +kernel) rfl) ?_
    refine Iff.trans (zw_iald2 (show decode cX12_isCell 23 = .ok (.iaload, 1) by decide +kernel) (hl.k2 zk_134) (hl.n2 zk_134) (hl.l2 zk_134 zl_134) (w := zI σ 134 (x1 : Int32).toNatClampNeg) rfl) ?_
    refine zw_and ?_
    refine Iff.trans (zw_iconst (x := 1) (show decode cX12_isCell 24 = .ok (.iconst 1, 1) by decide +kernel) (by decide)) ?_
    refine Iff.trans (zw_isub (show decode cX12_isCell 25 = .ok (.isub, 1) by decide +kernel)) ?_
    refine Iff.trans (zw_invS (K' := kX12_isIn) (as := [.int x3, .int 0, .int ((zI σ 134 (x1 : Int32).toNatClampNeg) - 1)]) (rest := []) (show decode cX12_isCell 26 = .ok (.invokestatic 163, 3) by decide +kernel) (by rfl) rfl rfl rfl ⟨Nat.le_of_ble_eq_true rfl, Nat.le_of_ble_eq_true rfl, Nat.le_of_ble_eq_true rfl⟩) ?_
    exact Iff.rfl

theorem bX12_isCell_29 {d : Nat} {σ : zS} {Q : Option Value → zS → Prop} (hl : zLay σ) {x1 x2 x3 y0 : Int32} : zW (d + 1) kX12_isCell 29 [.ref 131, .int x1, .int x2, .int x3] [.int y0] σ Q ↔ (if y0 = (0 : Int32) then Q (some (.int 0)) σ else Q (some (.int 1)) σ) := by
  refine Iff.trans (zw_if_eq (t := 36) (show decode cX12_isCell 29 = .ok (.ifCond .eq 7, 3) by decide +kernel) (by decide)) ?_
  refine zw_ite ?_ ?_
  · refine Iff.trans (zw_iconst (x := 0) (show decode cX12_isCell 36 = .ok (.iconst 0, 1) by decide +kernel) (by decide)) ?_
    exact zw_iret2c (show decode cX12_isCell 37 = .ok (.ireturn, 1) by decide +kernel) rfl (Or.inl rfl)
  · refine Iff.trans (zw_iconst (x := 1) (show decode cX12_isCell 32 = .ok (.iconst 1, 1) by decide +kernel) (by decide)) ?_
    refine Iff.trans (zw_goto (t := 37) (show decode cX12_isCell 33 = .ok (.goto 4, 3) by decide +kernel) (by decide)) ?_
    exact zw_iret2c (show decode cX12_isCell 37 = .ok (.ireturn, 1) by decide +kernel) rfl (Or.inr rfl)

theorem bX12_paceOf_0 {d : Nat} {σ : zS} {Q : Option Value → zS → Prop} (hl : zLay σ) {x1 x2 x3 : Int32} : zCall (d + 1) kX12_paceOf [.ref 131, .int x1, .int x2, .int x3] σ Q ↔ zCall d kX12_sign [.ref 131, .int x1, .int x2, .int x3] σ (fun r σ' => zisN r = true ∧ zW (d + 1) kX12_paceOf 7 [.ref 131, .int x1, .int x2, .int x3, .retAddr 0] (zRstk r ++ []) σ' Q) := by
  show zW (d + 1) kX12_paceOf 0 [.ref 131, .int x1, .int x2, .int x3, .retAddr 0] [] σ Q ↔ _
  refine Iff.trans (zw_aload_n (show decode cX12_paceOf 0 = .ok (.aload_n 0, 1) by decide +kernel) rfl) ?_
  refine Iff.trans (zw_iload_n (show decode cX12_paceOf 1 = .ok (.iload_n 1, 1) by decide +kernel) rfl) ?_
  refine Iff.trans (zw_iload_n (show decode cX12_paceOf 2 = .ok (.iload_n 2, 1) by decide +kernel) rfl) ?_
  refine Iff.trans (zw_iload_n (show decode cX12_paceOf 3 = .ok (.iload_n 3, 1) by decide +kernel) rfl) ?_
  refine Iff.trans (zw_invV (K' := kX12_sign) (as' := [.int x1, .int x2, .int x3]) (rest := []) (show decode cX12_paceOf 4 = .ok (.invokevirtual 189, 3) by decide +kernel) (by rfl) rfl rfl rfl (hl.k2 zk_131) (by decide) (hl.n2 zk_131) ⟨Nat.le_of_ble_eq_true rfl, Nat.le_of_ble_eq_true rfl, Nat.le_of_ble_eq_true rfl⟩) ?_
  exact Iff.rfl

theorem bX12_paceOf_7 {d : Nat} {σ : zS} {Q : Option Value → zS → Prop} (hl : zLay σ) {x1 x2 x3 y0 : Int32} : zW (d + 1) kX12_paceOf 7 [.ref 131, .int x1, .int x2, .int x3, .retAddr 0] [.int y0] σ Q ↔ (if y0 = (0 : Int32) then Q (some (.int 1)) σ else (if y0 = 10 then Q (some (.int (1 + (zI σ 131 14)))) σ else Q (some (.int (y0 + (zI σ 131 14)))) σ)) := by
  refine Iff.trans (zw_istore (ls' := [.ref 131, .int x1, .int x2, .int x3, .int y0]) (show decode cX12_paceOf 7 = .ok (.istore 4, 2) by decide +kernel) (zset_s (Nat.le_of_ble_eq_true rfl) rfl)) ?_
  refine Iff.trans (zw_iload (show decode cX12_paceOf 9 = .ok (.iload 4, 2) by decide +kernel) rfl) ?_
  refine Iff.trans (zw_if_ne (t := 18) (show decode cX12_paceOf 11 = .ok (.ifCond .ne 7, 3) by decide +kernel) (by decide)) ?_
  refine zw_ite ?_ ?_
  · refine Iff.trans (zw_iconst (x := 1) (show decode cX12_paceOf 14 = .ok (.iconst 1, 1) by decide +kernel) (by decide)) ?_
    refine Iff.trans (zw_goto (t := 36) (show decode cX12_paceOf 15 = .ok (.goto 21, 3) by decide +kernel) (by decide)) ?_
    exact zw_iret1 (show decode cX12_paceOf 36 = .ok (.ireturn, 1) by decide +kernel) rfl
  · refine Iff.trans (zw_iload (show decode cX12_paceOf 18 = .ok (.iload 4, 2) by decide +kernel) rfl) ?_
    refine Iff.trans (zw_bipush (x := 10) (show decode cX12_paceOf 20 = .ok (.bipush 10, 2) by decide +kernel) (by decide)) ?_
    refine Iff.trans (zw_icmp_ne (t := 29) (show decode cX12_paceOf 22 = .ok (.if_icmp .ne 7, 3) by decide +kernel) (by decide)) ?_
    refine zw_ite ?_ ?_
    · refine Iff.trans (zw_iconst (x := 1) (show decode cX12_paceOf 25 = .ok (.iconst 1, 1) by decide +kernel) (by decide)) ?_
      refine Iff.trans (zw_goto (t := 31) (show decode cX12_paceOf 26 = .ok (.goto 5, 3) by decide +kernel) (by decide)) ?_
      refine Iff.trans (zw_aload_n (show decode cX12_paceOf 31 = .ok (.aload_n 0, 1) by decide +kernel) rfl) ?_
      refine Iff.trans (zw_getI (show decode cX12_paceOf 32 = .ok (.getfield 200, 3) by decide +kernel) (by decide +kernel : zfld 12 200 = some (12, 14)) (hl.k2 zk_131) (hl.n2 zk_131) (Or.inl rfl) (w := zI σ 131 14) rfl) ?_
      refine Iff.trans (zw_iadd (show decode cX12_paceOf 35 = .ok (.iadd, 1) by decide +kernel)) ?_
      exact zw_iret1 (show decode cX12_paceOf 36 = .ok (.ireturn, 1) by decide +kernel) rfl
    · refine Iff.trans (zw_iload (show decode cX12_paceOf 29 = .ok (.iload 4, 2) by decide +kernel) rfl) ?_
      refine Iff.trans (zw_aload_n (show decode cX12_paceOf 31 = .ok (.aload_n 0, 1) by decide +kernel) rfl) ?_
      refine Iff.trans (zw_getI (show decode cX12_paceOf 32 = .ok (.getfield 200, 3) by decide +kernel) (by decide +kernel : zfld 12 200 = some (12, 14)) (hl.k2 zk_131) (hl.n2 zk_131) (Or.inl rfl) (w := zI σ 131 14) rfl) ?_
      refine Iff.trans (zw_iadd (show decode cX12_paceOf 35 = .ok (.iadd, 1) by decide +kernel)) ?_
      exact zw_iret1 (show decode cX12_paceOf 36 = .ok (.ireturn, 1) by decide +kernel) rfl

theorem bX12_pace_0 {d : Nat} {σ : zS} {Q : Option Value → zS → Prop} (hl : zLay σ) {x1 x2 x3 : Int32} : zCall (d + 1) kX12_pace [.ref 131, .int x1, .int x2, .int x3] σ Q ↔ zCall d kX12_isBrook [.ref 131, .int x1] (zsI σ 131 (upd (zI σ 131) 0 0)) (fun r σ' => zisN r = true ∧ zW (d + 1) kX12_pace 10 [.ref 131, .int x1, .int x2, .int x3] (zRstk r ++ []) σ' Q) := by
  show zW (d + 1) kX12_pace 0 [.ref 131, .int x1, .int x2, .int x3] [] σ Q ↔ _
  refine Iff.trans (zw_aload_n (show decode cX12_pace 0 = .ok (.aload_n 0, 1) by decide +kernel) rfl) ?_
  refine Iff.trans (zw_iconst (x := 0) (show decode cX12_pace 1 = .ok (.iconst 0, 1) by decide +kernel) (by decide)) ?_
  refine Iff.trans (zw_putI (show decode cX12_pace 2 = .ok (.putfield 118, 3) by decide +kernel) (by decide +kernel : zfld 12 118 = some (12, 0)) (hl.k2 zk_131) (hl.n2 zk_131) rfl (Or.inl rfl) (σ' := (zsI σ 131 (upd (zI σ 131) 0 0))) rfl) ?_
  refine Iff.trans (zw_aload_n (show decode cX12_pace 5 = .ok (.aload_n 0, 1) by decide +kernel) rfl) ?_
  refine Iff.trans (zw_iload_n (show decode cX12_pace 6 = .ok (.iload_n 1, 1) by decide +kernel) rfl) ?_
  refine Iff.trans (zw_invV (K' := kX12_isBrook) (as' := [.int x1]) (rest := []) (show decode cX12_pace 7 = .ok (.invokevirtual 193, 3) by decide +kernel) (by rfl) rfl rfl rfl (hl.I.k2 zk_131) (by decide) (hl.I.n2 zk_131) ⟨Nat.le_of_ble_eq_true rfl, Nat.le_of_ble_eq_true rfl, Nat.le_of_ble_eq_true rfl⟩) ?_
  exact Iff.rfl

theorem bX12_pace_10 {d : Nat} {σ : zS} {Q : Option Value → zS → Prop} (hl : zLay σ) {x1 x2 x3 y0 : Int32} : zW (d + 1) kX12_pace 10 [.ref 131, .int x1, .int x2, .int x3] [.int y0] σ Q ↔ (if y0 = (0 : Int32) then Q (some (.int (-1))) σ else zCall d kX12_isCell [.ref 131, .int x1, .int x2, .int x3] σ (fun r σ' => zisN r = true ∧ zW (d + 1) kX12_pace 20 [.ref 131, .int x1, .int x2, .int x3] (zRstk r ++ []) σ' Q)) := by
  refine Iff.trans (zw_if_eq (t := 33) (show decode cX12_pace 10 = .ok (.ifCond .eq 23, 3) by decide +kernel) (by decide)) ?_
  refine zw_ite ?_ ?_
  · refine Iff.trans (zw_iconst (x := (-1)) (show decode cX12_pace 33 = .ok (.iconst (-1), 1) by decide +kernel) (by decide)) ?_
    exact zw_iret1 (show decode cX12_pace 34 = .ok (.ireturn, 1) by decide +kernel) rfl
  · refine Iff.trans (zw_aload_n (show decode cX12_pace 13 = .ok (.aload_n 0, 1) by decide +kernel) rfl) ?_
    refine Iff.trans (zw_iload_n (show decode cX12_pace 14 = .ok (.iload_n 1, 1) by decide +kernel) rfl) ?_
    refine Iff.trans (zw_iload_n (show decode cX12_pace 15 = .ok (.iload_n 2, 1) by decide +kernel) rfl) ?_
    refine Iff.trans (zw_iload_n (show decode cX12_pace 16 = .ok (.iload_n 3, 1) by decide +kernel) rfl) ?_
    refine Iff.trans (zw_invV (K' := kX12_isCell) (as' := [.int x1, .int x2, .int x3]) (rest := []) (show decode cX12_pace 17 = .ok (.invokevirtual 203, 3) by decide +kernel) (by rfl) rfl rfl rfl (hl.k2 zk_131) (by decide) (hl.n2 zk_131) ⟨Nat.le_of_ble_eq_true rfl, Nat.le_of_ble_eq_true rfl, Nat.le_of_ble_eq_true rfl⟩) ?_
    exact Iff.rfl

theorem bX12_pace_20 {d : Nat} {σ : zS} {Q : Option Value → zS → Prop} (hl : zLay σ) {x1 x2 x3 y0 : Int32} : zW (d + 1) kX12_pace 20 [.ref 131, .int x1, .int x2, .int x3] [.int y0] σ Q ↔ (if y0 = (0 : Int32) then Q (some (.int (-1))) σ else zCall d kX12_paceOf [.ref 131, .int x1, .int x2, .int x3] σ (fun r σ' => zisN r = true ∧ zW (d + 1) kX12_pace 30 [.ref 131, .int x1, .int x2, .int x3] (zRstk r ++ []) σ' Q)) := by
  refine Iff.trans (zw_if_eq (t := 33) (show decode cX12_pace 20 = .ok (.ifCond .eq 13, 3) by decide +kernel) (by decide)) ?_
  refine zw_ite ?_ ?_
  · refine Iff.trans (zw_iconst (x := (-1)) (show decode cX12_pace 33 = .ok (.iconst (-1), 1) by decide +kernel) (by decide)) ?_
    exact zw_iret1 (show decode cX12_pace 34 = .ok (.ireturn, 1) by decide +kernel) rfl
  · refine Iff.trans (zw_aload_n (show decode cX12_pace 23 = .ok (.aload_n 0, 1) by decide +kernel) rfl) ?_
    refine Iff.trans (zw_iload_n (show decode cX12_pace 24 = .ok (.iload_n 1, 1) by decide +kernel) rfl) ?_
    refine Iff.trans (zw_iload_n (show decode cX12_pace 25 = .ok (.iload_n 2, 1) by decide +kernel) rfl) ?_
    refine Iff.trans (zw_iload_n (show decode cX12_pace 26 = .ok (.iload_n 3, 1) by decide +kernel) rfl) ?_
    refine Iff.trans (zw_invV (K' := kX12_paceOf) (as' := [.int x1, .int x2, .int x3]) (rest := []) (show decode cX12_pace 27 = .ok (.invokevirtual 206, 3) by decide +kernel) (by rfl) rfl rfl rfl (hl.k2 zk_131) (by decide) (hl.n2 zk_131) ⟨Nat.le_of_ble_eq_true rfl, Nat.le_of_ble_eq_true rfl, Nat.le_of_ble_eq_true rfl⟩) ?_
    exact Iff.rfl

theorem bX12_pace_30 {d : Nat} {σ : zS} {Q : Option Value → zS → Prop} (hl : zLay σ) {x1 x2 x3 y0 : Int32} : zW (d + 1) kX12_pace 30 [.ref 131, .int x1, .int x2, .int x3] [.int y0] σ Q ↔ Q (some (.int y0)) σ := by
  refine Iff.trans (zw_goto (t := 34) (show decode cX12_pace 30 = .ok (.goto 4, 3) by decide +kernel) (by decide)) ?_
  exact zw_iret1 (show decode cX12_pace 34 = .ok (.ireturn, 1) by decide +kernel) rfl

theorem bX12_stick_0 {d : Nat} {σ : zS} {Q : Option Value → zS → Prop} (hl : zLay σ) {x1 x2 : Int32} : zCall (d + 1) kX12_stick [.ref 131, .int x1, .int x2] σ Q ↔ zCall d kX12_isStick [.ref 131, .int x1] (zsI σ 131 (upd (zI σ 131) 0 0)) (fun r σ' => zisN r = true ∧ zW (d + 1) kX12_stick 10 [.ref 131, .int x1, .int x2] (zRstk r ++ []) σ' Q) := by
  show zW (d + 1) kX12_stick 0 [.ref 131, .int x1, .int x2] [] σ Q ↔ _
  refine Iff.trans (zw_aload_n (show decode cX12_stick 0 = .ok (.aload_n 0, 1) by decide +kernel) rfl) ?_
  refine Iff.trans (zw_iconst (x := 0) (show decode cX12_stick 1 = .ok (.iconst 0, 1) by decide +kernel) (by decide)) ?_
  refine Iff.trans (zw_putI (show decode cX12_stick 2 = .ok (.putfield 118, 3) by decide +kernel) (by decide +kernel : zfld 12 118 = some (12, 0)) (hl.k2 zk_131) (hl.n2 zk_131) rfl (Or.inl rfl) (σ' := (zsI σ 131 (upd (zI σ 131) 0 0))) rfl) ?_
  refine Iff.trans (zw_aload_n (show decode cX12_stick 5 = .ok (.aload_n 0, 1) by decide +kernel) rfl) ?_
  refine Iff.trans (zw_iload_n (show decode cX12_stick 6 = .ok (.iload_n 1, 1) by decide +kernel) rfl) ?_
  refine Iff.trans (zw_invV (K' := kX12_isStick) (as' := [.int x1]) (rest := []) (show decode cX12_stick 7 = .ok (.invokevirtual 209, 3) by decide +kernel) (by rfl) rfl rfl rfl (hl.I.k2 zk_131) (by decide) (hl.I.n2 zk_131) ⟨Nat.le_of_ble_eq_true rfl, Nat.le_of_ble_eq_true rfl, Nat.le_of_ble_eq_true rfl⟩) ?_
  exact Iff.rfl

theorem bX12_stick_10 {d : Nat} {σ : zS} {Q : Option Value → zS → Prop} (hl : zLay σ) {x1 x2 y0 : Int32} : zW (d + 1) kX12_stick 10 [.ref 131, .int x1, .int x2] [.int y0] σ Q ↔ (if y0 = (0 : Int32) then Q (some (.int (-1))) σ else zCall d kX12_isIn [.int x2, .int 0, .int 2] σ (fun r σ' => zisN r = true ∧ zW (d + 1) kX12_stick 19 [.ref 131, .int x1, .int x2] (zRstk r ++ []) σ' Q)) := by
  refine Iff.trans (zw_if_eq (t := 22) (show decode cX12_stick 10 = .ok (.ifCond .eq 12, 3) by decide +kernel) (by decide)) ?_
  refine zw_ite ?_ ?_
  · refine Iff.trans (zw_iconst (x := (-1)) (show decode cX12_stick 22 = .ok (.iconst (-1), 1) by decide +kernel) (by decide)) ?_
    exact zw_iret1 (show decode cX12_stick 23 = .ok (.ireturn, 1) by decide +kernel) rfl
  · refine Iff.trans (zw_iload_n (show decode cX12_stick 13 = .ok (.iload_n 2, 1) by decide +kernel) rfl) ?_
    refine Iff.trans (zw_iconst (x := 0) (show decode cX12_stick 14 = .ok (.iconst 0, 1) by decide +kernel) (by decide)) ?_
    refine Iff.trans (zw_iconst (x := 2) (show decode cX12_stick 15 = .ok (.iconst 2, 1) by decide +kernel) (by decide)) ?_
    refine Iff.trans (zw_invS (K' := kX12_isIn) (as := [.int x2, .int 0, .int 2]) (rest := []) (show decode cX12_stick 16 = .ok (.invokestatic 163, 3) by decide +kernel) (by rfl) rfl rfl rfl ⟨Nat.le_of_ble_eq_true rfl, Nat.le_of_ble_eq_true rfl, Nat.le_of_ble_eq_true rfl⟩) ?_
    exact Iff.rfl

theorem bX12_stick_19 {d : Nat} {σ : zS} {Q : Option Value → zS → Prop} (hl : zLay σ) {x1 x2 y0 : Int32} : zW (d + 1) kX12_stick 19 [.ref 131, .int x1, .int x2] [.int y0] σ Q ↔ (if y0 = (0 : Int32) then Q (some (.int (-1))) σ else (if x2 = (0 : Int32) then (vp_in x1 11 ∧ Q (some (.int (zI σ 136 (x1 : Int32).toNatClampNeg))) σ) else (if x2 = 1 then (vp_in x1 11 ∧ Q (some (.int (zI σ 137 (x1 : Int32).toNatClampNeg))) σ) else (vp_in x1 11 ∧ Q (some (.int (zI σ 138 (x1 : Int32).toNatClampNeg))) σ)))) := by
  refine Iff.trans (zw_if_ne (t := 24) (show decode cX12_stick 19 = .ok (.ifCond .ne 5, 3) by decide +kernel) (by decide)) ?_
  refine zw_ite ?_ ?_
  · refine Iff.trans (zw_iconst (x := (-1)) (show decode cX12_stick 22 = .ok (.iconst (-1), 1) by decide +kernel) (by decide)) ?_
    exact zw_iret1 (show decode cX12_stick 23 = .ok (.ireturn, 1) by decide +kernel) rfl
  · refine Iff.trans (zw_iload_n (show decode cX12_stick 24 = .ok (.iload_n 2, 1) by decide +kernel) rfl) ?_
    refine Iff.trans (zw_if_ne (t := 37) (show decode cX12_stick 25 = .ok (.ifCond .ne 12, 3) by decide +kernel) (by decide)) ?_
    refine zw_ite ?_ ?_
    · refine Iff.trans (zw_aload_n (show decode cX12_stick 28 = .ok (.aload_n 0, 1) by decide +kernel) rfl) ?_
      refine Iff.trans (zw_get (show decode cX12_stick 29 = .ok (.getfield 23, 3) by decide +kernel) (by decide +kernel : zfld 12 23 = some (12, 8)) (hl.k2 zk_131) (hl.n2 zk_131) (zgetR (v := 136) (hl.r zrt_131_8) rfl)) ?_
      refine Iff.trans (zw_iload_n (show decode cX12_stick 32 = .ok (.iload_n 1, 1) by decide +kernel) rfl) ?_
      refine Iff.trans (zw_iald2 (show decode cX12_stick 33 = .ok (.iaload, 1) by decide +kernel) (hl.k2 zk_136) (hl.n2 zk_136) (hl.l2 zk_136 zl_136) (w := zI σ 136 (x1 : Int32).toNatClampNeg) rfl) ?_
      refine zw_and ?_
      refine Iff.trans (zw_goto (t := 57) (show decode cX12_stick 34 = .ok (.goto 23, 3) by decide +kernel) (by decide)) ?_
      exact zw_iret1 (show decode cX12_stick 57 = .ok (.ireturn, 1) by decide +kernel) rfl
    · refine Iff.trans (zw_iload_n (show decode cX12_stick 37 = .ok (.iload_n 2, 1) by decide +kernel) rfl) ?_
      refine Iff.trans (zw_iconst (x := 1) (show decode cX12_stick 38 = .ok (.iconst 1, 1) by decide +kernel) (by decide)) ?_
      refine Iff.trans (zw_icmp_ne (t := 51) (show decode cX12_stick 39 = .ok (.if_icmp .ne 12, 3) by decide +kernel) (by decide)) ?_
      refine zw_ite ?_ ?_
      · refine Iff.trans (zw_aload_n (show decode cX12_stick 42 = .ok (.aload_n 0, 1) by decide +kernel) rfl) ?_
        refine Iff.trans (zw_get (show decode cX12_stick 43 = .ok (.getfield 26, 3) by decide +kernel) (by decide +kernel : zfld 12 26 = some (12, 9)) (hl.k2 zk_131) (hl.n2 zk_131) (zgetR (v := 137) (hl.r zrt_131_9) rfl)) ?_
        refine Iff.trans (zw_iload_n (show decode cX12_stick 46 = .ok (.iload_n 1, 1) by decide +kernel) rfl) ?_
        refine Iff.trans (zw_iald2 (show decode cX12_stick 47 = .ok (.iaload, 1) by decide +kernel) (hl.k2 zk_137) (hl.n2 zk_137) (hl.l2 zk_137 zl_137) (w := zI σ 137 (x1 : Int32).toNatClampNeg) rfl) ?_
        refine zw_and ?_
        refine Iff.trans (zw_goto (t := 57) (show decode cX12_stick 48 = .ok (.goto 9, 3) by decide +kernel) (by decide)) ?_
        exact zw_iret1 (show decode cX12_stick 57 = .ok (.ireturn, 1) by decide +kernel) rfl
      · refine Iff.trans (zw_aload_n (show decode cX12_stick 51 = .ok (.aload_n 0, 1) by decide +kernel) rfl) ?_
        refine Iff.trans (zw_get (show decode cX12_stick 52 = .ok (.getfield 29, 3) by decide +kernel) (by decide +kernel : zfld 12 29 = some (12, 10)) (hl.k2 zk_131) (hl.n2 zk_131) (zgetR (v := 138) (hl.r zrt_131_10) rfl)) ?_
        refine Iff.trans (zw_iload_n (show decode cX12_stick 55 = .ok (.iload_n 1, 1) by decide +kernel) rfl) ?_
        refine Iff.trans (zw_iald2 (show decode cX12_stick 56 = .ok (.iaload, 1) by decide +kernel) (hl.k2 zk_138) (hl.n2 zk_138) (hl.l2 zk_138 zl_138) (w := zI σ 138 (x1 : Int32).toNatClampNeg) rfl) ?_
        refine zw_and ?_
        exact zw_iret1 (show decode cX12_stick 57 = .ok (.ireturn, 1) by decide +kernel) rfl

theorem bX12_weather_0 {d : Nat} {σ : zS} {Q : Option Value → zS → Prop} (hl : zLay σ) {x1 x2 : Int32} : zCall (d + 1) kX12_weather [.ref 131, .int x1, .int x2] σ Q ↔ zCall d kX12_isIn [.int x1, .int 0, .int 2] (zsI σ 131 (upd (zI σ 131) 0 0)) (fun r σ' => zisN r = true ∧ zW (d + 1) kX12_weather 11 [.ref 131, .int x1, .int x2] (zRstk r ++ []) σ' Q) := by
  show zW (d + 1) kX12_weather 0 [.ref 131, .int x1, .int x2] [] σ Q ↔ _
  refine Iff.trans (zw_aload_n (show decode cX12_weather 0 = .ok (.aload_n 0, 1) by decide +kernel) rfl) ?_
  refine Iff.trans (zw_iconst (x := 0) (show decode cX12_weather 1 = .ok (.iconst 0, 1) by decide +kernel) (by decide)) ?_
  refine Iff.trans (zw_putI (show decode cX12_weather 2 = .ok (.putfield 118, 3) by decide +kernel) (by decide +kernel : zfld 12 118 = some (12, 0)) (hl.k2 zk_131) (hl.n2 zk_131) rfl (Or.inl rfl) (σ' := (zsI σ 131 (upd (zI σ 131) 0 0))) rfl) ?_
  refine Iff.trans (zw_iload_n (show decode cX12_weather 5 = .ok (.iload_n 1, 1) by decide +kernel) rfl) ?_
  refine Iff.trans (zw_iconst (x := 0) (show decode cX12_weather 6 = .ok (.iconst 0, 1) by decide +kernel) (by decide)) ?_
  refine Iff.trans (zw_iconst (x := 2) (show decode cX12_weather 7 = .ok (.iconst 2, 1) by decide +kernel) (by decide)) ?_
  refine Iff.trans (zw_invS (K' := kX12_isIn) (as := [.int x1, .int 0, .int 2]) (rest := []) (show decode cX12_weather 8 = .ok (.invokestatic 163, 3) by decide +kernel) (by rfl) rfl rfl rfl ⟨Nat.le_of_ble_eq_true rfl, Nat.le_of_ble_eq_true rfl, Nat.le_of_ble_eq_true rfl⟩) ?_
  exact Iff.rfl

theorem bX12_weather_11 {d : Nat} {σ : zS} {Q : Option Value → zS → Prop} (hl : zLay σ) {x1 x2 y0 : Int32} : zW (d + 1) kX12_weather 11 [.ref 131, .int x1, .int x2] [.int y0] σ Q ↔ (if y0 = (0 : Int32) then Q (some (.int 0)) σ else (if x1 = (0 : Int32) then zW (d + 1) kX12_weather 25 [.ref 131, .int x1, .int x2] [.int (-3), .int x2] σ Q else zW (d + 1) kX12_weather 25 [.ref 131, .int x1, .int x2] [.int 0, .int x2] σ Q)) := by
  refine Iff.trans (zw_if_eq (t := 42) (show decode cX12_weather 11 = .ok (.ifCond .eq 31, 3) by decide +kernel) (by decide)) ?_
  refine zw_ite ?_ ?_
  · refine Iff.trans (zw_iconst (x := 0) (show decode cX12_weather 42 = .ok (.iconst 0, 1) by decide +kernel) (by decide)) ?_
    exact zw_iret2c (show decode cX12_weather 43 = .ok (.ireturn, 1) by decide +kernel) rfl (Or.inl rfl)
  · refine Iff.trans (zw_iload_n (show decode cX12_weather 14 = .ok (.iload_n 2, 1) by decide +kernel) rfl) ?_
    refine Iff.trans (zw_iload_n (show decode cX12_weather 15 = .ok (.iload_n 1, 1) by decide +kernel) rfl) ?_
    refine Iff.trans (zw_if_ne (t := 24) (show decode cX12_weather 16 = .ok (.ifCond .ne 8, 3) by decide +kernel) (by decide)) ?_
    refine zw_ite ?_ ?_
    · refine Iff.trans (zw_bipush (x := (-3)) (show decode cX12_weather 19 = .ok (.bipush (-3), 2) by decide +kernel) (by decide)) ?_
      refine Iff.trans (zw_goto (t := 25) (show decode cX12_weather 21 = .ok (.goto 4, 3) by decide +kernel) (by decide)) ?_
      exact Iff.rfl
    · refine Iff.trans (zw_iconst (x := 0) (show decode cX12_weather 24 = .ok (.iconst 0, 1) by decide +kernel) (by decide)) ?_
      exact Iff.rfl

theorem bX12_weather_25 {d : Nat} {σ : zS} {Q : Option Value → zS → Prop} (hl : zLay σ) {x1 x2 y0 y1 : Int32} : zW (d + 1) kX12_weather 25 [.ref 131, .int x1, .int x2] [.int y0, .int y1] σ Q ↔ (if 2 ≤ x1 then zW (d + 1) kX12_weather 36 [.ref 131, .int x1, .int x2] [.int 10, .int y0, .int y1] σ Q else zW (d + 1) kX12_weather 36 [.ref 131, .int x1, .int x2] [.int 3, .int y0, .int y1] σ Q) := by
  refine Iff.trans (zw_iload_n (show decode cX12_weather 25 = .ok (.iload_n 1, 1) by decide +kernel) rfl) ?_
  refine Iff.trans (zw_iconst (x := 2) (show decode cX12_weather 26 = .ok (.iconst 2, 1) by decide +kernel) (by decide)) ?_
  refine Iff.trans (zw_icmp_ge (t := 34) (show decode cX12_weather 27 = .ok (.if_icmp .ge 7, 3) by decide +kernel) (by decide)) ?_
  refine zw_ite ?_ ?_
  · refine Iff.trans (zw_bipush (x := 10) (show decode cX12_weather 34 = .ok (.bipush 10, 2) by decide +kernel) (by decide)) ?_
    exact Iff.rfl
  · refine Iff.trans (zw_iconst (x := 3) (show decode cX12_weather 30 = .ok (.iconst 3, 1) by decide +kernel) (by decide)) ?_
    refine Iff.trans (zw_goto (t := 36) (show decode cX12_weather 31 = .ok (.goto 5, 3) by decide +kernel) (by decide)) ?_
    exact Iff.rfl

theorem bX12_weather_36 {d : Nat} {σ : zS} {Q : Option Value → zS → Prop} (hl : zLay σ) {x1 x2 y0 y1 y2 : Int32} : zW (d + 1) kX12_weather 36 [.ref 131, .int x1, .int x2] [.int y0, .int y1, .int y2] σ Q ↔ zCall d kX12_isIn [.int y2, .int y1, .int y0] σ (fun r σ' => zisN r = true ∧ zW (d + 1) kX12_weather 39 [.ref 131, .int x1, .int x2] (zRstk r ++ []) σ' Q) := by
  refine Iff.trans (zw_invS (K' := kX12_isIn) (as := [.int y2, .int y1, .int y0]) (rest := []) (show decode cX12_weather 36 = .ok (.invokestatic 163, 3) by decide +kernel) (by rfl) rfl rfl rfl ⟨Nat.le_of_ble_eq_true rfl, Nat.le_of_ble_eq_true rfl, Nat.le_of_ble_eq_true rfl⟩) ?_
  exact Iff.rfl

theorem bX12_weather_39 {d : Nat} {σ : zS} {Q : Option Value → zS → Prop} (hl : zLay σ) {x1 x2 y0 : Int32} : zW (d + 1) kX12_weather 39 [.ref 131, .int x1, .int x2] [.int y0] σ Q ↔ (if y0 = (0 : Int32) then Q (some (.int 0)) σ else (if x1 = (0 : Int32) then zW (d + 1) kX12_weather 53 [.ref 131, .int x1, .int x2] [] (zsI σ 131 (upd (zI σ 131) 13 x2)) Q else zW (d + 1) kX12_weather 53 [.ref 131, .int x1, .int x2] [] σ Q)) := by
  refine Iff.trans (zw_if_ne (t := 44) (show decode cX12_weather 39 = .ok (.ifCond .ne 5, 3) by decide +kernel) (by decide)) ?_
  refine zw_ite ?_ ?_
  · refine Iff.trans (zw_iconst (x := 0) (show decode cX12_weather 42 = .ok (.iconst 0, 1) by decide +kernel) (by decide)) ?_
    exact zw_iret2c (show decode cX12_weather 43 = .ok (.ireturn, 1) by decide +kernel) rfl (Or.inl rfl)
  · refine Iff.trans (zw_iload_n (show decode cX12_weather 44 = .ok (.iload_n 1, 1) by decide +kernel) rfl) ?_
    refine Iff.trans (zw_if_ne (t := 53) (show decode cX12_weather 45 = .ok (.ifCond .ne 8, 3) by decide +kernel) (by decide)) ?_
    refine zw_ite ?_ ?_
    · refine Iff.trans (zw_aload_n (show decode cX12_weather 48 = .ok (.aload_n 0, 1) by decide +kernel) rfl) ?_
      refine Iff.trans (zw_iload_n (show decode cX12_weather 49 = .ok (.iload_n 2, 1) by decide +kernel) rfl) ?_
      refine Iff.trans (zw_putI (show decode cX12_weather 50 = .ok (.putfield 212, 3) by decide +kernel) (by decide +kernel : zfld 12 212 = some (12, 13)) (hl.k2 zk_131) (hl.n2 zk_131) rfl (Or.inl rfl) (σ' := (zsI σ 131 (upd (zI σ 131) 13 x2))) rfl) ?_
      exact Iff.rfl
    · exact Iff.rfl

theorem bX12_weather_53 {d : Nat} {σ : zS} {Q : Option Value → zS → Prop} (hl : zLay σ) {x1 x2 : Int32} : zW (d + 1) kX12_weather 53 [.ref 131, .int x1, .int x2] [] σ Q ↔ (if x1 = 1 then zW (d + 1) kX12_weather 63 [.ref 131, .int x1, .int x2] [] (zsI σ 131 (upd (zI σ 131) 14 x2)) Q else zW (d + 1) kX12_weather 63 [.ref 131, .int x1, .int x2] [] σ Q) := by
  refine Iff.trans (zw_iload_n (show decode cX12_weather 53 = .ok (.iload_n 1, 1) by decide +kernel) rfl) ?_
  refine Iff.trans (zw_iconst (x := 1) (show decode cX12_weather 54 = .ok (.iconst 1, 1) by decide +kernel) (by decide)) ?_
  refine Iff.trans (zw_icmp_ne (t := 63) (show decode cX12_weather 55 = .ok (.if_icmp .ne 8, 3) by decide +kernel) (by decide)) ?_
  refine zw_ite ?_ ?_
  · refine Iff.trans (zw_aload_n (show decode cX12_weather 58 = .ok (.aload_n 0, 1) by decide +kernel) rfl) ?_
    refine Iff.trans (zw_iload_n (show decode cX12_weather 59 = .ok (.iload_n 2, 1) by decide +kernel) rfl) ?_
    refine Iff.trans (zw_putI (show decode cX12_weather 60 = .ok (.putfield 200, 3) by decide +kernel) (by decide +kernel : zfld 12 200 = some (12, 14)) (hl.k2 zk_131) (hl.n2 zk_131) rfl (Or.inl rfl) (σ' := (zsI σ 131 (upd (zI σ 131) 14 x2))) rfl) ?_
    exact Iff.rfl
  · exact Iff.rfl

theorem bX12_weather_63 {d : Nat} {σ : zS} {Q : Option Value → zS → Prop} (hl : zLay σ) {x1 x2 : Int32} : zW (d + 1) kX12_weather 63 [.ref 131, .int x1, .int x2] [] σ Q ↔ (if x1 = 2 then Q (some (.int 1)) (zsI σ 131 (upd (zI σ 131) 15 x2)) else Q (some (.int 1)) σ) := by
  refine Iff.trans (zw_iload_n (show decode cX12_weather 63 = .ok (.iload_n 1, 1) by decide +kernel) rfl) ?_
  refine Iff.trans (zw_iconst (x := 2) (show decode cX12_weather 64 = .ok (.iconst 2, 1) by decide +kernel) (by decide)) ?_
  refine Iff.trans (zw_icmp_ne (t := 73) (show decode cX12_weather 65 = .ok (.if_icmp .ne 8, 3) by decide +kernel) (by decide)) ?_
  refine zw_ite ?_ ?_
  · refine Iff.trans (zw_aload_n (show decode cX12_weather 68 = .ok (.aload_n 0, 1) by decide +kernel) rfl) ?_
    refine Iff.trans (zw_iload_n (show decode cX12_weather 69 = .ok (.iload_n 2, 1) by decide +kernel) rfl) ?_
    refine Iff.trans (zw_putI (show decode cX12_weather 70 = .ok (.putfield 32, 3) by decide +kernel) (by decide +kernel : zfld 12 32 = some (12, 15)) (hl.k2 zk_131) (hl.n2 zk_131) rfl (Or.inl rfl) (σ' := (zsI σ 131 (upd (zI σ 131) 15 x2))) rfl) ?_
    refine Iff.trans (zw_iconst (x := 1) (show decode cX12_weather 73 = .ok (.iconst 1, 1) by decide +kernel) (by decide)) ?_
    exact zw_iret2c (show decode cX12_weather 74 = .ok (.ireturn, 1) by decide +kernel) rfl (Or.inr rfl)
  · refine Iff.trans (zw_iconst (x := 1) (show decode cX12_weather 73 = .ok (.iconst 1, 1) by decide +kernel) (by decide)) ?_
    exact zw_iret2c (show decode cX12_weather 74 = .ok (.ireturn, 1) by decide +kernel) rfl (Or.inr rfl)

theorem bX12_bars_0 {d : Nat} {σ : zS} {Q : Option Value → zS → Prop} (hl : zLay σ) {x1 x2 x3 : Int32} : zCall (d + 1) kX12_bars [.ref 131, .int x1, .int x2, .int x3] σ Q ↔ (if (2 : Int32) ≤ (zI σ 131 14) then Q (some (.int 0)) σ else zCall d kX12_sign [.ref 131, .int x1, .int x2, .int x3] σ (fun r σ' => zisN r = true ∧ zW (d + 1) kX12_bars 15 [.ref 131, .int x1, .int x2, .int x3] (zRstk r ++ []) σ' Q)) := by
  show zW (d + 1) kX12_bars 0 [.ref 131, .int x1, .int x2, .int x3] [] σ Q ↔ _
  refine Iff.trans (zw_aload_n (show decode cX12_bars 0 = .ok (.aload_n 0, 1) by decide +kernel) rfl) ?_
  refine Iff.trans (zw_getI (show decode cX12_bars 1 = .ok (.getfield 200, 3) by decide +kernel) (by decide +kernel : zfld 12 200 = some (12, 14)) (hl.k2 zk_131) (hl.n2 zk_131) (Or.inl rfl) (w := zI σ 131 14) rfl) ?_
  refine Iff.trans (zw_iconst (x := 2) (show decode cX12_bars 4 = .ok (.iconst 2, 1) by decide +kernel) (by decide)) ?_
  refine Iff.trans (zw_icmp_ge (t := 22) (show decode cX12_bars 5 = .ok (.if_icmp .ge 17, 3) by decide +kernel) (by decide)) ?_
  refine zw_ite ?_ ?_
  · refine Iff.trans (zw_iconst (x := 0) (show decode cX12_bars 22 = .ok (.iconst 0, 1) by decide +kernel) (by decide)) ?_
    exact zw_iret2c (show decode cX12_bars 23 = .ok (.ireturn, 1) by decide +kernel) rfl (Or.inl rfl)
  · refine Iff.trans (zw_aload_n (show decode cX12_bars 8 = .ok (.aload_n 0, 1) by decide +kernel) rfl) ?_
    refine Iff.trans (zw_iload_n (show decode cX12_bars 9 = .ok (.iload_n 1, 1) by decide +kernel) rfl) ?_
    refine Iff.trans (zw_iload_n (show decode cX12_bars 10 = .ok (.iload_n 2, 1) by decide +kernel) rfl) ?_
    refine Iff.trans (zw_iload_n (show decode cX12_bars 11 = .ok (.iload_n 3, 1) by decide +kernel) rfl) ?_
    refine Iff.trans (zw_invV (K' := kX12_sign) (as' := [.int x1, .int x2, .int x3]) (rest := []) (show decode cX12_bars 12 = .ok (.invokevirtual 189, 3) by decide +kernel) (by rfl) rfl rfl rfl (hl.k2 zk_131) (by decide) (hl.n2 zk_131) ⟨Nat.le_of_ble_eq_true rfl, Nat.le_of_ble_eq_true rfl, Nat.le_of_ble_eq_true rfl⟩) ?_
    exact Iff.rfl

theorem bX12_bars_15 {d : Nat} {σ : zS} {Q : Option Value → zS → Prop} (hl : zLay σ) {x1 x2 x3 y0 : Int32} : zW (d + 1) kX12_bars 15 [.ref 131, .int x1, .int x2, .int x3] [.int y0] σ Q ↔ (if y0 = (0 : Int32) then Q (some (.int 1)) σ else Q (some (.int 0)) σ) := by
  refine Iff.trans (zw_if_ne (t := 22) (show decode cX12_bars 15 = .ok (.ifCond .ne 7, 3) by decide +kernel) (by decide)) ?_
  refine zw_ite ?_ ?_
  · refine Iff.trans (zw_iconst (x := 1) (show decode cX12_bars 18 = .ok (.iconst 1, 1) by decide +kernel) (by decide)) ?_
    refine Iff.trans (zw_goto (t := 23) (show decode cX12_bars 19 = .ok (.goto 4, 3) by decide +kernel) (by decide)) ?_
    exact zw_iret2c (show decode cX12_bars 23 = .ok (.ireturn, 1) by decide +kernel) rfl (Or.inr rfl)
  · refine Iff.trans (zw_iconst (x := 0) (show decode cX12_bars 22 = .ok (.iconst 0, 1) by decide +kernel) (by decide)) ?_
    exact zw_iret2c (show decode cX12_bars 23 = .ok (.ireturn, 1) by decide +kernel) rfl (Or.inl rfl)

theorem bX12_canLie_0 {d : Nat} {σ : zS} {Q : Option Value → zS → Prop} (hl : zLay σ) {x1 x2 x3 x4 : Int32} : zCall (d + 1) kX12_canLie [.ref 131, .int x1, .int x2, .int x3, .int x4] σ Q ↔ (if x4 < (0 : Int32) then Q (some (.int 0)) σ else (vp_in x1 7 ∧ (if x4 ≤ ((zI σ 134 (x1 : Int32).toNatClampNeg) - x2) then zW (d + 1) kX12_canLie 24 [.ref 131, .int x1, .int x2, .int x3, .int x4, .int x4] [] σ Q else Q (some (.int 0)) σ))) := by
  show zW (d + 1) kX12_canLie 0 [.ref 131, .int x1, .int x2, .int x3, .int x4, .retAddr 0] [] σ Q ↔ _
  refine Iff.trans (zw_iload (show decode cX12_canLie 0 = .ok (.iload 4, 2) by decide +kernel) rfl) ?_
  refine Iff.trans (zw_if_lt (t := 18) (show decode cX12_canLie 2 = .ok (.ifCond .lt 16, 3) by decide +kernel) (by decide)) ?_
  refine zw_ite ?_ ?_
  · refine Iff.trans (zw_iconst (x := 0) (show decode cX12_canLie 18 = .ok (.iconst 0, 1) by decide +kernel) (by decide)) ?_
    exact zw_iret2c (show decode cX12_canLie 19 = .ok (.ireturn, 1) by decide +kernel) rfl (Or.inl rfl)
  · refine Iff.trans (zw_iload (show decode cX12_canLie 5 = .ok (.iload 4, 2) by decide +kernel) rfl) ?_
    refine Iff.trans (zw_aload_n (show decode cX12_canLie 7 = .ok (.aload_n 0, 1) by decide +kernel) rfl) ?_
    refine Iff.trans (zw_get (show decode cX12_canLie 8 = .ok (.getfield 17, 3) by decide +kernel) (by decide +kernel : zfld 12 17 = some (12, 6)) (hl.k2 zk_131) (hl.n2 zk_131) (zgetR (v := 134) (hl.r zrt_131_6) rfl)) ?_
    refine Iff.trans (zw_iload_n (show decode cX12_canLie 11 = .ok (.iload_n 1, 1) by decide +kernel) rfl) ?_
    refine Iff.trans (zw_iald2 (show decode cX12_canLie 12 = .ok (.iaload, 1) by decide +kernel) (hl.k2 zk_134) (hl.n2 zk_134) (hl.l2 zk_134 zl_134) (w := zI σ 134 (x1 : Int32).toNatClampNeg) rfl) ?_
    refine zw_and ?_
    refine Iff.trans (zw_iload_n (show decode cX12_canLie 13 = .ok (.iload_n 2, 1) by decide +kernel) rfl) ?_
    refine Iff.trans (zw_isub (show decode cX12_canLie 14 = .ok (.isub, 1) by decide +kernel)) ?_
    refine Iff.trans (zw_icmp_le (t := 20) (show decode cX12_canLie 15 = .ok (.if_icmp .le 5, 3) by decide +kernel) (by decide)) ?_
    refine zw_ite ?_ ?_
    · refine Iff.trans (zw_iload (show decode cX12_canLie 20 = .ok (.iload 4, 2) by decide +kernel) rfl) ?_
      refine Iff.trans (zw_istore (ls' := [.ref 131, .int x1, .int x2, .int x3, .int x4, .int x4]) (show decode cX12_canLie 22 = .ok (.istore 5, 2) by decide +kernel) (zset_s (Nat.le_of_ble_eq_true rfl) rfl)) ?_
      exact Iff.rfl
    · refine Iff.trans (zw_iconst (x := 0) (show decode cX12_canLie 18 = .ok (.iconst 0, 1) by decide +kernel) (by decide)) ?_
      exact zw_iret2c (show decode cX12_canLie 19 = .ok (.ireturn, 1) by decide +kernel) rfl (Or.inl rfl)

theorem bX12_canLie_24 {d : Nat} {σ : zS} {Q : Option Value → zS → Prop} (hl : zLay σ) {x1 x2 x3 x4 x5 : Int32} : zW (d + 1) kX12_canLie 24 [.ref 131, .int x1, .int x2, .int x3, .int x4, .int x5] [] σ Q ↔ (if (x4 + x2) ≤ x5 then Q (some (.int 1)) σ else zCall d kX12_bars [.ref 131, .int x1, .int x3, .int x5] σ (fun r σ' => zisN r = true ∧ zW (d + 1) kX12_canLie 41 [.ref 131, .int x1, .int x2, .int x3, .int x4, .int x5] (zRstk r ++ []) σ' Q)) := by
  refine Iff.trans (zw_iload (show decode cX12_canLie 24 = .ok (.iload 5, 2) by decide +kernel) rfl) ?_
  refine Iff.trans (zw_iload (show decode cX12_canLie 26 = .ok (.iload 4, 2) by decide +kernel) rfl) ?_
  refine Iff.trans (zw_iload_n (show decode cX12_canLie 28 = .ok (.iload_n 2, 1) by decide +kernel) rfl) ?_
  refine Iff.trans (zw_iadd (show decode cX12_canLie 29 = .ok (.iadd, 1) by decide +kernel)) ?_
  refine Iff.trans (zw_icmp_ge (t := 52) (show decode cX12_canLie 30 = .ok (.if_icmp .ge 22, 3) by decide +kernel) (by decide)) ?_
  refine zw_ite ?_ ?_
  · refine Iff.trans (zw_iconst (x := 1) (show decode cX12_canLie 52 = .ok (.iconst 1, 1) by decide +kernel) (by decide)) ?_
    exact zw_iret2c (show decode cX12_canLie 53 = .ok (.ireturn, 1) by decide +kernel) rfl (Or.inr rfl)
  · refine Iff.trans (zw_aload_n (show decode cX12_canLie 33 = .ok (.aload_n 0, 1) by decide +kernel) rfl) ?_
    refine Iff.trans (zw_iload_n (show decode cX12_canLie 34 = .ok (.iload_n 1, 1) by decide +kernel) rfl) ?_
    refine Iff.trans (zw_iload_n (show decode cX12_canLie 35 = .ok (.iload_n 3, 1) by decide +kernel) rfl) ?_
    refine Iff.trans (zw_iload (show decode cX12_canLie 36 = .ok (.iload 5, 2) by decide +kernel) rfl) ?_
    refine Iff.trans (zw_invV (K' := kX12_bars) (as' := [.int x1, .int x3, .int x5]) (rest := []) (show decode cX12_canLie 38 = .ok (.invokevirtual 215, 3) by decide +kernel) (by rfl) rfl rfl rfl (hl.k2 zk_131) (by decide) (hl.n2 zk_131) ⟨Nat.le_of_ble_eq_true rfl, Nat.le_of_ble_eq_true rfl, Nat.le_of_ble_eq_true rfl⟩) ?_
    exact Iff.rfl

theorem bX12_canLie_41 {d : Nat} {σ : zS} {Q : Option Value → zS → Prop} (hl : zLay σ) {x1 x2 x3 x4 x5 y0 : Int32} : zW (d + 1) kX12_canLie 41 [.ref 131, .int x1, .int x2, .int x3, .int x4, .int x5] [.int y0] σ Q ↔ (if y0 = (0 : Int32) then zW (d + 1) kX12_canLie 24 [.ref 131, .int x1, .int x2, .int x3, .int x4, .int (x5 + 1)] [] σ Q else Q (some (.int 0)) σ) := by
  refine Iff.trans (zw_if_eq (t := 46) (show decode cX12_canLie 41 = .ok (.ifCond .eq 5, 3) by decide +kernel) (by decide)) ?_
  refine zw_ite ?_ ?_
  · refine Iff.trans (zw_iinc (w := 1) (ls' := [.ref 131, .int x1, .int x2, .int x3, .int x4, .int (x5 + 1)]) (show decode cX12_canLie 46 = .ok (.iinc 5 1, 3) by decide +kernel) rfl (by decide) (zset_s (Nat.le_of_ble_eq_true rfl) rfl)) ?_
    refine Iff.trans (zw_goto (t := 24) (show decode cX12_canLie 49 = .ok (.goto (-25), 3) by decide +kernel) (by decide)) ?_
    exact Iff.rfl
  · refine Iff.trans (zw_iconst (x := 0) (show decode cX12_canLie 44 = .ok (.iconst 0, 1) by decide +kernel) (by decide)) ?_
    exact zw_iret2c (show decode cX12_canLie 45 = .ok (.ireturn, 1) by decide +kernel) rfl (Or.inl rfl)

theorem bX12_can_0 {d : Nat} {σ : zS} {Q : Option Value → zS → Prop} (hl : zLay σ) {x1 x2 x3 x4 : Int32} : zCall (d + 1) kX12_can [.ref 131, .int x1, .int x2, .int x3, .int x4] σ Q ↔ zCall d kX12_isBrook [.ref 131, .int x1] (zsI σ 131 (upd (zI σ 131) 0 0)) (fun r σ' => zisN r = true ∧ zW (d + 1) kX12_can 10 [.ref 131, .int x1, .int x2, .int x3, .int x4] (zRstk r ++ []) σ' Q) := by
  show zW (d + 1) kX12_can 0 [.ref 131, .int x1, .int x2, .int x3, .int x4] [] σ Q ↔ _
  refine Iff.trans (zw_aload_n (show decode cX12_can 0 = .ok (.aload_n 0, 1) by decide +kernel) rfl) ?_
  refine Iff.trans (zw_iconst (x := 0) (show decode cX12_can 1 = .ok (.iconst 0, 1) by decide +kernel) (by decide)) ?_
  refine Iff.trans (zw_putI (show decode cX12_can 2 = .ok (.putfield 118, 3) by decide +kernel) (by decide +kernel : zfld 12 118 = some (12, 0)) (hl.k2 zk_131) (hl.n2 zk_131) rfl (Or.inl rfl) (σ' := (zsI σ 131 (upd (zI σ 131) 0 0))) rfl) ?_
  refine Iff.trans (zw_aload_n (show decode cX12_can 5 = .ok (.aload_n 0, 1) by decide +kernel) rfl) ?_
  refine Iff.trans (zw_iload_n (show decode cX12_can 6 = .ok (.iload_n 1, 1) by decide +kernel) rfl) ?_
  refine Iff.trans (zw_invV (K' := kX12_isBrook) (as' := [.int x1]) (rest := []) (show decode cX12_can 7 = .ok (.invokevirtual 193, 3) by decide +kernel) (by rfl) rfl rfl rfl (hl.I.k2 zk_131) (by decide) (hl.I.n2 zk_131) ⟨Nat.le_of_ble_eq_true rfl, Nat.le_of_ble_eq_true rfl, Nat.le_of_ble_eq_true rfl⟩) ?_
  exact Iff.rfl

theorem bX12_can_10 {d : Nat} {σ : zS} {Q : Option Value → zS → Prop} (hl : zLay σ) {x1 x2 x3 x4 y0 : Int32} : zW (d + 1) kX12_can 10 [.ref 131, .int x1, .int x2, .int x3, .int x4] [.int y0] σ Q ↔ (if y0 = (0 : Int32) then Q (some (.int (-1))) σ else zCall d kX12_isStick [.ref 131, .int x2] σ (fun r σ' => zisN r = true ∧ zW (d + 1) kX12_can 18 [.ref 131, .int x1, .int x2, .int x3, .int x4] (zRstk r ++ []) σ' Q)) := by
  refine Iff.trans (zw_if_eq (t := 32) (show decode cX12_can 10 = .ok (.ifCond .eq 22, 3) by decide +kernel) (by decide)) ?_
  refine zw_ite ?_ ?_
  · refine Iff.trans (zw_iconst (x := (-1)) (show decode cX12_can 32 = .ok (.iconst (-1), 1) by decide +kernel) (by decide)) ?_
    refine Iff.trans (zw_goto (t := 58) (show decode cX12_can 33 = .ok (.goto 25, 3) by decide +kernel) (by decide)) ?_
    exact zw_iret1 (show decode cX12_can 58 = .ok (.ireturn, 1) by decide +kernel) rfl
  · refine Iff.trans (zw_aload_n (show decode cX12_can 13 = .ok (.aload_n 0, 1) by decide +kernel) rfl) ?_
    refine Iff.trans (zw_iload_n (show decode cX12_can 14 = .ok (.iload_n 2, 1) by decide +kernel) rfl) ?_
    refine Iff.trans (zw_invV (K' := kX12_isStick) (as' := [.int x2]) (rest := []) (show decode cX12_can 15 = .ok (.invokevirtual 209, 3) by decide +kernel) (by rfl) rfl rfl rfl (hl.k2 zk_131) (by decide) (hl.n2 zk_131) ⟨Nat.le_of_ble_eq_true rfl, Nat.le_of_ble_eq_true rfl, Nat.le_of_ble_eq_true rfl⟩) ?_
    exact Iff.rfl

theorem bX12_can_18 {d : Nat} {σ : zS} {Q : Option Value → zS → Prop} (hl : zLay σ) {x1 x2 x3 x4 y0 : Int32} : zW (d + 1) kX12_can 18 [.ref 131, .int x1, .int x2, .int x3, .int x4] [.int y0] σ Q ↔ (if y0 = (0 : Int32) then Q (some (.int (-1))) σ else zCall d kX12_isCell [.ref 131, .int x1, .int x3, .int x4] σ (fun r σ' => zisN r = true ∧ zW (d + 1) kX12_can 29 [.ref 131, .int x1, .int x2, .int x3, .int x4] (zRstk r ++ []) σ' Q)) := by
  refine Iff.trans (zw_if_eq (t := 32) (show decode cX12_can 18 = .ok (.ifCond .eq 14, 3) by decide +kernel) (by decide)) ?_
  refine zw_ite ?_ ?_
  · refine Iff.trans (zw_iconst (x := (-1)) (show decode cX12_can 32 = .ok (.iconst (-1), 1) by decide +kernel) (by decide)) ?_
    refine Iff.trans (zw_goto (t := 58) (show decode cX12_can 33 = .ok (.goto 25, 3) by decide +kernel) (by decide)) ?_
    exact zw_iret1 (show decode cX12_can 58 = .ok (.ireturn, 1) by decide +kernel) rfl
  · refine Iff.trans (zw_aload_n (show decode cX12_can 21 = .ok (.aload_n 0, 1) by decide +kernel) rfl) ?_
    refine Iff.trans (zw_iload_n (show decode cX12_can 22 = .ok (.iload_n 1, 1) by decide +kernel) rfl) ?_
    refine Iff.trans (zw_iload_n (show decode cX12_can 23 = .ok (.iload_n 3, 1) by decide +kernel) rfl) ?_
    refine Iff.trans (zw_iload (show decode cX12_can 24 = .ok (.iload 4, 2) by decide +kernel) rfl) ?_
    refine Iff.trans (zw_invV (K' := kX12_isCell) (as' := [.int x1, .int x3, .int x4]) (rest := []) (show decode cX12_can 26 = .ok (.invokevirtual 203, 3) by decide +kernel) (by rfl) rfl rfl rfl (hl.k2 zk_131) (by decide) (hl.n2 zk_131) ⟨Nat.le_of_ble_eq_true rfl, Nat.le_of_ble_eq_true rfl, Nat.le_of_ble_eq_true rfl⟩) ?_
    exact Iff.rfl

theorem bX12_can_29 {d : Nat} {σ : zS} {Q : Option Value → zS → Prop} (hl : zLay σ) {x1 x2 x3 x4 y0 : Int32} : zW (d + 1) kX12_can 29 [.ref 131, .int x1, .int x2, .int x3, .int x4] [.int y0] σ Q ↔ (if y0 = (0 : Int32) then Q (some (.int (-1))) σ else (vp_in x2 11 ∧ zCall d kX12_canLie [.ref 131, .int x1, .int (zI σ 136 (x2 : Int32).toNatClampNeg), .int x3, .int x4] σ (fun r σ' => zisN r = true ∧ zW (d + 1) kX12_can 50 [.ref 131, .int x1, .int x2, .int x3, .int x4] (zRstk r ++ []) σ' Q))) := by
  refine Iff.trans (zw_if_ne (t := 36) (show decode cX12_can 29 = .ok (.ifCond .ne 7, 3) by decide +kernel) (by decide)) ?_
  refine zw_ite ?_ ?_
  · refine Iff.trans (zw_iconst (x := (-1)) (show decode cX12_can 32 = .ok (.iconst (-1), 1) by decide +kernel) (by decide)) ?_
    refine Iff.trans (zw_goto (t := 58) (show decode cX12_can 33 = .ok (.goto 25, 3) by decide +kernel) (by decide)) ?_
    exact zw_iret1 (show decode cX12_can 58 = .ok (.ireturn, 1) by decide +kernel) rfl
  · refine Iff.trans (zw_aload_n (show decode cX12_can 36 = .ok (.aload_n 0, 1) by decide +kernel) rfl) ?_
    refine Iff.trans (zw_iload_n (show decode cX12_can 37 = .ok (.iload_n 1, 1) by decide +kernel) rfl) ?_
    refine Iff.trans (zw_aload_n (show decode cX12_can 38 = .ok (.aload_n 0, 1) by decide +kernel) rfl) ?_
    refine Iff.trans (zw_get (show decode cX12_can 39 = .ok (.getfield 23, 3) by decide +kernel) (by decide +kernel : zfld 12 23 = some (12, 8)) (hl.k2 zk_131) (hl.n2 zk_131) (zgetR (v := 136) (hl.r zrt_131_8) rfl)) ?_
    refine Iff.trans (zw_iload_n (show decode cX12_can 42 = .ok (.iload_n 2, 1) by decide +kernel) rfl) ?_
    refine Iff.trans (zw_iald2 (show decode cX12_can 43 = .ok (.iaload, 1) by decide +kernel) (hl.k2 zk_136) (hl.n2 zk_136) (hl.l2 zk_136 zl_136) (w := zI σ 136 (x2 : Int32).toNatClampNeg) rfl) ?_
    refine zw_and ?_
    refine Iff.trans (zw_iload_n (show decode cX12_can 44 = .ok (.iload_n 3, 1) by decide +kernel) rfl) ?_
    refine Iff.trans (zw_iload (show decode cX12_can 45 = .ok (.iload 4, 2) by decide +kernel) rfl) ?_
    refine Iff.trans (zw_invV (K' := kX12_canLie) (as' := [.int x1, .int (zI σ 136 (x2 : Int32).toNatClampNeg), .int x3, .int x4]) (rest := []) (show decode cX12_can 47 = .ok (.invokevirtual 218, 3) by decide +kernel) (by rfl) rfl rfl rfl (hl.k2 zk_131) (by decide) (hl.n2 zk_131) ⟨Nat.le_of_ble_eq_true rfl, Nat.le_of_ble_eq_true rfl, Nat.le_of_ble_eq_true rfl⟩) ?_
    exact Iff.rfl

theorem bX12_can_50 {d : Nat} {σ : zS} {Q : Option Value → zS → Prop} (hl : zLay σ) {x1 x2 x3 x4 y0 : Int32} : zW (d + 1) kX12_can 50 [.ref 131, .int x1, .int x2, .int x3, .int x4] [.int y0] σ Q ↔ (if y0 = (0 : Int32) then Q (some (.int 0)) σ else Q (some (.int 1)) σ) := by
  refine Iff.trans (zw_if_eq (t := 57) (show decode cX12_can 50 = .ok (.ifCond .eq 7, 3) by decide +kernel) (by decide)) ?_
  refine zw_ite ?_ ?_
  · refine Iff.trans (zw_iconst (x := 0) (show decode cX12_can 57 = .ok (.iconst 0, 1) by decide +kernel) (by decide)) ?_
    exact zw_iret1 (show decode cX12_can 58 = .ok (.ireturn, 1) by decide +kernel) rfl
  · refine Iff.trans (zw_iconst (x := 1) (show decode cX12_can 53 = .ok (.iconst 1, 1) by decide +kernel) (by decide)) ?_
    refine Iff.trans (zw_goto (t := 58) (show decode cX12_can 54 = .ok (.goto 4, 3) by decide +kernel) (by decide)) ?_
    exact zw_iret1 (show decode cX12_can 58 = .ok (.ireturn, 1) by decide +kernel) rfl

theorem bX12_of_0 {d : Nat} {σ : zS} {Q : Option Value → zS → Prop} (hl : zLay σ) {x1 x2 : Int32} : zCall d kX12_of [.ref 131, .int x1, .int x2] σ Q ↔ (vp_in ((11 * x1) + x2) 66 ∧ Q (some (.int (zI σ 139 ((11 * x1) + x2 : Int32).toNatClampNeg))) σ) := by
  show zW d kX12_of 0 [.ref 131, .int x1, .int x2] [] σ Q ↔ _
  refine Iff.trans (zw_aload_n (show decode cX12_of 0 = .ok (.aload_n 0, 1) by decide +kernel) rfl) ?_
  refine Iff.trans (zw_get (show decode cX12_of 1 = .ok (.getfield 36, 3) by decide +kernel) (by decide +kernel : zfld 12 36 = some (12, 16)) (hl.k2 zk_131) (hl.n2 zk_131) (zgetR (v := 139) (hl.r zrt_131_16) rfl)) ?_
  refine Iff.trans (zw_bipush (x := 11) (show decode cX12_of 4 = .ok (.bipush 11, 2) by decide +kernel) (by decide)) ?_
  refine Iff.trans (zw_iload_n (show decode cX12_of 6 = .ok (.iload_n 1, 1) by decide +kernel) rfl) ?_
  refine Iff.trans (zw_imul (show decode cX12_of 7 = .ok (.imul, 1) by decide +kernel)) ?_
  refine Iff.trans (zw_iload_n (show decode cX12_of 8 = .ok (.iload_n 2, 1) by decide +kernel) rfl) ?_
  refine Iff.trans (zw_iadd (show decode cX12_of 9 = .ok (.iadd, 1) by decide +kernel)) ?_
  refine Iff.trans (zw_iald2 (show decode cX12_of 10 = .ok (.iaload, 1) by decide +kernel) (hl.k2 zk_139) (hl.n2 zk_139) (hl.l2 zk_139 zl_139) (w := zI σ 139 ((11 * x1) + x2 : Int32).toNatClampNeg) rfl) ?_
  refine zw_and ?_
  exact zw_iret1 (show decode cX12_of 11 = .ok (.ireturn, 1) by decide +kernel) rfl

theorem bX12_set_0 {d : Nat} {σ : zS} {Q : Option Value → zS → Prop} (hl : zLay σ) {x1 x2 x3 : Int32} : zCall d kX12_set [.ref 131, .int x1, .int x2, .int x3] σ Q ↔ (vp_in ((11 * x1) + x2) 66 ∧ Q none (zsI σ 139 (upd (zI σ 139) ((11 * x1) + x2 : Int32).toNatClampNeg x3))) := by
  show zW d kX12_set 0 [.ref 131, .int x1, .int x2, .int x3] [] σ Q ↔ _
  refine Iff.trans (zw_aload_n (show decode cX12_set 0 = .ok (.aload_n 0, 1) by decide +kernel) rfl) ?_
  refine Iff.trans (zw_get (show decode cX12_set 1 = .ok (.getfield 36, 3) by decide +kernel) (by decide +kernel : zfld 12 36 = some (12, 16)) (hl.k2 zk_131) (hl.n2 zk_131) (zgetR (v := 139) (hl.r zrt_131_16) rfl)) ?_
  refine Iff.trans (zw_bipush (x := 11) (show decode cX12_set 4 = .ok (.bipush 11, 2) by decide +kernel) (by decide)) ?_
  refine Iff.trans (zw_iload_n (show decode cX12_set 6 = .ok (.iload_n 1, 1) by decide +kernel) rfl) ?_
  refine Iff.trans (zw_imul (show decode cX12_set 7 = .ok (.imul, 1) by decide +kernel)) ?_
  refine Iff.trans (zw_iload_n (show decode cX12_set 8 = .ok (.iload_n 2, 1) by decide +kernel) rfl) ?_
  refine Iff.trans (zw_iadd (show decode cX12_set 9 = .ok (.iadd, 1) by decide +kernel)) ?_
  refine Iff.trans (zw_iload_n (show decode cX12_set 10 = .ok (.iload_n 3, 1) by decide +kernel) rfl) ?_
  refine Iff.trans (zw_iast2 (show decode cX12_set 11 = .ok (.iastore, 1) by decide +kernel) (hl.k2 zk_139) (hl.n2 zk_139) (hl.l2 zk_139 zl_139) (σ' := (zsI σ 139 (upd (zI σ 139) ((11 * x1) + x2 : Int32).toNatClampNeg x3))) rfl) ?_
  refine zw_and ?_
  exact zw_ret (show decode cX12_set 12 = .ok (.return_, 1) by decide +kernel) rfl

theorem bX12_isRunner_0 {d : Nat} {σ : zS} {Q : Option Value → zS → Prop} (hl : zLay σ) {x1 : Int32} : zCall d kX12_isRunner [.ref 131, .int x1] σ Q ↔ (if x1 < (0 : Int32) then Q (some (.int 0)) σ else (if (zI σ 131 20) ≤ x1 then Q (some (.int 0)) σ else Q (some (.int 1)) σ)) := by
  show zW d kX12_isRunner 0 [.ref 131, .int x1] [] σ Q ↔ _
  refine Iff.trans (zw_iload_n (show decode cX12_isRunner 0 = .ok (.iload_n 1, 1) by decide +kernel) rfl) ?_
  refine Iff.trans (zw_if_lt (t := 16) (show decode cX12_isRunner 1 = .ok (.ifCond .lt 15, 3) by decide +kernel) (by decide)) ?_
  refine zw_ite ?_ ?_
  · refine Iff.trans (zw_iconst (x := 0) (show decode cX12_isRunner 16 = .ok (.iconst 0, 1) by decide +kernel) (by decide)) ?_
    exact zw_iret2c (show decode cX12_isRunner 17 = .ok (.ireturn, 1) by decide +kernel) rfl (Or.inl rfl)
  · refine Iff.trans (zw_iload_n (show decode cX12_isRunner 4 = .ok (.iload_n 1, 1) by decide +kernel) rfl) ?_
    refine Iff.trans (zw_aload_n (show decode cX12_isRunner 5 = .ok (.aload_n 0, 1) by decide +kernel) rfl) ?_
    refine Iff.trans (zw_getI (show decode cX12_isRunner 6 = .ok (.getfield 222, 3) by decide +kernel) (by decide +kernel : zfld 12 222 = some (12, 20)) (hl.k2 zk_131) (hl.n2 zk_131) (Or.inl rfl) (w := zI σ 131 20) rfl) ?_
    refine Iff.trans (zw_icmp_ge (t := 16) (show decode cX12_isRunner 9 = .ok (.if_icmp .ge 7, 3) by decide +kernel) (by decide)) ?_
    refine zw_ite ?_ ?_
    · refine Iff.trans (zw_iconst (x := 0) (show decode cX12_isRunner 16 = .ok (.iconst 0, 1) by decide +kernel) (by decide)) ?_
      exact zw_iret2c (show decode cX12_isRunner 17 = .ok (.ireturn, 1) by decide +kernel) rfl (Or.inl rfl)
    · refine Iff.trans (zw_iconst (x := 1) (show decode cX12_isRunner 12 = .ok (.iconst 1, 1) by decide +kernel) (by decide)) ?_
      refine Iff.trans (zw_goto (t := 17) (show decode cX12_isRunner 13 = .ok (.goto 4, 3) by decide +kernel) (by decide)) ?_
      exact zw_iret2c (show decode cX12_isRunner 17 = .ok (.ireturn, 1) by decide +kernel) rfl (Or.inr rfl)

theorem bX12_on_0 {d : Nat} {σ : zS} {Q : Option Value → zS → Prop} (hl : zLay σ) {x1 : Int32} : zCall (d + 1) kX12_on [.ref 131, .int x1] σ Q ↔ zCall d kX12_isBrook [.ref 131, .int x1] (zsI σ 131 (upd (zI σ 131) 0 0)) (fun r σ' => zisN r = true ∧ zW (d + 1) kX12_on 10 [.ref 131, .int x1] (zRstk r ++ []) σ' Q) := by
  show zW (d + 1) kX12_on 0 [.ref 131, .int x1] [] σ Q ↔ _
  refine Iff.trans (zw_aload_n (show decode cX12_on 0 = .ok (.aload_n 0, 1) by decide +kernel) rfl) ?_
  refine Iff.trans (zw_iconst (x := 0) (show decode cX12_on 1 = .ok (.iconst 0, 1) by decide +kernel) (by decide)) ?_
  refine Iff.trans (zw_putI (show decode cX12_on 2 = .ok (.putfield 118, 3) by decide +kernel) (by decide +kernel : zfld 12 118 = some (12, 0)) (hl.k2 zk_131) (hl.n2 zk_131) rfl (Or.inl rfl) (σ' := (zsI σ 131 (upd (zI σ 131) 0 0))) rfl) ?_
  refine Iff.trans (zw_aload_n (show decode cX12_on 5 = .ok (.aload_n 0, 1) by decide +kernel) rfl) ?_
  refine Iff.trans (zw_iload_n (show decode cX12_on 6 = .ok (.iload_n 1, 1) by decide +kernel) rfl) ?_
  refine Iff.trans (zw_invV (K' := kX12_isBrook) (as' := [.int x1]) (rest := []) (show decode cX12_on 7 = .ok (.invokevirtual 193, 3) by decide +kernel) (by rfl) rfl rfl rfl (hl.I.k2 zk_131) (by decide) (hl.I.n2 zk_131) ⟨Nat.le_of_ble_eq_true rfl, Nat.le_of_ble_eq_true rfl, Nat.le_of_ble_eq_true rfl⟩) ?_
  exact Iff.rfl

theorem bX12_on_10 {d : Nat} {σ : zS} {Q : Option Value → zS → Prop} (hl : zLay σ) {x1 y0 : Int32} : zW (d + 1) kX12_on 10 [.ref 131, .int x1] [.int y0] σ Q ↔ (if y0 = (0 : Int32) then Q (some (.int 0)) σ else Q (some (.int 1)) (zsI σ 131 (upd (upd (upd (zI σ 131) 19 x1) 20 0) 21 (-1)))) := by
  refine Iff.trans (zw_if_ne (t := 15) (show decode cX12_on 10 = .ok (.ifCond .ne 5, 3) by decide +kernel) (by decide)) ?_
  refine zw_ite ?_ ?_
  · refine Iff.trans (zw_iconst (x := 0) (show decode cX12_on 13 = .ok (.iconst 0, 1) by decide +kernel) (by decide)) ?_
    exact zw_iret2c (show decode cX12_on 14 = .ok (.ireturn, 1) by decide +kernel) rfl (Or.inl rfl)
  · refine Iff.trans (zw_aload_n (show decode cX12_on 15 = .ok (.aload_n 0, 1) by decide +kernel) rfl) ?_
    refine Iff.trans (zw_iload_n (show decode cX12_on 16 = .ok (.iload_n 1, 1) by decide +kernel) rfl) ?_
    refine Iff.trans (zw_putI (show decode cX12_on 17 = .ok (.putfield 45, 3) by decide +kernel) (by decide +kernel : zfld 12 45 = some (12, 19)) (hl.k2 zk_131) (hl.n2 zk_131) rfl (Or.inl rfl) (σ' := (zsI σ 131 (upd (zI σ 131) 19 x1))) rfl) ?_
    refine Iff.trans (zw_aload_n (show decode cX12_on 20 = .ok (.aload_n 0, 1) by decide +kernel) rfl) ?_
    refine Iff.trans (zw_iconst (x := 0) (show decode cX12_on 21 = .ok (.iconst 0, 1) by decide +kernel) (by decide)) ?_
    refine Iff.trans (zw_putI (show decode cX12_on 22 = .ok (.putfield 222, 3) by decide +kernel) (by decide +kernel : zfld 12 222 = some (12, 20)) (hl.I.k2 zk_131) (hl.I.n2 zk_131) rfl (Or.inl rfl) (σ' := (zsI σ 131 (upd (upd (zI σ 131) 19 x1) 20 0))) (Eq.trans (congrArg (fun f => zsI (zsI σ 131 (upd (zI σ 131) 19 x1)) 131 (upd f 20 0)) zI_self) zsI_s)) ?_
    refine Iff.trans (zw_aload_n (show decode cX12_on 25 = .ok (.aload_n 0, 1) by decide +kernel) rfl) ?_
    refine Iff.trans (zw_iconst (x := (-1)) (show decode cX12_on 26 = .ok (.iconst (-1), 1) by decide +kernel) (by decide)) ?_
    refine Iff.trans (zw_putI (show decode cX12_on 27 = .ok (.putfield 48, 3) by decide +kernel) (by decide +kernel : zfld 12 48 = some (12, 21)) (hl.I.k2 zk_131) (hl.I.n2 zk_131) rfl (Or.inl rfl) (σ' := (zsI σ 131 (upd (upd (upd (zI σ 131) 19 x1) 20 0) 21 (-1)))) (Eq.trans (congrArg (fun f => zsI (zsI σ 131 (upd (upd (zI σ 131) 19 x1) 20 0)) 131 (upd f 21 (-1))) zI_self) zsI_s)) ?_
    refine Iff.trans (zw_iconst (x := 1) (show decode cX12_on 30 = .ok (.iconst 1, 1) by decide +kernel) (by decide)) ?_
    exact zw_iret2c (show decode cX12_on 31 = .ok (.ireturn, 1) by decide +kernel) rfl (Or.inr rfl)

theorem bX12_place_0 {d : Nat} {σ : zS} {Q : Option Value → zS → Prop} (hl : zLay σ) {x1 : Int32} : zCall (d + 1) kX12_place [.ref 131, .int x1] σ Q ↔ zCall d kX12_set [.ref 131, .int x1, .int 4, .int 0] σ (fun r σ' => zisN r = true ∧ zW (d + 1) kX12_place 7 [.ref 131, .int x1] (zRstk r ++ []) σ' Q) := by
  show zW (d + 1) kX12_place 0 [.ref 131, .int x1] [] σ Q ↔ _
  refine Iff.trans (zw_aload_n (show decode cX12_place 0 = .ok (.aload_n 0, 1) by decide +kernel) rfl) ?_
  refine Iff.trans (zw_iload_n (show decode cX12_place 1 = .ok (.iload_n 1, 1) by decide +kernel) rfl) ?_
  refine Iff.trans (zw_iconst (x := 4) (show decode cX12_place 2 = .ok (.iconst 4, 1) by decide +kernel) (by decide)) ?_
  refine Iff.trans (zw_iconst (x := 0) (show decode cX12_place 3 = .ok (.iconst 0, 1) by decide +kernel) (by decide)) ?_
  refine Iff.trans (zw_invV (K' := kX12_set) (as' := [.int x1, .int 4, .int 0]) (rest := []) (show decode cX12_place 4 = .ok (.invokevirtual 225, 3) by decide +kernel) (by rfl) rfl rfl rfl (hl.k2 zk_131) (by decide) (hl.n2 zk_131) ⟨Nat.le_of_ble_eq_true rfl, Nat.le_of_ble_eq_true rfl, Nat.le_of_ble_eq_true rfl⟩) ?_
  exact Iff.rfl

theorem bX12_place_7 {d : Nat} {σ : zS} {Q : Option Value → zS → Prop} (hl : zLay σ) {x1 : Int32} : zW (d + 1) kX12_place 7 [.ref 131, .int x1] [] σ Q ↔ zCall d kX12_of [.ref 131, .int x1, .int 3] σ (fun r σ' => zisN r = true ∧ zW (d + 1) kX12_place 16 [.ref 131, .int x1] (zRstk r ++ [.int 5, .int x1, .ref 131]) σ' Q) := by
  refine Iff.trans (zw_aload_n (show decode cX12_place 7 = .ok (.aload_n 0, 1) by decide +kernel) rfl) ?_
  refine Iff.trans (zw_iload_n (show decode cX12_place 8 = .ok (.iload_n 1, 1) by decide +kernel) rfl) ?_
  refine Iff.trans (zw_iconst (x := 5) (show decode cX12_place 9 = .ok (.iconst 5, 1) by decide +kernel) (by decide)) ?_
  refine Iff.trans (zw_aload_n (show decode cX12_place 10 = .ok (.aload_n 0, 1) by decide +kernel) rfl) ?_
  refine Iff.trans (zw_iload_n (show decode cX12_place 11 = .ok (.iload_n 1, 1) by decide +kernel) rfl) ?_
  refine Iff.trans (zw_iconst (x := 3) (show decode cX12_place 12 = .ok (.iconst 3, 1) by decide +kernel) (by decide)) ?_
  refine Iff.trans (zw_invV (K' := kX12_of) (as' := [.int x1, .int 3]) (rest := [.int 5, .int x1, .ref 131]) (show decode cX12_place 13 = .ok (.invokevirtual 229, 3) by decide +kernel) (by rfl) rfl rfl rfl (hl.k2 zk_131) (by decide) (hl.n2 zk_131) ⟨Nat.le_of_ble_eq_true rfl, Nat.le_of_ble_eq_true rfl, Nat.le_of_ble_eq_true rfl⟩) ?_
  exact Iff.rfl

theorem bX12_place_16 {d : Nat} {σ : zS} {Q : Option Value → zS → Prop} (hl : zLay σ) {x1 y0 y1 y2 : Int32} : zW (d + 1) kX12_place 16 [.ref 131, .int x1] [.int y0, .int y1, .int y2, .ref 131] σ Q ↔ zCall d kX12_set [.ref 131, .int y2, .int y1, .int y0] σ (fun r σ' => zisN r = true ∧ zW (d + 1) kX12_place 19 [.ref 131, .int x1] (zRstk r ++ []) σ' Q) := by
  refine Iff.trans (zw_invV (K' := kX12_set) (as' := [.int y2, .int y1, .int y0]) (rest := []) (show decode cX12_place 16 = .ok (.invokevirtual 225, 3) by decide +kernel) (by rfl) rfl rfl rfl (hl.k2 zk_131) (by decide) (hl.n2 zk_131) ⟨Nat.le_of_ble_eq_true rfl, Nat.le_of_ble_eq_true rfl, Nat.le_of_ble_eq_true rfl⟩) ?_
  exact Iff.rfl

theorem bX12_place_19 {d : Nat} {σ : zS} {Q : Option Value → zS → Prop} (hl : zLay σ) {x1 : Int32} : zW (d + 1) kX12_place 19 [.ref 131, .int x1] [] σ Q ↔ zCall d kX12_set [.ref 131, .int x1, .int 6, .int 0] σ (fun r σ' => zisN r = true ∧ zW (d + 1) kX12_place 27 [.ref 131, .int x1] (zRstk r ++ []) σ' Q) := by
  refine Iff.trans (zw_aload_n (show decode cX12_place 19 = .ok (.aload_n 0, 1) by decide +kernel) rfl) ?_
  refine Iff.trans (zw_iload_n (show decode cX12_place 20 = .ok (.iload_n 1, 1) by decide +kernel) rfl) ?_
  refine Iff.trans (zw_bipush (x := 6) (show decode cX12_place 21 = .ok (.bipush 6, 2) by decide +kernel) (by decide)) ?_
  refine Iff.trans (zw_iconst (x := 0) (show decode cX12_place 23 = .ok (.iconst 0, 1) by decide +kernel) (by decide)) ?_
  refine Iff.trans (zw_invV (K' := kX12_set) (as' := [.int x1, .int 6, .int 0]) (rest := []) (show decode cX12_place 24 = .ok (.invokevirtual 225, 3) by decide +kernel) (by rfl) rfl rfl rfl (hl.k2 zk_131) (by decide) (hl.n2 zk_131) ⟨Nat.le_of_ble_eq_true rfl, Nat.le_of_ble_eq_true rfl, Nat.le_of_ble_eq_true rfl⟩) ?_
  exact Iff.rfl

theorem bX12_place_27 {d : Nat} {σ : zS} {Q : Option Value → zS → Prop} (hl : zLay σ) {x1 : Int32} : zW (d + 1) kX12_place 27 [.ref 131, .int x1] [] σ Q ↔ zCall d kX12_set [.ref 131, .int x1, .int 7, .int (-1)] σ (fun r σ' => zisN r = true ∧ zW (d + 1) kX12_place 35 [.ref 131, .int x1] (zRstk r ++ []) σ' Q) := by
  refine Iff.trans (zw_aload_n (show decode cX12_place 27 = .ok (.aload_n 0, 1) by decide +kernel) rfl) ?_
  refine Iff.trans (zw_iload_n (show decode cX12_place 28 = .ok (.iload_n 1, 1) by decide +kernel) rfl) ?_
  refine Iff.trans (zw_bipush (x := 7) (show decode cX12_place 29 = .ok (.bipush 7, 2) by decide +kernel) (by decide)) ?_
  refine Iff.trans (zw_iconst (x := (-1)) (show decode cX12_place 31 = .ok (.iconst (-1), 1) by decide +kernel) (by decide)) ?_
  refine Iff.trans (zw_invV (K' := kX12_set) (as' := [.int x1, .int 7, .int (-1)]) (rest := []) (show decode cX12_place 32 = .ok (.invokevirtual 225, 3) by decide +kernel) (by rfl) rfl rfl rfl (hl.k2 zk_131) (by decide) (hl.n2 zk_131) ⟨Nat.le_of_ble_eq_true rfl, Nat.le_of_ble_eq_true rfl, Nat.le_of_ble_eq_true rfl⟩) ?_
  exact Iff.rfl

theorem bX12_place_35 {d : Nat} {σ : zS} {Q : Option Value → zS → Prop} (hl : zLay σ) {x1 : Int32} : zW (d + 1) kX12_place 35 [.ref 131, .int x1] [] σ Q ↔ zCall d kX12_set [.ref 131, .int x1, .int 8, .int (-1)] σ (fun r σ' => zisN r = true ∧ zW (d + 1) kX12_place 43 [.ref 131, .int x1] (zRstk r ++ []) σ' Q) := by
  refine Iff.trans (zw_aload_n (show decode cX12_place 35 = .ok (.aload_n 0, 1) by decide +kernel) rfl) ?_
  refine Iff.trans (zw_iload_n (show decode cX12_place 36 = .ok (.iload_n 1, 1) by decide +kernel) rfl) ?_
  refine Iff.trans (zw_bipush (x := 8) (show decode cX12_place 37 = .ok (.bipush 8, 2) by decide +kernel) (by decide)) ?_
  refine Iff.trans (zw_iconst (x := (-1)) (show decode cX12_place 39 = .ok (.iconst (-1), 1) by decide +kernel) (by decide)) ?_
  refine Iff.trans (zw_invV (K' := kX12_set) (as' := [.int x1, .int 8, .int (-1)]) (rest := []) (show decode cX12_place 40 = .ok (.invokevirtual 225, 3) by decide +kernel) (by rfl) rfl rfl rfl (hl.k2 zk_131) (by decide) (hl.n2 zk_131) ⟨Nat.le_of_ble_eq_true rfl, Nat.le_of_ble_eq_true rfl, Nat.le_of_ble_eq_true rfl⟩) ?_
  exact Iff.rfl

theorem bX12_place_43 {d : Nat} {σ : zS} {Q : Option Value → zS → Prop} (hl : zLay σ) {x1 : Int32} : zW (d + 1) kX12_place 43 [.ref 131, .int x1] [] σ Q ↔ zCall d kX12_set [.ref 131, .int x1, .int 9, .int 0] σ (fun r σ' => zisN r = true ∧ zW (d + 1) kX12_place 51 [.ref 131, .int x1] (zRstk r ++ []) σ' Q) := by
  refine Iff.trans (zw_aload_n (show decode cX12_place 43 = .ok (.aload_n 0, 1) by decide +kernel) rfl) ?_
  refine Iff.trans (zw_iload_n (show decode cX12_place 44 = .ok (.iload_n 1, 1) by decide +kernel) rfl) ?_
  refine Iff.trans (zw_bipush (x := 9) (show decode cX12_place 45 = .ok (.bipush 9, 2) by decide +kernel) (by decide)) ?_
  refine Iff.trans (zw_iconst (x := 0) (show decode cX12_place 47 = .ok (.iconst 0, 1) by decide +kernel) (by decide)) ?_
  refine Iff.trans (zw_invV (K' := kX12_set) (as' := [.int x1, .int 9, .int 0]) (rest := []) (show decode cX12_place 48 = .ok (.invokevirtual 225, 3) by decide +kernel) (by rfl) rfl rfl rfl (hl.k2 zk_131) (by decide) (hl.n2 zk_131) ⟨Nat.le_of_ble_eq_true rfl, Nat.le_of_ble_eq_true rfl, Nat.le_of_ble_eq_true rfl⟩) ?_
  exact Iff.rfl

theorem bX12_place_51 {d : Nat} {σ : zS} {Q : Option Value → zS → Prop} (hl : zLay σ) {x1 : Int32} : zW (d + 1) kX12_place 51 [.ref 131, .int x1] [] σ Q ↔ zCall d kX12_set [.ref 131, .int x1, .int 10, .int 0] σ (fun r σ' => zisN r = true ∧ zW (d + 1) kX12_place 59 [.ref 131, .int x1] (zRstk r ++ []) σ' Q) := by
  refine Iff.trans (zw_aload_n (show decode cX12_place 51 = .ok (.aload_n 0, 1) by decide +kernel) rfl) ?_
  refine Iff.trans (zw_iload_n (show decode cX12_place 52 = .ok (.iload_n 1, 1) by decide +kernel) rfl) ?_
  refine Iff.trans (zw_bipush (x := 10) (show decode cX12_place 53 = .ok (.bipush 10, 2) by decide +kernel) (by decide)) ?_
  refine Iff.trans (zw_iconst (x := 0) (show decode cX12_place 55 = .ok (.iconst 0, 1) by decide +kernel) (by decide)) ?_
  refine Iff.trans (zw_invV (K' := kX12_set) (as' := [.int x1, .int 10, .int 0]) (rest := []) (show decode cX12_place 56 = .ok (.invokevirtual 225, 3) by decide +kernel) (by rfl) rfl rfl rfl (hl.k2 zk_131) (by decide) (hl.n2 zk_131) ⟨Nat.le_of_ble_eq_true rfl, Nat.le_of_ble_eq_true rfl, Nat.le_of_ble_eq_true rfl⟩) ?_
  exact Iff.rfl

theorem bX12_place_59 {d : Nat} {σ : zS} {Q : Option Value → zS → Prop} (hl : zLay σ) {x1 : Int32} : zW (d + 1) kX12_place 59 [.ref 131, .int x1] [] σ Q ↔ Q none σ := by
  exact zw_ret (show decode cX12_place 59 = .ok (.return_, 1) by decide +kernel) rfl

theorem bX12_join_0 {d : Nat} {σ : zS} {Q : Option Value → zS → Prop} (hl : zLay σ) {x1 x2 x3 x4 : Int32} : zCall (d + 1) kX12_join [.ref 131, .int x1, .int x2, .int x3, .int x4] σ Q ↔ zCall d kX12_set [.ref 131, .int (zI σ 131 20), .int 0, .int x1] σ (fun r σ' => zisN r = true ∧ zW (d + 1) kX12_join 10 [.ref 131, .int x1, .int x2, .int x3, .int x4] (zRstk r ++ []) σ' Q) := by
  show zW (d + 1) kX12_join 0 [.ref 131, .int x1, .int x2, .int x3, .int x4] [] σ Q ↔ _
  refine Iff.trans (zw_aload_n (show decode cX12_join 0 = .ok (.aload_n 0, 1) by decide +kernel) rfl) ?_
  refine Iff.trans (zw_aload_n (show decode cX12_join 1 = .ok (.aload_n 0, 1) by decide +kernel) rfl) ?_
  refine Iff.trans (zw_getI (show decode cX12_join 2 = .ok (.getfield 222, 3) by decide +kernel) (by decide +kernel : zfld 12 222 = some (12, 20)) (hl.k2 zk_131) (hl.n2 zk_131) (Or.inl rfl) (w := zI σ 131 20) rfl) ?_
  refine Iff.trans (zw_iconst (x := 0) (show decode cX12_join 5 = .ok (.iconst 0, 1) by decide +kernel) (by decide)) ?_
  refine Iff.trans (zw_iload_n (show decode cX12_join 6 = .ok (.iload_n 1, 1) by decide +kernel) rfl) ?_
  refine Iff.trans (zw_invV (K' := kX12_set) (as' := [.int (zI σ 131 20), .int 0, .int x1]) (rest := []) (show decode cX12_join 7 = .ok (.invokevirtual 225, 3) by decide +kernel) (by rfl) rfl rfl rfl (hl.k2 zk_131) (by decide) (hl.n2 zk_131) ⟨Nat.le_of_ble_eq_true rfl, Nat.le_of_ble_eq_true rfl, Nat.le_of_ble_eq_true rfl⟩) ?_
  exact Iff.rfl

theorem bX12_join_10 {d : Nat} {σ : zS} {Q : Option Value → zS → Prop} (hl : zLay σ) {x1 x2 x3 x4 : Int32} : zW (d + 1) kX12_join 10 [.ref 131, .int x1, .int x2, .int x3, .int x4] [] σ Q ↔ zCall d kX12_set [.ref 131, .int (zI σ 131 20), .int 1, .int x2] σ (fun r σ' => zisN r = true ∧ zW (d + 1) kX12_join 20 [.ref 131, .int x1, .int x2, .int x3, .int x4] (zRstk r ++ []) σ' Q) := by
  refine Iff.trans (zw_aload_n (show decode cX12_join 10 = .ok (.aload_n 0, 1) by decide +kernel) rfl) ?_
  refine Iff.trans (zw_aload_n (show decode cX12_join 11 = .ok (.aload_n 0, 1) by decide +kernel) rfl) ?_
  refine Iff.trans (zw_getI (show decode cX12_join 12 = .ok (.getfield 222, 3) by decide +kernel) (by decide +kernel : zfld 12 222 = some (12, 20)) (hl.k2 zk_131) (hl.n2 zk_131) (Or.inl rfl) (w := zI σ 131 20) rfl) ?_
  refine Iff.trans (zw_iconst (x := 1) (show decode cX12_join 15 = .ok (.iconst 1, 1) by decide +kernel) (by decide)) ?_
  refine Iff.trans (zw_iload_n (show decode cX12_join 16 = .ok (.iload_n 2, 1) by decide +kernel) rfl) ?_
  refine Iff.trans (zw_invV (K' := kX12_set) (as' := [.int (zI σ 131 20), .int 1, .int x2]) (rest := []) (show decode cX12_join 17 = .ok (.invokevirtual 225, 3) by decide +kernel) (by rfl) rfl rfl rfl (hl.k2 zk_131) (by decide) (hl.n2 zk_131) ⟨Nat.le_of_ble_eq_true rfl, Nat.le_of_ble_eq_true rfl, Nat.le_of_ble_eq_true rfl⟩) ?_
  exact Iff.rfl

theorem bX12_join_20 {d : Nat} {σ : zS} {Q : Option Value → zS → Prop} (hl : zLay σ) {x1 x2 x3 x4 : Int32} : zW (d + 1) kX12_join 20 [.ref 131, .int x1, .int x2, .int x3, .int x4] [] σ Q ↔ zCall d kX12_set [.ref 131, .int (zI σ 131 20), .int 2, .int x3] σ (fun r σ' => zisN r = true ∧ zW (d + 1) kX12_join 30 [.ref 131, .int x1, .int x2, .int x3, .int x4] (zRstk r ++ []) σ' Q) := by
  refine Iff.trans (zw_aload_n (show decode cX12_join 20 = .ok (.aload_n 0, 1) by decide +kernel) rfl) ?_
  refine Iff.trans (zw_aload_n (show decode cX12_join 21 = .ok (.aload_n 0, 1) by decide +kernel) rfl) ?_
  refine Iff.trans (zw_getI (show decode cX12_join 22 = .ok (.getfield 222, 3) by decide +kernel) (by decide +kernel : zfld 12 222 = some (12, 20)) (hl.k2 zk_131) (hl.n2 zk_131) (Or.inl rfl) (w := zI σ 131 20) rfl) ?_
  refine Iff.trans (zw_iconst (x := 2) (show decode cX12_join 25 = .ok (.iconst 2, 1) by decide +kernel) (by decide)) ?_
  refine Iff.trans (zw_iload_n (show decode cX12_join 26 = .ok (.iload_n 3, 1) by decide +kernel) rfl) ?_
  refine Iff.trans (zw_invV (K' := kX12_set) (as' := [.int (zI σ 131 20), .int 2, .int x3]) (rest := []) (show decode cX12_join 27 = .ok (.invokevirtual 225, 3) by decide +kernel) (by rfl) rfl rfl rfl (hl.k2 zk_131) (by decide) (hl.n2 zk_131) ⟨Nat.le_of_ble_eq_true rfl, Nat.le_of_ble_eq_true rfl, Nat.le_of_ble_eq_true rfl⟩) ?_
  exact Iff.rfl

theorem bX12_join_30 {d : Nat} {σ : zS} {Q : Option Value → zS → Prop} (hl : zLay σ) {x1 x2 x3 x4 : Int32} : zW (d + 1) kX12_join 30 [.ref 131, .int x1, .int x2, .int x3, .int x4] [] σ Q ↔ zCall d kX12_set [.ref 131, .int (zI σ 131 20), .int 3, .int x4] σ (fun r σ' => zisN r = true ∧ zW (d + 1) kX12_join 41 [.ref 131, .int x1, .int x2, .int x3, .int x4] (zRstk r ++ []) σ' Q) := by
  refine Iff.trans (zw_aload_n (show decode cX12_join 30 = .ok (.aload_n 0, 1) by decide +kernel) rfl) ?_
  refine Iff.trans (zw_aload_n (show decode cX12_join 31 = .ok (.aload_n 0, 1) by decide +kernel) rfl) ?_
  refine Iff.trans (zw_getI (show decode cX12_join 32 = .ok (.getfield 222, 3) by decide +kernel) (by decide +kernel : zfld 12 222 = some (12, 20)) (hl.k2 zk_131) (hl.n2 zk_131) (Or.inl rfl) (w := zI σ 131 20) rfl) ?_
  refine Iff.trans (zw_iconst (x := 3) (show decode cX12_join 35 = .ok (.iconst 3, 1) by decide +kernel) (by decide)) ?_
  refine Iff.trans (zw_iload (show decode cX12_join 36 = .ok (.iload 4, 2) by decide +kernel) rfl) ?_
  refine Iff.trans (zw_invV (K' := kX12_set) (as' := [.int (zI σ 131 20), .int 3, .int x4]) (rest := []) (show decode cX12_join 38 = .ok (.invokevirtual 225, 3) by decide +kernel) (by rfl) rfl rfl rfl (hl.k2 zk_131) (by decide) (hl.n2 zk_131) ⟨Nat.le_of_ble_eq_true rfl, Nat.le_of_ble_eq_true rfl, Nat.le_of_ble_eq_true rfl⟩) ?_
  exact Iff.rfl

theorem bX12_join_41 {d : Nat} {σ : zS} {Q : Option Value → zS → Prop} (hl : zLay σ) {x1 x2 x3 x4 : Int32} : zW (d + 1) kX12_join 41 [.ref 131, .int x1, .int x2, .int x3, .int x4] [] σ Q ↔ zCall d kX12_place [.ref 131, .int (zI σ 131 20)] σ (fun r σ' => zisN r = true ∧ zW (d + 1) kX12_join 49 [.ref 131, .int x1, .int x2, .int x3, .int x4] (zRstk r ++ []) σ' Q) := by
  refine Iff.trans (zw_aload_n (show decode cX12_join 41 = .ok (.aload_n 0, 1) by decide +kernel) rfl) ?_
  refine Iff.trans (zw_aload_n (show decode cX12_join 42 = .ok (.aload_n 0, 1) by decide +kernel) rfl) ?_
  refine Iff.trans (zw_getI (show decode cX12_join 43 = .ok (.getfield 222, 3) by decide +kernel) (by decide +kernel : zfld 12 222 = some (12, 20)) (hl.k2 zk_131) (hl.n2 zk_131) (Or.inl rfl) (w := zI σ 131 20) rfl) ?_
  refine Iff.trans (zw_invV (K' := kX12_place) (as' := [.int (zI σ 131 20)]) (rest := []) (show decode cX12_join 46 = .ok (.invokevirtual 232, 3) by decide +kernel) (by rfl) rfl rfl rfl (hl.k2 zk_131) (by decide) (hl.n2 zk_131) ⟨Nat.le_of_ble_eq_true rfl, Nat.le_of_ble_eq_true rfl, Nat.le_of_ble_eq_true rfl⟩) ?_
  exact Iff.rfl

theorem bX12_join_49 {d : Nat} {σ : zS} {Q : Option Value → zS → Prop} (hl : zLay σ) {x1 x2 x3 x4 : Int32} : zW (d + 1) kX12_join 49 [.ref 131, .int x1, .int x2, .int x3, .int x4] [] σ Q ↔ Q none (zsI σ 131 (upd (zI σ 131) 20 ((zI σ 131 20) + 1))) := by
  refine Iff.trans (zw_aload_n (show decode cX12_join 49 = .ok (.aload_n 0, 1) by decide +kernel) rfl) ?_
  refine Iff.trans (zw_dup (show decode cX12_join 50 = .ok (.dup, 1) by decide +kernel) rfl) ?_
  refine Iff.trans (zw_getI (show decode cX12_join 51 = .ok (.getfield 222, 3) by decide +kernel) (by decide +kernel : zfld 12 222 = some (12, 20)) (hl.k2 zk_131) (hl.n2 zk_131) (Or.inl rfl) (w := zI σ 131 20) rfl) ?_
  refine Iff.trans (zw_iconst (x := 1) (show decode cX12_join 54 = .ok (.iconst 1, 1) by decide +kernel) (by decide)) ?_
  refine Iff.trans (zw_iadd (show decode cX12_join 55 = .ok (.iadd, 1) by decide +kernel)) ?_
  refine Iff.trans (zw_putI (show decode cX12_join 56 = .ok (.putfield 222, 3) by decide +kernel) (by decide +kernel : zfld 12 222 = some (12, 20)) (hl.k2 zk_131) (hl.n2 zk_131) rfl (Or.inl rfl) (σ' := (zsI σ 131 (upd (zI σ 131) 20 ((zI σ 131 20) + 1)))) rfl) ?_
  exact zw_ret (show decode cX12_join 59 = .ok (.return_, 1) by decide +kernel) rfl

