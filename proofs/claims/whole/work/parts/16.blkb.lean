theorem bX11_feed_0 {d : Nat} {σ : zS} {Q : Option Value → zS → Prop} (hl : zLay σ) {x1 x2 x3 x4 x5 : Int32} : zCall (d + 1) kX11_feed [.ref 1, .int x1, .int x2, .int x3, .int x4, .int x5] σ Q ↔ zCall d kX8_bytesIn [.int x1] σ (fun r σ' => zisN r = true ∧ zW (d + 1) kX11_feed 4 [.ref 1, .int x1, .int x2, .int x3, .int x4, .int x5, .retAddr 0] (zRstk r ++ []) σ' Q) := by
  show zW (d + 1) kX11_feed 0 [.ref 1, .int x1, .int x2, .int x3, .int x4, .int x5, .retAddr 0] [] σ Q ↔ _
  refine Iff.trans (zw_iload_n (show decode cX11_feed 0 = .ok (.iload_n 1, 1) by decide +kernel) rfl) ?_
  refine Iff.trans (zw_invS (K' := kX8_bytesIn) (as := [.int x1]) (rest := []) (show decode cX11_feed 1 = .ok (.invokestatic 106, 3) by decide +kernel) (by rfl) rfl rfl rfl ⟨Nat.le_of_ble_eq_true rfl, Nat.le_of_ble_eq_true rfl, Nat.le_of_ble_eq_true rfl⟩) ?_
  exact Iff.rfl

theorem bX11_feed_4 {d : Nat} {σ : zS} {Q : Option Value → zS → Prop} (hl : zLay σ) {x1 x2 x3 x4 x5 y0 : Int32} : zW (d + 1) kX11_feed 4 [.ref 1, .int x1, .int x2, .int x3, .int x4, .int x5, .retAddr 0] [.int y0] σ Q ↔ zCall d kX8_bytesIn [.int x2] σ (fun r σ' => zisN r = true ∧ zW (d + 1) kX11_feed 8 [.ref 1, .int x1, .int x2, .int x3, .int x4, .int x5, .retAddr 0] (zRstk r ++ [.int y0]) σ' Q) := by
  refine Iff.trans (zw_iload_n (show decode cX11_feed 4 = .ok (.iload_n 2, 1) by decide +kernel) rfl) ?_
  refine Iff.trans (zw_invS (K' := kX8_bytesIn) (as := [.int x2]) (rest := [.int y0]) (show decode cX11_feed 5 = .ok (.invokestatic 106, 3) by decide +kernel) (by rfl) rfl rfl rfl ⟨Nat.le_of_ble_eq_true rfl, Nat.le_of_ble_eq_true rfl, Nat.le_of_ble_eq_true rfl⟩) ?_
  exact Iff.rfl

theorem bX11_feed_8 {d : Nat} {σ : zS} {Q : Option Value → zS → Prop} (hl : zLay σ) {x1 x2 x3 x4 x5 y0 y1 : Int32} : zW (d + 1) kX11_feed 8 [.ref 1, .int x1, .int x2, .int x3, .int x4, .int x5, .retAddr 0] [.int y0, .int y1] σ Q ↔ zCall d kX8_bytesIn [.int x3] σ (fun r σ' => zisN r = true ∧ zW (d + 1) kX11_feed 13 [.ref 1, .int x1, .int x2, .int x3, .int x4, .int x5, .retAddr 0] (zRstk r ++ [.int (y1 + y0)]) σ' Q) := by
  refine Iff.trans (zw_iadd (show decode cX11_feed 8 = .ok (.iadd, 1) by decide +kernel)) ?_
  refine Iff.trans (zw_iload_n (show decode cX11_feed 9 = .ok (.iload_n 3, 1) by decide +kernel) rfl) ?_
  refine Iff.trans (zw_invS (K' := kX8_bytesIn) (as := [.int x3]) (rest := [.int (y1 + y0)]) (show decode cX11_feed 10 = .ok (.invokestatic 106, 3) by decide +kernel) (by rfl) rfl rfl rfl ⟨Nat.le_of_ble_eq_true rfl, Nat.le_of_ble_eq_true rfl, Nat.le_of_ble_eq_true rfl⟩) ?_
  exact Iff.rfl

theorem bX11_feed_13 {d : Nat} {σ : zS} {Q : Option Value → zS → Prop} (hl : zLay σ) {x1 x2 x3 x4 x5 y0 y1 : Int32} : zW (d + 1) kX11_feed 13 [.ref 1, .int x1, .int x2, .int x3, .int x4, .int x5, .retAddr 0] [.int y0, .int y1] σ Q ↔ zCall d kX8_bytesIn [.int x4] σ (fun r σ' => zisN r = true ∧ zW (d + 1) kX11_feed 19 [.ref 1, .int x1, .int x2, .int x3, .int x4, .int x5, .retAddr 0] (zRstk r ++ [.int (y1 + y0)]) σ' Q) := by
  refine Iff.trans (zw_iadd (show decode cX11_feed 13 = .ok (.iadd, 1) by decide +kernel)) ?_
  refine Iff.trans (zw_iload (show decode cX11_feed 14 = .ok (.iload 4, 2) by decide +kernel) rfl) ?_
  refine Iff.trans (zw_invS (K' := kX8_bytesIn) (as := [.int x4]) (rest := [.int (y1 + y0)]) (show decode cX11_feed 16 = .ok (.invokestatic 106, 3) by decide +kernel) (by rfl) rfl rfl rfl ⟨Nat.le_of_ble_eq_true rfl, Nat.le_of_ble_eq_true rfl, Nat.le_of_ble_eq_true rfl⟩) ?_
  exact Iff.rfl

theorem bX11_feed_19 {d : Nat} {σ : zS} {Q : Option Value → zS → Prop} (hl : zLay σ) {x1 x2 x3 x4 x5 y0 y1 : Int32} : zW (d + 1) kX11_feed 19 [.ref 1, .int x1, .int x2, .int x3, .int x4, .int x5, .retAddr 0] [.int y0, .int y1] σ Q ↔ zCall d kX8_bytesIn [.int x5] σ (fun r σ' => zisN r = true ∧ zW (d + 1) kX11_feed 25 [.ref 1, .int x1, .int x2, .int x3, .int x4, .int x5, .retAddr 0] (zRstk r ++ [.int (y1 + y0)]) σ' Q) := by
  refine Iff.trans (zw_iadd (show decode cX11_feed 19 = .ok (.iadd, 1) by decide +kernel)) ?_
  refine Iff.trans (zw_iload (show decode cX11_feed 20 = .ok (.iload 5, 2) by decide +kernel) rfl) ?_
  refine Iff.trans (zw_invS (K' := kX8_bytesIn) (as := [.int x5]) (rest := [.int (y1 + y0)]) (show decode cX11_feed 22 = .ok (.invokestatic 106, 3) by decide +kernel) (by rfl) rfl rfl rfl ⟨Nat.le_of_ble_eq_true rfl, Nat.le_of_ble_eq_true rfl, Nat.le_of_ble_eq_true rfl⟩) ?_
  exact Iff.rfl

theorem bX11_feed_25 {d : Nat} {σ : zS} {Q : Option Value → zS → Prop} (hl : zLay σ) {x1 x2 x3 x4 x5 y0 y1 : Int32} : zW (d + 1) kX11_feed 25 [.ref 1, .int x1, .int x2, .int x3, .int x4, .int x5, .retAddr 0] [.int y0, .int y1] σ Q ↔ (if ((zI σ 2 1) + (y1 + y0)) ≤ 160 then zCall d kX8_append [.ref 2, .int x1] σ (fun r σ' => zisN r = true ∧ zW (d + 1) kX11_feed 54 [.ref 1, .int x1, .int x2, .int x3, .int x4, .int x5, .int (y1 + y0)] (zRstk r ++ []) σ' Q) else Q (some (.int (-1))) σ) := by
  refine Iff.trans (zw_iadd (show decode cX11_feed 25 = .ok (.iadd, 1) by decide +kernel)) ?_
  refine Iff.trans (zw_istore (ls' := [.ref 1, .int x1, .int x2, .int x3, .int x4, .int x5, .int (y1 + y0)]) (show decode cX11_feed 26 = .ok (.istore 6, 2) by decide +kernel) (zset_s (Nat.le_of_ble_eq_true rfl) rfl)) ?_
  refine Iff.trans (zw_aload_n (show decode cX11_feed 28 = .ok (.aload_n 0, 1) by decide +kernel) rfl) ?_
  refine Iff.trans (zw_get (show decode cX11_feed 29 = .ok (.getfield 10, 3) by decide +kernel) (by decide +kernel : zfld 11 10 = some (11, 0)) (hl.k2 zk_1) (hl.n2 zk_1) (zgetR (v := 2) (hl.r zrt_1_0) rfl)) ?_
  refine Iff.trans (zw_getI (show decode cX11_feed 32 = .ok (.getfield 110, 3) by decide +kernel) (by decide +kernel : zfld 11 110 = some (8, 1)) (hl.k2 zk_2) (hl.n2 zk_2) (Or.inl rfl) (w := zI σ 2 1) rfl) ?_
  refine Iff.trans (zw_iload (show decode cX11_feed 35 = .ok (.iload 6, 2) by decide +kernel) rfl) ?_
  refine Iff.trans (zw_iadd (show decode cX11_feed 37 = .ok (.iadd, 1) by decide +kernel)) ?_
  refine Iff.trans (zw_sipush (x := 160) (show decode cX11_feed 38 = .ok (.sipush 160, 3) by decide +kernel) (by decide)) ?_
  refine Iff.trans (zw_icmp_le (t := 46) (show decode cX11_feed 41 = .ok (.if_icmp .le 5, 3) by decide +kernel) (by decide)) ?_
  refine zw_ite ?_ ?_
  · refine Iff.trans (zw_aload_n (show decode cX11_feed 46 = .ok (.aload_n 0, 1) by decide +kernel) rfl) ?_
    refine Iff.trans (zw_get (show decode cX11_feed 47 = .ok (.getfield 10, 3) by decide +kernel) (by decide +kernel : zfld 11 10 = some (11, 0)) (hl.k2 zk_1) (hl.n2 zk_1) (zgetR (v := 2) (hl.r zrt_1_0) rfl)) ?_
    refine Iff.trans (zw_iload_n (show decode cX11_feed 50 = .ok (.iload_n 1, 1) by decide +kernel) rfl) ?_
    refine Iff.trans (zw_invV (K' := kX8_append) (as' := [.int x1]) (rest := []) (show decode cX11_feed 51 = .ok (.invokevirtual 114, 3) by decide +kernel) (by rfl) rfl rfl rfl (hl.k2 zk_2) (by decide) (hl.n2 zk_2) ⟨Nat.le_of_ble_eq_true rfl, Nat.le_of_ble_eq_true rfl, Nat.le_of_ble_eq_true rfl⟩) ?_
    exact Iff.rfl
  · refine Iff.trans (zw_iconst (x := (-1)) (show decode cX11_feed 44 = .ok (.iconst (-1), 1) by decide +kernel) (by decide)) ?_
    exact zw_iret1 (show decode cX11_feed 45 = .ok (.ireturn, 1) by decide +kernel) rfl

theorem bX11_feed_54 {d : Nat} {σ : zS} {Q : Option Value → zS → Prop} (hl : zLay σ) {x1 x2 x3 x4 x5 x6 : Int32} : zW (d + 1) kX11_feed 54 [.ref 1, .int x1, .int x2, .int x3, .int x4, .int x5, .int x6] [] σ Q ↔ zCall d kX8_append [.ref 2, .int x2] σ (fun r σ' => zisN r = true ∧ zW (d + 1) kX11_feed 62 [.ref 1, .int x1, .int x2, .int x3, .int x4, .int x5, .int x6] (zRstk r ++ []) σ' Q) := by
  refine Iff.trans (zw_aload_n (show decode cX11_feed 54 = .ok (.aload_n 0, 1) by decide +kernel) rfl) ?_
  refine Iff.trans (zw_get (show decode cX11_feed 55 = .ok (.getfield 10, 3) by decide +kernel) (by decide +kernel : zfld 11 10 = some (11, 0)) (hl.k2 zk_1) (hl.n2 zk_1) (zgetR (v := 2) (hl.r zrt_1_0) rfl)) ?_
  refine Iff.trans (zw_iload_n (show decode cX11_feed 58 = .ok (.iload_n 2, 1) by decide +kernel) rfl) ?_
  refine Iff.trans (zw_invV (K' := kX8_append) (as' := [.int x2]) (rest := []) (show decode cX11_feed 59 = .ok (.invokevirtual 114, 3) by decide +kernel) (by rfl) rfl rfl rfl (hl.k2 zk_2) (by decide) (hl.n2 zk_2) ⟨Nat.le_of_ble_eq_true rfl, Nat.le_of_ble_eq_true rfl, Nat.le_of_ble_eq_true rfl⟩) ?_
  exact Iff.rfl

theorem bX11_feed_62 {d : Nat} {σ : zS} {Q : Option Value → zS → Prop} (hl : zLay σ) {x1 x2 x3 x4 x5 x6 : Int32} : zW (d + 1) kX11_feed 62 [.ref 1, .int x1, .int x2, .int x3, .int x4, .int x5, .int x6] [] σ Q ↔ zCall d kX8_append [.ref 2, .int x3] σ (fun r σ' => zisN r = true ∧ zW (d + 1) kX11_feed 70 [.ref 1, .int x1, .int x2, .int x3, .int x4, .int x5, .int x6] (zRstk r ++ []) σ' Q) := by
  refine Iff.trans (zw_aload_n (show decode cX11_feed 62 = .ok (.aload_n 0, 1) by decide +kernel) rfl) ?_
  refine Iff.trans (zw_get (show decode cX11_feed 63 = .ok (.getfield 10, 3) by decide +kernel) (by decide +kernel : zfld 11 10 = some (11, 0)) (hl.k2 zk_1) (hl.n2 zk_1) (zgetR (v := 2) (hl.r zrt_1_0) rfl)) ?_
  refine Iff.trans (zw_iload_n (show decode cX11_feed 66 = .ok (.iload_n 3, 1) by decide +kernel) rfl) ?_
  refine Iff.trans (zw_invV (K' := kX8_append) (as' := [.int x3]) (rest := []) (show decode cX11_feed 67 = .ok (.invokevirtual 114, 3) by decide +kernel) (by rfl) rfl rfl rfl (hl.k2 zk_2) (by decide) (hl.n2 zk_2) ⟨Nat.le_of_ble_eq_true rfl, Nat.le_of_ble_eq_true rfl, Nat.le_of_ble_eq_true rfl⟩) ?_
  exact Iff.rfl

theorem bX11_feed_70 {d : Nat} {σ : zS} {Q : Option Value → zS → Prop} (hl : zLay σ) {x1 x2 x3 x4 x5 x6 : Int32} : zW (d + 1) kX11_feed 70 [.ref 1, .int x1, .int x2, .int x3, .int x4, .int x5, .int x6] [] σ Q ↔ zCall d kX8_append [.ref 2, .int x4] σ (fun r σ' => zisN r = true ∧ zW (d + 1) kX11_feed 79 [.ref 1, .int x1, .int x2, .int x3, .int x4, .int x5, .int x6] (zRstk r ++ []) σ' Q) := by
  refine Iff.trans (zw_aload_n (show decode cX11_feed 70 = .ok (.aload_n 0, 1) by decide +kernel) rfl) ?_
  refine Iff.trans (zw_get (show decode cX11_feed 71 = .ok (.getfield 10, 3) by decide +kernel) (by decide +kernel : zfld 11 10 = some (11, 0)) (hl.k2 zk_1) (hl.n2 zk_1) (zgetR (v := 2) (hl.r zrt_1_0) rfl)) ?_
  refine Iff.trans (zw_iload (show decode cX11_feed 74 = .ok (.iload 4, 2) by decide +kernel) rfl) ?_
  refine Iff.trans (zw_invV (K' := kX8_append) (as' := [.int x4]) (rest := []) (show decode cX11_feed 76 = .ok (.invokevirtual 114, 3) by decide +kernel) (by rfl) rfl rfl rfl (hl.k2 zk_2) (by decide) (hl.n2 zk_2) ⟨Nat.le_of_ble_eq_true rfl, Nat.le_of_ble_eq_true rfl, Nat.le_of_ble_eq_true rfl⟩) ?_
  exact Iff.rfl

theorem bX11_feed_79 {d : Nat} {σ : zS} {Q : Option Value → zS → Prop} (hl : zLay σ) {x1 x2 x3 x4 x5 x6 : Int32} : zW (d + 1) kX11_feed 79 [.ref 1, .int x1, .int x2, .int x3, .int x4, .int x5, .int x6] [] σ Q ↔ zCall d kX8_append [.ref 2, .int x5] σ (fun r σ' => zisN r = true ∧ zW (d + 1) kX11_feed 88 [.ref 1, .int x1, .int x2, .int x3, .int x4, .int x5, .int x6] (zRstk r ++ []) σ' Q) := by
  refine Iff.trans (zw_aload_n (show decode cX11_feed 79 = .ok (.aload_n 0, 1) by decide +kernel) rfl) ?_
  refine Iff.trans (zw_get (show decode cX11_feed 80 = .ok (.getfield 10, 3) by decide +kernel) (by decide +kernel : zfld 11 10 = some (11, 0)) (hl.k2 zk_1) (hl.n2 zk_1) (zgetR (v := 2) (hl.r zrt_1_0) rfl)) ?_
  refine Iff.trans (zw_iload (show decode cX11_feed 83 = .ok (.iload 5, 2) by decide +kernel) rfl) ?_
  refine Iff.trans (zw_invV (K' := kX8_append) (as' := [.int x5]) (rest := []) (show decode cX11_feed 85 = .ok (.invokevirtual 114, 3) by decide +kernel) (by rfl) rfl rfl rfl (hl.k2 zk_2) (by decide) (hl.n2 zk_2) ⟨Nat.le_of_ble_eq_true rfl, Nat.le_of_ble_eq_true rfl, Nat.le_of_ble_eq_true rfl⟩) ?_
  exact Iff.rfl

theorem bX11_feed_88 {d : Nat} {σ : zS} {Q : Option Value → zS → Prop} (hl : zLay σ) {x1 x2 x3 x4 x5 x6 : Int32} : zW (d + 1) kX11_feed 88 [.ref 1, .int x1, .int x2, .int x3, .int x4, .int x5, .int x6] [] σ Q ↔ Q (some (.int (zI σ 2 1))) σ := by
  refine Iff.trans (zw_aload_n (show decode cX11_feed 88 = .ok (.aload_n 0, 1) by decide +kernel) rfl) ?_
  refine Iff.trans (zw_get (show decode cX11_feed 89 = .ok (.getfield 10, 3) by decide +kernel) (by decide +kernel : zfld 11 10 = some (11, 0)) (hl.k2 zk_1) (hl.n2 zk_1) (zgetR (v := 2) (hl.r zrt_1_0) rfl)) ?_
  refine Iff.trans (zw_getI (show decode cX11_feed 92 = .ok (.getfield 110, 3) by decide +kernel) (by decide +kernel : zfld 11 110 = some (8, 1)) (hl.k2 zk_2) (hl.n2 zk_2) (Or.inl rfl) (w := zI σ 2 1) rfl) ?_
  exact zw_iret1 (show decode cX11_feed 95 = .ok (.ireturn, 1) by decide +kernel) rfl

theorem bX11_end_0 {d : Nat} {σ : zS} {Q : Option Value → zS → Prop} (hl : zLay σ) {x1 : Int32} : zCall d kX11_end [.ref 1, .int x1] σ Q ↔ (if x1 < (0 : Int32) then Q (some (.int 0)) σ else (if x1 ≤ (zI σ 2 1) then Q (some (.int 1)) (zsI σ 2 (upd (zI σ 2) 1 x1)) else Q (some (.int 0)) σ)) := by
  show zW d kX11_end 0 [.ref 1, .int x1] [] σ Q ↔ _
  refine Iff.trans (zw_iload_n (show decode cX11_end 0 = .ok (.iload_n 1, 1) by decide +kernel) rfl) ?_
  refine Iff.trans (zw_if_lt (t := 15) (show decode cX11_end 1 = .ok (.ifCond .lt 14, 3) by decide +kernel) (by decide)) ?_
  refine zw_ite ?_ ?_
  · refine Iff.trans (zw_iconst (x := 0) (show decode cX11_end 15 = .ok (.iconst 0, 1) by decide +kernel) (by decide)) ?_
    exact zw_iret2c (show decode cX11_end 16 = .ok (.ireturn, 1) by decide +kernel) rfl (Or.inl rfl)
  · refine Iff.trans (zw_iload_n (show decode cX11_end 4 = .ok (.iload_n 1, 1) by decide +kernel) rfl) ?_
    refine Iff.trans (zw_aload_n (show decode cX11_end 5 = .ok (.aload_n 0, 1) by decide +kernel) rfl) ?_
    refine Iff.trans (zw_get (show decode cX11_end 6 = .ok (.getfield 10, 3) by decide +kernel) (by decide +kernel : zfld 11 10 = some (11, 0)) (hl.k2 zk_1) (hl.n2 zk_1) (zgetR (v := 2) (hl.r zrt_1_0) rfl)) ?_
    refine Iff.trans (zw_getI (show decode cX11_end 9 = .ok (.getfield 110, 3) by decide +kernel) (by decide +kernel : zfld 11 110 = some (8, 1)) (hl.k2 zk_2) (hl.n2 zk_2) (Or.inl rfl) (w := zI σ 2 1) rfl) ?_
    refine Iff.trans (zw_icmp_le (t := 17) (show decode cX11_end 12 = .ok (.if_icmp .le 5, 3) by decide +kernel) (by decide)) ?_
    refine zw_ite ?_ ?_
    · refine Iff.trans (zw_aload_n (show decode cX11_end 17 = .ok (.aload_n 0, 1) by decide +kernel) rfl) ?_
      refine Iff.trans (zw_get (show decode cX11_end 18 = .ok (.getfield 10, 3) by decide +kernel) (by decide +kernel : zfld 11 10 = some (11, 0)) (hl.k2 zk_1) (hl.n2 zk_1) (zgetR (v := 2) (hl.r zrt_1_0) rfl)) ?_
      refine Iff.trans (zw_iload_n (show decode cX11_end 21 = .ok (.iload_n 1, 1) by decide +kernel) rfl) ?_
      refine Iff.trans (zw_putI (show decode cX11_end 22 = .ok (.putfield 110, 3) by decide +kernel) (by decide +kernel : zfld 11 110 = some (8, 1)) (hl.k2 zk_2) (hl.n2 zk_2) rfl (Or.inl rfl) (σ' := (zsI σ 2 (upd (zI σ 2) 1 x1))) rfl) ?_
      refine Iff.trans (zw_iconst (x := 1) (show decode cX11_end 25 = .ok (.iconst 1, 1) by decide +kernel) (by decide)) ?_
      exact zw_iret2c (show decode cX11_end 26 = .ok (.ireturn, 1) by decide +kernel) rfl (Or.inr rfl)
    · refine Iff.trans (zw_iconst (x := 0) (show decode cX11_end 15 = .ok (.iconst 0, 1) by decide +kernel) (by decide)) ?_
      exact zw_iret2c (show decode cX11_end 16 = .ok (.ireturn, 1) by decide +kernel) rfl (Or.inl rfl)

theorem bX11_fault_0 {d : Nat} {σ : zS} {Q : Option Value → zS → Prop} (hl : zLay σ) {x1 : Int32} : zCall (d + 1) kX11_fault [.ref 1, .int x1] σ Q ↔ (if x1 = (0 : Int32) then zCall d kX8_readBrook [.ref 2, .ref 91] σ (fun r σ' => zisN r = true ∧ zW (d + 1) kX11_fault 15 [.ref 1, .int x1] (zRstk r ++ []) σ' Q) else (if x1 = 1 then zCall d kX8_readStick [.ref 2, .ref 95] σ (fun r σ' => zisN r = true ∧ zW (d + 1) kX11_fault 32 [.ref 1, .int x1] (zRstk r ++ []) σ' Q) else Q (some (.int (-2))) σ)) := by
  show zW (d + 1) kX11_fault 0 [.ref 1, .int x1] [] σ Q ↔ _
  refine Iff.trans (zw_iload_n (show decode cX11_fault 0 = .ok (.iload_n 1, 1) by decide +kernel) rfl) ?_
  refine Iff.trans (zw_if_ne (t := 16) (show decode cX11_fault 1 = .ok (.ifCond .ne 15, 3) by decide +kernel) (by decide)) ?_
  refine zw_ite ?_ ?_
  · refine Iff.trans (zw_aload_n (show decode cX11_fault 4 = .ok (.aload_n 0, 1) by decide +kernel) rfl) ?_
    refine Iff.trans (zw_get (show decode cX11_fault 5 = .ok (.getfield 10, 3) by decide +kernel) (by decide +kernel : zfld 11 10 = some (11, 0)) (hl.k2 zk_1) (hl.n2 zk_1) (zgetR (v := 2) (hl.r zrt_1_0) rfl)) ?_
    refine Iff.trans (zw_aload_n (show decode cX11_fault 8 = .ok (.aload_n 0, 1) by decide +kernel) rfl) ?_
    refine Iff.trans (zw_get (show decode cX11_fault 9 = .ok (.getfield 93, 3) by decide +kernel) (by decide +kernel : zfld 11 93 = some (11, 17)) (hl.k2 zk_1) (hl.n2 zk_1) (zgetR (v := 91) (hl.r zrt_1_17) rfl)) ?_
    refine Iff.trans (zw_invV (K' := kX8_readBrook) (as' := [.ref 91]) (rest := []) (show decode cX11_fault 12 = .ok (.invokevirtual 118, 3) by decide +kernel) (by rfl) rfl rfl rfl (hl.k2 zk_2) (by decide) (hl.n2 zk_2) ⟨Nat.le_of_ble_eq_true rfl, Nat.le_of_ble_eq_true rfl, Nat.le_of_ble_eq_true rfl⟩) ?_
    exact Iff.rfl
  · refine Iff.trans (zw_iload_n (show decode cX11_fault 16 = .ok (.iload_n 1, 1) by decide +kernel) rfl) ?_
    refine Iff.trans (zw_iconst (x := 1) (show decode cX11_fault 17 = .ok (.iconst 1, 1) by decide +kernel) (by decide)) ?_
    refine Iff.trans (zw_icmp_ne (t := 35) (show decode cX11_fault 18 = .ok (.if_icmp .ne 17, 3) by decide +kernel) (by decide)) ?_
    refine zw_ite ?_ ?_
    · refine Iff.trans (zw_aload_n (show decode cX11_fault 21 = .ok (.aload_n 0, 1) by decide +kernel) rfl) ?_
      refine Iff.trans (zw_get (show decode cX11_fault 22 = .ok (.getfield 10, 3) by decide +kernel) (by decide +kernel : zfld 11 10 = some (11, 0)) (hl.k2 zk_1) (hl.n2 zk_1) (zgetR (v := 2) (hl.r zrt_1_0) rfl)) ?_
      refine Iff.trans (zw_aload_n (show decode cX11_fault 25 = .ok (.aload_n 0, 1) by decide +kernel) rfl) ?_
      refine Iff.trans (zw_get (show decode cX11_fault 26 = .ok (.getfield 98, 3) by decide +kernel) (by decide +kernel : zfld 11 98 = some (11, 18)) (hl.k2 zk_1) (hl.n2 zk_1) (zgetR (v := 95) (hl.r zrt_1_18) rfl)) ?_
      refine Iff.trans (zw_invV (K' := kX8_readStick) (as' := [.ref 95]) (rest := []) (show decode cX11_fault 29 = .ok (.invokevirtual 122, 3) by decide +kernel) (by rfl) rfl rfl rfl (hl.k2 zk_2) (by decide) (hl.n2 zk_2) ⟨Nat.le_of_ble_eq_true rfl, Nat.le_of_ble_eq_true rfl, Nat.le_of_ble_eq_true rfl⟩) ?_
      exact Iff.rfl
    · refine Iff.trans (zw_bipush (x := (-2)) (show decode cX11_fault 35 = .ok (.bipush (-2), 2) by decide +kernel) (by decide)) ?_
      exact zw_iret1 (show decode cX11_fault 37 = .ok (.ireturn, 1) by decide +kernel) rfl

theorem bX11_fault_15 {d : Nat} {σ : zS} {Q : Option Value → zS → Prop} (hl : zLay σ) {x1 y0 : Int32} : zW (d + 1) kX11_fault 15 [.ref 1, .int x1] [.int y0] σ Q ↔ Q (some (.int y0)) σ := by
  exact zw_iret1 (show decode cX11_fault 15 = .ok (.ireturn, 1) by decide +kernel) rfl

theorem bX11_fault_32 {d : Nat} {σ : zS} {Q : Option Value → zS → Prop} (hl : zLay σ) {x1 y0 : Int32} : zW (d + 1) kX11_fault 32 [.ref 1, .int x1] [.int y0] σ Q ↔ Q (some (.int y0)) σ := by
  refine Iff.trans (zw_goto (t := 37) (show decode cX11_fault 32 = .ok (.goto 5, 3) by decide +kernel) (by decide)) ?_
  exact zw_iret1 (show decode cX11_fault 37 = .ok (.ireturn, 1) by decide +kernel) rfl

theorem bX11_text_0 {d : Nat} {σ : zS} {Q : Option Value → zS → Prop} (hl : zLay σ) {x1 : Int32} : zCall (d + 1) kX11_text [.ref 1, .int x1] σ Q ↔ zCall d kX11_fault [.ref 1, .int x1] σ (fun r σ' => zisN r = true ∧ zW (d + 1) kX11_text 5 [.ref 1, .int x1, .retAddr 0] (zRstk r ++ []) σ' Q) := by
  show zW (d + 1) kX11_text 0 [.ref 1, .int x1, .retAddr 0] [] σ Q ↔ _
  refine Iff.trans (zw_aload_n (show decode cX11_text 0 = .ok (.aload_n 0, 1) by decide +kernel) rfl) ?_
  refine Iff.trans (zw_iload_n (show decode cX11_text 1 = .ok (.iload_n 1, 1) by decide +kernel) rfl) ?_
  refine Iff.trans (zw_invV (K' := kX11_fault) (as' := [.int x1]) (rest := []) (show decode cX11_text 2 = .ok (.invokevirtual 126, 3) by decide +kernel) (by rfl) rfl rfl rfl (hl.k2 zk_1) (by decide) (hl.n2 zk_1) ⟨Nat.le_of_ble_eq_true rfl, Nat.le_of_ble_eq_true rfl, Nat.le_of_ble_eq_true rfl⟩) ?_
  exact Iff.rfl

theorem bX11_text_5 {d : Nat} {σ : zS} {Q : Option Value → zS → Prop} (hl : zLay σ) {x1 y0 : Int32} : zW (d + 1) kX11_text 5 [.ref 1, .int x1, .retAddr 0] [.int y0] σ Q ↔ (if y0 = (-1) then (if x1 = (0 : Int32) then zCall d kX11_keepBrook [.ref 1] σ (fun r σ' => zisN r = true ∧ zW (d + 1) kX11_text 19 [.ref 1, .int x1, .retAddr 0] (zRstk r ++ []) σ' Q) else zCall d kX11_keepStick [.ref 1] σ (fun r σ' => zisN r = true ∧ zW (d + 1) kX11_text 26 [.ref 1, .int x1, .retAddr 0] (zRstk r ++ []) σ' Q)) else Q (some (.int (-1))) σ) := by
  refine Iff.trans (zw_iconst (x := (-1)) (show decode cX11_text 5 = .ok (.iconst (-1), 1) by decide +kernel) (by decide)) ?_
  refine Iff.trans (zw_icmp_eq (t := 11) (show decode cX11_text 6 = .ok (.if_icmp .eq 5, 3) by decide +kernel) (by decide)) ?_
  refine zw_ite ?_ ?_
  · refine Iff.trans (zw_iload_n (show decode cX11_text 11 = .ok (.iload_n 1, 1) by decide +kernel) rfl) ?_
    refine Iff.trans (zw_if_ne (t := 22) (show decode cX11_text 12 = .ok (.ifCond .ne 10, 3) by decide +kernel) (by decide)) ?_
    refine zw_ite ?_ ?_
    · refine Iff.trans (zw_aload_n (show decode cX11_text 15 = .ok (.aload_n 0, 1) by decide +kernel) rfl) ?_
      refine Iff.trans (zw_invV (K' := kX11_keepBrook) (as' := []) (rest := []) (show decode cX11_text 16 = .ok (.invokevirtual 129, 3) by decide +kernel) (by rfl) rfl rfl rfl (hl.k2 zk_1) (by decide) (hl.n2 zk_1) ⟨Nat.le_of_ble_eq_true rfl, Nat.le_of_ble_eq_true rfl, Nat.le_of_ble_eq_true rfl⟩) ?_
      exact Iff.rfl
    · refine Iff.trans (zw_aload_n (show decode cX11_text 22 = .ok (.aload_n 0, 1) by decide +kernel) rfl) ?_
      refine Iff.trans (zw_invV (K' := kX11_keepStick) (as' := []) (rest := []) (show decode cX11_text 23 = .ok (.invokevirtual 133, 3) by decide +kernel) (by rfl) rfl rfl rfl (hl.k2 zk_1) (by decide) (hl.n2 zk_1) ⟨Nat.le_of_ble_eq_true rfl, Nat.le_of_ble_eq_true rfl, Nat.le_of_ble_eq_true rfl⟩) ?_
      exact Iff.rfl
  · refine Iff.trans (zw_iconst (x := (-1)) (show decode cX11_text 9 = .ok (.iconst (-1), 1) by decide +kernel) (by decide)) ?_
    exact zw_iret1 (show decode cX11_text 10 = .ok (.ireturn, 1) by decide +kernel) rfl

theorem bX11_text_19 {d : Nat} {σ : zS} {Q : Option Value → zS → Prop} (hl : zLay σ) {x1 y0 : Int32} : zW (d + 1) kX11_text 19 [.ref 1, .int x1, .retAddr 0] [.int y0] σ Q ↔ zW (d + 1) kX11_text 26 [.ref 1, .int x1, .retAddr 0] [.int y0] σ Q := by
  refine Iff.trans (zw_goto (t := 26) (show decode cX11_text 19 = .ok (.goto 7, 3) by decide +kernel) (by decide)) ?_
  exact Iff.rfl

theorem bX11_text_26 {d : Nat} {σ : zS} {Q : Option Value → zS → Prop} (hl : zLay σ) {x1 y0 : Int32} : zW (d + 1) kX11_text 26 [.ref 1, .int x1, .retAddr 0] [.int y0] σ Q ↔ (if y0 = (-1) then Q (some (.int y0)) σ else Q (some (.int y0)) (zsI σ 2 (upd (zI σ 2) 1 0))) := by
  refine Iff.trans (zw_istore_n (ls' := [.ref 1, .int x1, .int y0]) (show decode cX11_text 26 = .ok (.istore_n 2, 1) by decide +kernel) (zset_s (Nat.le_of_ble_eq_true rfl) rfl)) ?_
  refine Iff.trans (zw_iload_n (show decode cX11_text 27 = .ok (.iload_n 2, 1) by decide +kernel) rfl) ?_
  refine Iff.trans (zw_iconst (x := (-1)) (show decode cX11_text 28 = .ok (.iconst (-1), 1) by decide +kernel) (by decide)) ?_
  refine Iff.trans (zw_icmp_eq (t := 40) (show decode cX11_text 29 = .ok (.if_icmp .eq 11, 3) by decide +kernel) (by decide)) ?_
  refine zw_ite ?_ ?_
  · refine Iff.trans (zw_iload_n (show decode cX11_text 40 = .ok (.iload_n 2, 1) by decide +kernel) rfl) ?_
    exact zw_iret1 (show decode cX11_text 41 = .ok (.ireturn, 1) by decide +kernel) rfl
  · refine Iff.trans (zw_aload_n (show decode cX11_text 32 = .ok (.aload_n 0, 1) by decide +kernel) rfl) ?_
    refine Iff.trans (zw_get (show decode cX11_text 33 = .ok (.getfield 10, 3) by decide +kernel) (by decide +kernel : zfld 11 10 = some (11, 0)) (hl.k2 zk_1) (hl.n2 zk_1) (zgetR (v := 2) (hl.r zrt_1_0) rfl)) ?_
    refine Iff.trans (zw_iconst (x := 0) (show decode cX11_text 36 = .ok (.iconst 0, 1) by decide +kernel) (by decide)) ?_
    refine Iff.trans (zw_putI (show decode cX11_text 37 = .ok (.putfield 110, 3) by decide +kernel) (by decide +kernel : zfld 11 110 = some (8, 1)) (hl.k2 zk_2) (hl.n2 zk_2) rfl (Or.inl rfl) (σ' := (zsI σ 2 (upd (zI σ 2) 1 0))) rfl) ?_
    refine Iff.trans (zw_iload_n (show decode cX11_text 40 = .ok (.iload_n 2, 1) by decide +kernel) rfl) ?_
    exact zw_iret1 (show decode cX11_text 41 = .ok (.ireturn, 1) by decide +kernel) rfl

theorem bX11_keepBrook_0 {d : Nat} {σ : zS} {Q : Option Value → zS → Prop} (hl : zLay σ) : zCall (d + 1) kX11_keepBrook [.ref 1] σ Q ↔ (if (zI σ 1 2) < 6 then (vp_in (zI σ 1 2) 6 ∧ zW (d + 1) kX11_keepBrook 23 [.ref 1] (va_rf (zR σ 4 (zI σ 1 2 : Int32).toNatClampNeg) :: []) σ Q) else Q (some (.int (-1))) σ) := by
  show zW (d + 1) kX11_keepBrook 0 [.ref 1] [] σ Q ↔ _
  refine Iff.trans (zw_aload_n (show decode cX11_keepBrook 0 = .ok (.aload_n 0, 1) by decide +kernel) rfl) ?_
  refine Iff.trans (zw_getI (show decode cX11_keepBrook 1 = .ok (.getfield 136, 3) by decide +kernel) (by decide +kernel : zfld 11 136 = some (11, 2)) (hl.k2 zk_1) (hl.n2 zk_1) (Or.inl rfl) (w := zI σ 1 2) rfl) ?_
  refine Iff.trans (zw_aload_n (show decode cX11_keepBrook 4 = .ok (.aload_n 0, 1) by decide +kernel) rfl) ?_
  refine Iff.trans (zw_get (show decode cX11_keepBrook 5 = .ok (.getfield 18, 3) by decide +kernel) (by decide +kernel : zfld 11 18 = some (11, 1)) (hl.k2 zk_1) (hl.n2 zk_1) (zgetR (v := 4) (hl.r zrt_1_1) rfl)) ?_
  refine Iff.trans (zw_alen (show decode cX11_keepBrook 8 = .ok (.arraylength, 1) by decide +kernel) ⟨by rw [(hl.k2 zk_4)]; decide, Or.inl (by rw [(hl.k2 zk_4)]; decide)⟩ (hl.n2 zk_4) (hl.l2 zk_4 zl_4) (v := 6) rfl) ?_
  refine Iff.trans (zw_icmp_lt (t := 14) (show decode cX11_keepBrook 9 = .ok (.if_icmp .lt 5, 3) by decide +kernel) (by decide)) ?_
  refine zw_ite ?_ ?_
  · refine Iff.trans (zw_aload_n (show decode cX11_keepBrook 14 = .ok (.aload_n 0, 1) by decide +kernel) rfl) ?_
    refine Iff.trans (zw_get (show decode cX11_keepBrook 15 = .ok (.getfield 18, 3) by decide +kernel) (by decide +kernel : zfld 11 18 = some (11, 1)) (hl.k2 zk_1) (hl.n2 zk_1) (zgetR (v := 4) (hl.r zrt_1_1) rfl)) ?_
    refine Iff.trans (zw_aload_n (show decode cX11_keepBrook 18 = .ok (.aload_n 0, 1) by decide +kernel) rfl) ?_
    refine Iff.trans (zw_getI (show decode cX11_keepBrook 19 = .ok (.getfield 136, 3) by decide +kernel) (by decide +kernel : zfld 11 136 = some (11, 2)) (hl.k2 zk_1) (hl.n2 zk_1) (Or.inl rfl) (w := zI σ 1 2) rfl) ?_
    refine Iff.trans (zw_aald (show decode cX11_keepBrook 22 = .ok (.aaload, 1) by decide +kernel) (by rw [(hl.k2 zk_4)]; decide) (hl.n2 zk_4) (hl.l2 zk_4 zl_4)) ?_
    refine zw_and ?_
    exact Iff.rfl
  · refine Iff.trans (zw_iconst (x := (-1)) (show decode cX11_keepBrook 12 = .ok (.iconst (-1), 1) by decide +kernel) (by decide)) ?_
    exact zw_iret1 (show decode cX11_keepBrook 13 = .ok (.ireturn, 1) by decide +kernel) rfl

theorem bX11_keepBrook_23 {d : Nat} {σ : zS} {Q : Option Value → zS → Prop} (hl : zLay σ) {b0 : Nat} (hb0 : zk b0 = 0) : zW (d + 1) kX11_keepBrook 23 [.ref 1] [.ref b0] σ Q ↔ zCall d kX0_copyFrom [.ref b0, .ref 91] σ (fun r σ' => zisN r = true ∧ zW (d + 1) kX11_keepBrook 30 [.ref 1] (zRstk r ++ []) σ' Q) := by
  refine Iff.trans (zw_aload_n (show decode cX11_keepBrook 23 = .ok (.aload_n 0, 1) by decide +kernel) rfl) ?_
  refine Iff.trans (zw_get (show decode cX11_keepBrook 24 = .ok (.getfield 93, 3) by decide +kernel) (by decide +kernel : zfld 11 93 = some (11, 17)) (hl.k2 zk_1) (hl.n2 zk_1) (zgetR (v := 91) (hl.r zrt_1_17) rfl)) ?_
  refine Iff.trans (zw_invV (K' := kX0_copyFrom) (as' := [.ref 91]) (rest := []) (show decode cX11_keepBrook 27 = .ok (.invokevirtual 139, 3) by decide +kernel) (by rfl) rfl rfl rfl (hl.k2 hb0) (by decide) (hl.n2 hb0) ⟨Nat.le_of_ble_eq_true rfl, Nat.le_of_ble_eq_true rfl, Nat.le_of_ble_eq_true rfl⟩) ?_
  exact Iff.rfl

theorem bX11_keepBrook_30 {d : Nat} {σ : zS} {Q : Option Value → zS → Prop} (hl : zLay σ) : zW (d + 1) kX11_keepBrook 30 [.ref 1] [] σ Q ↔ Q (some (.int (zI σ 1 2))) (zsI σ 1 (upd (zI σ 1) 2 ((zI σ 1 2) + 1))) := by
  refine Iff.trans (zw_aload_n (show decode cX11_keepBrook 30 = .ok (.aload_n 0, 1) by decide +kernel) rfl) ?_
  refine Iff.trans (zw_dup (show decode cX11_keepBrook 31 = .ok (.dup, 1) by decide +kernel) rfl) ?_
  refine Iff.trans (zw_getI (show decode cX11_keepBrook 32 = .ok (.getfield 136, 3) by decide +kernel) (by decide +kernel : zfld 11 136 = some (11, 2)) (hl.k2 zk_1) (hl.n2 zk_1) (Or.inl rfl) (w := zI σ 1 2) rfl) ?_
  refine Iff.trans (zw_dup_x1 (show decode cX11_keepBrook 35 = .ok (.dup_x1, 1) by decide +kernel) ⟨rfl, rfl⟩) ?_
  refine Iff.trans (zw_iconst (x := 1) (show decode cX11_keepBrook 36 = .ok (.iconst 1, 1) by decide +kernel) (by decide)) ?_
  refine Iff.trans (zw_iadd (show decode cX11_keepBrook 37 = .ok (.iadd, 1) by decide +kernel)) ?_
  refine Iff.trans (zw_putI (show decode cX11_keepBrook 38 = .ok (.putfield 136, 3) by decide +kernel) (by decide +kernel : zfld 11 136 = some (11, 2)) (hl.k2 zk_1) (hl.n2 zk_1) rfl (Or.inl rfl) (σ' := (zsI σ 1 (upd (zI σ 1) 2 ((zI σ 1 2) + 1)))) rfl) ?_
  exact zw_iret1 (show decode cX11_keepBrook 41 = .ok (.ireturn, 1) by decide +kernel) rfl

theorem bX11_keepStick_0 {d : Nat} {σ : zS} {Q : Option Value → zS → Prop} (hl : zLay σ) : zCall (d + 1) kX11_keepStick [.ref 1] σ Q ↔ (if (zI σ 1 4) < 10 then (vp_in (zI σ 1 4) 10 ∧ zW (d + 1) kX11_keepStick 23 [.ref 1] (va_rf (zR σ 5 (zI σ 1 4 : Int32).toNatClampNeg) :: []) σ Q) else Q (some (.int (-1))) σ) := by
  show zW (d + 1) kX11_keepStick 0 [.ref 1] [] σ Q ↔ _
  refine Iff.trans (zw_aload_n (show decode cX11_keepStick 0 = .ok (.aload_n 0, 1) by decide +kernel) rfl) ?_
  refine Iff.trans (zw_getI (show decode cX11_keepStick 1 = .ok (.getfield 143, 3) by decide +kernel) (by decide +kernel : zfld 11 143 = some (11, 4)) (hl.k2 zk_1) (hl.n2 zk_1) (Or.inl rfl) (w := zI σ 1 4) rfl) ?_
  refine Iff.trans (zw_aload_n (show decode cX11_keepStick 4 = .ok (.aload_n 0, 1) by decide +kernel) rfl) ?_
  refine Iff.trans (zw_get (show decode cX11_keepStick 5 = .ok (.getfield 24, 3) by decide +kernel) (by decide +kernel : zfld 11 24 = some (11, 3)) (hl.k2 zk_1) (hl.n2 zk_1) (zgetR (v := 5) (hl.r zrt_1_3) rfl)) ?_
  refine Iff.trans (zw_alen (show decode cX11_keepStick 8 = .ok (.arraylength, 1) by decide +kernel) ⟨by rw [(hl.k2 zk_5)]; decide, Or.inl (by rw [(hl.k2 zk_5)]; decide)⟩ (hl.n2 zk_5) (hl.l2 zk_5 zl_5) (v := 10) rfl) ?_
  refine Iff.trans (zw_icmp_lt (t := 14) (show decode cX11_keepStick 9 = .ok (.if_icmp .lt 5, 3) by decide +kernel) (by decide)) ?_
  refine zw_ite ?_ ?_
  · refine Iff.trans (zw_aload_n (show decode cX11_keepStick 14 = .ok (.aload_n 0, 1) by decide +kernel) rfl) ?_
    refine Iff.trans (zw_get (show decode cX11_keepStick 15 = .ok (.getfield 24, 3) by decide +kernel) (by decide +kernel : zfld 11 24 = some (11, 3)) (hl.k2 zk_1) (hl.n2 zk_1) (zgetR (v := 5) (hl.r zrt_1_3) rfl)) ?_
    refine Iff.trans (zw_aload_n (show decode cX11_keepStick 18 = .ok (.aload_n 0, 1) by decide +kernel) rfl) ?_
    refine Iff.trans (zw_getI (show decode cX11_keepStick 19 = .ok (.getfield 143, 3) by decide +kernel) (by decide +kernel : zfld 11 143 = some (11, 4)) (hl.k2 zk_1) (hl.n2 zk_1) (Or.inl rfl) (w := zI σ 1 4) rfl) ?_
    refine Iff.trans (zw_aald (show decode cX11_keepStick 22 = .ok (.aaload, 1) by decide +kernel) (by rw [(hl.k2 zk_5)]; decide) (hl.n2 zk_5) (hl.l2 zk_5 zl_5)) ?_
    refine zw_and ?_
    exact Iff.rfl
  · refine Iff.trans (zw_iconst (x := (-1)) (show decode cX11_keepStick 12 = .ok (.iconst (-1), 1) by decide +kernel) (by decide)) ?_
    exact zw_iret1 (show decode cX11_keepStick 13 = .ok (.ireturn, 1) by decide +kernel) rfl

theorem bX11_keepStick_23 {d : Nat} {σ : zS} {Q : Option Value → zS → Prop} (hl : zLay σ) {b0 : Nat} (hb0 : zk b0 = 6) : zW (d + 1) kX11_keepStick 23 [.ref 1] [.ref b0] σ Q ↔ zCall d kX6_shape [.ref b0, .int (zI σ 95 0), .int (zI σ 95 1), .int (zI σ 95 2)] σ (fun r σ' => zisN r = true ∧ zW (d + 1) kX11_keepStick 47 [.ref 1] (zRstk r ++ []) σ' Q) := by
  refine Iff.trans (zw_aload_n (show decode cX11_keepStick 23 = .ok (.aload_n 0, 1) by decide +kernel) rfl) ?_
  refine Iff.trans (zw_get (show decode cX11_keepStick 24 = .ok (.getfield 98, 3) by decide +kernel) (by decide +kernel : zfld 11 98 = some (11, 18)) (hl.k2 zk_1) (hl.n2 zk_1) (zgetR (v := 95) (hl.r zrt_1_18) rfl)) ?_
  refine Iff.trans (zw_getI (show decode cX11_keepStick 27 = .ok (.getfield 146, 3) by decide +kernel) (by decide +kernel : zfld 11 146 = some (6, 0)) (hl.k2 zk_95) (hl.n2 zk_95) (Or.inl rfl) (w := zI σ 95 0) rfl) ?_
  refine Iff.trans (zw_aload_n (show decode cX11_keepStick 30 = .ok (.aload_n 0, 1) by decide +kernel) rfl) ?_
  refine Iff.trans (zw_get (show decode cX11_keepStick 31 = .ok (.getfield 98, 3) by decide +kernel) (by decide +kernel : zfld 11 98 = some (11, 18)) (hl.k2 zk_1) (hl.n2 zk_1) (zgetR (v := 95) (hl.r zrt_1_18) rfl)) ?_
  refine Iff.trans (zw_getI (show decode cX11_keepStick 34 = .ok (.getfield 147, 3) by decide +kernel) (by decide +kernel : zfld 11 147 = some (6, 1)) (hl.k2 zk_95) (hl.n2 zk_95) (Or.inl rfl) (w := zI σ 95 1) rfl) ?_
  refine Iff.trans (zw_aload_n (show decode cX11_keepStick 37 = .ok (.aload_n 0, 1) by decide +kernel) rfl) ?_
  refine Iff.trans (zw_get (show decode cX11_keepStick 38 = .ok (.getfield 98, 3) by decide +kernel) (by decide +kernel : zfld 11 98 = some (11, 18)) (hl.k2 zk_1) (hl.n2 zk_1) (zgetR (v := 95) (hl.r zrt_1_18) rfl)) ?_
  refine Iff.trans (zw_getI (show decode cX11_keepStick 41 = .ok (.getfield 150, 3) by decide +kernel) (by decide +kernel : zfld 11 150 = some (6, 2)) (hl.k2 zk_95) (hl.n2 zk_95) (Or.inl rfl) (w := zI σ 95 2) rfl) ?_
  refine Iff.trans (zw_invV (K' := kX6_shape) (as' := [.int (zI σ 95 0), .int (zI σ 95 1), .int (zI σ 95 2)]) (rest := []) (show decode cX11_keepStick 44 = .ok (.invokevirtual 153, 3) by decide +kernel) (by rfl) rfl rfl rfl (hl.k2 hb0) (by decide) (hl.n2 hb0) ⟨Nat.le_of_ble_eq_true rfl, Nat.le_of_ble_eq_true rfl, Nat.le_of_ble_eq_true rfl⟩) ?_
  exact Iff.rfl

theorem bX11_keepStick_47 {d : Nat} {σ : zS} {Q : Option Value → zS → Prop} (hl : zLay σ) : zW (d + 1) kX11_keepStick 47 [.ref 1] [] σ Q ↔ Q (some (.int (zI σ 1 4))) (zsI σ 1 (upd (zI σ 1) 4 ((zI σ 1 4) + 1))) := by
  refine Iff.trans (zw_aload_n (show decode cX11_keepStick 47 = .ok (.aload_n 0, 1) by decide +kernel) rfl) ?_
  refine Iff.trans (zw_dup (show decode cX11_keepStick 48 = .ok (.dup, 1) by decide +kernel) rfl) ?_
  refine Iff.trans (zw_getI (show decode cX11_keepStick 49 = .ok (.getfield 143, 3) by decide +kernel) (by decide +kernel : zfld 11 143 = some (11, 4)) (hl.k2 zk_1) (hl.n2 zk_1) (Or.inl rfl) (w := zI σ 1 4) rfl) ?_
  refine Iff.trans (zw_dup_x1 (show decode cX11_keepStick 52 = .ok (.dup_x1, 1) by decide +kernel) ⟨rfl, rfl⟩) ?_
  refine Iff.trans (zw_iconst (x := 1) (show decode cX11_keepStick 53 = .ok (.iconst 1, 1) by decide +kernel) (by decide)) ?_
  refine Iff.trans (zw_iadd (show decode cX11_keepStick 54 = .ok (.iadd, 1) by decide +kernel)) ?_
  refine Iff.trans (zw_putI (show decode cX11_keepStick 55 = .ok (.putfield 143, 3) by decide +kernel) (by decide +kernel : zfld 11 143 = some (11, 4)) (hl.k2 zk_1) (hl.n2 zk_1) rfl (Or.inl rfl) (σ' := (zsI σ 1 (upd (zI σ 1) 4 ((zI σ 1 4) + 1)))) rfl) ?_
  exact zw_iret1 (show decode cX11_keepStick 58 = .ok (.ireturn, 1) by decide +kernel) rfl

theorem bX11_pace_0 {d : Nat} {σ : zS} {Q : Option Value → zS → Prop} (hl : zLay σ) {x1 x2 x3 : Int32} : zCall (d + 1) kX11_pace [.ref 1, .int x1, .int x2, .int x3] σ Q ↔ zCall d kX11_noBrook [.ref 1, .int x1] σ (fun r σ' => zisN r = true ∧ zW (d + 1) kX11_pace 5 [.ref 1, .int x1, .int x2, .int x3] (zRstk r ++ []) σ' Q) := by
  show zW (d + 1) kX11_pace 0 [.ref 1, .int x1, .int x2, .int x3] [] σ Q ↔ _
  refine Iff.trans (zw_aload_n (show decode cX11_pace 0 = .ok (.aload_n 0, 1) by decide +kernel) rfl) ?_
  refine Iff.trans (zw_iload_n (show decode cX11_pace 1 = .ok (.iload_n 1, 1) by decide +kernel) rfl) ?_
  refine Iff.trans (zw_invV (K' := kX11_noBrook) (as' := [.int x1]) (rest := []) (show decode cX11_pace 2 = .ok (.invokevirtual 157, 3) by decide +kernel) (by rfl) rfl rfl rfl (hl.k2 zk_1) (by decide) (hl.n2 zk_1) ⟨Nat.le_of_ble_eq_true rfl, Nat.le_of_ble_eq_true rfl, Nat.le_of_ble_eq_true rfl⟩) ?_
  exact Iff.rfl

theorem bX11_pace_5 {d : Nat} {σ : zS} {Q : Option Value → zS → Prop} (hl : zLay σ) {x1 x2 x3 y0 : Int32} : zW (d + 1) kX11_pace 5 [.ref 1, .int x1, .int x2, .int x3] [.int y0] σ Q ↔ (if y0 = (0 : Int32) then (vp_in x1 6 ∧ zW (d + 1) kX11_pace 14 [.ref 1, .int x1, .int x2, .int x3] (va_rf (zR σ 4 (x1 : Int32).toNatClampNeg) :: []) σ Q) else Q (some (.int (-1))) σ) := by
  refine Iff.trans (zw_if_ne (t := 22) (show decode cX11_pace 5 = .ok (.ifCond .ne 17, 3) by decide +kernel) (by decide)) ?_
  refine zw_ite ?_ ?_
  · refine Iff.trans (zw_aload_n (show decode cX11_pace 8 = .ok (.aload_n 0, 1) by decide +kernel) rfl) ?_
    refine Iff.trans (zw_get (show decode cX11_pace 9 = .ok (.getfield 18, 3) by decide +kernel) (by decide +kernel : zfld 11 18 = some (11, 1)) (hl.k2 zk_1) (hl.n2 zk_1) (zgetR (v := 4) (hl.r zrt_1_1) rfl)) ?_
    refine Iff.trans (zw_iload_n (show decode cX11_pace 12 = .ok (.iload_n 1, 1) by decide +kernel) rfl) ?_
    refine Iff.trans (zw_aald (show decode cX11_pace 13 = .ok (.aaload, 1) by decide +kernel) (by rw [(hl.k2 zk_4)]; decide) (hl.n2 zk_4) (hl.l2 zk_4 zl_4)) ?_
    refine zw_and ?_
    exact Iff.rfl
  · refine Iff.trans (zw_iconst (x := (-1)) (show decode cX11_pace 22 = .ok (.iconst (-1), 1) by decide +kernel) (by decide)) ?_
    exact zw_iret1 (show decode cX11_pace 23 = .ok (.ireturn, 1) by decide +kernel) rfl

theorem bX11_pace_14 {d : Nat} {σ : zS} {Q : Option Value → zS → Prop} (hl : zLay σ) {x1 x2 x3 : Int32} {b0 : Nat} (hb0 : zk b0 = 0) : zW (d + 1) kX11_pace 14 [.ref 1, .int x1, .int x2, .int x3] [.ref b0] σ Q ↔ zCall d kX0_has [.ref b0, .int x2, .int x3] σ (fun r σ' => zisN r = true ∧ zW (d + 1) kX11_pace 19 [.ref 1, .int x1, .int x2, .int x3] (zRstk r ++ []) σ' Q) := by
  refine Iff.trans (zw_iload_n (show decode cX11_pace 14 = .ok (.iload_n 2, 1) by decide +kernel) rfl) ?_
  refine Iff.trans (zw_iload_n (show decode cX11_pace 15 = .ok (.iload_n 3, 1) by decide +kernel) rfl) ?_
  refine Iff.trans (zw_invV (K' := kX0_has) (as' := [.int x2, .int x3]) (rest := []) (show decode cX11_pace 16 = .ok (.invokevirtual 176, 3) by decide +kernel) (by rfl) rfl rfl rfl (hl.k2 hb0) (by decide) (hl.n2 hb0) ⟨Nat.le_of_ble_eq_true rfl, Nat.le_of_ble_eq_true rfl, Nat.le_of_ble_eq_true rfl⟩) ?_
  exact Iff.rfl

theorem bX11_pace_19 {d : Nat} {σ : zS} {Q : Option Value → zS → Prop} (hl : zLay σ) {x1 x2 x3 y0 : Int32} : zW (d + 1) kX11_pace 19 [.ref 1, .int x1, .int x2, .int x3] [.int y0] σ Q ↔ (if y0 = (0 : Int32) then Q (some (.int (-1))) σ else (vp_in x1 6 ∧ zW (d + 1) kX11_pace 30 [.ref 1, .int x1, .int x2, .int x3] (va_rf (zR σ 4 (x1 : Int32).toNatClampNeg) :: []) σ Q)) := by
  refine Iff.trans (zw_if_ne (t := 24) (show decode cX11_pace 19 = .ok (.ifCond .ne 5, 3) by decide +kernel) (by decide)) ?_
  refine zw_ite ?_ ?_
  · refine Iff.trans (zw_iconst (x := (-1)) (show decode cX11_pace 22 = .ok (.iconst (-1), 1) by decide +kernel) (by decide)) ?_
    exact zw_iret1 (show decode cX11_pace 23 = .ok (.ireturn, 1) by decide +kernel) rfl
  · refine Iff.trans (zw_aload_n (show decode cX11_pace 24 = .ok (.aload_n 0, 1) by decide +kernel) rfl) ?_
    refine Iff.trans (zw_get (show decode cX11_pace 25 = .ok (.getfield 18, 3) by decide +kernel) (by decide +kernel : zfld 11 18 = some (11, 1)) (hl.k2 zk_1) (hl.n2 zk_1) (zgetR (v := 4) (hl.r zrt_1_1) rfl)) ?_
    refine Iff.trans (zw_iload_n (show decode cX11_pace 28 = .ok (.iload_n 1, 1) by decide +kernel) rfl) ?_
    refine Iff.trans (zw_aald (show decode cX11_pace 29 = .ok (.aaload, 1) by decide +kernel) (by rw [(hl.k2 zk_4)]; decide) (hl.n2 zk_4) (hl.l2 zk_4 zl_4)) ?_
    refine zw_and ?_
    exact Iff.rfl

theorem bX11_pace_30 {d : Nat} {σ : zS} {Q : Option Value → zS → Prop} (hl : zLay σ) {x1 x2 x3 : Int32} {b0 : Nat} (hb0 : zk b0 = 0) : zW (d + 1) kX11_pace 30 [.ref 1, .int x1, .int x2, .int x3] [.ref b0] σ Q ↔ zCall d kX0_paceAt [.ref b0, .int x2, .int x3, .int (zI σ 10 1)] σ (fun r σ' => zisN r = true ∧ zW (d + 1) kX11_pace 42 [.ref 1, .int x1, .int x2, .int x3] (zRstk r ++ []) σ' Q) := by
  refine Iff.trans (zw_iload_n (show decode cX11_pace 30 = .ok (.iload_n 2, 1) by decide +kernel) rfl) ?_
  refine Iff.trans (zw_iload_n (show decode cX11_pace 31 = .ok (.iload_n 3, 1) by decide +kernel) rfl) ?_
  refine Iff.trans (zw_aload_n (show decode cX11_pace 32 = .ok (.aload_n 0, 1) by decide +kernel) rfl) ?_
  refine Iff.trans (zw_get (show decode cX11_pace 33 = .ok (.getfield 38, 3) by decide +kernel) (by decide +kernel : zfld 11 38 = some (11, 6)) (hl.k2 zk_1) (hl.n2 zk_1) (zgetR (v := 10) (hl.r zrt_1_6) rfl)) ?_
  refine Iff.trans (zw_getI (show decode cX11_pace 36 = .ok (.getfield 180, 3) by decide +kernel) (by decide +kernel : zfld 11 180 = some (10, 1)) (hl.k2 zk_10) (hl.n2 zk_10) (Or.inl rfl) (w := zI σ 10 1) rfl) ?_
  refine Iff.trans (zw_invV (K' := kX0_paceAt) (as' := [.int x2, .int x3, .int (zI σ 10 1)]) (rest := []) (show decode cX11_pace 39 = .ok (.invokevirtual 183, 3) by decide +kernel) (by rfl) rfl rfl rfl (hl.k2 hb0) (by decide) (hl.n2 hb0) ⟨Nat.le_of_ble_eq_true rfl, Nat.le_of_ble_eq_true rfl, Nat.le_of_ble_eq_true rfl⟩) ?_
  exact Iff.rfl

theorem bX11_pace_42 {d : Nat} {σ : zS} {Q : Option Value → zS → Prop} (hl : zLay σ) {x1 x2 x3 y0 : Int32} : zW (d + 1) kX11_pace 42 [.ref 1, .int x1, .int x2, .int x3] [.int y0] σ Q ↔ Q (some (.int y0)) σ := by
  exact zw_iret1 (show decode cX11_pace 42 = .ok (.ireturn, 1) by decide +kernel) rfl

theorem bX11_stick_0 {d : Nat} {σ : zS} {Q : Option Value → zS → Prop} (hl : zLay σ) {x1 x2 : Int32} : zCall (d + 1) kX11_stick [.ref 1, .int x1, .int x2] σ Q ↔ zCall d kX11_noStick [.ref 1, .int x1] σ (fun r σ' => zisN r = true ∧ zW (d + 1) kX11_stick 5 [.ref 1, .int x1, .int x2, .retAddr 0] (zRstk r ++ []) σ' Q) := by
  show zW (d + 1) kX11_stick 0 [.ref 1, .int x1, .int x2, .retAddr 0] [] σ Q ↔ _
  refine Iff.trans (zw_aload_n (show decode cX11_stick 0 = .ok (.aload_n 0, 1) by decide +kernel) rfl) ?_
  refine Iff.trans (zw_iload_n (show decode cX11_stick 1 = .ok (.iload_n 1, 1) by decide +kernel) rfl) ?_
  refine Iff.trans (zw_invV (K' := kX11_noStick) (as' := [.int x1]) (rest := []) (show decode cX11_stick 2 = .ok (.invokevirtual 187, 3) by decide +kernel) (by rfl) rfl rfl rfl (hl.k2 zk_1) (by decide) (hl.n2 zk_1) ⟨Nat.le_of_ble_eq_true rfl, Nat.le_of_ble_eq_true rfl, Nat.le_of_ble_eq_true rfl⟩) ?_
  exact Iff.rfl

theorem bX11_stick_5 {d : Nat} {σ : zS} {Q : Option Value → zS → Prop} (hl : zLay σ) {x1 x2 y0 : Int32} : zW (d + 1) kX11_stick 5 [.ref 1, .int x1, .int x2, .retAddr 0] [.int y0] σ Q ↔ (if y0 = (0 : Int32) then (if x2 < (0 : Int32) then Q (some (.int (-1))) σ else (if x2 ≤ 2 then (vp_in x1 10 ∧ zW (d + 1) kX11_stick 25 [.ref 1, .int x1, .int x2, .retAddr 0] (va_rf (zR σ 5 (x1 : Int32).toNatClampNeg) :: []) σ Q) else Q (some (.int (-1))) σ)) else Q (some (.int (-1))) σ) := by
  refine Iff.trans (zw_if_ne (t := 17) (show decode cX11_stick 5 = .ok (.ifCond .ne 12, 3) by decide +kernel) (by decide)) ?_
  refine zw_ite ?_ ?_
  · refine Iff.trans (zw_iload_n (show decode cX11_stick 8 = .ok (.iload_n 2, 1) by decide +kernel) rfl) ?_
    refine Iff.trans (zw_if_lt (t := 17) (show decode cX11_stick 9 = .ok (.ifCond .lt 8, 3) by decide +kernel) (by decide)) ?_
    refine zw_ite ?_ ?_
    · refine Iff.trans (zw_iconst (x := (-1)) (show decode cX11_stick 17 = .ok (.iconst (-1), 1) by decide +kernel) (by decide)) ?_
      exact zw_iret1 (show decode cX11_stick 18 = .ok (.ireturn, 1) by decide +kernel) rfl
    · refine Iff.trans (zw_iload_n (show decode cX11_stick 12 = .ok (.iload_n 2, 1) by decide +kernel) rfl) ?_
      refine Iff.trans (zw_iconst (x := 2) (show decode cX11_stick 13 = .ok (.iconst 2, 1) by decide +kernel) (by decide)) ?_
      refine Iff.trans (zw_icmp_le (t := 19) (show decode cX11_stick 14 = .ok (.if_icmp .le 5, 3) by decide +kernel) (by decide)) ?_
      refine zw_ite ?_ ?_
      · refine Iff.trans (zw_aload_n (show decode cX11_stick 19 = .ok (.aload_n 0, 1) by decide +kernel) rfl) ?_
        refine Iff.trans (zw_get (show decode cX11_stick 20 = .ok (.getfield 24, 3) by decide +kernel) (by decide +kernel : zfld 11 24 = some (11, 3)) (hl.k2 zk_1) (hl.n2 zk_1) (zgetR (v := 5) (hl.r zrt_1_3) rfl)) ?_
        refine Iff.trans (zw_iload_n (show decode cX11_stick 23 = .ok (.iload_n 1, 1) by decide +kernel) rfl) ?_
        refine Iff.trans (zw_aald (show decode cX11_stick 24 = .ok (.aaload, 1) by decide +kernel) (by rw [(hl.k2 zk_5)]; decide) (hl.n2 zk_5) (hl.l2 zk_5 zl_5)) ?_
        refine zw_and ?_
        exact Iff.rfl
      · refine Iff.trans (zw_iconst (x := (-1)) (show decode cX11_stick 17 = .ok (.iconst (-1), 1) by decide +kernel) (by decide)) ?_
        exact zw_iret1 (show decode cX11_stick 18 = .ok (.ireturn, 1) by decide +kernel) rfl
  · refine Iff.trans (zw_iconst (x := (-1)) (show decode cX11_stick 17 = .ok (.iconst (-1), 1) by decide +kernel) (by decide)) ?_
    exact zw_iret1 (show decode cX11_stick 18 = .ok (.ireturn, 1) by decide +kernel) rfl

theorem bX11_stick_25 {d : Nat} {σ : zS} {Q : Option Value → zS → Prop} (hl : zLay σ) {x1 x2 : Int32} {b0 : Nat} (hb0 : zk b0 = 6) : zW (d + 1) kX11_stick 25 [.ref 1, .int x1, .int x2, .retAddr 0] [.ref b0] σ Q ↔ (if x2 = (0 : Int32) then Q (some (.int (zI σ b0 0))) σ else (if x2 = 1 then Q (some (.int (zI σ b0 1))) σ else Q (some (.int (zI σ b0 2))) σ)) := by
  refine Iff.trans (zw_astore_n (ls' := [.ref 1, .int x1, .int x2, .ref b0]) (show decode cX11_stick 25 = .ok (.astore_n 3, 1) by decide +kernel) (zset_s (Nat.le_of_ble_eq_true rfl) rfl)) ?_
  refine Iff.trans (zw_iload_n (show decode cX11_stick 26 = .ok (.iload_n 2, 1) by decide +kernel) rfl) ?_
  refine Iff.trans (zw_if_ne (t := 35) (show decode cX11_stick 27 = .ok (.ifCond .ne 8, 3) by decide +kernel) (by decide)) ?_
  refine zw_ite ?_ ?_
  · refine Iff.trans (zw_aload_n (show decode cX11_stick 30 = .ok (.aload_n 3, 1) by decide +kernel) rfl) ?_
    refine Iff.trans (zw_getI (show decode cX11_stick 31 = .ok (.getfield 146, 3) by decide +kernel) (by decide +kernel : zfld 11 146 = some (6, 0)) (hl.k2 hb0) (hl.n2 hb0) (Or.inl rfl) (w := zI σ b0 0) rfl) ?_
    exact zw_iret1 (show decode cX11_stick 34 = .ok (.ireturn, 1) by decide +kernel) rfl
  · refine Iff.trans (zw_iload_n (show decode cX11_stick 35 = .ok (.iload_n 2, 1) by decide +kernel) rfl) ?_
    refine Iff.trans (zw_iconst (x := 1) (show decode cX11_stick 36 = .ok (.iconst 1, 1) by decide +kernel) (by decide)) ?_
    refine Iff.trans (zw_icmp_ne (t := 47) (show decode cX11_stick 37 = .ok (.if_icmp .ne 10, 3) by decide +kernel) (by decide)) ?_
    refine zw_ite ?_ ?_
    · refine Iff.trans (zw_aload_n (show decode cX11_stick 40 = .ok (.aload_n 3, 1) by decide +kernel) rfl) ?_
      refine Iff.trans (zw_getI (show decode cX11_stick 41 = .ok (.getfield 147, 3) by decide +kernel) (by decide +kernel : zfld 11 147 = some (6, 1)) (hl.k2 hb0) (hl.n2 hb0) (Or.inl rfl) (w := zI σ b0 1) rfl) ?_
      refine Iff.trans (zw_goto (t := 51) (show decode cX11_stick 44 = .ok (.goto 7, 3) by decide +kernel) (by decide)) ?_
      exact zw_iret1 (show decode cX11_stick 51 = .ok (.ireturn, 1) by decide +kernel) rfl
    · refine Iff.trans (zw_aload_n (show decode cX11_stick 47 = .ok (.aload_n 3, 1) by decide +kernel) rfl) ?_
      refine Iff.trans (zw_getI (show decode cX11_stick 48 = .ok (.getfield 150, 3) by decide +kernel) (by decide +kernel : zfld 11 150 = some (6, 2)) (hl.k2 hb0) (hl.n2 hb0) (Or.inl rfl) (w := zI σ b0 2) rfl) ?_
      exact zw_iret1 (show decode cX11_stick 51 = .ok (.ireturn, 1) by decide +kernel) rfl

theorem bX11_weather_0 {d : Nat} {σ : zS} {Q : Option Value → zS → Prop} (hl : zLay σ) {x1 x2 : Int32} : zCall d kX11_weather [.ref 1, .int x1, .int x2] σ Q ↔ (if x1 = (0 : Int32) then (if x2 < (-3) then zW d kX11_weather 25 [.ref 1, .int x1, .int x2] [] σ Q else (if 3 < x2 then zW d kX11_weather 25 [.ref 1, .int x1, .int x2] [] σ Q else Q (some (.int 1)) (zsI σ 10 (upd (zI σ 10) 0 x2)))) else zW d kX11_weather 25 [.ref 1, .int x1, .int x2] [] σ Q) := by
  show zW d kX11_weather 0 [.ref 1, .int x1, .int x2] [] σ Q ↔ _
  refine Iff.trans (zw_iload_n (show decode cX11_weather 0 = .ok (.iload_n 1, 1) by decide +kernel) rfl) ?_
  refine Iff.trans (zw_if_ne (t := 25) (show decode cX11_weather 1 = .ok (.ifCond .ne 24, 3) by decide +kernel) (by decide)) ?_
  refine zw_ite ?_ ?_
  · refine Iff.trans (zw_iload_n (show decode cX11_weather 4 = .ok (.iload_n 2, 1) by decide +kernel) rfl) ?_
    refine Iff.trans (zw_bipush (x := (-3)) (show decode cX11_weather 5 = .ok (.bipush (-3), 2) by decide +kernel) (by decide)) ?_
    refine Iff.trans (zw_icmp_lt (t := 25) (show decode cX11_weather 7 = .ok (.if_icmp .lt 18, 3) by decide +kernel) (by decide)) ?_
    refine zw_ite ?_ ?_
    · exact Iff.rfl
    · refine Iff.trans (zw_iload_n (show decode cX11_weather 10 = .ok (.iload_n 2, 1) by decide +kernel) rfl) ?_
      refine Iff.trans (zw_iconst (x := 3) (show decode cX11_weather 11 = .ok (.iconst 3, 1) by decide +kernel) (by decide)) ?_
      refine Iff.trans (zw_icmp_gt (t := 25) (show decode cX11_weather 12 = .ok (.if_icmp .gt 13, 3) by decide +kernel) (by decide)) ?_
      refine zw_ite ?_ ?_
      · exact Iff.rfl
      · refine Iff.trans (zw_aload_n (show decode cX11_weather 15 = .ok (.aload_n 0, 1) by decide +kernel) rfl) ?_
        refine Iff.trans (zw_get (show decode cX11_weather 16 = .ok (.getfield 38, 3) by decide +kernel) (by decide +kernel : zfld 11 38 = some (11, 6)) (hl.k2 zk_1) (hl.n2 zk_1) (zgetR (v := 10) (hl.r zrt_1_6) rfl)) ?_
        refine Iff.trans (zw_iload_n (show decode cX11_weather 19 = .ok (.iload_n 2, 1) by decide +kernel) rfl) ?_
        refine Iff.trans (zw_putI (show decode cX11_weather 20 = .ok (.putfield 190, 3) by decide +kernel) (by decide +kernel : zfld 11 190 = some (10, 0)) (hl.k2 zk_10) (hl.n2 zk_10) rfl (Or.inl rfl) (σ' := (zsI σ 10 (upd (zI σ 10) 0 x2))) rfl) ?_
        refine Iff.trans (zw_iconst (x := 1) (show decode cX11_weather 23 = .ok (.iconst 1, 1) by decide +kernel) (by decide)) ?_
        exact zw_iret2c (show decode cX11_weather 24 = .ok (.ireturn, 1) by decide +kernel) rfl (Or.inr rfl)
  · exact Iff.rfl

theorem bX11_weather_25 {d : Nat} {σ : zS} {Q : Option Value → zS → Prop} (hl : zLay σ) {x1 x2 : Int32} : zW d kX11_weather 25 [.ref 1, .int x1, .int x2] [] σ Q ↔ (if x1 = 1 then (if x2 < (0 : Int32) then zW d kX11_weather 49 [.ref 1, .int x1, .int x2] [] σ Q else (if 3 < x2 then zW d kX11_weather 49 [.ref 1, .int x1, .int x2] [] σ Q else Q (some (.int 1)) (zsI σ 10 (upd (zI σ 10) 1 x2)))) else zW d kX11_weather 49 [.ref 1, .int x1, .int x2] [] σ Q) := by
  refine Iff.trans (zw_iload_n (show decode cX11_weather 25 = .ok (.iload_n 1, 1) by decide +kernel) rfl) ?_
  refine Iff.trans (zw_iconst (x := 1) (show decode cX11_weather 26 = .ok (.iconst 1, 1) by decide +kernel) (by decide)) ?_
  refine Iff.trans (zw_icmp_ne (t := 49) (show decode cX11_weather 27 = .ok (.if_icmp .ne 22, 3) by decide +kernel) (by decide)) ?_
  refine zw_ite ?_ ?_
  · refine Iff.trans (zw_iload_n (show decode cX11_weather 30 = .ok (.iload_n 2, 1) by decide +kernel) rfl) ?_
    refine Iff.trans (zw_if_lt (t := 49) (show decode cX11_weather 31 = .ok (.ifCond .lt 18, 3) by decide +kernel) (by decide)) ?_
    refine zw_ite ?_ ?_
    · exact Iff.rfl
    · refine Iff.trans (zw_iload_n (show decode cX11_weather 34 = .ok (.iload_n 2, 1) by decide +kernel) rfl) ?_
      refine Iff.trans (zw_iconst (x := 3) (show decode cX11_weather 35 = .ok (.iconst 3, 1) by decide +kernel) (by decide)) ?_
      refine Iff.trans (zw_icmp_gt (t := 49) (show decode cX11_weather 36 = .ok (.if_icmp .gt 13, 3) by decide +kernel) (by decide)) ?_
      refine zw_ite ?_ ?_
      · exact Iff.rfl
      · refine Iff.trans (zw_aload_n (show decode cX11_weather 39 = .ok (.aload_n 0, 1) by decide +kernel) rfl) ?_
        refine Iff.trans (zw_get (show decode cX11_weather 40 = .ok (.getfield 38, 3) by decide +kernel) (by decide +kernel : zfld 11 38 = some (11, 6)) (hl.k2 zk_1) (hl.n2 zk_1) (zgetR (v := 10) (hl.r zrt_1_6) rfl)) ?_
        refine Iff.trans (zw_iload_n (show decode cX11_weather 43 = .ok (.iload_n 2, 1) by decide +kernel) rfl) ?_
        refine Iff.trans (zw_putI (show decode cX11_weather 44 = .ok (.putfield 180, 3) by decide +kernel) (by decide +kernel : zfld 11 180 = some (10, 1)) (hl.k2 zk_10) (hl.n2 zk_10) rfl (Or.inl rfl) (σ' := (zsI σ 10 (upd (zI σ 10) 1 x2))) rfl) ?_
        refine Iff.trans (zw_iconst (x := 1) (show decode cX11_weather 47 = .ok (.iconst 1, 1) by decide +kernel) (by decide)) ?_
        exact zw_iret2c (show decode cX11_weather 48 = .ok (.ireturn, 1) by decide +kernel) rfl (Or.inr rfl)
  · exact Iff.rfl

theorem bX11_weather_49 {d : Nat} {σ : zS} {Q : Option Value → zS → Prop} (hl : zLay σ) {x1 x2 : Int32} : zW d kX11_weather 49 [.ref 1, .int x1, .int x2] [] σ Q ↔ (if x1 = 2 then (if x2 < (0 : Int32) then Q (some (.int 0)) σ else (if 10 < x2 then Q (some (.int 0)) σ else Q (some (.int 1)) (zsI σ 10 (upd (zI σ 10) 2 x2)))) else Q (some (.int 0)) σ) := by
  refine Iff.trans (zw_iload_n (show decode cX11_weather 49 = .ok (.iload_n 1, 1) by decide +kernel) rfl) ?_
  refine Iff.trans (zw_iconst (x := 2) (show decode cX11_weather 50 = .ok (.iconst 2, 1) by decide +kernel) (by decide)) ?_
  refine Iff.trans (zw_icmp_ne (t := 74) (show decode cX11_weather 51 = .ok (.if_icmp .ne 23, 3) by decide +kernel) (by decide)) ?_
  refine zw_ite ?_ ?_
  · refine Iff.trans (zw_iload_n (show decode cX11_weather 54 = .ok (.iload_n 2, 1) by decide +kernel) rfl) ?_
    refine Iff.trans (zw_if_lt (t := 74) (show decode cX11_weather 55 = .ok (.ifCond .lt 19, 3) by decide +kernel) (by decide)) ?_
    refine zw_ite ?_ ?_
    · refine Iff.trans (zw_iconst (x := 0) (show decode cX11_weather 74 = .ok (.iconst 0, 1) by decide +kernel) (by decide)) ?_
      exact zw_iret2c (show decode cX11_weather 75 = .ok (.ireturn, 1) by decide +kernel) rfl (Or.inl rfl)
    · refine Iff.trans (zw_iload_n (show decode cX11_weather 58 = .ok (.iload_n 2, 1) by decide +kernel) rfl) ?_
      refine Iff.trans (zw_bipush (x := 10) (show decode cX11_weather 59 = .ok (.bipush 10, 2) by decide +kernel) (by decide)) ?_
      refine Iff.trans (zw_icmp_gt (t := 74) (show decode cX11_weather 61 = .ok (.if_icmp .gt 13, 3) by decide +kernel) (by decide)) ?_
      refine zw_ite ?_ ?_
      · refine Iff.trans (zw_iconst (x := 0) (show decode cX11_weather 74 = .ok (.iconst 0, 1) by decide +kernel) (by decide)) ?_
        exact zw_iret2c (show decode cX11_weather 75 = .ok (.ireturn, 1) by decide +kernel) rfl (Or.inl rfl)
      · refine Iff.trans (zw_aload_n (show decode cX11_weather 64 = .ok (.aload_n 0, 1) by decide +kernel) rfl) ?_
        refine Iff.trans (zw_get (show decode cX11_weather 65 = .ok (.getfield 38, 3) by decide +kernel) (by decide +kernel : zfld 11 38 = some (11, 6)) (hl.k2 zk_1) (hl.n2 zk_1) (zgetR (v := 10) (hl.r zrt_1_6) rfl)) ?_
        refine Iff.trans (zw_iload_n (show decode cX11_weather 68 = .ok (.iload_n 2, 1) by decide +kernel) rfl) ?_
        refine Iff.trans (zw_putI (show decode cX11_weather 69 = .ok (.putfield 193, 3) by decide +kernel) (by decide +kernel : zfld 11 193 = some (10, 2)) (hl.k2 zk_10) (hl.n2 zk_10) rfl (Or.inl rfl) (σ' := (zsI σ 10 (upd (zI σ 10) 2 x2))) rfl) ?_
        refine Iff.trans (zw_iconst (x := 1) (show decode cX11_weather 72 = .ok (.iconst 1, 1) by decide +kernel) (by decide)) ?_
        exact zw_iret2c (show decode cX11_weather 73 = .ok (.ireturn, 1) by decide +kernel) rfl (Or.inr rfl)
  · refine Iff.trans (zw_iconst (x := 0) (show decode cX11_weather 74 = .ok (.iconst 0, 1) by decide +kernel) (by decide)) ?_
    exact zw_iret2c (show decode cX11_weather 75 = .ok (.ireturn, 1) by decide +kernel) rfl (Or.inl rfl)

theorem bX11_can_0 {d : Nat} {σ : zS} {Q : Option Value → zS → Prop} (hl : zLay σ) {x1 x2 x3 x4 : Int32} : zCall (d + 1) kX11_can [.ref 1, .int x1, .int x2, .int x3, .int x4] σ Q ↔ zCall d kX11_noBrook [.ref 1, .int x1] σ (fun r σ' => zisN r = true ∧ zW (d + 1) kX11_can 5 [.ref 1, .int x1, .int x2, .int x3, .int x4] (zRstk r ++ []) σ' Q) := by
  show zW (d + 1) kX11_can 0 [.ref 1, .int x1, .int x2, .int x3, .int x4] [] σ Q ↔ _
  refine Iff.trans (zw_aload_n (show decode cX11_can 0 = .ok (.aload_n 0, 1) by decide +kernel) rfl) ?_
  refine Iff.trans (zw_iload_n (show decode cX11_can 1 = .ok (.iload_n 1, 1) by decide +kernel) rfl) ?_
  refine Iff.trans (zw_invV (K' := kX11_noBrook) (as' := [.int x1]) (rest := []) (show decode cX11_can 2 = .ok (.invokevirtual 157, 3) by decide +kernel) (by rfl) rfl rfl rfl (hl.k2 zk_1) (by decide) (hl.n2 zk_1) ⟨Nat.le_of_ble_eq_true rfl, Nat.le_of_ble_eq_true rfl, Nat.le_of_ble_eq_true rfl⟩) ?_
  exact Iff.rfl

theorem bX11_can_5 {d : Nat} {σ : zS} {Q : Option Value → zS → Prop} (hl : zLay σ) {x1 x2 x3 x4 y0 : Int32} : zW (d + 1) kX11_can 5 [.ref 1, .int x1, .int x2, .int x3, .int x4] [.int y0] σ Q ↔ (if y0 = (0 : Int32) then zCall d kX11_noStick [.ref 1, .int x2] σ (fun r σ' => zisN r = true ∧ zW (d + 1) kX11_can 13 [.ref 1, .int x1, .int x2, .int x3, .int x4] (zRstk r ++ []) σ' Q) else Q (some (.int (-1))) σ) := by
  refine Iff.trans (zw_if_ne (t := 31) (show decode cX11_can 5 = .ok (.ifCond .ne 26, 3) by decide +kernel) (by decide)) ?_
  refine zw_ite ?_ ?_
  · refine Iff.trans (zw_aload_n (show decode cX11_can 8 = .ok (.aload_n 0, 1) by decide +kernel) rfl) ?_
    refine Iff.trans (zw_iload_n (show decode cX11_can 9 = .ok (.iload_n 2, 1) by decide +kernel) rfl) ?_
    refine Iff.trans (zw_invV (K' := kX11_noStick) (as' := [.int x2]) (rest := []) (show decode cX11_can 10 = .ok (.invokevirtual 187, 3) by decide +kernel) (by rfl) rfl rfl rfl (hl.k2 zk_1) (by decide) (hl.n2 zk_1) ⟨Nat.le_of_ble_eq_true rfl, Nat.le_of_ble_eq_true rfl, Nat.le_of_ble_eq_true rfl⟩) ?_
    exact Iff.rfl
  · refine Iff.trans (zw_iconst (x := (-1)) (show decode cX11_can 31 = .ok (.iconst (-1), 1) by decide +kernel) (by decide)) ?_
    exact zw_iret1 (show decode cX11_can 32 = .ok (.ireturn, 1) by decide +kernel) rfl

theorem bX11_can_13 {d : Nat} {σ : zS} {Q : Option Value → zS → Prop} (hl : zLay σ) {x1 x2 x3 x4 y0 : Int32} : zW (d + 1) kX11_can 13 [.ref 1, .int x1, .int x2, .int x3, .int x4] [.int y0] σ Q ↔ (if y0 = (0 : Int32) then (vp_in x1 6 ∧ zW (d + 1) kX11_can 22 [.ref 1, .int x1, .int x2, .int x3, .int x4] (va_rf (zR σ 4 (x1 : Int32).toNatClampNeg) :: []) σ Q) else Q (some (.int (-1))) σ) := by
  refine Iff.trans (zw_if_ne (t := 31) (show decode cX11_can 13 = .ok (.ifCond .ne 18, 3) by decide +kernel) (by decide)) ?_
  refine zw_ite ?_ ?_
  · refine Iff.trans (zw_aload_n (show decode cX11_can 16 = .ok (.aload_n 0, 1) by decide +kernel) rfl) ?_
    refine Iff.trans (zw_get (show decode cX11_can 17 = .ok (.getfield 18, 3) by decide +kernel) (by decide +kernel : zfld 11 18 = some (11, 1)) (hl.k2 zk_1) (hl.n2 zk_1) (zgetR (v := 4) (hl.r zrt_1_1) rfl)) ?_
    refine Iff.trans (zw_iload_n (show decode cX11_can 20 = .ok (.iload_n 1, 1) by decide +kernel) rfl) ?_
    refine Iff.trans (zw_aald (show decode cX11_can 21 = .ok (.aaload, 1) by decide +kernel) (by rw [(hl.k2 zk_4)]; decide) (hl.n2 zk_4) (hl.l2 zk_4 zl_4)) ?_
    refine zw_and ?_
    exact Iff.rfl
  · refine Iff.trans (zw_iconst (x := (-1)) (show decode cX11_can 31 = .ok (.iconst (-1), 1) by decide +kernel) (by decide)) ?_
    exact zw_iret1 (show decode cX11_can 32 = .ok (.ireturn, 1) by decide +kernel) rfl

theorem bX11_can_22 {d : Nat} {σ : zS} {Q : Option Value → zS → Prop} (hl : zLay σ) {x1 x2 x3 x4 : Int32} {b0 : Nat} (hb0 : zk b0 = 0) : zW (d + 1) kX11_can 22 [.ref 1, .int x1, .int x2, .int x3, .int x4] [.ref b0] σ Q ↔ zCall d kX0_has [.ref b0, .int x3, .int x4] σ (fun r σ' => zisN r = true ∧ zW (d + 1) kX11_can 28 [.ref 1, .int x1, .int x2, .int x3, .int x4] (zRstk r ++ []) σ' Q) := by
  refine Iff.trans (zw_iload_n (show decode cX11_can 22 = .ok (.iload_n 3, 1) by decide +kernel) rfl) ?_
  refine Iff.trans (zw_iload (show decode cX11_can 23 = .ok (.iload 4, 2) by decide +kernel) rfl) ?_
  refine Iff.trans (zw_invV (K' := kX0_has) (as' := [.int x3, .int x4]) (rest := []) (show decode cX11_can 25 = .ok (.invokevirtual 176, 3) by decide +kernel) (by rfl) rfl rfl rfl (hl.k2 hb0) (by decide) (hl.n2 hb0) ⟨Nat.le_of_ble_eq_true rfl, Nat.le_of_ble_eq_true rfl, Nat.le_of_ble_eq_true rfl⟩) ?_
  exact Iff.rfl

theorem bX11_can_28 {d : Nat} {σ : zS} {Q : Option Value → zS → Prop} (hl : zLay σ) {x1 x2 x3 x4 y0 : Int32} : zW (d + 1) kX11_can 28 [.ref 1, .int x1, .int x2, .int x3, .int x4] [.int y0] σ Q ↔ (if y0 = (0 : Int32) then Q (some (.int (-1))) σ else (vp_in x1 6 ∧ zW (d + 1) kX11_can 39 [.ref 1, .int x1, .int x2, .int x3, .int x4] (va_rf (zR σ 4 (x1 : Int32).toNatClampNeg) :: []) σ Q)) := by
  refine Iff.trans (zw_if_ne (t := 33) (show decode cX11_can 28 = .ok (.ifCond .ne 5, 3) by decide +kernel) (by decide)) ?_
  refine zw_ite ?_ ?_
  · refine Iff.trans (zw_iconst (x := (-1)) (show decode cX11_can 31 = .ok (.iconst (-1), 1) by decide +kernel) (by decide)) ?_
    exact zw_iret1 (show decode cX11_can 32 = .ok (.ireturn, 1) by decide +kernel) rfl
  · refine Iff.trans (zw_aload_n (show decode cX11_can 33 = .ok (.aload_n 0, 1) by decide +kernel) rfl) ?_
    refine Iff.trans (zw_get (show decode cX11_can 34 = .ok (.getfield 18, 3) by decide +kernel) (by decide +kernel : zfld 11 18 = some (11, 1)) (hl.k2 zk_1) (hl.n2 zk_1) (zgetR (v := 4) (hl.r zrt_1_1) rfl)) ?_
    refine Iff.trans (zw_iload_n (show decode cX11_can 37 = .ok (.iload_n 1, 1) by decide +kernel) rfl) ?_
    refine Iff.trans (zw_aald (show decode cX11_can 38 = .ok (.aaload, 1) by decide +kernel) (by rw [(hl.k2 zk_4)]; decide) (hl.n2 zk_4) (hl.l2 zk_4 zl_4)) ?_
    refine zw_and ?_
    exact Iff.rfl

theorem bX11_can_39 {d : Nat} {σ : zS} {Q : Option Value → zS → Prop} (hl : zLay σ) {x1 x2 x3 x4 : Int32} {b0 : Nat} (hb0 : zk b0 = 0) : zW (d + 1) kX11_can 39 [.ref 1, .int x1, .int x2, .int x3, .int x4] [.ref b0] σ Q ↔ (vp_in x2 10 ∧ zW (d + 1) kX11_can 45 [.ref 1, .int x1, .int x2, .int x3, .int x4] (va_rf (zR σ 5 (x2 : Int32).toNatClampNeg) :: [.ref b0]) σ Q) := by
  refine Iff.trans (zw_aload_n (show decode cX11_can 39 = .ok (.aload_n 0, 1) by decide +kernel) rfl) ?_
  refine Iff.trans (zw_get (show decode cX11_can 40 = .ok (.getfield 24, 3) by decide +kernel) (by decide +kernel : zfld 11 24 = some (11, 3)) (hl.k2 zk_1) (hl.n2 zk_1) (zgetR (v := 5) (hl.r zrt_1_3) rfl)) ?_
  refine Iff.trans (zw_iload_n (show decode cX11_can 43 = .ok (.iload_n 2, 1) by decide +kernel) rfl) ?_
  refine Iff.trans (zw_aald (show decode cX11_can 44 = .ok (.aaload, 1) by decide +kernel) (by rw [(hl.k2 zk_5)]; decide) (hl.n2 zk_5) (hl.l2 zk_5 zl_5)) ?_
  refine zw_and ?_
  exact Iff.rfl

theorem bX11_can_45 {d : Nat} {σ : zS} {Q : Option Value → zS → Prop} (hl : zLay σ) {x1 x2 x3 x4 : Int32} {b0 b1 : Nat} (hb0 : zk b0 = 6) (hb1 : zk b1 = 0) : zW (d + 1) kX11_can 45 [.ref 1, .int x1, .int x2, .int x3, .int x4] [.ref b0, .ref b1] σ Q ↔ zCall d kX0_holds [.ref b1, .ref b0, .int x3, .int x4, .int (zI σ 10 1)] σ (fun r σ' => zisN r = true ∧ zW (d + 1) kX11_can 58 [.ref 1, .int x1, .int x2, .int x3, .int x4] (zRstk r ++ []) σ' Q) := by
  refine Iff.trans (zw_iload_n (show decode cX11_can 45 = .ok (.iload_n 3, 1) by decide +kernel) rfl) ?_
  refine Iff.trans (zw_iload (show decode cX11_can 46 = .ok (.iload 4, 2) by decide +kernel) rfl) ?_
  refine Iff.trans (zw_aload_n (show decode cX11_can 48 = .ok (.aload_n 0, 1) by decide +kernel) rfl) ?_
  refine Iff.trans (zw_get (show decode cX11_can 49 = .ok (.getfield 38, 3) by decide +kernel) (by decide +kernel : zfld 11 38 = some (11, 6)) (hl.k2 zk_1) (hl.n2 zk_1) (zgetR (v := 10) (hl.r zrt_1_6) rfl)) ?_
  refine Iff.trans (zw_getI (show decode cX11_can 52 = .ok (.getfield 180, 3) by decide +kernel) (by decide +kernel : zfld 11 180 = some (10, 1)) (hl.k2 zk_10) (hl.n2 zk_10) (Or.inl rfl) (w := zI σ 10 1) rfl) ?_
  refine Iff.trans (zw_invV (K' := kX0_holds) (as' := [.ref b0, .int x3, .int x4, .int (zI σ 10 1)]) (rest := []) (show decode cX11_can 55 = .ok (.invokevirtual 196, 3) by decide +kernel) (by rfl) rfl rfl rfl (hl.k2 hb1) (by decide) (hl.n2 hb1) ⟨Nat.le_of_ble_eq_true rfl, Nat.le_of_ble_eq_true rfl, Nat.le_of_ble_eq_true rfl⟩) ?_
  exact Iff.rfl

theorem bX11_can_58 {d : Nat} {σ : zS} {Q : Option Value → zS → Prop} (hl : zLay σ) {x1 x2 x3 x4 y0 : Int32} : zW (d + 1) kX11_can 58 [.ref 1, .int x1, .int x2, .int x3, .int x4] [.int y0] σ Q ↔ (if y0 = (0 : Int32) then Q (some (.int 0)) σ else Q (some (.int 1)) σ) := by
  refine Iff.trans (zw_if_eq (t := 65) (show decode cX11_can 58 = .ok (.ifCond .eq 7, 3) by decide +kernel) (by decide)) ?_
  refine zw_ite ?_ ?_
  · refine Iff.trans (zw_iconst (x := 0) (show decode cX11_can 65 = .ok (.iconst 0, 1) by decide +kernel) (by decide)) ?_
    exact zw_iret1 (show decode cX11_can 66 = .ok (.ireturn, 1) by decide +kernel) rfl
  · refine Iff.trans (zw_iconst (x := 1) (show decode cX11_can 61 = .ok (.iconst 1, 1) by decide +kernel) (by decide)) ?_
    refine Iff.trans (zw_goto (t := 66) (show decode cX11_can 62 = .ok (.goto 4, 3) by decide +kernel) (by decide)) ?_
    exact zw_iret1 (show decode cX11_can 66 = .ok (.ireturn, 1) by decide +kernel) rfl

theorem bX11_noBrook_0 {d : Nat} {σ : zS} {Q : Option Value → zS → Prop} (hl : zLay σ) {x1 : Int32} : zCall d kX11_noBrook [.ref 1, .int x1] σ Q ↔ (if x1 < (0 : Int32) then Q (some (.int 1)) σ else (if (zI σ 1 2) ≤ x1 then Q (some (.int 1)) σ else (if x1 < 6 then Q (some (.int 0)) σ else Q (some (.int 1)) σ))) := by
  show zW d kX11_noBrook 0 [.ref 1, .int x1] [] σ Q ↔ _
  refine Iff.trans (zw_iload_n (show decode cX11_noBrook 0 = .ok (.iload_n 1, 1) by decide +kernel) rfl) ?_
  refine Iff.trans (zw_if_lt (t := 21) (show decode cX11_noBrook 1 = .ok (.ifCond .lt 20, 3) by decide +kernel) (by decide)) ?_
  refine zw_ite ?_ ?_
  · refine Iff.trans (zw_iconst (x := 1) (show decode cX11_noBrook 21 = .ok (.iconst 1, 1) by decide +kernel) (by decide)) ?_
    refine Iff.trans (zw_goto (t := 26) (show decode cX11_noBrook 22 = .ok (.goto 4, 3) by decide +kernel) (by decide)) ?_
    exact zw_iret2c (show decode cX11_noBrook 26 = .ok (.ireturn, 1) by decide +kernel) rfl (Or.inr rfl)
  · refine Iff.trans (zw_iload_n (show decode cX11_noBrook 4 = .ok (.iload_n 1, 1) by decide +kernel) rfl) ?_
    refine Iff.trans (zw_aload_n (show decode cX11_noBrook 5 = .ok (.aload_n 0, 1) by decide +kernel) rfl) ?_
    refine Iff.trans (zw_getI (show decode cX11_noBrook 6 = .ok (.getfield 136, 3) by decide +kernel) (by decide +kernel : zfld 11 136 = some (11, 2)) (hl.k2 zk_1) (hl.n2 zk_1) (Or.inl rfl) (w := zI σ 1 2) rfl) ?_
    refine Iff.trans (zw_icmp_ge (t := 21) (show decode cX11_noBrook 9 = .ok (.if_icmp .ge 12, 3) by decide +kernel) (by decide)) ?_
    refine zw_ite ?_ ?_
    · refine Iff.trans (zw_iconst (x := 1) (show decode cX11_noBrook 21 = .ok (.iconst 1, 1) by decide +kernel) (by decide)) ?_
      refine Iff.trans (zw_goto (t := 26) (show decode cX11_noBrook 22 = .ok (.goto 4, 3) by decide +kernel) (by decide)) ?_
      exact zw_iret2c (show decode cX11_noBrook 26 = .ok (.ireturn, 1) by decide +kernel) rfl (Or.inr rfl)
    · refine Iff.trans (zw_iload_n (show decode cX11_noBrook 12 = .ok (.iload_n 1, 1) by decide +kernel) rfl) ?_
      refine Iff.trans (zw_aload_n (show decode cX11_noBrook 13 = .ok (.aload_n 0, 1) by decide +kernel) rfl) ?_
      refine Iff.trans (zw_get (show decode cX11_noBrook 14 = .ok (.getfield 18, 3) by decide +kernel) (by decide +kernel : zfld 11 18 = some (11, 1)) (hl.k2 zk_1) (hl.n2 zk_1) (zgetR (v := 4) (hl.r zrt_1_1) rfl)) ?_
      refine Iff.trans (zw_alen (show decode cX11_noBrook 17 = .ok (.arraylength, 1) by decide +kernel) ⟨by rw [(hl.k2 zk_4)]; decide, Or.inl (by rw [(hl.k2 zk_4)]; decide)⟩ (hl.n2 zk_4) (hl.l2 zk_4 zl_4) (v := 6) rfl) ?_
      refine Iff.trans (zw_icmp_lt (t := 25) (show decode cX11_noBrook 18 = .ok (.if_icmp .lt 7, 3) by decide +kernel) (by decide)) ?_
      refine zw_ite ?_ ?_
      · refine Iff.trans (zw_iconst (x := 0) (show decode cX11_noBrook 25 = .ok (.iconst 0, 1) by decide +kernel) (by decide)) ?_
        exact zw_iret2c (show decode cX11_noBrook 26 = .ok (.ireturn, 1) by decide +kernel) rfl (Or.inl rfl)
      · refine Iff.trans (zw_iconst (x := 1) (show decode cX11_noBrook 21 = .ok (.iconst 1, 1) by decide +kernel) (by decide)) ?_
        refine Iff.trans (zw_goto (t := 26) (show decode cX11_noBrook 22 = .ok (.goto 4, 3) by decide +kernel) (by decide)) ?_
        exact zw_iret2c (show decode cX11_noBrook 26 = .ok (.ireturn, 1) by decide +kernel) rfl (Or.inr rfl)

theorem bX11_noStick_0 {d : Nat} {σ : zS} {Q : Option Value → zS → Prop} (hl : zLay σ) {x1 : Int32} : zCall d kX11_noStick [.ref 1, .int x1] σ Q ↔ (if x1 < (0 : Int32) then Q (some (.int 1)) σ else (if (zI σ 1 4) ≤ x1 then Q (some (.int 1)) σ else (if x1 < 10 then Q (some (.int 0)) σ else Q (some (.int 1)) σ))) := by
  show zW d kX11_noStick 0 [.ref 1, .int x1] [] σ Q ↔ _
  refine Iff.trans (zw_iload_n (show decode cX11_noStick 0 = .ok (.iload_n 1, 1) by decide +kernel) rfl) ?_
  refine Iff.trans (zw_if_lt (t := 21) (show decode cX11_noStick 1 = .ok (.ifCond .lt 20, 3) by decide +kernel) (by decide)) ?_
  refine zw_ite ?_ ?_
  · refine Iff.trans (zw_iconst (x := 1) (show decode cX11_noStick 21 = .ok (.iconst 1, 1) by decide +kernel) (by decide)) ?_
    refine Iff.trans (zw_goto (t := 26) (show decode cX11_noStick 22 = .ok (.goto 4, 3) by decide +kernel) (by decide)) ?_
    exact zw_iret2c (show decode cX11_noStick 26 = .ok (.ireturn, 1) by decide +kernel) rfl (Or.inr rfl)
  · refine Iff.trans (zw_iload_n (show decode cX11_noStick 4 = .ok (.iload_n 1, 1) by decide +kernel) rfl) ?_
    refine Iff.trans (zw_aload_n (show decode cX11_noStick 5 = .ok (.aload_n 0, 1) by decide +kernel) rfl) ?_
    refine Iff.trans (zw_getI (show decode cX11_noStick 6 = .ok (.getfield 143, 3) by decide +kernel) (by decide +kernel : zfld 11 143 = some (11, 4)) (hl.k2 zk_1) (hl.n2 zk_1) (Or.inl rfl) (w := zI σ 1 4) rfl) ?_
    refine Iff.trans (zw_icmp_ge (t := 21) (show decode cX11_noStick 9 = .ok (.if_icmp .ge 12, 3) by decide +kernel) (by decide)) ?_
    refine zw_ite ?_ ?_
    · refine Iff.trans (zw_iconst (x := 1) (show decode cX11_noStick 21 = .ok (.iconst 1, 1) by decide +kernel) (by decide)) ?_
      refine Iff.trans (zw_goto (t := 26) (show decode cX11_noStick 22 = .ok (.goto 4, 3) by decide +kernel) (by decide)) ?_
      exact zw_iret2c (show decode cX11_noStick 26 = .ok (.ireturn, 1) by decide +kernel) rfl (Or.inr rfl)
    · refine Iff.trans (zw_iload_n (show decode cX11_noStick 12 = .ok (.iload_n 1, 1) by decide +kernel) rfl) ?_
      refine Iff.trans (zw_aload_n (show decode cX11_noStick 13 = .ok (.aload_n 0, 1) by decide +kernel) rfl) ?_
      refine Iff.trans (zw_get (show decode cX11_noStick 14 = .ok (.getfield 24, 3) by decide +kernel) (by decide +kernel : zfld 11 24 = some (11, 3)) (hl.k2 zk_1) (hl.n2 zk_1) (zgetR (v := 5) (hl.r zrt_1_3) rfl)) ?_
      refine Iff.trans (zw_alen (show decode cX11_noStick 17 = .ok (.arraylength, 1) by decide +kernel) ⟨by rw [(hl.k2 zk_5)]; decide, Or.inl (by rw [(hl.k2 zk_5)]; decide)⟩ (hl.n2 zk_5) (hl.l2 zk_5 zl_5) (v := 10) rfl) ?_
      refine Iff.trans (zw_icmp_lt (t := 25) (show decode cX11_noStick 18 = .ok (.if_icmp .lt 7, 3) by decide +kernel) (by decide)) ?_
      refine zw_ite ?_ ?_
      · refine Iff.trans (zw_iconst (x := 0) (show decode cX11_noStick 25 = .ok (.iconst 0, 1) by decide +kernel) (by decide)) ?_
        exact zw_iret2c (show decode cX11_noStick 26 = .ok (.ireturn, 1) by decide +kernel) rfl (Or.inl rfl)
      · refine Iff.trans (zw_iconst (x := 1) (show decode cX11_noStick 21 = .ok (.iconst 1, 1) by decide +kernel) (by decide)) ?_
        refine Iff.trans (zw_goto (t := 26) (show decode cX11_noStick 22 = .ok (.goto 4, 3) by decide +kernel) (by decide)) ?_
        exact zw_iret2c (show decode cX11_noStick 26 = .ok (.ireturn, 1) by decide +kernel) rfl (Or.inr rfl)

theorem bX11_noRunner_0 {d : Nat} {σ : zS} {Q : Option Value → zS → Prop} (hl : zLay σ) {x1 : Int32} : zCall d kX11_noRunner [.ref 1, .int x1] σ Q ↔ (if x1 < (0 : Int32) then Q (some (.int 1)) σ else (if (zI σ 12 4) ≤ x1 then Q (some (.int 1)) σ else (if x1 < 6 then Q (some (.int 0)) σ else Q (some (.int 1)) σ))) := by
  show zW d kX11_noRunner 0 [.ref 1, .int x1] [] σ Q ↔ _
  refine Iff.trans (zw_iload_n (show decode cX11_noRunner 0 = .ok (.iload_n 1, 1) by decide +kernel) rfl) ?_
  refine Iff.trans (zw_if_lt (t := 21) (show decode cX11_noRunner 1 = .ok (.ifCond .lt 20, 3) by decide +kernel) (by decide)) ?_
  refine zw_ite ?_ ?_
  · refine Iff.trans (zw_iconst (x := 1) (show decode cX11_noRunner 21 = .ok (.iconst 1, 1) by decide +kernel) (by decide)) ?_
    refine Iff.trans (zw_goto (t := 26) (show decode cX11_noRunner 22 = .ok (.goto 4, 3) by decide +kernel) (by decide)) ?_
    exact zw_iret2c (show decode cX11_noRunner 26 = .ok (.ireturn, 1) by decide +kernel) rfl (Or.inr rfl)
  · refine Iff.trans (zw_iload_n (show decode cX11_noRunner 4 = .ok (.iload_n 1, 1) by decide +kernel) rfl) ?_
    refine Iff.trans (zw_aload_n (show decode cX11_noRunner 5 = .ok (.aload_n 0, 1) by decide +kernel) rfl) ?_
    refine Iff.trans (zw_get (show decode cX11_noRunner 6 = .ok (.getfield 48, 3) by decide +kernel) (by decide +kernel : zfld 11 48 = some (11, 8)) (hl.k2 zk_1) (hl.n2 zk_1) (zgetR (v := 12) (hl.r zrt_1_8) rfl)) ?_
    refine Iff.trans (zw_getI (show decode cX11_noRunner 9 = .ok (.getfield 200, 3) by decide +kernel) (by decide +kernel : zfld 11 200 = some (2, 4)) (hl.k2 zk_12) (hl.n2 zk_12) (Or.inl rfl) (w := zI σ 12 4) rfl) ?_
    refine Iff.trans (zw_icmp_ge (t := 21) (show decode cX11_noRunner 12 = .ok (.if_icmp .ge 9, 3) by decide +kernel) (by decide)) ?_
    refine zw_ite ?_ ?_
    · refine Iff.trans (zw_iconst (x := 1) (show decode cX11_noRunner 21 = .ok (.iconst 1, 1) by decide +kernel) (by decide)) ?_
      refine Iff.trans (zw_goto (t := 26) (show decode cX11_noRunner 22 = .ok (.goto 4, 3) by decide +kernel) (by decide)) ?_
      exact zw_iret2c (show decode cX11_noRunner 26 = .ok (.ireturn, 1) by decide +kernel) rfl (Or.inr rfl)
    · refine Iff.trans (zw_iload_n (show decode cX11_noRunner 15 = .ok (.iload_n 1, 1) by decide +kernel) rfl) ?_
      refine Iff.trans (zw_bipush (x := 6) (show decode cX11_noRunner 16 = .ok (.bipush 6, 2) by decide +kernel) (by decide)) ?_
      refine Iff.trans (zw_icmp_lt (t := 25) (show decode cX11_noRunner 18 = .ok (.if_icmp .lt 7, 3) by decide +kernel) (by decide)) ?_
      refine zw_ite ?_ ?_
      · refine Iff.trans (zw_iconst (x := 0) (show decode cX11_noRunner 25 = .ok (.iconst 0, 1) by decide +kernel) (by decide)) ?_
        exact zw_iret2c (show decode cX11_noRunner 26 = .ok (.ireturn, 1) by decide +kernel) rfl (Or.inl rfl)
      · refine Iff.trans (zw_iconst (x := 1) (show decode cX11_noRunner 21 = .ok (.iconst 1, 1) by decide +kernel) (by decide)) ?_
        refine Iff.trans (zw_goto (t := 26) (show decode cX11_noRunner 22 = .ok (.goto 4, 3) by decide +kernel) (by decide)) ?_
        exact zw_iret2c (show decode cX11_noRunner 26 = .ok (.ireturn, 1) by decide +kernel) rfl (Or.inr rfl)

theorem bX11_noSeeds_0 {d : Nat} {σ : zS} {Q : Option Value → zS → Prop} (hl : zLay σ) {x0 : Int32} : zCall d kX11_noSeeds [.int x0] σ Q ↔ (if x0 < 1 then Q (some (.int 1)) σ else (if x0 ≤ 40 then Q (some (.int 0)) σ else Q (some (.int 1)) σ)) := by
  show zW d kX11_noSeeds 0 [.int x0] [] σ Q ↔ _
  refine Iff.trans (zw_iload_n (show decode cX11_noSeeds 0 = .ok (.iload_n 0, 1) by decide +kernel) rfl) ?_
  refine Iff.trans (zw_iconst (x := 1) (show decode cX11_noSeeds 1 = .ok (.iconst 1, 1) by decide +kernel) (by decide)) ?_
  refine Iff.trans (zw_icmp_lt (t := 11) (show decode cX11_noSeeds 2 = .ok (.if_icmp .lt 9, 3) by decide +kernel) (by decide)) ?_
  refine zw_ite ?_ ?_
  · refine Iff.trans (zw_iconst (x := 1) (show decode cX11_noSeeds 11 = .ok (.iconst 1, 1) by decide +kernel) (by decide)) ?_
    refine Iff.trans (zw_goto (t := 16) (show decode cX11_noSeeds 12 = .ok (.goto 4, 3) by decide +kernel) (by decide)) ?_
    exact zw_iret2c (show decode cX11_noSeeds 16 = .ok (.ireturn, 1) by decide +kernel) rfl (Or.inr rfl)
  · refine Iff.trans (zw_iload_n (show decode cX11_noSeeds 5 = .ok (.iload_n 0, 1) by decide +kernel) rfl) ?_
    refine Iff.trans (zw_bipush (x := 40) (show decode cX11_noSeeds 6 = .ok (.bipush 40, 2) by decide +kernel) (by decide)) ?_
    refine Iff.trans (zw_icmp_le (t := 15) (show decode cX11_noSeeds 8 = .ok (.if_icmp .le 7, 3) by decide +kernel) (by decide)) ?_
    refine zw_ite ?_ ?_
    · refine Iff.trans (zw_iconst (x := 0) (show decode cX11_noSeeds 15 = .ok (.iconst 0, 1) by decide +kernel) (by decide)) ?_
      exact zw_iret2c (show decode cX11_noSeeds 16 = .ok (.ireturn, 1) by decide +kernel) rfl (Or.inl rfl)
    · refine Iff.trans (zw_iconst (x := 1) (show decode cX11_noSeeds 11 = .ok (.iconst 1, 1) by decide +kernel) (by decide)) ?_
      refine Iff.trans (zw_goto (t := 16) (show decode cX11_noSeeds 12 = .ok (.goto 4, 3) by decide +kernel) (by decide)) ?_
      exact zw_iret2c (show decode cX11_noSeeds 16 = .ok (.ireturn, 1) by decide +kernel) rfl (Or.inr rfl)

theorem bX11_noBits_0 {d : Nat} {σ : zS} {Q : Option Value → zS → Prop} (hl : zLay σ) {x0 x1 : Int32} : zCall d kX11_noBits [.int x0, .int x1] σ Q ↔ (if x0 ≤ (0 : Int32) then Q (some (.int 1)) σ else (if x0 < (1 <<< (x1 &&& 31)) then Q (some (.int 0)) σ else Q (some (.int 1)) σ)) := by
  show zW d kX11_noBits 0 [.int x0, .int x1] [] σ Q ↔ _
  refine Iff.trans (zw_iload_n (show decode cX11_noBits 0 = .ok (.iload_n 0, 1) by decide +kernel) rfl) ?_
  refine Iff.trans (zw_if_le (t := 11) (show decode cX11_noBits 1 = .ok (.ifCond .le 10, 3) by decide +kernel) (by decide)) ?_
  refine zw_ite ?_ ?_
  · refine Iff.trans (zw_iconst (x := 1) (show decode cX11_noBits 11 = .ok (.iconst 1, 1) by decide +kernel) (by decide)) ?_
    refine Iff.trans (zw_goto (t := 16) (show decode cX11_noBits 12 = .ok (.goto 4, 3) by decide +kernel) (by decide)) ?_
    exact zw_iret2c (show decode cX11_noBits 16 = .ok (.ireturn, 1) by decide +kernel) rfl (Or.inr rfl)
  · refine Iff.trans (zw_iload_n (show decode cX11_noBits 4 = .ok (.iload_n 0, 1) by decide +kernel) rfl) ?_
    refine Iff.trans (zw_iconst (x := 1) (show decode cX11_noBits 5 = .ok (.iconst 1, 1) by decide +kernel) (by decide)) ?_
    refine Iff.trans (zw_iload_n (show decode cX11_noBits 6 = .ok (.iload_n 1, 1) by decide +kernel) rfl) ?_
    refine Iff.trans (zw_ishl (show decode cX11_noBits 7 = .ok (.ishl, 1) by decide +kernel)) ?_
    refine Iff.trans (zw_icmp_lt (t := 15) (show decode cX11_noBits 8 = .ok (.if_icmp .lt 7, 3) by decide +kernel) (by decide)) ?_
    refine zw_ite ?_ ?_
    · refine Iff.trans (zw_iconst (x := 0) (show decode cX11_noBits 15 = .ok (.iconst 0, 1) by decide +kernel) (by decide)) ?_
      exact zw_iret2c (show decode cX11_noBits 16 = .ok (.ireturn, 1) by decide +kernel) rfl (Or.inl rfl)
    · refine Iff.trans (zw_iconst (x := 1) (show decode cX11_noBits 11 = .ok (.iconst 1, 1) by decide +kernel) (by decide)) ?_
      refine Iff.trans (zw_goto (t := 16) (show decode cX11_noBits 12 = .ok (.goto 4, 3) by decide +kernel) (by decide)) ?_
      exact zw_iret2c (show decode cX11_noBits 16 = .ok (.ireturn, 1) by decide +kernel) rfl (Or.inr rfl)

theorem bX11_hasBit_0 {d : Nat} {σ : zS} {Q : Option Value → zS → Prop} (hl : zLay σ) {x0 x1 : Int32} : zCall d kX11_hasBit [.int x0, .int x1] σ Q ↔ (if ((x0 >>> (x1 &&& 31)) &&& 1) = (0 : Int32) then Q (some (.int 0)) σ else Q (some (.int 1)) σ) := by
  show zW d kX11_hasBit 0 [.int x0, .int x1] [] σ Q ↔ _
  refine Iff.trans (zw_iload_n (show decode cX11_hasBit 0 = .ok (.iload_n 0, 1) by decide +kernel) rfl) ?_
  refine Iff.trans (zw_iload_n (show decode cX11_hasBit 1 = .ok (.iload_n 1, 1) by decide +kernel) rfl) ?_
  refine Iff.trans (zw_ishr (show decode cX11_hasBit 2 = .ok (.ishr, 1) by decide +kernel)) ?_
  refine Iff.trans (zw_iconst (x := 1) (show decode cX11_hasBit 3 = .ok (.iconst 1, 1) by decide +kernel) (by decide)) ?_
  refine Iff.trans (zw_iand (show decode cX11_hasBit 4 = .ok (.iand, 1) by decide +kernel)) ?_
  refine Iff.trans (zw_if_eq (t := 12) (show decode cX11_hasBit 5 = .ok (.ifCond .eq 7, 3) by decide +kernel) (by decide)) ?_
  refine zw_ite ?_ ?_
  · refine Iff.trans (zw_iconst (x := 0) (show decode cX11_hasBit 12 = .ok (.iconst 0, 1) by decide +kernel) (by decide)) ?_
    exact zw_iret2c (show decode cX11_hasBit 13 = .ok (.ireturn, 1) by decide +kernel) rfl (Or.inl rfl)
  · refine Iff.trans (zw_iconst (x := 1) (show decode cX11_hasBit 8 = .ok (.iconst 1, 1) by decide +kernel) (by decide)) ?_
    refine Iff.trans (zw_goto (t := 13) (show decode cX11_hasBit 9 = .ok (.goto 4, 3) by decide +kernel) (by decide)) ?_
    exact zw_iret2c (show decode cX11_hasBit 13 = .ok (.ireturn, 1) by decide +kernel) rfl (Or.inr rfl)

theorem bX11_on_0 {d : Nat} {σ : zS} {Q : Option Value → zS → Prop} (hl : zLay σ) {x1 : Int32} : zCall (d + 1) kX11_on [.ref 1, .int x1] σ Q ↔ zCall d kX11_noBrook [.ref 1, .int x1] σ (fun r σ' => zisN r = true ∧ zW (d + 1) kX11_on 5 [.ref 1, .int x1] (zRstk r ++ []) σ' Q) := by
  show zW (d + 1) kX11_on 0 [.ref 1, .int x1] [] σ Q ↔ _
  refine Iff.trans (zw_aload_n (show decode cX11_on 0 = .ok (.aload_n 0, 1) by decide +kernel) rfl) ?_
  refine Iff.trans (zw_iload_n (show decode cX11_on 1 = .ok (.iload_n 1, 1) by decide +kernel) rfl) ?_
  refine Iff.trans (zw_invV (K' := kX11_noBrook) (as' := [.int x1]) (rest := []) (show decode cX11_on 2 = .ok (.invokevirtual 157, 3) by decide +kernel) (by rfl) rfl rfl rfl (hl.k2 zk_1) (by decide) (hl.n2 zk_1) ⟨Nat.le_of_ble_eq_true rfl, Nat.le_of_ble_eq_true rfl, Nat.le_of_ble_eq_true rfl⟩) ?_
  exact Iff.rfl

theorem bX11_on_5 {d : Nat} {σ : zS} {Q : Option Value → zS → Prop} (hl : zLay σ) {x1 y0 : Int32} : zW (d + 1) kX11_on 5 [.ref 1, .int x1] [.int y0] σ Q ↔ (if y0 = (0 : Int32) then (vp_in x1 6 ∧ zW (d + 1) kX11_on 20 [.ref 1, .int x1] (va_rf (zR σ 4 (x1 : Int32).toNatClampNeg) :: [.ref 12]) σ Q) else Q (some (.int 0)) σ) := by
  refine Iff.trans (zw_if_eq (t := 10) (show decode cX11_on 5 = .ok (.ifCond .eq 5, 3) by decide +kernel) (by decide)) ?_
  refine zw_ite ?_ ?_
  · refine Iff.trans (zw_aload_n (show decode cX11_on 10 = .ok (.aload_n 0, 1) by decide +kernel) rfl) ?_
    refine Iff.trans (zw_get (show decode cX11_on 11 = .ok (.getfield 48, 3) by decide +kernel) (by decide +kernel : zfld 11 48 = some (11, 8)) (hl.k2 zk_1) (hl.n2 zk_1) (zgetR (v := 12) (hl.r zrt_1_8) rfl)) ?_
    refine Iff.trans (zw_aload_n (show decode cX11_on 14 = .ok (.aload_n 0, 1) by decide +kernel) rfl) ?_
    refine Iff.trans (zw_get (show decode cX11_on 15 = .ok (.getfield 18, 3) by decide +kernel) (by decide +kernel : zfld 11 18 = some (11, 1)) (hl.k2 zk_1) (hl.n2 zk_1) (zgetR (v := 4) (hl.r zrt_1_1) rfl)) ?_
    refine Iff.trans (zw_iload_n (show decode cX11_on 18 = .ok (.iload_n 1, 1) by decide +kernel) rfl) ?_
    refine Iff.trans (zw_aald (show decode cX11_on 19 = .ok (.aaload, 1) by decide +kernel) (by rw [(hl.k2 zk_4)]; decide) (hl.n2 zk_4) (hl.l2 zk_4 zl_4)) ?_
    refine zw_and ?_
    exact Iff.rfl
  · refine Iff.trans (zw_iconst (x := 0) (show decode cX11_on 8 = .ok (.iconst 0, 1) by decide +kernel) (by decide)) ?_
    exact zw_iret2c (show decode cX11_on 9 = .ok (.ireturn, 1) by decide +kernel) rfl (Or.inl rfl)

theorem bX11_on_20 {d : Nat} {σ : zS} {Q : Option Value → zS → Prop} (hl : zLay σ) {x1 : Int32} {b0 : Nat} (hb0 : zk b0 = 0) : zW (d + 1) kX11_on 20 [.ref 1, .int x1] [.ref b0, .ref 12] σ Q ↔ zCall d kX2_clear [.ref 12, .ref b0] σ (fun r σ' => zisN r = true ∧ zW (d + 1) kX11_on 23 [.ref 1, .int x1] (zRstk r ++ []) σ' Q) := by
  refine Iff.trans (zw_invV (K' := kX2_clear) (as' := [.ref b0]) (rest := []) (show decode cX11_on 20 = .ok (.invokevirtual 203, 3) by decide +kernel) (by rfl) rfl rfl rfl (hl.k2 zk_12) (by decide) (hl.n2 zk_12) ⟨Nat.le_of_ble_eq_true rfl, Nat.le_of_ble_eq_true rfl, Nat.le_of_ble_eq_true rfl⟩) ?_
  exact Iff.rfl

theorem bX11_on_23 {d : Nat} {σ : zS} {Q : Option Value → zS → Prop} (hl : zLay σ) {x1 : Int32} : zW (d + 1) kX11_on 23 [.ref 1, .int x1] [] σ Q ↔ Q (some (.int 1)) σ := by
  refine Iff.trans (zw_iconst (x := 1) (show decode cX11_on 23 = .ok (.iconst 1, 1) by decide +kernel) (by decide)) ?_
  exact zw_iret2c (show decode cX11_on 24 = .ok (.ireturn, 1) by decide +kernel) rfl (Or.inr rfl)

theorem bX11_runner_0 {d : Nat} {σ : zS} {Q : Option Value → zS → Prop} (hl : zLay σ) {x1 x2 : Int32} : zCall (d + 1) kX11_runner [.ref 1, .int x1, .int x2] σ Q ↔ (if (zI σ 12 9) = (0 : Int32) then (if (6 : Int32) ≤ (zI σ 12 4) then Q (some (.int (-1))) σ else zCall d kX11_noStick [.ref 1, .int x1] σ (fun r σ' => zisN r = true ∧ zW (d + 1) kX11_runner 27 [.ref 1, .int x1, .int x2, .retAddr 0] (zRstk r ++ []) σ' Q)) else Q (some (.int (-1))) σ) := by
  show zW (d + 1) kX11_runner 0 [.ref 1, .int x1, .int x2, .retAddr 0] [] σ Q ↔ _
  refine Iff.trans (zw_aload_n (show decode cX11_runner 0 = .ok (.aload_n 0, 1) by decide +kernel) rfl) ?_
  refine Iff.trans (zw_get (show decode cX11_runner 1 = .ok (.getfield 48, 3) by decide +kernel) (by decide +kernel : zfld 11 48 = some (11, 8)) (hl.k2 zk_1) (hl.n2 zk_1) (zgetR (v := 12) (hl.r zrt_1_8) rfl)) ?_
  refine Iff.trans (zw_getI (show decode cX11_runner 4 = .ok (.getfield 206, 3) by decide +kernel) (by decide +kernel : zfld 11 206 = some (2, 9)) (hl.k2 zk_12) (hl.n2 zk_12) (Or.inr rfl) (w := zI σ 12 9) rfl) ?_
  refine Iff.trans (zw_if_ne (t := 30) (show decode cX11_runner 7 = .ok (.ifCond .ne 23, 3) by decide +kernel) (by decide)) ?_
  refine zw_ite ?_ ?_
  · refine Iff.trans (zw_aload_n (show decode cX11_runner 10 = .ok (.aload_n 0, 1) by decide +kernel) rfl) ?_
    refine Iff.trans (zw_get (show decode cX11_runner 11 = .ok (.getfield 48, 3) by decide +kernel) (by decide +kernel : zfld 11 48 = some (11, 8)) (hl.k2 zk_1) (hl.n2 zk_1) (zgetR (v := 12) (hl.r zrt_1_8) rfl)) ?_
    refine Iff.trans (zw_getI (show decode cX11_runner 14 = .ok (.getfield 200, 3) by decide +kernel) (by decide +kernel : zfld 11 200 = some (2, 4)) (hl.k2 zk_12) (hl.n2 zk_12) (Or.inl rfl) (w := zI σ 12 4) rfl) ?_
    refine Iff.trans (zw_bipush (x := 6) (show decode cX11_runner 17 = .ok (.bipush 6, 2) by decide +kernel) (by decide)) ?_
    refine Iff.trans (zw_icmp_ge (t := 30) (show decode cX11_runner 19 = .ok (.if_icmp .ge 11, 3) by decide +kernel) (by decide)) ?_
    refine zw_ite ?_ ?_
    · refine Iff.trans (zw_iconst (x := (-1)) (show decode cX11_runner 30 = .ok (.iconst (-1), 1) by decide +kernel) (by decide)) ?_
      exact zw_iret1 (show decode cX11_runner 31 = .ok (.ireturn, 1) by decide +kernel) rfl
    · refine Iff.trans (zw_aload_n (show decode cX11_runner 22 = .ok (.aload_n 0, 1) by decide +kernel) rfl) ?_
      refine Iff.trans (zw_iload_n (show decode cX11_runner 23 = .ok (.iload_n 1, 1) by decide +kernel) rfl) ?_
      refine Iff.trans (zw_invV (K' := kX11_noStick) (as' := [.int x1]) (rest := []) (show decode cX11_runner 24 = .ok (.invokevirtual 187, 3) by decide +kernel) (by rfl) rfl rfl rfl (hl.k2 zk_1) (by decide) (hl.n2 zk_1) ⟨Nat.le_of_ble_eq_true rfl, Nat.le_of_ble_eq_true rfl, Nat.le_of_ble_eq_true rfl⟩) ?_
      exact Iff.rfl
  · refine Iff.trans (zw_iconst (x := (-1)) (show decode cX11_runner 30 = .ok (.iconst (-1), 1) by decide +kernel) (by decide)) ?_
    exact zw_iret1 (show decode cX11_runner 31 = .ok (.ireturn, 1) by decide +kernel) rfl

theorem bX11_runner_27 {d : Nat} {σ : zS} {Q : Option Value → zS → Prop} (hl : zLay σ) {x1 x2 y0 : Int32} : zW (d + 1) kX11_runner 27 [.ref 1, .int x1, .int x2, .retAddr 0] [.int y0] σ Q ↔ (if y0 = (0 : Int32) then (vp_in x1 10 ∧ zW (d + 1) kX11_runner 38 [.ref 1, .int x1, .int x2, .retAddr 0] (va_rf (zR σ 5 (x1 : Int32).toNatClampNeg) :: []) σ Q) else Q (some (.int (-1))) σ) := by
  refine Iff.trans (zw_if_eq (t := 32) (show decode cX11_runner 27 = .ok (.ifCond .eq 5, 3) by decide +kernel) (by decide)) ?_
  refine zw_ite ?_ ?_
  · refine Iff.trans (zw_aload_n (show decode cX11_runner 32 = .ok (.aload_n 0, 1) by decide +kernel) rfl) ?_
    refine Iff.trans (zw_get (show decode cX11_runner 33 = .ok (.getfield 24, 3) by decide +kernel) (by decide +kernel : zfld 11 24 = some (11, 3)) (hl.k2 zk_1) (hl.n2 zk_1) (zgetR (v := 5) (hl.r zrt_1_3) rfl)) ?_
    refine Iff.trans (zw_iload_n (show decode cX11_runner 36 = .ok (.iload_n 1, 1) by decide +kernel) rfl) ?_
    refine Iff.trans (zw_aald (show decode cX11_runner 37 = .ok (.aaload, 1) by decide +kernel) (by rw [(hl.k2 zk_5)]; decide) (hl.n2 zk_5) (hl.l2 zk_5 zl_5)) ?_
    refine zw_and ?_
    exact Iff.rfl
  · refine Iff.trans (zw_iconst (x := (-1)) (show decode cX11_runner 30 = .ok (.iconst (-1), 1) by decide +kernel) (by decide)) ?_
    exact zw_iret1 (show decode cX11_runner 31 = .ok (.ireturn, 1) by decide +kernel) rfl

theorem bX11_runner_38 {d : Nat} {σ : zS} {Q : Option Value → zS → Prop} (hl : zLay σ) {x1 x2 : Int32} {b0 : Nat} (hb0 : zk b0 = 6) : zW (d + 1) kX11_runner 38 [.ref 1, .int x1, .int x2, .retAddr 0] [.ref b0] σ Q ↔ zW (d + 1) kX11_runner 46 [.ref 1, .int x1, .int x2, .ref b0] (va_rf ((zR σ 12) 3) :: []) σ Q := by
  refine Iff.trans (zw_astore_n (ls' := [.ref 1, .int x1, .int x2, .ref b0]) (show decode cX11_runner 38 = .ok (.astore_n 3, 1) by decide +kernel) (zset_s (Nat.le_of_ble_eq_true rfl) rfl)) ?_
  refine Iff.trans (zw_aload_n (show decode cX11_runner 39 = .ok (.aload_n 0, 1) by decide +kernel) rfl) ?_
  refine Iff.trans (zw_get (show decode cX11_runner 40 = .ok (.getfield 48, 3) by decide +kernel) (by decide +kernel : zfld 11 48 = some (11, 8)) (hl.k2 zk_1) (hl.n2 zk_1) (zgetR (v := 12) (hl.r zrt_1_8) rfl)) ?_
  refine Iff.trans (zw_getR (show decode cX11_runner 43 = .ok (.getfield 210, 3) by decide +kernel) (by decide +kernel : zfld 11 210 = some (2, 3)) (hl.k2 zk_12) (hl.n2 zk_12) rfl (w := (zR σ 12) 3) rfl) ?_
  exact Iff.rfl

theorem bX11_runner_46 {d : Nat} {σ : zS} {Q : Option Value → zS → Prop} (hl : zLay σ) {x1 x2 : Int32} {a3 b0 : Nat} (ha3 : zk a3 = 6) (hb0 : zk b0 = 0) : zW (d + 1) kX11_runner 46 [.ref 1, .int x1, .int x2, .ref a3] [.ref b0] σ Q ↔ zCall d kX0_holds [.ref b0, .ref a3, .int 0, .int x2, .int (zI σ 10 1)] σ (fun r σ' => zisN r = true ∧ zW (d + 1) kX11_runner 59 [.ref 1, .int x1, .int x2, .ref a3] (zRstk r ++ []) σ' Q) := by
  refine Iff.trans (zw_aload_n (show decode cX11_runner 46 = .ok (.aload_n 3, 1) by decide +kernel) rfl) ?_
  refine Iff.trans (zw_iconst (x := 0) (show decode cX11_runner 47 = .ok (.iconst 0, 1) by decide +kernel) (by decide)) ?_
  refine Iff.trans (zw_iload_n (show decode cX11_runner 48 = .ok (.iload_n 2, 1) by decide +kernel) rfl) ?_
  refine Iff.trans (zw_aload_n (show decode cX11_runner 49 = .ok (.aload_n 0, 1) by decide +kernel) rfl) ?_
  refine Iff.trans (zw_get (show decode cX11_runner 50 = .ok (.getfield 38, 3) by decide +kernel) (by decide +kernel : zfld 11 38 = some (11, 6)) (hl.k2 zk_1) (hl.n2 zk_1) (zgetR (v := 10) (hl.r zrt_1_6) rfl)) ?_
  refine Iff.trans (zw_getI (show decode cX11_runner 53 = .ok (.getfield 180, 3) by decide +kernel) (by decide +kernel : zfld 11 180 = some (10, 1)) (hl.k2 zk_10) (hl.n2 zk_10) (Or.inl rfl) (w := zI σ 10 1) rfl) ?_
  refine Iff.trans (zw_invV (K' := kX0_holds) (as' := [.ref a3, .int 0, .int x2, .int (zI σ 10 1)]) (rest := []) (show decode cX11_runner 56 = .ok (.invokevirtual 196, 3) by decide +kernel) (by rfl) rfl rfl rfl (hl.k2 hb0) (by decide) (hl.n2 hb0) ⟨Nat.le_of_ble_eq_true rfl, Nat.le_of_ble_eq_true rfl, Nat.le_of_ble_eq_true rfl⟩) ?_
  exact Iff.rfl

theorem bX11_runner_59 {d : Nat} {σ : zS} {Q : Option Value → zS → Prop} (hl : zLay σ) {x1 x2 y0 : Int32} {a3 : Nat} (ha3 : zk a3 = 6) : zW (d + 1) kX11_runner 59 [.ref 1, .int x1, .int x2, .ref a3] [.int y0] σ Q ↔ (if y0 = (0 : Int32) then Q (some (.int (-1))) σ else zCall d kX2_barredAt [.ref 12, .int 0, .null, .int (zI σ 10 1)] σ (fun r σ' => zisN r = true ∧ zW (d + 1) kX11_runner 78 [.ref 1, .int x1, .int x2, .ref a3] (zRstk r ++ []) σ' Q)) := by
  refine Iff.trans (zw_if_eq (t := 87) (show decode cX11_runner 59 = .ok (.ifCond .eq 28, 3) by decide +kernel) (by decide)) ?_
  refine zw_ite ?_ ?_
  · refine Iff.trans (zw_iconst (x := (-1)) (show decode cX11_runner 87 = .ok (.iconst (-1), 1) by decide +kernel) (by decide)) ?_
    exact zw_iret1 (show decode cX11_runner 88 = .ok (.ireturn, 1) by decide +kernel) rfl
  · refine Iff.trans (zw_aload_n (show decode cX11_runner 62 = .ok (.aload_n 0, 1) by decide +kernel) rfl) ?_
    refine Iff.trans (zw_get (show decode cX11_runner 63 = .ok (.getfield 48, 3) by decide +kernel) (by decide +kernel : zfld 11 48 = some (11, 8)) (hl.k2 zk_1) (hl.n2 zk_1) (zgetR (v := 12) (hl.r zrt_1_8) rfl)) ?_
    refine Iff.trans (zw_iconst (x := 0) (show decode cX11_runner 66 = .ok (.iconst 0, 1) by decide +kernel) (by decide)) ?_
    refine Iff.trans (zw_aconst_null (show decode cX11_runner 67 = .ok (.aconst_null, 1) by decide +kernel)) ?_
    refine Iff.trans (zw_aload_n (show decode cX11_runner 68 = .ok (.aload_n 0, 1) by decide +kernel) rfl) ?_
    refine Iff.trans (zw_get (show decode cX11_runner 69 = .ok (.getfield 38, 3) by decide +kernel) (by decide +kernel : zfld 11 38 = some (11, 6)) (hl.k2 zk_1) (hl.n2 zk_1) (zgetR (v := 10) (hl.r zrt_1_6) rfl)) ?_
    refine Iff.trans (zw_getI (show decode cX11_runner 72 = .ok (.getfield 180, 3) by decide +kernel) (by decide +kernel : zfld 11 180 = some (10, 1)) (hl.k2 zk_10) (hl.n2 zk_10) (Or.inl rfl) (w := zI σ 10 1) rfl) ?_
    refine Iff.trans (zw_invV (K' := kX2_barredAt) (as' := [.int 0, .null, .int (zI σ 10 1)]) (rest := []) (show decode cX11_runner 75 = .ok (.invokevirtual 213, 3) by decide +kernel) (by rfl) rfl rfl rfl (hl.k2 zk_12) (by decide) (hl.n2 zk_12) ⟨Nat.le_of_ble_eq_true rfl, Nat.le_of_ble_eq_true rfl, Nat.le_of_ble_eq_true rfl⟩) ?_
    exact Iff.rfl

theorem bX11_runner_78 {d : Nat} {σ : zS} {Q : Option Value → zS → Prop} (hl : zLay σ) {x1 x2 y0 : Int32} {a3 : Nat} (ha3 : zk a3 = 6) : zW (d + 1) kX11_runner 78 [.ref 1, .int x1, .int x2, .ref a3] [.int y0] σ Q ↔ zCall d kX6_lanesFrom [.ref a3, .int x2] σ (fun r σ' => zisN r = true ∧ zW (d + 1) kX11_runner 83 [.ref 1, .int x1, .int x2, .ref a3] (zRstk r ++ [.int y0]) σ' Q) := by
  refine Iff.trans (zw_aload_n (show decode cX11_runner 78 = .ok (.aload_n 3, 1) by decide +kernel) rfl) ?_
  refine Iff.trans (zw_iload_n (show decode cX11_runner 79 = .ok (.iload_n 2, 1) by decide +kernel) rfl) ?_
  refine Iff.trans (zw_invV (K' := kX6_lanesFrom) (as' := [.int x2]) (rest := [.int y0]) (show decode cX11_runner 80 = .ok (.invokevirtual 217, 3) by decide +kernel) (by rfl) rfl rfl rfl (hl.k2 ha3) (by decide) (hl.n2 ha3) ⟨Nat.le_of_ble_eq_true rfl, Nat.le_of_ble_eq_true rfl, Nat.le_of_ble_eq_true rfl⟩) ?_
  exact Iff.rfl

theorem bX11_runner_83 {d : Nat} {σ : zS} {Q : Option Value → zS → Prop} (hl : zLay σ) {x1 x2 y0 y1 : Int32} {a3 : Nat} (ha3 : zk a3 = 6) : zW (d + 1) kX11_runner 83 [.ref 1, .int x1, .int x2, .ref a3] [.int y0, .int y1] σ Q ↔ (if (y1 &&& y0) = (0 : Int32) then zCall d kX2_add [.ref 12, .ref a3, .int x2] σ (fun r σ' => zisN r = true ∧ zW (d + 1) kX11_runner 98 [.ref 1, .int x1, .int x2, .ref a3] (zRstk r ++ []) σ' Q) else Q (some (.int (-1))) σ) := by
  refine Iff.trans (zw_iand (show decode cX11_runner 83 = .ok (.iand, 1) by decide +kernel)) ?_
  refine Iff.trans (zw_if_eq (t := 89) (show decode cX11_runner 84 = .ok (.ifCond .eq 5, 3) by decide +kernel) (by decide)) ?_
  refine zw_ite ?_ ?_
  · refine Iff.trans (zw_aload_n (show decode cX11_runner 89 = .ok (.aload_n 0, 1) by decide +kernel) rfl) ?_
    refine Iff.trans (zw_get (show decode cX11_runner 90 = .ok (.getfield 48, 3) by decide +kernel) (by decide +kernel : zfld 11 48 = some (11, 8)) (hl.k2 zk_1) (hl.n2 zk_1) (zgetR (v := 12) (hl.r zrt_1_8) rfl)) ?_
    refine Iff.trans (zw_aload_n (show decode cX11_runner 93 = .ok (.aload_n 3, 1) by decide +kernel) rfl) ?_
    refine Iff.trans (zw_iload_n (show decode cX11_runner 94 = .ok (.iload_n 2, 1) by decide +kernel) rfl) ?_
    refine Iff.trans (zw_invV (K' := kX2_add) (as' := [.ref a3, .int x2]) (rest := []) (show decode cX11_runner 95 = .ok (.invokevirtual 220, 3) by decide +kernel) (by rfl) rfl rfl rfl (hl.k2 zk_12) (by decide) (hl.n2 zk_12) ⟨Nat.le_of_ble_eq_true rfl, Nat.le_of_ble_eq_true rfl, Nat.le_of_ble_eq_true rfl⟩) ?_
    exact Iff.rfl
  · refine Iff.trans (zw_iconst (x := (-1)) (show decode cX11_runner 87 = .ok (.iconst (-1), 1) by decide +kernel) (by decide)) ?_
    exact zw_iret1 (show decode cX11_runner 88 = .ok (.ireturn, 1) by decide +kernel) rfl

theorem bX11_runner_98 {d : Nat} {σ : zS} {Q : Option Value → zS → Prop} (hl : zLay σ) {x1 x2 : Int32} {a3 : Nat} (ha3 : zk a3 = 6) : zW (d + 1) kX11_runner 98 [.ref 1, .int x1, .int x2, .ref a3] [] σ Q ↔ Q (some (.int ((zI σ 12 4) - 1))) σ := by
  refine Iff.trans (zw_aload_n (show decode cX11_runner 98 = .ok (.aload_n 0, 1) by decide +kernel) rfl) ?_
  refine Iff.trans (zw_get (show decode cX11_runner 99 = .ok (.getfield 48, 3) by decide +kernel) (by decide +kernel : zfld 11 48 = some (11, 8)) (hl.k2 zk_1) (hl.n2 zk_1) (zgetR (v := 12) (hl.r zrt_1_8) rfl)) ?_
  refine Iff.trans (zw_getI (show decode cX11_runner 102 = .ok (.getfield 200, 3) by decide +kernel) (by decide +kernel : zfld 11 200 = some (2, 4)) (hl.k2 zk_12) (hl.n2 zk_12) (Or.inl rfl) (w := zI σ 12 4) rfl) ?_
  refine Iff.trans (zw_iconst (x := 1) (show decode cX11_runner 105 = .ok (.iconst 1, 1) by decide +kernel) (by decide)) ?_
  refine Iff.trans (zw_isub (show decode cX11_runner 106 = .ok (.isub, 1) by decide +kernel)) ?_
  exact zw_iret1 (show decode cX11_runner 107 = .ok (.ireturn, 1) by decide +kernel) rfl

theorem bX11_start_0 {d : Nat} {σ : zS} {Q : Option Value → zS → Prop} (hl : zLay σ) {j1 : Int64} : zCall (d + 1) kX11_start [.ref 1, .long j1] σ Q ↔ (if (zI σ 12 4) = (0 : Int32) then Q (some (.int 0)) σ else zCall d kX2_fits [.ref 12, .int (zI σ 10 1)] σ (fun r σ' => zisN r = true ∧ zW (d + 1) kX11_start 24 [.ref 1, .long j1, .retAddr 1] (zRstk r ++ []) σ' Q)) := by
  show zW (d + 1) kX11_start 0 [.ref 1, .long j1, .retAddr 1] [] σ Q ↔ _
  refine Iff.trans (zw_aload_n (show decode cX11_start 0 = .ok (.aload_n 0, 1) by decide +kernel) rfl) ?_
  refine Iff.trans (zw_get (show decode cX11_start 1 = .ok (.getfield 48, 3) by decide +kernel) (by decide +kernel : zfld 11 48 = some (11, 8)) (hl.k2 zk_1) (hl.n2 zk_1) (zgetR (v := 12) (hl.r zrt_1_8) rfl)) ?_
  refine Iff.trans (zw_getI (show decode cX11_start 4 = .ok (.getfield 200, 3) by decide +kernel) (by decide +kernel : zfld 11 200 = some (2, 4)) (hl.k2 zk_12) (hl.n2 zk_12) (Or.inl rfl) (w := zI σ 12 4) rfl) ?_
  refine Iff.trans (zw_if_eq (t := 27) (show decode cX11_start 7 = .ok (.ifCond .eq 20, 3) by decide +kernel) (by decide)) ?_
  refine zw_ite ?_ ?_
  · refine Iff.trans (zw_iconst (x := 0) (show decode cX11_start 27 = .ok (.iconst 0, 1) by decide +kernel) (by decide)) ?_
    exact zw_iret2c (show decode cX11_start 28 = .ok (.ireturn, 1) by decide +kernel) rfl (Or.inl rfl)
  · refine Iff.trans (zw_aload_n (show decode cX11_start 10 = .ok (.aload_n 0, 1) by decide +kernel) rfl) ?_
    refine Iff.trans (zw_get (show decode cX11_start 11 = .ok (.getfield 48, 3) by decide +kernel) (by decide +kernel : zfld 11 48 = some (11, 8)) (hl.k2 zk_1) (hl.n2 zk_1) (zgetR (v := 12) (hl.r zrt_1_8) rfl)) ?_
    refine Iff.trans (zw_aload_n (show decode cX11_start 14 = .ok (.aload_n 0, 1) by decide +kernel) rfl) ?_
    refine Iff.trans (zw_get (show decode cX11_start 15 = .ok (.getfield 38, 3) by decide +kernel) (by decide +kernel : zfld 11 38 = some (11, 6)) (hl.k2 zk_1) (hl.n2 zk_1) (zgetR (v := 10) (hl.r zrt_1_6) rfl)) ?_
    refine Iff.trans (zw_getI (show decode cX11_start 18 = .ok (.getfield 180, 3) by decide +kernel) (by decide +kernel : zfld 11 180 = some (10, 1)) (hl.k2 zk_10) (hl.n2 zk_10) (Or.inl rfl) (w := zI σ 10 1) rfl) ?_
    refine Iff.trans (zw_invV (K' := kX2_fits) (as' := [.int (zI σ 10 1)]) (rest := []) (show decode cX11_start 21 = .ok (.invokevirtual 224, 3) by decide +kernel) (by rfl) rfl rfl rfl (hl.k2 zk_12) (by decide) (hl.n2 zk_12) ⟨Nat.le_of_ble_eq_true rfl, Nat.le_of_ble_eq_true rfl, Nat.le_of_ble_eq_true rfl⟩) ?_
    exact Iff.rfl

theorem bX11_start_24 {d : Nat} {σ : zS} {Q : Option Value → zS → Prop} (hl : zLay σ) {j1 : Int64} {y0 : Int32} : zW (d + 1) kX11_start 24 [.ref 1, .long j1, .retAddr 1] [.int y0] σ Q ↔ (if y0 = (0 : Int32) then Q (some (.int 0)) σ else zCall d kX2_begin [.ref 12, .long j1] σ (fun r σ' => zisN r = true ∧ zW (d + 1) kX11_start 37 [.ref 1, .long j1, .retAddr 1] (zRstk r ++ []) σ' Q)) := by
  refine Iff.trans (zw_if_ne (t := 29) (show decode cX11_start 24 = .ok (.ifCond .ne 5, 3) by decide +kernel) (by decide)) ?_
  refine zw_ite ?_ ?_
  · refine Iff.trans (zw_iconst (x := 0) (show decode cX11_start 27 = .ok (.iconst 0, 1) by decide +kernel) (by decide)) ?_
    exact zw_iret2c (show decode cX11_start 28 = .ok (.ireturn, 1) by decide +kernel) rfl (Or.inl rfl)
  · refine Iff.trans (zw_aload_n (show decode cX11_start 29 = .ok (.aload_n 0, 1) by decide +kernel) rfl) ?_
    refine Iff.trans (zw_get (show decode cX11_start 30 = .ok (.getfield 48, 3) by decide +kernel) (by decide +kernel : zfld 11 48 = some (11, 8)) (hl.k2 zk_1) (hl.n2 zk_1) (zgetR (v := 12) (hl.r zrt_1_8) rfl)) ?_
    refine Iff.trans (zw_lload_n (show decode cX11_start 33 = .ok (.lload_n 1, 1) by decide +kernel) rfl) ?_
    refine Iff.trans (zw_invV (K' := kX2_begin) (as' := [.long j1]) (rest := []) (show decode cX11_start 34 = .ok (.invokevirtual 227, 3) by decide +kernel) (by rfl) rfl rfl rfl (hl.k2 zk_12) (by decide) (hl.n2 zk_12) ⟨Nat.le_of_ble_eq_true rfl, Nat.le_of_ble_eq_true rfl, Nat.le_of_ble_eq_true rfl⟩) ?_
    exact Iff.rfl

theorem bX11_start_37 {d : Nat} {σ : zS} {Q : Option Value → zS → Prop} (hl : zLay σ) {j1 : Int64} : zW (d + 1) kX11_start 37 [.ref 1, .long j1, .retAddr 1] [] σ Q ↔ zCall d kX1_note [.ref 32, .ref 12] σ (fun r σ' => zisN r = true ∧ zW (d + 1) kX11_start 48 [.ref 1, .long j1, .retAddr 1] (zRstk r ++ []) σ' Q) := by
  refine Iff.trans (zw_aload_n (show decode cX11_start 37 = .ok (.aload_n 0, 1) by decide +kernel) rfl) ?_
  refine Iff.trans (zw_get (show decode cX11_start 38 = .ok (.getfield 55, 3) by decide +kernel) (by decide +kernel : zfld 11 55 = some (11, 9)) (hl.k2 zk_1) (hl.n2 zk_1) (zgetR (v := 32) (hl.r zrt_1_9) rfl)) ?_
  refine Iff.trans (zw_aload_n (show decode cX11_start 41 = .ok (.aload_n 0, 1) by decide +kernel) rfl) ?_
  refine Iff.trans (zw_get (show decode cX11_start 42 = .ok (.getfield 48, 3) by decide +kernel) (by decide +kernel : zfld 11 48 = some (11, 8)) (hl.k2 zk_1) (hl.n2 zk_1) (zgetR (v := 12) (hl.r zrt_1_8) rfl)) ?_
  refine Iff.trans (zw_invV (K' := kX1_note) (as' := [.ref 12]) (rest := []) (show decode cX11_start 45 = .ok (.invokevirtual 231, 3) by decide +kernel) (by rfl) rfl rfl rfl (hl.k2 zk_32) (by decide) (hl.n2 zk_32) ⟨Nat.le_of_ble_eq_true rfl, Nat.le_of_ble_eq_true rfl, Nat.le_of_ble_eq_true rfl⟩) ?_
  exact Iff.rfl

theorem bX11_start_48 {d : Nat} {σ : zS} {Q : Option Value → zS → Prop} (hl : zLay σ) {j1 : Int64} : zW (d + 1) kX11_start 48 [.ref 1, .long j1, .retAddr 1] [] σ Q ↔ Q (some (.int 1)) σ := by
  refine Iff.trans (zw_iconst (x := 1) (show decode cX11_start 48 = .ok (.iconst 1, 1) by decide +kernel) (by decide)) ?_
  exact zw_iret2c (show decode cX11_start 49 = .ok (.ireturn, 1) by decide +kernel) rfl (Or.inr rfl)

theorem bX11_tick_0 {d : Nat} {σ : zS} {Q : Option Value → zS → Prop} (hl : zLay σ) {x1 : Int32} : zCall (d + 1) kX11_tick [.ref 1, .int x1] σ Q ↔ (if (zI σ 12 9) = (0 : Int32) then Q (some (.int (-1))) σ else (if x1 < 1 then Q (some (.int (-1))) σ else (if x1 ≤ 60 then zW (d + 1) kX11_tick 27 [.ref 1, .int x1, .int 0, .int 0] [] σ Q else Q (some (.int (-1))) σ))) := by
  show zW (d + 1) kX11_tick 0 [.ref 1, .int x1, .retAddr 0, .retAddr 0] [] σ Q ↔ _
  refine Iff.trans (zw_aload_n (show decode cX11_tick 0 = .ok (.aload_n 0, 1) by decide +kernel) rfl) ?_
  refine Iff.trans (zw_get (show decode cX11_tick 1 = .ok (.getfield 48, 3) by decide +kernel) (by decide +kernel : zfld 11 48 = some (11, 8)) (hl.k2 zk_1) (hl.n2 zk_1) (zgetR (v := 12) (hl.r zrt_1_8) rfl)) ?_
  refine Iff.trans (zw_getI (show decode cX11_tick 4 = .ok (.getfield 206, 3) by decide +kernel) (by decide +kernel : zfld 11 206 = some (2, 9)) (hl.k2 zk_12) (hl.n2 zk_12) (Or.inr rfl) (w := zI σ 12 9) rfl) ?_
  refine Iff.trans (zw_if_eq (t := 21) (show decode cX11_tick 7 = .ok (.ifCond .eq 14, 3) by decide +kernel) (by decide)) ?_
  refine zw_ite ?_ ?_
  · refine Iff.trans (zw_iconst (x := (-1)) (show decode cX11_tick 21 = .ok (.iconst (-1), 1) by decide +kernel) (by decide)) ?_
    exact zw_iret1 (show decode cX11_tick 22 = .ok (.ireturn, 1) by decide +kernel) rfl
  · refine Iff.trans (zw_iload_n (show decode cX11_tick 10 = .ok (.iload_n 1, 1) by decide +kernel) rfl) ?_
    refine Iff.trans (zw_iconst (x := 1) (show decode cX11_tick 11 = .ok (.iconst 1, 1) by decide +kernel) (by decide)) ?_
    refine Iff.trans (zw_icmp_lt (t := 21) (show decode cX11_tick 12 = .ok (.if_icmp .lt 9, 3) by decide +kernel) (by decide)) ?_
    refine zw_ite ?_ ?_
    · refine Iff.trans (zw_iconst (x := (-1)) (show decode cX11_tick 21 = .ok (.iconst (-1), 1) by decide +kernel) (by decide)) ?_
      exact zw_iret1 (show decode cX11_tick 22 = .ok (.ireturn, 1) by decide +kernel) rfl
    · refine Iff.trans (zw_iload_n (show decode cX11_tick 15 = .ok (.iload_n 1, 1) by decide +kernel) rfl) ?_
      refine Iff.trans (zw_bipush (x := 60) (show decode cX11_tick 16 = .ok (.bipush 60, 2) by decide +kernel) (by decide)) ?_
      refine Iff.trans (zw_icmp_le (t := 23) (show decode cX11_tick 18 = .ok (.if_icmp .le 5, 3) by decide +kernel) (by decide)) ?_
      refine zw_ite ?_ ?_
      · refine Iff.trans (zw_iconst (x := 0) (show decode cX11_tick 23 = .ok (.iconst 0, 1) by decide +kernel) (by decide)) ?_
        refine Iff.trans (zw_istore_n (ls' := [.ref 1, .int x1, .int 0, .retAddr 0]) (show decode cX11_tick 24 = .ok (.istore_n 2, 1) by decide +kernel) (zset_s (Nat.le_of_ble_eq_true rfl) rfl)) ?_
        refine Iff.trans (zw_iconst (x := 0) (show decode cX11_tick 25 = .ok (.iconst 0, 1) by decide +kernel) (by decide)) ?_
        refine Iff.trans (zw_istore_n (ls' := [.ref 1, .int x1, .int 0, .int 0]) (show decode cX11_tick 26 = .ok (.istore_n 3, 1) by decide +kernel) (zset_s (Nat.le_of_ble_eq_true rfl) rfl)) ?_
        exact Iff.rfl
      · refine Iff.trans (zw_iconst (x := (-1)) (show decode cX11_tick 21 = .ok (.iconst (-1), 1) by decide +kernel) (by decide)) ?_
        exact zw_iret1 (show decode cX11_tick 22 = .ok (.ireturn, 1) by decide +kernel) rfl

theorem bX11_tick_27 {d : Nat} {σ : zS} {Q : Option Value → zS → Prop} (hl : zLay σ) {x1 x2 x3 : Int32} : zW (d + 1) kX11_tick 27 [.ref 1, .int x1, .int x2, .int x3] [] σ Q ↔ (if x1 ≤ x3 then Q (some (.int x2)) σ else zCall d kX2_goesOn [.ref 12] σ (fun r σ' => zisN r = true ∧ zW (d + 1) kX11_tick 39 [.ref 1, .int x1, .int x2, .int x3] (zRstk r ++ []) σ' Q)) := by
  refine Iff.trans (zw_iload_n (show decode cX11_tick 27 = .ok (.iload_n 3, 1) by decide +kernel) rfl) ?_
  refine Iff.trans (zw_iload_n (show decode cX11_tick 28 = .ok (.iload_n 1, 1) by decide +kernel) rfl) ?_
  refine Iff.trans (zw_icmp_ge (t := 74) (show decode cX11_tick 29 = .ok (.if_icmp .ge 45, 3) by decide +kernel) (by decide)) ?_
  refine zw_ite ?_ ?_
  · refine Iff.trans (zw_iload_n (show decode cX11_tick 74 = .ok (.iload_n 2, 1) by decide +kernel) rfl) ?_
    exact zw_iret1 (show decode cX11_tick 75 = .ok (.ireturn, 1) by decide +kernel) rfl
  · refine Iff.trans (zw_aload_n (show decode cX11_tick 32 = .ok (.aload_n 0, 1) by decide +kernel) rfl) ?_
    refine Iff.trans (zw_get (show decode cX11_tick 33 = .ok (.getfield 48, 3) by decide +kernel) (by decide +kernel : zfld 11 48 = some (11, 8)) (hl.k2 zk_1) (hl.n2 zk_1) (zgetR (v := 12) (hl.r zrt_1_8) rfl)) ?_
    refine Iff.trans (zw_invV (K' := kX2_goesOn) (as' := []) (rest := []) (show decode cX11_tick 36 = .ok (.invokevirtual 235, 3) by decide +kernel) (by rfl) rfl rfl rfl (hl.k2 zk_12) (by decide) (hl.n2 zk_12) ⟨Nat.le_of_ble_eq_true rfl, Nat.le_of_ble_eq_true rfl, Nat.le_of_ble_eq_true rfl⟩) ?_
    exact Iff.rfl

theorem bX11_tick_39 {d : Nat} {σ : zS} {Q : Option Value → zS → Prop} (hl : zLay σ) {x1 x2 x3 y0 : Int32} : zW (d + 1) kX11_tick 39 [.ref 1, .int x1, .int x2, .int x3] [.int y0] σ Q ↔ (if y0 = (0 : Int32) then Q (some (.int x2)) σ else zCall d kX2_run [.ref 12, .int 1, .ref 10] σ (fun r σ' => zisN r = true ∧ zW (d + 1) kX11_tick 54 [.ref 1, .int x1, .int x2, .int x3] (zRstk r ++ []) σ' Q)) := by
  refine Iff.trans (zw_if_eq (t := 74) (show decode cX11_tick 39 = .ok (.ifCond .eq 35, 3) by decide +kernel) (by decide)) ?_
  refine zw_ite ?_ ?_
  · refine Iff.trans (zw_iload_n (show decode cX11_tick 74 = .ok (.iload_n 2, 1) by decide +kernel) rfl) ?_
    exact zw_iret1 (show decode cX11_tick 75 = .ok (.ireturn, 1) by decide +kernel) rfl
  · refine Iff.trans (zw_aload_n (show decode cX11_tick 42 = .ok (.aload_n 0, 1) by decide +kernel) rfl) ?_
    refine Iff.trans (zw_get (show decode cX11_tick 43 = .ok (.getfield 48, 3) by decide +kernel) (by decide +kernel : zfld 11 48 = some (11, 8)) (hl.k2 zk_1) (hl.n2 zk_1) (zgetR (v := 12) (hl.r zrt_1_8) rfl)) ?_
    refine Iff.trans (zw_iconst (x := 1) (show decode cX11_tick 46 = .ok (.iconst 1, 1) by decide +kernel) (by decide)) ?_
    refine Iff.trans (zw_aload_n (show decode cX11_tick 47 = .ok (.aload_n 0, 1) by decide +kernel) rfl) ?_
    refine Iff.trans (zw_get (show decode cX11_tick 48 = .ok (.getfield 38, 3) by decide +kernel) (by decide +kernel : zfld 11 38 = some (11, 6)) (hl.k2 zk_1) (hl.n2 zk_1) (zgetR (v := 10) (hl.r zrt_1_6) rfl)) ?_
    refine Iff.trans (zw_invV (K' := kX2_run) (as' := [.int 1, .ref 10]) (rest := []) (show decode cX11_tick 51 = .ok (.invokevirtual 239, 3) by decide +kernel) (by rfl) rfl rfl rfl (hl.k2 zk_12) (by decide) (hl.n2 zk_12) ⟨Nat.le_of_ble_eq_true rfl, Nat.le_of_ble_eq_true rfl, Nat.le_of_ble_eq_true rfl⟩) ?_
    exact Iff.rfl

theorem bX11_tick_54 {d : Nat} {σ : zS} {Q : Option Value → zS → Prop} (hl : zLay σ) {x1 x2 x3 : Int32} : zW (d + 1) kX11_tick 54 [.ref 1, .int x1, .int x2, .int x3] [] σ Q ↔ zCall d kX1_note [.ref 32, .ref 12] σ (fun r σ' => zisN r = true ∧ zW (d + 1) kX11_tick 65 [.ref 1, .int x1, .int x2, .int x3] (zRstk r ++ []) σ' Q) := by
  refine Iff.trans (zw_aload_n (show decode cX11_tick 54 = .ok (.aload_n 0, 1) by decide +kernel) rfl) ?_
  refine Iff.trans (zw_get (show decode cX11_tick 55 = .ok (.getfield 55, 3) by decide +kernel) (by decide +kernel : zfld 11 55 = some (11, 9)) (hl.k2 zk_1) (hl.n2 zk_1) (zgetR (v := 32) (hl.r zrt_1_9) rfl)) ?_
  refine Iff.trans (zw_aload_n (show decode cX11_tick 58 = .ok (.aload_n 0, 1) by decide +kernel) rfl) ?_
  refine Iff.trans (zw_get (show decode cX11_tick 59 = .ok (.getfield 48, 3) by decide +kernel) (by decide +kernel : zfld 11 48 = some (11, 8)) (hl.k2 zk_1) (hl.n2 zk_1) (zgetR (v := 12) (hl.r zrt_1_8) rfl)) ?_
  refine Iff.trans (zw_invV (K' := kX1_note) (as' := [.ref 12]) (rest := []) (show decode cX11_tick 62 = .ok (.invokevirtual 231, 3) by decide +kernel) (by rfl) rfl rfl rfl (hl.k2 zk_32) (by decide) (hl.n2 zk_32) ⟨Nat.le_of_ble_eq_true rfl, Nat.le_of_ble_eq_true rfl, Nat.le_of_ble_eq_true rfl⟩) ?_
  exact Iff.rfl

theorem bX11_tick_65 {d : Nat} {σ : zS} {Q : Option Value → zS → Prop} (hl : zLay σ) {x1 x2 x3 : Int32} : zW (d + 1) kX11_tick 65 [.ref 1, .int x1, .int x2, .int x3] [] σ Q ↔ zW (d + 1) kX11_tick 27 [.ref 1, .int x1, .int (x2 + 1), .int (x3 + 1)] [] σ Q := by
  refine Iff.trans (zw_iinc (w := 1) (ls' := [.ref 1, .int x1, .int (x2 + 1), .int x3]) (show decode cX11_tick 65 = .ok (.iinc 2 1, 3) by decide +kernel) rfl (by decide) (zset_s (Nat.le_of_ble_eq_true rfl) rfl)) ?_
  refine Iff.trans (zw_iinc (w := 1) (ls' := [.ref 1, .int x1, .int (x2 + 1), .int (x3 + 1)]) (show decode cX11_tick 68 = .ok (.iinc 3 1, 3) by decide +kernel) rfl (by decide) (zset_s (Nat.le_of_ble_eq_true rfl) rfl)) ?_
  refine Iff.trans (zw_goto (t := 27) (show decode cX11_tick 71 = .ok (.goto (-44), 3) by decide +kernel) (by decide)) ?_
  exact Iff.rfl

theorem bX11_look_0 {d : Nat} {σ : zS} {Q : Option Value → zS → Prop} (hl : zLay σ) {x1 x2 : Int32} : zCall (d + 1) kX11_look [.ref 1, .int x1, .int x2] σ Q ↔ zCall d kX11_noRunner [.ref 1, .int x1] σ (fun r σ' => zisN r = true ∧ zW (d + 1) kX11_look 5 [.ref 1, .int x1, .int x2, .retAddr 0] (zRstk r ++ []) σ' Q) := by
  show zW (d + 1) kX11_look 0 [.ref 1, .int x1, .int x2, .retAddr 0] [] σ Q ↔ _
  refine Iff.trans (zw_aload_n (show decode cX11_look 0 = .ok (.aload_n 0, 1) by decide +kernel) rfl) ?_
  refine Iff.trans (zw_iload_n (show decode cX11_look 1 = .ok (.iload_n 1, 1) by decide +kernel) rfl) ?_
  refine Iff.trans (zw_invV (K' := kX11_noRunner) (as' := [.int x1]) (rest := []) (show decode cX11_look 2 = .ok (.invokevirtual 243, 3) by decide +kernel) (by rfl) rfl rfl rfl (hl.k2 zk_1) (by decide) (hl.n2 zk_1) ⟨Nat.le_of_ble_eq_true rfl, Nat.le_of_ble_eq_true rfl, Nat.le_of_ble_eq_true rfl⟩) ?_
  exact Iff.rfl

theorem bX11_look_5 {d : Nat} {σ : zS} {Q : Option Value → zS → Prop} (hl : zLay σ) {x1 x2 y0 : Int32} : zW (d + 1) kX11_look 5 [.ref 1, .int x1, .int x2, .retAddr 0] [.int y0] σ Q ↔ (if y0 = (0 : Int32) then (vp_in x1 6 ∧ zW (d + 1) kX11_look 21 [.ref 1, .int x1, .int x2, .retAddr 0] (va_rf (zR σ 13 (x1 : Int32).toNatClampNeg) :: []) σ Q) else Q (some (.int (-1000))) σ) := by
  refine Iff.trans (zw_if_eq (t := 12) (show decode cX11_look 5 = .ok (.ifCond .eq 7, 3) by decide +kernel) (by decide)) ?_
  refine zw_ite ?_ ?_
  · refine Iff.trans (zw_aload_n (show decode cX11_look 12 = .ok (.aload_n 0, 1) by decide +kernel) rfl) ?_
    refine Iff.trans (zw_get (show decode cX11_look 13 = .ok (.getfield 48, 3) by decide +kernel) (by decide +kernel : zfld 11 48 = some (11, 8)) (hl.k2 zk_1) (hl.n2 zk_1) (zgetR (v := 12) (hl.r zrt_1_8) rfl)) ?_
    refine Iff.trans (zw_get (show decode cX11_look 16 = .ok (.getfield 246, 3) by decide +kernel) (by decide +kernel : zfld 11 246 = some (2, 0)) (hl.k2 zk_12) (hl.n2 zk_12) (zgetR (v := 13) (hl.r zrt_12_0) rfl)) ?_
    refine Iff.trans (zw_iload_n (show decode cX11_look 19 = .ok (.iload_n 1, 1) by decide +kernel) rfl) ?_
    refine Iff.trans (zw_aald (show decode cX11_look 20 = .ok (.aaload, 1) by decide +kernel) (by rw [(hl.k2 zk_13)]; decide) (hl.n2 zk_13) (hl.l2 zk_13 zl_13)) ?_
    refine zw_and ?_
    exact Iff.rfl
  · refine Iff.trans (zw_sipush (x := (-1000)) (show decode cX11_look 8 = .ok (.sipush (-1000), 3) by decide +kernel) (by decide)) ?_
    exact zw_iret1 (show decode cX11_look 11 = .ok (.ireturn, 1) by decide +kernel) rfl

theorem bX11_look_21 {d : Nat} {σ : zS} {Q : Option Value → zS → Prop} (hl : zLay σ) {x1 x2 : Int32} {b0 : Nat} (hb0 : zk b0 = 4) : zW (d + 1) kX11_look 21 [.ref 1, .int x1, .int x2, .retAddr 0] [.ref b0] σ Q ↔ zW (d + 1) kX11_look 23 [.ref 1, .int x1, .int x2, .ref b0] [.int x2] σ Q := by
  refine Iff.trans (zw_astore_n (ls' := [.ref 1, .int x1, .int x2, .ref b0]) (show decode cX11_look 21 = .ok (.astore_n 3, 1) by decide +kernel) (zset_s (Nat.le_of_ble_eq_true rfl) rfl)) ?_
  refine Iff.trans (zw_iload_n (show decode cX11_look 22 = .ok (.iload_n 2, 1) by decide +kernel) rfl) ?_
  exact Iff.rfl

theorem bX11_look_64 {d : Nat} {σ : zS} {Q : Option Value → zS → Prop} (hl : zLay σ) {x1 x2 : Int32} {a3 : Nat} (ha3 : zk a3 = 4) : zW (d + 1) kX11_look 64 [.ref 1, .int x1, .int x2, .ref a3] [] σ Q ↔ Q (some (.int (zI σ a3 2))) σ := by
  refine Iff.trans (zw_aload_n (show decode cX11_look 64 = .ok (.aload_n 3, 1) by decide +kernel) rfl) ?_
  refine Iff.trans (zw_getI (show decode cX11_look 65 = .ok (.getfield 250, 3) by decide +kernel) (by decide +kernel : zfld 11 250 = some (4, 2)) (hl.k2 ha3) (hl.n2 ha3) (Or.inl rfl) (w := zI σ a3 2) rfl) ?_
  exact zw_iret1 (show decode cX11_look 68 = .ok (.ireturn, 1) by decide +kernel) rfl

theorem bX11_look_69 {d : Nat} {σ : zS} {Q : Option Value → zS → Prop} (hl : zLay σ) {x1 x2 : Int32} {a3 : Nat} (ha3 : zk a3 = 4) : zW (d + 1) kX11_look 69 [.ref 1, .int x1, .int x2, .ref a3] [] σ Q ↔ Q (some (.int (zI σ a3 3))) σ := by
  refine Iff.trans (zw_aload_n (show decode cX11_look 69 = .ok (.aload_n 3, 1) by decide +kernel) rfl) ?_
  refine Iff.trans (zw_getI (show decode cX11_look 70 = .ok (.getfield 255, 3) by decide +kernel) (by decide +kernel : zfld 11 255 = some (4, 3)) (hl.k2 ha3) (hl.n2 ha3) (Or.inl rfl) (w := zI σ a3 3) rfl) ?_
  exact zw_iret1 (show decode cX11_look 73 = .ok (.ireturn, 1) by decide +kernel) rfl

theorem bX11_look_74 {d : Nat} {σ : zS} {Q : Option Value → zS → Prop} (hl : zLay σ) {x1 x2 : Int32} {a3 : Nat} (ha3 : zk a3 = 4) : zW (d + 1) kX11_look 74 [.ref 1, .int x1, .int x2, .ref a3] [] σ Q ↔ Q (some (.int (zI σ a3 4))) σ := by
  refine Iff.trans (zw_aload_n (show decode cX11_look 74 = .ok (.aload_n 3, 1) by decide +kernel) rfl) ?_
  refine Iff.trans (zw_getI (show decode cX11_look 75 = .ok (.getfield 258, 3) by decide +kernel) (by decide +kernel : zfld 11 258 = some (4, 4)) (hl.k2 ha3) (hl.n2 ha3) (Or.inl rfl) (w := zI σ a3 4) rfl) ?_
  exact zw_iret1 (show decode cX11_look 78 = .ok (.ireturn, 1) by decide +kernel) rfl

theorem bX11_look_79 {d : Nat} {σ : zS} {Q : Option Value → zS → Prop} (hl : zLay σ) {x1 x2 : Int32} {a3 : Nat} (ha3 : zk a3 = 4) : zW (d + 1) kX11_look 79 [.ref 1, .int x1, .int x2, .ref a3] [] σ Q ↔ Q (some (.int (zI σ a3 5))) σ := by
  refine Iff.trans (zw_aload_n (show decode cX11_look 79 = .ok (.aload_n 3, 1) by decide +kernel) rfl) ?_
  refine Iff.trans (zw_getI (show decode cX11_look 80 = .ok (.getfield 261, 3) by decide +kernel) (by decide +kernel : zfld 11 261 = some (4, 5)) (hl.k2 ha3) (hl.n2 ha3) (Or.inl rfl) (w := zI σ a3 5) rfl) ?_
  exact zw_iret1 (show decode cX11_look 83 = .ok (.ireturn, 1) by decide +kernel) rfl

theorem bX11_look_84 {d : Nat} {σ : zS} {Q : Option Value → zS → Prop} (hl : zLay σ) {x1 x2 : Int32} {a3 : Nat} (ha3 : zk a3 = 4) : zW (d + 1) kX11_look 84 [.ref 1, .int x1, .int x2, .ref a3] [] σ Q ↔ zCall d kX2_placeOf [.ref 12, .int x1] σ (fun r σ' => zisN r = true ∧ zW (d + 1) kX11_look 92 [.ref 1, .int x1, .int x2, .ref a3] (zRstk r ++ []) σ' Q) := by
  refine Iff.trans (zw_aload_n (show decode cX11_look 84 = .ok (.aload_n 0, 1) by decide +kernel) rfl) ?_
  refine Iff.trans (zw_get (show decode cX11_look 85 = .ok (.getfield 48, 3) by decide +kernel) (by decide +kernel : zfld 11 48 = some (11, 8)) (hl.k2 zk_1) (hl.n2 zk_1) (zgetR (v := 12) (hl.r zrt_1_8) rfl)) ?_
  refine Iff.trans (zw_iload_n (show decode cX11_look 88 = .ok (.iload_n 1, 1) by decide +kernel) rfl) ?_
  refine Iff.trans (zw_invV (K' := kX2_placeOf) (as' := [.int x1]) (rest := []) (show decode cX11_look 89 = .ok (.invokevirtual 264, 3) by decide +kernel) (by rfl) rfl rfl rfl (hl.k2 zk_12) (by decide) (hl.n2 zk_12) ⟨Nat.le_of_ble_eq_true rfl, Nat.le_of_ble_eq_true rfl, Nat.le_of_ble_eq_true rfl⟩) ?_
  exact Iff.rfl

theorem bX11_look_92 {d : Nat} {σ : zS} {Q : Option Value → zS → Prop} (hl : zLay σ) {x1 x2 y0 : Int32} {a3 : Nat} (ha3 : zk a3 = 4) : zW (d + 1) kX11_look 92 [.ref 1, .int x1, .int x2, .ref a3] [.int y0] σ Q ↔ Q (some (.int y0)) σ := by
  exact zw_iret1 (show decode cX11_look 92 = .ok (.ireturn, 1) by decide +kernel) rfl

theorem bX11_look_93 {d : Nat} {σ : zS} {Q : Option Value → zS → Prop} (hl : zLay σ) {x1 x2 : Int32} {a3 : Nat} (ha3 : zk a3 = 4) : zW (d + 1) kX11_look 93 [.ref 1, .int x1, .int x2, .ref a3] [] σ Q ↔ Q (some (.int (zI σ a3 7))) σ := by
  refine Iff.trans (zw_aload_n (show decode cX11_look 93 = .ok (.aload_n 3, 1) by decide +kernel) rfl) ?_
  refine Iff.trans (zw_getI (show decode cX11_look 94 = .ok (.getfield 267, 3) by decide +kernel) (by decide +kernel : zfld 11 267 = some (4, 7)) (hl.k2 ha3) (hl.n2 ha3) (Or.inl rfl) (w := zI σ a3 7) rfl) ?_
  exact zw_iret1 (show decode cX11_look 97 = .ok (.ireturn, 1) by decide +kernel) rfl

theorem bX11_look_98 {d : Nat} {σ : zS} {Q : Option Value → zS → Prop} (hl : zLay σ) {x1 x2 : Int32} {a3 : Nat} (ha3 : zk a3 = 4) : zW (d + 1) kX11_look 98 [.ref 1, .int x1, .int x2, .ref a3] [] σ Q ↔ Q (some (.int (zI σ a3 8))) σ := by
  refine Iff.trans (zw_aload_n (show decode cX11_look 98 = .ok (.aload_n 3, 1) by decide +kernel) rfl) ?_
  refine Iff.trans (zw_getI (show decode cX11_look 99 = .ok (.getfield 270, 3) by decide +kernel) (by decide +kernel : zfld 11 270 = some (4, 8)) (hl.k2 ha3) (hl.n2 ha3) (Or.inl rfl) (w := zI σ a3 8) rfl) ?_
  exact zw_iret1 (show decode cX11_look 102 = .ok (.ireturn, 1) by decide +kernel) rfl

theorem bX11_look_103 {d : Nat} {σ : zS} {Q : Option Value → zS → Prop} (hl : zLay σ) {x1 x2 : Int32} {a3 : Nat} (ha3 : zk a3 = 4) : zW (d + 1) kX11_look 103 [.ref 1, .int x1, .int x2, .ref a3] [] σ Q ↔ Q (some (.int (-1000))) σ := by
  refine Iff.trans (zw_sipush (x := (-1000)) (show decode cX11_look 103 = .ok (.sipush (-1000), 3) by decide +kernel) (by decide)) ?_
  exact zw_iret1 (show decode cX11_look 106 = .ok (.ireturn, 1) by decide +kernel) rfl

theorem bX11_pull_0 {d : Nat} {σ : zS} {Q : Option Value → zS → Prop} (hl : zLay σ) {x1 : Int32} : zCall (d + 1) kX11_pull [.ref 1, .int x1] σ Q ↔ zCall d kX11_noRunner [.ref 1, .int x1] σ (fun r σ' => zisN r = true ∧ zW (d + 1) kX11_pull 5 [.ref 1, .int x1] (zRstk r ++ []) σ' Q) := by
  show zW (d + 1) kX11_pull 0 [.ref 1, .int x1] [] σ Q ↔ _
  refine Iff.trans (zw_aload_n (show decode cX11_pull 0 = .ok (.aload_n 0, 1) by decide +kernel) rfl) ?_
  refine Iff.trans (zw_iload_n (show decode cX11_pull 1 = .ok (.iload_n 1, 1) by decide +kernel) rfl) ?_
  refine Iff.trans (zw_invV (K' := kX11_noRunner) (as' := [.int x1]) (rest := []) (show decode cX11_pull 2 = .ok (.invokevirtual 243, 3) by decide +kernel) (by rfl) rfl rfl rfl (hl.k2 zk_1) (by decide) (hl.n2 zk_1) ⟨Nat.le_of_ble_eq_true rfl, Nat.le_of_ble_eq_true rfl, Nat.le_of_ble_eq_true rfl⟩) ?_
  exact Iff.rfl

theorem bX11_pull_5 {d : Nat} {σ : zS} {Q : Option Value → zS → Prop} (hl : zLay σ) {x1 y0 : Int32} : zW (d + 1) kX11_pull 5 [.ref 1, .int x1] [.int y0] σ Q ↔ (if y0 = (0 : Int32) then (vp_in x1 6 ∧ zW (d + 1) kX11_pull 17 [.ref 1, .int x1] (va_rf (zR σ 13 (x1 : Int32).toNatClampNeg) :: []) σ Q) else Q (some (.int (-1))) σ) := by
  refine Iff.trans (zw_if_ne (t := 23) (show decode cX11_pull 5 = .ok (.ifCond .ne 18, 3) by decide +kernel) (by decide)) ?_
  refine zw_ite ?_ ?_
  · refine Iff.trans (zw_aload_n (show decode cX11_pull 8 = .ok (.aload_n 0, 1) by decide +kernel) rfl) ?_
    refine Iff.trans (zw_get (show decode cX11_pull 9 = .ok (.getfield 48, 3) by decide +kernel) (by decide +kernel : zfld 11 48 = some (11, 8)) (hl.k2 zk_1) (hl.n2 zk_1) (zgetR (v := 12) (hl.r zrt_1_8) rfl)) ?_
    refine Iff.trans (zw_get (show decode cX11_pull 12 = .ok (.getfield 246, 3) by decide +kernel) (by decide +kernel : zfld 11 246 = some (2, 0)) (hl.k2 zk_12) (hl.n2 zk_12) (zgetR (v := 13) (hl.r zrt_12_0) rfl)) ?_
    refine Iff.trans (zw_iload_n (show decode cX11_pull 15 = .ok (.iload_n 1, 1) by decide +kernel) rfl) ?_
    refine Iff.trans (zw_aald (show decode cX11_pull 16 = .ok (.aaload, 1) by decide +kernel) (by rw [(hl.k2 zk_13)]; decide) (hl.n2 zk_13) (hl.l2 zk_13 zl_13)) ?_
    refine zw_and ?_
    exact Iff.rfl
  · refine Iff.trans (zw_iconst (x := (-1)) (show decode cX11_pull 23 = .ok (.iconst (-1), 1) by decide +kernel) (by decide)) ?_
    exact zw_iret1 (show decode cX11_pull 24 = .ok (.ireturn, 1) by decide +kernel) rfl

theorem bX11_pull_17 {d : Nat} {σ : zS} {Q : Option Value → zS → Prop} (hl : zLay σ) {x1 : Int32} {b0 : Nat} (hb0 : zk b0 = 4) : zW (d + 1) kX11_pull 17 [.ref 1, .int x1] [.ref b0] σ Q ↔ zCall d kX4_isOut [.ref b0] σ (fun r σ' => zisN r = true ∧ zW (d + 1) kX11_pull 20 [.ref 1, .int x1] (zRstk r ++ []) σ' Q) := by
  refine Iff.trans (zw_invV (K' := kX4_isOut) (as' := []) (rest := []) (show decode cX11_pull 17 = .ok (.invokevirtual 273, 3) by decide +kernel) (by rfl) rfl rfl rfl (hl.k2 hb0) (by decide) (hl.n2 hb0) ⟨Nat.le_of_ble_eq_true rfl, Nat.le_of_ble_eq_true rfl, Nat.le_of_ble_eq_true rfl⟩) ?_
  exact Iff.rfl

theorem bX11_pull_20 {d : Nat} {σ : zS} {Q : Option Value → zS → Prop} (hl : zLay σ) {x1 y0 : Int32} : zW (d + 1) kX11_pull 20 [.ref 1, .int x1] [.int y0] σ Q ↔ (if y0 = (0 : Int32) then (vp_in x1 6 ∧ zW (d + 1) kX11_pull 38 [.ref 1, .int x1] (va_rf (zR σ 13 (x1 : Int32).toNatClampNeg) :: [.ref 12]) σ Q) else Q (some (.int (-1))) σ) := by
  refine Iff.trans (zw_if_eq (t := 25) (show decode cX11_pull 20 = .ok (.ifCond .eq 5, 3) by decide +kernel) (by decide)) ?_
  refine zw_ite ?_ ?_
  · refine Iff.trans (zw_aload_n (show decode cX11_pull 25 = .ok (.aload_n 0, 1) by decide +kernel) rfl) ?_
    refine Iff.trans (zw_get (show decode cX11_pull 26 = .ok (.getfield 48, 3) by decide +kernel) (by decide +kernel : zfld 11 48 = some (11, 8)) (hl.k2 zk_1) (hl.n2 zk_1) (zgetR (v := 12) (hl.r zrt_1_8) rfl)) ?_
    refine Iff.trans (zw_aload_n (show decode cX11_pull 29 = .ok (.aload_n 0, 1) by decide +kernel) rfl) ?_
    refine Iff.trans (zw_get (show decode cX11_pull 30 = .ok (.getfield 48, 3) by decide +kernel) (by decide +kernel : zfld 11 48 = some (11, 8)) (hl.k2 zk_1) (hl.n2 zk_1) (zgetR (v := 12) (hl.r zrt_1_8) rfl)) ?_
    refine Iff.trans (zw_get (show decode cX11_pull 33 = .ok (.getfield 246, 3) by decide +kernel) (by decide +kernel : zfld 11 246 = some (2, 0)) (hl.k2 zk_12) (hl.n2 zk_12) (zgetR (v := 13) (hl.r zrt_12_0) rfl)) ?_
    refine Iff.trans (zw_iload_n (show decode cX11_pull 36 = .ok (.iload_n 1, 1) by decide +kernel) rfl) ?_
    refine Iff.trans (zw_aald (show decode cX11_pull 37 = .ok (.aaload, 1) by decide +kernel) (by rw [(hl.k2 zk_13)]; decide) (hl.n2 zk_13) (hl.l2 zk_13 zl_13)) ?_
    refine zw_and ?_
    exact Iff.rfl
  · refine Iff.trans (zw_iconst (x := (-1)) (show decode cX11_pull 23 = .ok (.iconst (-1), 1) by decide +kernel) (by decide)) ?_
    exact zw_iret1 (show decode cX11_pull 24 = .ok (.ireturn, 1) by decide +kernel) rfl

theorem bX11_pull_38 {d : Nat} {σ : zS} {Q : Option Value → zS → Prop} (hl : zLay σ) {x1 : Int32} {b0 : Nat} (hb0 : zk b0 = 4) : zW (d + 1) kX11_pull 38 [.ref 1, .int x1] [.ref b0, .ref 12] σ Q ↔ zCall d kX2_pullOf [.ref 12, .ref b0, .int (zI σ 10 1)] σ (fun r σ' => zisN r = true ∧ zW (d + 1) kX11_pull 48 [.ref 1, .int x1] (zRstk r ++ []) σ' Q) := by
  refine Iff.trans (zw_aload_n (show decode cX11_pull 38 = .ok (.aload_n 0, 1) by decide +kernel) rfl) ?_
  refine Iff.trans (zw_get (show decode cX11_pull 39 = .ok (.getfield 38, 3) by decide +kernel) (by decide +kernel : zfld 11 38 = some (11, 6)) (hl.k2 zk_1) (hl.n2 zk_1) (zgetR (v := 10) (hl.r zrt_1_6) rfl)) ?_
  refine Iff.trans (zw_getI (show decode cX11_pull 42 = .ok (.getfield 180, 3) by decide +kernel) (by decide +kernel : zfld 11 180 = some (10, 1)) (hl.k2 zk_10) (hl.n2 zk_10) (Or.inl rfl) (w := zI σ 10 1) rfl) ?_
  refine Iff.trans (zw_invV (K' := kX2_pullOf) (as' := [.ref b0, .int (zI σ 10 1)]) (rest := []) (show decode cX11_pull 45 = .ok (.invokevirtual 276, 3) by decide +kernel) (by rfl) rfl rfl rfl (hl.k2 zk_12) (by decide) (hl.n2 zk_12) ⟨Nat.le_of_ble_eq_true rfl, Nat.le_of_ble_eq_true rfl, Nat.le_of_ble_eq_true rfl⟩) ?_
  exact Iff.rfl

theorem bX11_pull_48 {d : Nat} {σ : zS} {Q : Option Value → zS → Prop} (hl : zLay σ) {x1 y0 : Int32} : zW (d + 1) kX11_pull 48 [.ref 1, .int x1] [.int y0] σ Q ↔ Q (some (.int y0)) σ := by
  exact zw_iret1 (show decode cX11_pull 48 = .ok (.ireturn, 1) by decide +kernel) rfl

theorem bX11_lies_0 {d : Nat} {σ : zS} {Q : Option Value → zS → Prop} (hl : zLay σ) {x1 x2 : Int32} : zCall (d + 1) kX11_lies [.ref 1, .int x1, .int x2] σ Q ↔ zW (d + 1) kX11_lies 7 [.ref 1, .int x1, .int x2, .retAddr 0, .retAddr 0] (va_rf ((zR σ 12) 3) :: []) σ Q := by
  show zW (d + 1) kX11_lies 0 [.ref 1, .int x1, .int x2, .retAddr 0, .retAddr 0] [] σ Q ↔ _
  refine Iff.trans (zw_aload_n (show decode cX11_lies 0 = .ok (.aload_n 0, 1) by decide +kernel) rfl) ?_
  refine Iff.trans (zw_get (show decode cX11_lies 1 = .ok (.getfield 48, 3) by decide +kernel) (by decide +kernel : zfld 11 48 = some (11, 8)) (hl.k2 zk_1) (hl.n2 zk_1) (zgetR (v := 12) (hl.r zrt_1_8) rfl)) ?_
  refine Iff.trans (zw_getR (show decode cX11_lies 4 = .ok (.getfield 210, 3) by decide +kernel) (by decide +kernel : zfld 11 210 = some (2, 3)) (hl.k2 zk_12) (hl.n2 zk_12) rfl (w := (zR σ 12) 3) rfl) ?_
  exact Iff.rfl

theorem bX11_lies_7 {d : Nat} {σ : zS} {Q : Option Value → zS → Prop} (hl : zLay σ) {x1 x2 : Int32} {b0 : Nat} (hb0 : zk b0 = 0) : zW (d + 1) kX11_lies 7 [.ref 1, .int x1, .int x2, .retAddr 0, .retAddr 0] [.ref b0] σ Q ↔ zCall d kX0_has [.ref b0, .int x1, .int x2] σ (fun r σ' => zisN r = true ∧ zW (d + 1) kX11_lies 12 [.ref 1, .int x1, .int x2, .retAddr 0, .retAddr 0] (zRstk r ++ []) σ' Q) := by
  refine Iff.trans (zw_iload_n (show decode cX11_lies 7 = .ok (.iload_n 1, 1) by decide +kernel) rfl) ?_
  refine Iff.trans (zw_iload_n (show decode cX11_lies 8 = .ok (.iload_n 2, 1) by decide +kernel) rfl) ?_
  refine Iff.trans (zw_invV (K' := kX0_has) (as' := [.int x1, .int x2]) (rest := []) (show decode cX11_lies 9 = .ok (.invokevirtual 176, 3) by decide +kernel) (by rfl) rfl rfl rfl (hl.k2 hb0) (by decide) (hl.n2 hb0) ⟨Nat.le_of_ble_eq_true rfl, Nat.le_of_ble_eq_true rfl, Nat.le_of_ble_eq_true rfl⟩) ?_
  exact Iff.rfl

theorem bX11_lies_12 {d : Nat} {σ : zS} {Q : Option Value → zS → Prop} (hl : zLay σ) {x1 x2 y0 : Int32} : zW (d + 1) kX11_lies 12 [.ref 1, .int x1, .int x2, .retAddr 0, .retAddr 0] [.int y0] σ Q ↔ (if y0 = (0 : Int32) then Q (some (.int (-1))) σ else zW (d + 1) kX11_lies 19 [.ref 1, .int x1, .int x2, .int 0, .retAddr 0] [] σ Q) := by
  refine Iff.trans (zw_if_ne (t := 17) (show decode cX11_lies 12 = .ok (.ifCond .ne 5, 3) by decide +kernel) (by decide)) ?_
  refine zw_ite ?_ ?_
  · refine Iff.trans (zw_iconst (x := (-1)) (show decode cX11_lies 15 = .ok (.iconst (-1), 1) by decide +kernel) (by decide)) ?_
    exact zw_iret1 (show decode cX11_lies 16 = .ok (.ireturn, 1) by decide +kernel) rfl
  · refine Iff.trans (zw_iconst (x := 0) (show decode cX11_lies 17 = .ok (.iconst 0, 1) by decide +kernel) (by decide)) ?_
    refine Iff.trans (zw_istore_n (ls' := [.ref 1, .int x1, .int x2, .int 0, .retAddr 0]) (show decode cX11_lies 18 = .ok (.istore_n 3, 1) by decide +kernel) (zset_s (Nat.le_of_ble_eq_true rfl) rfl)) ?_
    exact Iff.rfl

theorem bX11_lies_19 {d : Nat} {σ : zS} {Q : Option Value → zS → Prop} (hl : zLay σ) {x1 x2 x3 : Int32} {v4 : Value} (hv4 : v4.category = 1) : zW (d + 1) kX11_lies 19 [.ref 1, .int x1, .int x2, .int x3, v4] [] σ Q ↔ (if (zI σ 12 4) ≤ x3 then Q (some (.int (-1))) σ else (if 6 ≤ x3 then Q (some (.int (-1))) σ else (vp_in x3 6 ∧ zW (d + 1) kX11_lies 45 [.ref 1, .int x1, .int x2, .int x3, v4] (va_rf (zR σ 13 (x3 : Int32).toNatClampNeg) :: []) σ Q))) := by
  refine Iff.trans (zw_iload_n (show decode cX11_lies 19 = .ok (.iload_n 3, 1) by decide +kernel) rfl) ?_
  refine Iff.trans (zw_aload_n (show decode cX11_lies 20 = .ok (.aload_n 0, 1) by decide +kernel) rfl) ?_
  refine Iff.trans (zw_get (show decode cX11_lies 21 = .ok (.getfield 48, 3) by decide +kernel) (by decide +kernel : zfld 11 48 = some (11, 8)) (hl.k2 zk_1) (hl.n2 zk_1) (zgetR (v := 12) (hl.r zrt_1_8) rfl)) ?_
  refine Iff.trans (zw_getI (show decode cX11_lies 24 = .ok (.getfield 200, 3) by decide +kernel) (by decide +kernel : zfld 11 200 = some (2, 4)) (hl.k2 zk_12) (hl.n2 zk_12) (Or.inl rfl) (w := zI σ 12 4) rfl) ?_
  refine Iff.trans (zw_icmp_ge (t := 84) (show decode cX11_lies 27 = .ok (.if_icmp .ge 57, 3) by decide +kernel) (by decide)) ?_
  refine zw_ite ?_ ?_
  · refine Iff.trans (zw_iconst (x := (-1)) (show decode cX11_lies 84 = .ok (.iconst (-1), 1) by decide +kernel) (by decide)) ?_
    exact zw_iret1 (show decode cX11_lies 85 = .ok (.ireturn, 1) by decide +kernel) rfl
  · refine Iff.trans (zw_iload_n (show decode cX11_lies 30 = .ok (.iload_n 3, 1) by decide +kernel) rfl) ?_
    refine Iff.trans (zw_bipush (x := 6) (show decode cX11_lies 31 = .ok (.bipush 6, 2) by decide +kernel) (by decide)) ?_
    refine Iff.trans (zw_icmp_ge (t := 84) (show decode cX11_lies 33 = .ok (.if_icmp .ge 51, 3) by decide +kernel) (by decide)) ?_
    refine zw_ite ?_ ?_
    · refine Iff.trans (zw_iconst (x := (-1)) (show decode cX11_lies 84 = .ok (.iconst (-1), 1) by decide +kernel) (by decide)) ?_
      exact zw_iret1 (show decode cX11_lies 85 = .ok (.ireturn, 1) by decide +kernel) rfl
    · refine Iff.trans (zw_aload_n (show decode cX11_lies 36 = .ok (.aload_n 0, 1) by decide +kernel) rfl) ?_
      refine Iff.trans (zw_get (show decode cX11_lies 37 = .ok (.getfield 48, 3) by decide +kernel) (by decide +kernel : zfld 11 48 = some (11, 8)) (hl.k2 zk_1) (hl.n2 zk_1) (zgetR (v := 12) (hl.r zrt_1_8) rfl)) ?_
      refine Iff.trans (zw_get (show decode cX11_lies 40 = .ok (.getfield 246, 3) by decide +kernel) (by decide +kernel : zfld 11 246 = some (2, 0)) (hl.k2 zk_12) (hl.n2 zk_12) (zgetR (v := 13) (hl.r zrt_12_0) rfl)) ?_
      refine Iff.trans (zw_iload_n (show decode cX11_lies 43 = .ok (.iload_n 3, 1) by decide +kernel) rfl) ?_
      refine Iff.trans (zw_aald (show decode cX11_lies 44 = .ok (.aaload, 1) by decide +kernel) (by rw [(hl.k2 zk_13)]; decide) (hl.n2 zk_13) (hl.l2 zk_13 zl_13)) ?_
      refine zw_and ?_
      exact Iff.rfl

theorem bX11_lies_45 {d : Nat} {σ : zS} {Q : Option Value → zS → Prop} (hl : zLay σ) {x1 x2 x3 : Int32} {v4 : Value} {b0 : Nat} (hv4 : v4.category = 1) (hb0 : zk b0 = 4) : zW (d + 1) kX11_lies 45 [.ref 1, .int x1, .int x2, .int x3, v4] [.ref b0] σ Q ↔ zCall d kX4_isOut [.ref b0] σ (fun r σ' => zisN r = true ∧ zW (d + 1) kX11_lies 52 [.ref 1, .int x1, .int x2, .int x3, .ref b0] (zRstk r ++ []) σ' Q) := by
  refine Iff.trans (zw_astore (ls' := [.ref 1, .int x1, .int x2, .int x3, .ref b0]) (show decode cX11_lies 45 = .ok (.astore 4, 2) by decide +kernel) (zset_s (Nat.le_of_ble_eq_true rfl) rfl)) ?_
  refine Iff.trans (zw_aload (show decode cX11_lies 47 = .ok (.aload 4, 2) by decide +kernel) rfl) ?_
  refine Iff.trans (zw_invV (K' := kX4_isOut) (as' := []) (rest := []) (show decode cX11_lies 49 = .ok (.invokevirtual 273, 3) by decide +kernel) (by rfl) rfl rfl rfl (hl.k2 hb0) (by decide) (hl.n2 hb0) ⟨Nat.le_of_ble_eq_true rfl, Nat.le_of_ble_eq_true rfl, Nat.le_of_ble_eq_true rfl⟩) ?_
  exact Iff.rfl

theorem bX11_lies_52 {d : Nat} {σ : zS} {Q : Option Value → zS → Prop} (hl : zLay σ) {x1 x2 x3 y0 : Int32} {a4 : Nat} (ha4 : zk a4 = 4) : zW (d + 1) kX11_lies 52 [.ref 1, .int x1, .int x2, .int x3, .ref a4] [.int y0] σ Q ↔ (if y0 = (0 : Int32) then (if (zI σ a4 2) = x1 then zCall d kX4_lanes [.ref a4] σ (fun r σ' => zisN r = true ∧ zW (d + 1) kX11_lies 69 [.ref 1, .int x1, .int x2, .int x3, .ref a4] (zRstk r ++ []) σ' Q) else zW (d + 1) kX11_lies 19 [.ref 1, .int x1, .int x2, .int (x3 + 1), .ref a4] [] σ Q) else zW (d + 1) kX11_lies 19 [.ref 1, .int x1, .int x2, .int (x3 + 1), .ref a4] [] σ Q) := by
  refine Iff.trans (zw_if_ne (t := 78) (show decode cX11_lies 52 = .ok (.ifCond .ne 26, 3) by decide +kernel) (by decide)) ?_
  refine zw_ite ?_ ?_
  · refine Iff.trans (zw_aload (show decode cX11_lies 55 = .ok (.aload 4, 2) by decide +kernel) rfl) ?_
    refine Iff.trans (zw_getI (show decode cX11_lies 57 = .ok (.getfield 250, 3) by decide +kernel) (by decide +kernel : zfld 11 250 = some (4, 2)) (hl.k2 ha4) (hl.n2 ha4) (Or.inl rfl) (w := zI σ a4 2) rfl) ?_
    refine Iff.trans (zw_iload_n (show decode cX11_lies 60 = .ok (.iload_n 1, 1) by decide +kernel) rfl) ?_
    refine Iff.trans (zw_icmp_ne (t := 78) (show decode cX11_lies 61 = .ok (.if_icmp .ne 17, 3) by decide +kernel) (by decide)) ?_
    refine zw_ite ?_ ?_
    · refine Iff.trans (zw_aload (show decode cX11_lies 64 = .ok (.aload 4, 2) by decide +kernel) rfl) ?_
      refine Iff.trans (zw_invV (K' := kX4_lanes) (as' := []) (rest := []) (show decode cX11_lies 66 = .ok (.invokevirtual 280, 3) by decide +kernel) (by rfl) rfl rfl rfl (hl.k2 ha4) (by decide) (hl.n2 ha4) ⟨Nat.le_of_ble_eq_true rfl, Nat.le_of_ble_eq_true rfl, Nat.le_of_ble_eq_true rfl⟩) ?_
      exact Iff.rfl
    · refine Iff.trans (zw_iinc (w := 1) (ls' := [.ref 1, .int x1, .int x2, .int (x3 + 1), .ref a4]) (show decode cX11_lies 78 = .ok (.iinc 3 1, 3) by decide +kernel) rfl (by decide) (zset_s (Nat.le_of_ble_eq_true rfl) rfl)) ?_
      refine Iff.trans (zw_goto (t := 19) (show decode cX11_lies 81 = .ok (.goto (-62), 3) by decide +kernel) (by decide)) ?_
      exact Iff.rfl
  · refine Iff.trans (zw_iinc (w := 1) (ls' := [.ref 1, .int x1, .int x2, .int (x3 + 1), .ref a4]) (show decode cX11_lies 78 = .ok (.iinc 3 1, 3) by decide +kernel) rfl (by decide) (zset_s (Nat.le_of_ble_eq_true rfl) rfl)) ?_
    refine Iff.trans (zw_goto (t := 19) (show decode cX11_lies 81 = .ok (.goto (-62), 3) by decide +kernel) (by decide)) ?_
    exact Iff.rfl

theorem bX11_lies_69 {d : Nat} {σ : zS} {Q : Option Value → zS → Prop} (hl : zLay σ) {x1 x2 x3 y0 : Int32} {a4 : Nat} (ha4 : zk a4 = 4) : zW (d + 1) kX11_lies 69 [.ref 1, .int x1, .int x2, .int x3, .ref a4] [.int y0] σ Q ↔ zCall d kX11_hasBit [.int y0, .int x2] σ (fun r σ' => zisN r = true ∧ zW (d + 1) kX11_lies 73 [.ref 1, .int x1, .int x2, .int x3, .ref a4] (zRstk r ++ []) σ' Q) := by
  refine Iff.trans (zw_iload_n (show decode cX11_lies 69 = .ok (.iload_n 2, 1) by decide +kernel) rfl) ?_
  refine Iff.trans (zw_invS (K' := kX11_hasBit) (as := [.int y0, .int x2]) (rest := []) (show decode cX11_lies 70 = .ok (.invokestatic 282, 3) by decide +kernel) (by rfl) rfl rfl rfl ⟨Nat.le_of_ble_eq_true rfl, Nat.le_of_ble_eq_true rfl, Nat.le_of_ble_eq_true rfl⟩) ?_
  exact Iff.rfl

theorem bX11_lies_73 {d : Nat} {σ : zS} {Q : Option Value → zS → Prop} (hl : zLay σ) {x1 x2 x3 y0 : Int32} {a4 : Nat} (ha4 : zk a4 = 4) : zW (d + 1) kX11_lies 73 [.ref 1, .int x1, .int x2, .int x3, .ref a4] [.int y0] σ Q ↔ (if y0 = (0 : Int32) then zW (d + 1) kX11_lies 19 [.ref 1, .int x1, .int x2, .int (x3 + 1), .ref a4] [] σ Q else Q (some (.int x3)) σ) := by
  refine Iff.trans (zw_if_eq (t := 78) (show decode cX11_lies 73 = .ok (.ifCond .eq 5, 3) by decide +kernel) (by decide)) ?_
  refine zw_ite ?_ ?_
  · refine Iff.trans (zw_iinc (w := 1) (ls' := [.ref 1, .int x1, .int x2, .int (x3 + 1), .ref a4]) (show decode cX11_lies 78 = .ok (.iinc 3 1, 3) by decide +kernel) rfl (by decide) (zset_s (Nat.le_of_ble_eq_true rfl) rfl)) ?_
    refine Iff.trans (zw_goto (t := 19) (show decode cX11_lies 81 = .ok (.goto (-62), 3) by decide +kernel) (by decide)) ?_
    exact Iff.rfl
  · refine Iff.trans (zw_iload_n (show decode cX11_lies 76 = .ok (.iload_n 3, 1) by decide +kernel) rfl) ?_
    exact zw_iret1 (show decode cX11_lies 77 = .ok (.ireturn, 1) by decide +kernel) rfl

theorem bX11_odds_0 {d : Nat} {σ : zS} {Q : Option Value → zS → Prop} (hl : zLay σ) {x1 x2 x3 : Int32} : zCall (d + 1) kX11_odds [.ref 1, .int x1, .int x2, .int x3] σ Q ↔ zCall d kX11_noRunner [.ref 1, .int x1] σ (fun r σ' => zisN r = true ∧ zW (d + 1) kX11_odds 5 [.ref 1, .int x1, .int x2, .int x3] (zRstk r ++ []) σ' Q) := by
  show zW (d + 1) kX11_odds 0 [.ref 1, .int x1, .int x2, .int x3] [] σ Q ↔ _
  refine Iff.trans (zw_aload_n (show decode cX11_odds 0 = .ok (.aload_n 0, 1) by decide +kernel) rfl) ?_
  refine Iff.trans (zw_iload_n (show decode cX11_odds 1 = .ok (.iload_n 1, 1) by decide +kernel) rfl) ?_
  refine Iff.trans (zw_invV (K' := kX11_noRunner) (as' := [.int x1]) (rest := []) (show decode cX11_odds 2 = .ok (.invokevirtual 243, 3) by decide +kernel) (by rfl) rfl rfl rfl (hl.k2 zk_1) (by decide) (hl.n2 zk_1) ⟨Nat.le_of_ble_eq_true rfl, Nat.le_of_ble_eq_true rfl, Nat.le_of_ble_eq_true rfl⟩) ?_
  exact Iff.rfl

theorem bX11_odds_5 {d : Nat} {σ : zS} {Q : Option Value → zS → Prop} (hl : zLay σ) {x1 x2 x3 y0 : Int32} : zW (d + 1) kX11_odds 5 [.ref 1, .int x1, .int x2, .int x3] [.int y0] σ Q ↔ (if y0 = (0 : Int32) then zCall d kX11_noSeeds [.int x2] σ (fun r σ' => zisN r = true ∧ zW (d + 1) kX11_odds 12 [.ref 1, .int x1, .int x2, .int x3] (zRstk r ++ []) σ' Q) else Q (some (.int (-1))) σ) := by
  refine Iff.trans (zw_if_ne (t := 32) (show decode cX11_odds 5 = .ok (.ifCond .ne 27, 3) by decide +kernel) (by decide)) ?_
  refine zw_ite ?_ ?_
  · refine Iff.trans (zw_iload_n (show decode cX11_odds 8 = .ok (.iload_n 2, 1) by decide +kernel) rfl) ?_
    refine Iff.trans (zw_invS (K' := kX11_noSeeds) (as := [.int x2]) (rest := []) (show decode cX11_odds 9 = .ok (.invokestatic 285, 3) by decide +kernel) (by rfl) rfl rfl rfl ⟨Nat.le_of_ble_eq_true rfl, Nat.le_of_ble_eq_true rfl, Nat.le_of_ble_eq_true rfl⟩) ?_
    exact Iff.rfl
  · refine Iff.trans (zw_iconst (x := (-1)) (show decode cX11_odds 32 = .ok (.iconst (-1), 1) by decide +kernel) (by decide)) ?_
    exact zw_iret1 (show decode cX11_odds 33 = .ok (.ireturn, 1) by decide +kernel) rfl

theorem bX11_odds_12 {d : Nat} {σ : zS} {Q : Option Value → zS → Prop} (hl : zLay σ) {x1 x2 x3 y0 : Int32} : zW (d + 1) kX11_odds 12 [.ref 1, .int x1, .int x2, .int x3] [.int y0] σ Q ↔ (if y0 = (0 : Int32) then (if x3 < (0 : Int32) then Q (some (.int (-1))) σ else (if 1 < x3 then Q (some (.int (-1))) σ else zCall d kX11_tallyTold [.ref 1, .int x2] σ (fun r σ' => zisN r = true ∧ zW (d + 1) kX11_odds 29 [.ref 1, .int x1, .int x2, .int x3] (zRstk r ++ []) σ' Q))) else Q (some (.int (-1))) σ) := by
  refine Iff.trans (zw_if_ne (t := 32) (show decode cX11_odds 12 = .ok (.ifCond .ne 20, 3) by decide +kernel) (by decide)) ?_
  refine zw_ite ?_ ?_
  · refine Iff.trans (zw_iload_n (show decode cX11_odds 15 = .ok (.iload_n 3, 1) by decide +kernel) rfl) ?_
    refine Iff.trans (zw_if_lt (t := 32) (show decode cX11_odds 16 = .ok (.ifCond .lt 16, 3) by decide +kernel) (by decide)) ?_
    refine zw_ite ?_ ?_
    · refine Iff.trans (zw_iconst (x := (-1)) (show decode cX11_odds 32 = .ok (.iconst (-1), 1) by decide +kernel) (by decide)) ?_
      exact zw_iret1 (show decode cX11_odds 33 = .ok (.ireturn, 1) by decide +kernel) rfl
    · refine Iff.trans (zw_iload_n (show decode cX11_odds 19 = .ok (.iload_n 3, 1) by decide +kernel) rfl) ?_
      refine Iff.trans (zw_iconst (x := 1) (show decode cX11_odds 20 = .ok (.iconst 1, 1) by decide +kernel) (by decide)) ?_
      refine Iff.trans (zw_icmp_gt (t := 32) (show decode cX11_odds 21 = .ok (.if_icmp .gt 11, 3) by decide +kernel) (by decide)) ?_
      refine zw_ite ?_ ?_
      · refine Iff.trans (zw_iconst (x := (-1)) (show decode cX11_odds 32 = .ok (.iconst (-1), 1) by decide +kernel) (by decide)) ?_
        exact zw_iret1 (show decode cX11_odds 33 = .ok (.ireturn, 1) by decide +kernel) rfl
      · refine Iff.trans (zw_aload_n (show decode cX11_odds 24 = .ok (.aload_n 0, 1) by decide +kernel) rfl) ?_
        refine Iff.trans (zw_iload_n (show decode cX11_odds 25 = .ok (.iload_n 2, 1) by decide +kernel) rfl) ?_
        refine Iff.trans (zw_invV (K' := kX11_tallyTold) (as' := [.int x2]) (rest := []) (show decode cX11_odds 26 = .ok (.invokevirtual 288, 3) by decide +kernel) (by rfl) rfl rfl rfl (hl.k2 zk_1) (by decide) (hl.n2 zk_1) ⟨Nat.le_of_ble_eq_true rfl, Nat.le_of_ble_eq_true rfl, Nat.le_of_ble_eq_true rfl⟩) ?_
        exact Iff.rfl
  · refine Iff.trans (zw_iconst (x := (-1)) (show decode cX11_odds 32 = .ok (.iconst (-1), 1) by decide +kernel) (by decide)) ?_
    exact zw_iret1 (show decode cX11_odds 33 = .ok (.ireturn, 1) by decide +kernel) rfl

theorem bX11_odds_29 {d : Nat} {σ : zS} {Q : Option Value → zS → Prop} (hl : zLay σ) {x1 x2 x3 y0 : Int32} : zW (d + 1) kX11_odds 29 [.ref 1, .int x1, .int x2, .int x3] [.int y0] σ Q ↔ (if y0 = (0 : Int32) then Q (some (.int (-1))) σ else (if x3 = (0 : Int32) then (vp_in x1 6 ∧ Q (some (.int (zI σ 81 (x1 : Int32).toNatClampNeg))) σ) else (vp_in x1 6 ∧ Q (some (.int (zI σ 82 (x1 : Int32).toNatClampNeg))) σ))) := by
  refine Iff.trans (zw_if_ne (t := 34) (show decode cX11_odds 29 = .ok (.ifCond .ne 5, 3) by decide +kernel) (by decide)) ?_
  refine zw_ite ?_ ?_
  · refine Iff.trans (zw_iconst (x := (-1)) (show decode cX11_odds 32 = .ok (.iconst (-1), 1) by decide +kernel) (by decide)) ?_
    exact zw_iret1 (show decode cX11_odds 33 = .ok (.ireturn, 1) by decide +kernel) rfl
  · refine Iff.trans (zw_iload_n (show decode cX11_odds 34 = .ok (.iload_n 3, 1) by decide +kernel) rfl) ?_
    refine Iff.trans (zw_if_ne (t := 50) (show decode cX11_odds 35 = .ok (.ifCond .ne 15, 3) by decide +kernel) (by decide)) ?_
    refine zw_ite ?_ ?_
    · refine Iff.trans (zw_aload_n (show decode cX11_odds 38 = .ok (.aload_n 0, 1) by decide +kernel) rfl) ?_
      refine Iff.trans (zw_get (show decode cX11_odds 39 = .ok (.getfield 71, 3) by decide +kernel) (by decide +kernel : zfld 11 71 = some (11, 13)) (hl.k2 zk_1) (hl.n2 zk_1) (zgetR (v := 80) (hl.r zrt_1_13) rfl)) ?_
      refine Iff.trans (zw_get (show decode cX11_odds 42 = .ok (.getfield 291, 3) by decide +kernel) (by decide +kernel : zfld 11 291 = some (7, 0)) (hl.k2 zk_80) (hl.n2 zk_80) (zgetR (v := 81) (hl.r zrt_80_0) rfl)) ?_
      refine Iff.trans (zw_iload_n (show decode cX11_odds 45 = .ok (.iload_n 1, 1) by decide +kernel) rfl) ?_
      refine Iff.trans (zw_iald2 (show decode cX11_odds 46 = .ok (.iaload, 1) by decide +kernel) (hl.k2 zk_81) (hl.n2 zk_81) (hl.l2 zk_81 zl_81) (w := zI σ 81 (x1 : Int32).toNatClampNeg) rfl) ?_
      refine zw_and ?_
      refine Iff.trans (zw_goto (t := 59) (show decode cX11_odds 47 = .ok (.goto 12, 3) by decide +kernel) (by decide)) ?_
      exact zw_iret1 (show decode cX11_odds 59 = .ok (.ireturn, 1) by decide +kernel) rfl
    · refine Iff.trans (zw_aload_n (show decode cX11_odds 50 = .ok (.aload_n 0, 1) by decide +kernel) rfl) ?_
      refine Iff.trans (zw_get (show decode cX11_odds 51 = .ok (.getfield 71, 3) by decide +kernel) (by decide +kernel : zfld 11 71 = some (11, 13)) (hl.k2 zk_1) (hl.n2 zk_1) (zgetR (v := 80) (hl.r zrt_1_13) rfl)) ?_
      refine Iff.trans (zw_get (show decode cX11_odds 54 = .ok (.getfield 294, 3) by decide +kernel) (by decide +kernel : zfld 11 294 = some (7, 1)) (hl.k2 zk_80) (hl.n2 zk_80) (zgetR (v := 82) (hl.r zrt_80_1) rfl)) ?_
      refine Iff.trans (zw_iload_n (show decode cX11_odds 57 = .ok (.iload_n 1, 1) by decide +kernel) rfl) ?_
      refine Iff.trans (zw_iald2 (show decode cX11_odds 58 = .ok (.iaload, 1) by decide +kernel) (hl.k2 zk_82) (hl.n2 zk_82) (hl.l2 zk_82 zl_82) (w := zI σ 82 (x1 : Int32).toNatClampNeg) rfl) ?_
      refine zw_and ?_
      exact zw_iret1 (show decode cX11_odds 59 = .ok (.ireturn, 1) by decide +kernel) rfl

theorem bX11_alone_0 {d : Nat} {σ : zS} {Q : Option Value → zS → Prop} (hl : zLay σ) {x1 x2 x3 : Int32} {j4 : Int64} : zCall (d + 1) kX11_alone [.ref 1, .int x1, .int x2, .int x3, .long j4] σ Q ↔ zCall d kX11_noBrook [.ref 1, .int x1] σ (fun r σ' => zisN r = true ∧ zW (d + 1) kX11_alone 5 [.ref 1, .int x1, .int x2, .int x3, .long j4, .retAddr 1] (zRstk r ++ []) σ' Q) := by
  show zW (d + 1) kX11_alone 0 [.ref 1, .int x1, .int x2, .int x3, .long j4, .retAddr 1] [] σ Q ↔ _
  refine Iff.trans (zw_aload_n (show decode cX11_alone 0 = .ok (.aload_n 0, 1) by decide +kernel) rfl) ?_
  refine Iff.trans (zw_iload_n (show decode cX11_alone 1 = .ok (.iload_n 1, 1) by decide +kernel) rfl) ?_
  refine Iff.trans (zw_invV (K' := kX11_noBrook) (as' := [.int x1]) (rest := []) (show decode cX11_alone 2 = .ok (.invokevirtual 157, 3) by decide +kernel) (by rfl) rfl rfl rfl (hl.k2 zk_1) (by decide) (hl.n2 zk_1) ⟨Nat.le_of_ble_eq_true rfl, Nat.le_of_ble_eq_true rfl, Nat.le_of_ble_eq_true rfl⟩) ?_
  exact Iff.rfl

theorem bX11_alone_5 {d : Nat} {σ : zS} {Q : Option Value → zS → Prop} (hl : zLay σ) {x1 x2 x3 y0 : Int32} {j4 : Int64} : zW (d + 1) kX11_alone 5 [.ref 1, .int x1, .int x2, .int x3, .long j4, .retAddr 1] [.int y0] σ Q ↔ (if y0 = (0 : Int32) then zCall d kX11_noStick [.ref 1, .int x2] σ (fun r σ' => zisN r = true ∧ zW (d + 1) kX11_alone 13 [.ref 1, .int x1, .int x2, .int x3, .long j4, .retAddr 1] (zRstk r ++ []) σ' Q) else Q (some (.int (-1))) σ) := by
  refine Iff.trans (zw_if_ne (t := 16) (show decode cX11_alone 5 = .ok (.ifCond .ne 11, 3) by decide +kernel) (by decide)) ?_
  refine zw_ite ?_ ?_
  · refine Iff.trans (zw_aload_n (show decode cX11_alone 8 = .ok (.aload_n 0, 1) by decide +kernel) rfl) ?_
    refine Iff.trans (zw_iload_n (show decode cX11_alone 9 = .ok (.iload_n 2, 1) by decide +kernel) rfl) ?_
    refine Iff.trans (zw_invV (K' := kX11_noStick) (as' := [.int x2]) (rest := []) (show decode cX11_alone 10 = .ok (.invokevirtual 187, 3) by decide +kernel) (by rfl) rfl rfl rfl (hl.k2 zk_1) (by decide) (hl.n2 zk_1) ⟨Nat.le_of_ble_eq_true rfl, Nat.le_of_ble_eq_true rfl, Nat.le_of_ble_eq_true rfl⟩) ?_
    exact Iff.rfl
  · refine Iff.trans (zw_iconst (x := (-1)) (show decode cX11_alone 16 = .ok (.iconst (-1), 1) by decide +kernel) (by decide)) ?_
    exact zw_iret1 (show decode cX11_alone 17 = .ok (.ireturn, 1) by decide +kernel) rfl

theorem bX11_alone_13 {d : Nat} {σ : zS} {Q : Option Value → zS → Prop} (hl : zLay σ) {x1 x2 x3 y0 : Int32} {j4 : Int64} : zW (d + 1) kX11_alone 13 [.ref 1, .int x1, .int x2, .int x3, .long j4, .retAddr 1] [.int y0] σ Q ↔ (if y0 = (0 : Int32) then (vp_in x1 6 ∧ zW (d + 1) kX11_alone 25 [.ref 1, .int x1, .int x2, .int x3, .long j4, .retAddr 1] (va_rf (zR σ 4 (x1 : Int32).toNatClampNeg) :: [.ref 1]) σ Q) else Q (some (.int (-1))) σ) := by
  refine Iff.trans (zw_if_eq (t := 18) (show decode cX11_alone 13 = .ok (.ifCond .eq 5, 3) by decide +kernel) (by decide)) ?_
  refine zw_ite ?_ ?_
  · refine Iff.trans (zw_aload_n (show decode cX11_alone 18 = .ok (.aload_n 0, 1) by decide +kernel) rfl) ?_
    refine Iff.trans (zw_aload_n (show decode cX11_alone 19 = .ok (.aload_n 0, 1) by decide +kernel) rfl) ?_
    refine Iff.trans (zw_get (show decode cX11_alone 20 = .ok (.getfield 18, 3) by decide +kernel) (by decide +kernel : zfld 11 18 = some (11, 1)) (hl.k2 zk_1) (hl.n2 zk_1) (zgetR (v := 4) (hl.r zrt_1_1) rfl)) ?_
    refine Iff.trans (zw_iload_n (show decode cX11_alone 23 = .ok (.iload_n 1, 1) by decide +kernel) rfl) ?_
    refine Iff.trans (zw_aald (show decode cX11_alone 24 = .ok (.aaload, 1) by decide +kernel) (by rw [(hl.k2 zk_4)]; decide) (hl.n2 zk_4) (hl.l2 zk_4 zl_4)) ?_
    refine zw_and ?_
    exact Iff.rfl
  · refine Iff.trans (zw_iconst (x := (-1)) (show decode cX11_alone 16 = .ok (.iconst (-1), 1) by decide +kernel) (by decide)) ?_
    exact zw_iret1 (show decode cX11_alone 17 = .ok (.ireturn, 1) by decide +kernel) rfl

theorem bX11_alone_25 {d : Nat} {σ : zS} {Q : Option Value → zS → Prop} (hl : zLay σ) {x1 x2 x3 : Int32} {j4 : Int64} {b0 : Nat} (hb0 : zk b0 = 0) : zW (d + 1) kX11_alone 25 [.ref 1, .int x1, .int x2, .int x3, .long j4, .retAddr 1] [.ref b0, .ref 1] σ Q ↔ (vp_in x2 10 ∧ zW (d + 1) kX11_alone 31 [.ref 1, .int x1, .int x2, .int x3, .long j4, .retAddr 1] (va_rf (zR σ 5 (x2 : Int32).toNatClampNeg) :: [.ref b0, .ref 1]) σ Q) := by
  refine Iff.trans (zw_aload_n (show decode cX11_alone 25 = .ok (.aload_n 0, 1) by decide +kernel) rfl) ?_
  refine Iff.trans (zw_get (show decode cX11_alone 26 = .ok (.getfield 24, 3) by decide +kernel) (by decide +kernel : zfld 11 24 = some (11, 3)) (hl.k2 zk_1) (hl.n2 zk_1) (zgetR (v := 5) (hl.r zrt_1_3) rfl)) ?_
  refine Iff.trans (zw_iload_n (show decode cX11_alone 29 = .ok (.iload_n 2, 1) by decide +kernel) rfl) ?_
  refine Iff.trans (zw_aald (show decode cX11_alone 30 = .ok (.aaload, 1) by decide +kernel) (by rw [(hl.k2 zk_5)]; decide) (hl.n2 zk_5) (hl.l2 zk_5 zl_5)) ?_
  refine zw_and ?_
  exact Iff.rfl

theorem bX11_alone_31 {d : Nat} {σ : zS} {Q : Option Value → zS → Prop} (hl : zLay σ) {x1 x2 x3 : Int32} {j4 : Int64} {b0 b1 : Nat} (hb0 : zk b0 = 6) (hb1 : zk b1 = 0) : zW (d + 1) kX11_alone 31 [.ref 1, .int x1, .int x2, .int x3, .long j4, .retAddr 1] [.ref b0, .ref b1, .ref 1] σ Q ↔ zCall d kX11_ticksAlone [.ref 1, .ref b1, .ref b0, .int x3, .long j4] σ (fun r σ' => zisN r = true ∧ zW (d + 1) kX11_alone 37 [.ref 1, .int x1, .int x2, .int x3, .long j4, .retAddr 1] (zRstk r ++ []) σ' Q) := by
  refine Iff.trans (zw_iload_n (show decode cX11_alone 31 = .ok (.iload_n 3, 1) by decide +kernel) rfl) ?_
  refine Iff.trans (zw_lload (show decode cX11_alone 32 = .ok (.lload 4, 2) by decide +kernel) rfl) ?_
  refine Iff.trans (zw_invV (K' := kX11_ticksAlone) (as' := [.ref b1, .ref b0, .int x3, .long j4]) (rest := []) (show decode cX11_alone 34 = .ok (.invokevirtual 297, 3) by decide +kernel) (by rfl) rfl rfl rfl (hl.k2 zk_1) (by decide) (hl.n2 zk_1) ⟨Nat.le_of_ble_eq_true rfl, Nat.le_of_ble_eq_true rfl, Nat.le_of_ble_eq_true rfl⟩) ?_
  exact Iff.rfl

theorem bX11_alone_37 {d : Nat} {σ : zS} {Q : Option Value → zS → Prop} (hl : zLay σ) {x1 x2 x3 y0 : Int32} {j4 : Int64} : zW (d + 1) kX11_alone 37 [.ref 1, .int x1, .int x2, .int x3, .long j4, .retAddr 1] [.int y0] σ Q ↔ Q (some (.int y0)) σ := by
  exact zw_iret1 (show decode cX11_alone 37 = .ok (.ireturn, 1) by decide +kernel) rfl

theorem bX11_luck_0 {d : Nat} {σ : zS} {Q : Option Value → zS → Prop} (hl : zLay σ) {x1 x2 x3 x4 : Int32} : zCall (d + 1) kX11_luck [.ref 1, .int x1, .int x2, .int x3, .int x4] σ Q ↔ (if x3 < 1 then Q (some (.int (-1))) σ else (if 20 < x3 then Q (some (.int (-1))) σ else (if x4 < (0 : Int32) then Q (some (.int (-1))) σ else (if x4 ≤ x3 then zCall d kX11_noRunner [.ref 1, .int x1] σ (fun r σ' => zisN r = true ∧ zW (d + 1) kX11_luck 29 [.ref 1, .int x1, .int x2, .int x3, .int x4, .retAddr 0, .retAddr 0] (zRstk r ++ []) σ' Q) else Q (some (.int (-1))) σ)))) := by
  show zW (d + 1) kX11_luck 0 [.ref 1, .int x1, .int x2, .int x3, .int x4, .retAddr 0, .retAddr 0] [] σ Q ↔ _
  refine Iff.trans (zw_iload_n (show decode cX11_luck 0 = .ok (.iload_n 3, 1) by decide +kernel) rfl) ?_
  refine Iff.trans (zw_iconst (x := 1) (show decode cX11_luck 1 = .ok (.iconst 1, 1) by decide +kernel) (by decide)) ?_
  refine Iff.trans (zw_icmp_lt (t := 22) (show decode cX11_luck 2 = .ok (.if_icmp .lt 20, 3) by decide +kernel) (by decide)) ?_
  refine zw_ite ?_ ?_
  · refine Iff.trans (zw_iconst (x := (-1)) (show decode cX11_luck 22 = .ok (.iconst (-1), 1) by decide +kernel) (by decide)) ?_
    exact zw_iret1 (show decode cX11_luck 23 = .ok (.ireturn, 1) by decide +kernel) rfl
  · refine Iff.trans (zw_iload_n (show decode cX11_luck 5 = .ok (.iload_n 3, 1) by decide +kernel) rfl) ?_
    refine Iff.trans (zw_bipush (x := 20) (show decode cX11_luck 6 = .ok (.bipush 20, 2) by decide +kernel) (by decide)) ?_
    refine Iff.trans (zw_icmp_gt (t := 22) (show decode cX11_luck 8 = .ok (.if_icmp .gt 14, 3) by decide +kernel) (by decide)) ?_
    refine zw_ite ?_ ?_
    · refine Iff.trans (zw_iconst (x := (-1)) (show decode cX11_luck 22 = .ok (.iconst (-1), 1) by decide +kernel) (by decide)) ?_
      exact zw_iret1 (show decode cX11_luck 23 = .ok (.ireturn, 1) by decide +kernel) rfl
    · refine Iff.trans (zw_iload (show decode cX11_luck 11 = .ok (.iload 4, 2) by decide +kernel) rfl) ?_
      refine Iff.trans (zw_if_lt (t := 22) (show decode cX11_luck 13 = .ok (.ifCond .lt 9, 3) by decide +kernel) (by decide)) ?_
      refine zw_ite ?_ ?_
      · refine Iff.trans (zw_iconst (x := (-1)) (show decode cX11_luck 22 = .ok (.iconst (-1), 1) by decide +kernel) (by decide)) ?_
        exact zw_iret1 (show decode cX11_luck 23 = .ok (.ireturn, 1) by decide +kernel) rfl
      · refine Iff.trans (zw_iload (show decode cX11_luck 16 = .ok (.iload 4, 2) by decide +kernel) rfl) ?_
        refine Iff.trans (zw_iload_n (show decode cX11_luck 18 = .ok (.iload_n 3, 1) by decide +kernel) rfl) ?_
        refine Iff.trans (zw_icmp_le (t := 24) (show decode cX11_luck 19 = .ok (.if_icmp .le 5, 3) by decide +kernel) (by decide)) ?_
        refine zw_ite ?_ ?_
        · refine Iff.trans (zw_aload_n (show decode cX11_luck 24 = .ok (.aload_n 0, 1) by decide +kernel) rfl) ?_
          refine Iff.trans (zw_iload_n (show decode cX11_luck 25 = .ok (.iload_n 1, 1) by decide +kernel) rfl) ?_
          refine Iff.trans (zw_invV (K' := kX11_noRunner) (as' := [.int x1]) (rest := []) (show decode cX11_luck 26 = .ok (.invokevirtual 243, 3) by decide +kernel) (by rfl) rfl rfl rfl (hl.k2 zk_1) (by decide) (hl.n2 zk_1) ⟨Nat.le_of_ble_eq_true rfl, Nat.le_of_ble_eq_true rfl, Nat.le_of_ble_eq_true rfl⟩) ?_
          exact Iff.rfl
        · refine Iff.trans (zw_iconst (x := (-1)) (show decode cX11_luck 22 = .ok (.iconst (-1), 1) by decide +kernel) (by decide)) ?_
          exact zw_iret1 (show decode cX11_luck 23 = .ok (.ireturn, 1) by decide +kernel) rfl

theorem bX11_luck_29 {d : Nat} {σ : zS} {Q : Option Value → zS → Prop} (hl : zLay σ) {x1 x2 x3 x4 y0 : Int32} : zW (d + 1) kX11_luck 29 [.ref 1, .int x1, .int x2, .int x3, .int x4, .retAddr 0, .retAddr 0] [.int y0] σ Q ↔ (if y0 = (0 : Int32) then zCall d kX11_noSeeds [.int x2] σ (fun r σ' => zisN r = true ∧ zW (d + 1) kX11_luck 36 [.ref 1, .int x1, .int x2, .int x3, .int x4, .retAddr 0, .retAddr 0] (zRstk r ++ []) σ' Q) else Q (some (.int (-1))) σ) := by
  refine Iff.trans (zw_if_ne (t := 47) (show decode cX11_luck 29 = .ok (.ifCond .ne 18, 3) by decide +kernel) (by decide)) ?_
  refine zw_ite ?_ ?_
  · refine Iff.trans (zw_iload_n (show decode cX11_luck 32 = .ok (.iload_n 2, 1) by decide +kernel) rfl) ?_
    refine Iff.trans (zw_invS (K' := kX11_noSeeds) (as := [.int x2]) (rest := []) (show decode cX11_luck 33 = .ok (.invokestatic 285, 3) by decide +kernel) (by rfl) rfl rfl rfl ⟨Nat.le_of_ble_eq_true rfl, Nat.le_of_ble_eq_true rfl, Nat.le_of_ble_eq_true rfl⟩) ?_
    exact Iff.rfl
  · refine Iff.trans (zw_iconst (x := (-1)) (show decode cX11_luck 47 = .ok (.iconst (-1), 1) by decide +kernel) (by decide)) ?_
    exact zw_iret1 (show decode cX11_luck 48 = .ok (.ireturn, 1) by decide +kernel) rfl

theorem bX11_luck_36 {d : Nat} {σ : zS} {Q : Option Value → zS → Prop} (hl : zLay σ) {x1 x2 x3 x4 y0 : Int32} : zW (d + 1) kX11_luck 36 [.ref 1, .int x1, .int x2, .int x3, .int x4, .retAddr 0, .retAddr 0] [.int y0] σ Q ↔ (if y0 = (0 : Int32) then zCall d kX11_tallyTold [.ref 1, .int x2] σ (fun r σ' => zisN r = true ∧ zW (d + 1) kX11_luck 44 [.ref 1, .int x1, .int x2, .int x3, .int x4, .retAddr 0, .retAddr 0] (zRstk r ++ []) σ' Q) else Q (some (.int (-1))) σ) := by
  refine Iff.trans (zw_if_ne (t := 47) (show decode cX11_luck 36 = .ok (.ifCond .ne 11, 3) by decide +kernel) (by decide)) ?_
  refine zw_ite ?_ ?_
  · refine Iff.trans (zw_aload_n (show decode cX11_luck 39 = .ok (.aload_n 0, 1) by decide +kernel) rfl) ?_
    refine Iff.trans (zw_iload_n (show decode cX11_luck 40 = .ok (.iload_n 2, 1) by decide +kernel) rfl) ?_
    refine Iff.trans (zw_invV (K' := kX11_tallyTold) (as' := [.int x2]) (rest := []) (show decode cX11_luck 41 = .ok (.invokevirtual 288, 3) by decide +kernel) (by rfl) rfl rfl rfl (hl.k2 zk_1) (by decide) (hl.n2 zk_1) ⟨Nat.le_of_ble_eq_true rfl, Nat.le_of_ble_eq_true rfl, Nat.le_of_ble_eq_true rfl⟩) ?_
    exact Iff.rfl
  · refine Iff.trans (zw_iconst (x := (-1)) (show decode cX11_luck 47 = .ok (.iconst (-1), 1) by decide +kernel) (by decide)) ?_
    exact zw_iret1 (show decode cX11_luck 48 = .ok (.ireturn, 1) by decide +kernel) rfl

theorem bX11_luck_44 {d : Nat} {σ : zS} {Q : Option Value → zS → Prop} (hl : zLay σ) {x1 x2 x3 x4 y0 : Int32} : zW (d + 1) kX11_luck 44 [.ref 1, .int x1, .int x2, .int x3, .int x4, .retAddr 0, .retAddr 0] [.int y0] σ Q ↔ (if y0 = (0 : Int32) then Q (some (.int (-1))) σ else (vp_in x1 6 ∧ zCall d kX11_spreadParts [.ref 1, .int x3, .int (zI σ 81 (x1 : Int32).toNatClampNeg), .int x2] σ (fun r σ' => zisN r = true ∧ zW (d + 1) kX11_luck 64 [.ref 1, .int x1, .int x2, .int x3, .int x4, .retAddr 0, .retAddr 0] (zRstk r ++ []) σ' Q))) := by
  refine Iff.trans (zw_if_ne (t := 49) (show decode cX11_luck 44 = .ok (.ifCond .ne 5, 3) by decide +kernel) (by decide)) ?_
  refine zw_ite ?_ ?_
  · refine Iff.trans (zw_iconst (x := (-1)) (show decode cX11_luck 47 = .ok (.iconst (-1), 1) by decide +kernel) (by decide)) ?_
    exact zw_iret1 (show decode cX11_luck 48 = .ok (.ireturn, 1) by decide +kernel) rfl
  · refine Iff.trans (zw_aload_n (show decode cX11_luck 49 = .ok (.aload_n 0, 1) by decide +kernel) rfl) ?_
    refine Iff.trans (zw_iload_n (show decode cX11_luck 50 = .ok (.iload_n 3, 1) by decide +kernel) rfl) ?_
    refine Iff.trans (zw_aload_n (show decode cX11_luck 51 = .ok (.aload_n 0, 1) by decide +kernel) rfl) ?_
    refine Iff.trans (zw_get (show decode cX11_luck 52 = .ok (.getfield 71, 3) by decide +kernel) (by decide +kernel : zfld 11 71 = some (11, 13)) (hl.k2 zk_1) (hl.n2 zk_1) (zgetR (v := 80) (hl.r zrt_1_13) rfl)) ?_
    refine Iff.trans (zw_get (show decode cX11_luck 55 = .ok (.getfield 291, 3) by decide +kernel) (by decide +kernel : zfld 11 291 = some (7, 0)) (hl.k2 zk_80) (hl.n2 zk_80) (zgetR (v := 81) (hl.r zrt_80_0) rfl)) ?_
    refine Iff.trans (zw_iload_n (show decode cX11_luck 58 = .ok (.iload_n 1, 1) by decide +kernel) rfl) ?_
    refine Iff.trans (zw_iald2 (show decode cX11_luck 59 = .ok (.iaload, 1) by decide +kernel) (hl.k2 zk_81) (hl.n2 zk_81) (hl.l2 zk_81 zl_81) (w := zI σ 81 (x1 : Int32).toNatClampNeg) rfl) ?_
    refine zw_and ?_
    refine Iff.trans (zw_iload_n (show decode cX11_luck 60 = .ok (.iload_n 2, 1) by decide +kernel) rfl) ?_
    refine Iff.trans (zw_invV (K' := kX11_spreadParts) (as' := [.int x3, .int (zI σ 81 (x1 : Int32).toNatClampNeg), .int x2]) (rest := []) (show decode cX11_luck 61 = .ok (.invokevirtual 301, 3) by decide +kernel) (by rfl) rfl rfl rfl (hl.k2 zk_1) (by decide) (hl.n2 zk_1) ⟨Nat.le_of_ble_eq_true rfl, Nat.le_of_ble_eq_true rfl, Nat.le_of_ble_eq_true rfl⟩) ?_
    exact Iff.rfl

theorem bX11_luck_64 {d : Nat} {σ : zS} {Q : Option Value → zS → Prop} (hl : zLay σ) {x1 x2 x3 x4 : Int32} : zW (d + 1) kX11_luck 64 [.ref 1, .int x1, .int x2, .int x3, .int x4, .retAddr 0, .retAddr 0] [] σ Q ↔ zW (d + 1) kX11_luck 71 [.ref 1, .int x1, .int x2, .int x3, .int x4, .int 0, .int x4] [] σ Q := by
  refine Iff.trans (zw_iconst (x := 0) (show decode cX11_luck 64 = .ok (.iconst 0, 1) by decide +kernel) (by decide)) ?_
  refine Iff.trans (zw_istore (ls' := [.ref 1, .int x1, .int x2, .int x3, .int x4, .int 0, .retAddr 0]) (show decode cX11_luck 65 = .ok (.istore 5, 2) by decide +kernel) (zset_s (Nat.le_of_ble_eq_true rfl) rfl)) ?_
  refine Iff.trans (zw_iload (show decode cX11_luck 67 = .ok (.iload 4, 2) by decide +kernel) rfl) ?_
  refine Iff.trans (zw_istore (ls' := [.ref 1, .int x1, .int x2, .int x3, .int x4, .int 0, .int x4]) (show decode cX11_luck 69 = .ok (.istore 6, 2) by decide +kernel) (zset_s (Nat.le_of_ble_eq_true rfl) rfl)) ?_
  exact Iff.rfl

theorem bX11_luck_71 {d : Nat} {σ : zS} {Q : Option Value → zS → Prop} (hl : zLay σ) {x1 x2 x3 x4 x5 x6 : Int32} : zW (d + 1) kX11_luck 71 [.ref 1, .int x1, .int x2, .int x3, .int x4, .int x5, .int x6] [] σ Q ↔ (if x3 < x6 then Q (some (.int x5)) σ else (if 21 ≤ x6 then Q (some (.int x5)) σ else (vp_in x6 21 ∧ zW (d + 1) kX11_luck 71 [.ref 1, .int x1, .int x2, .int x3, .int x4, .int (x5 + (zI σ 96 (x6 : Int32).toNatClampNeg)), .int (x6 + 1)] [] σ Q))) := by
  refine Iff.trans (zw_iload (show decode cX11_luck 71 = .ok (.iload 6, 2) by decide +kernel) rfl) ?_
  refine Iff.trans (zw_iload_n (show decode cX11_luck 73 = .ok (.iload_n 3, 1) by decide +kernel) rfl) ?_
  refine Iff.trans (zw_icmp_gt (t := 105) (show decode cX11_luck 74 = .ok (.if_icmp .gt 31, 3) by decide +kernel) (by decide)) ?_
  refine zw_ite ?_ ?_
  · refine Iff.trans (zw_iload (show decode cX11_luck 105 = .ok (.iload 5, 2) by decide +kernel) rfl) ?_
    exact zw_iret1 (show decode cX11_luck 107 = .ok (.ireturn, 1) by decide +kernel) rfl
  · refine Iff.trans (zw_iload (show decode cX11_luck 77 = .ok (.iload 6, 2) by decide +kernel) rfl) ?_
    refine Iff.trans (zw_aload_n (show decode cX11_luck 79 = .ok (.aload_n 0, 1) by decide +kernel) rfl) ?_
    refine Iff.trans (zw_get (show decode cX11_luck 80 = .ok (.getfield 102, 3) by decide +kernel) (by decide +kernel : zfld 11 102 = some (11, 19)) (hl.k2 zk_1) (hl.n2 zk_1) (zgetR (v := 96) (hl.r zrt_1_19) rfl)) ?_
    refine Iff.trans (zw_alen (show decode cX11_luck 83 = .ok (.arraylength, 1) by decide +kernel) ⟨by rw [(hl.k2 zk_96)]; decide, Or.inl (by rw [(hl.k2 zk_96)]; decide)⟩ (hl.n2 zk_96) (hl.l2 zk_96 zl_96) (v := 21) rfl) ?_
    refine Iff.trans (zw_icmp_ge (t := 105) (show decode cX11_luck 84 = .ok (.if_icmp .ge 21, 3) by decide +kernel) (by decide)) ?_
    refine zw_ite ?_ ?_
    · refine Iff.trans (zw_iload (show decode cX11_luck 105 = .ok (.iload 5, 2) by decide +kernel) rfl) ?_
      exact zw_iret1 (show decode cX11_luck 107 = .ok (.ireturn, 1) by decide +kernel) rfl
    · refine Iff.trans (zw_iload (show decode cX11_luck 87 = .ok (.iload 5, 2) by decide +kernel) rfl) ?_
      refine Iff.trans (zw_aload_n (show decode cX11_luck 89 = .ok (.aload_n 0, 1) by decide +kernel) rfl) ?_
      refine Iff.trans (zw_get (show decode cX11_luck 90 = .ok (.getfield 102, 3) by decide +kernel) (by decide +kernel : zfld 11 102 = some (11, 19)) (hl.k2 zk_1) (hl.n2 zk_1) (zgetR (v := 96) (hl.r zrt_1_19) rfl)) ?_
      refine Iff.trans (zw_iload (show decode cX11_luck 93 = .ok (.iload 6, 2) by decide +kernel) rfl) ?_
      refine Iff.trans (zw_iald2 (show decode cX11_luck 95 = .ok (.iaload, 1) by decide +kernel) (hl.k2 zk_96) (hl.n2 zk_96) (hl.l2 zk_96 zl_96) (w := zI σ 96 (x6 : Int32).toNatClampNeg) rfl) ?_
      refine zw_and ?_
      refine Iff.trans (zw_iadd (show decode cX11_luck 96 = .ok (.iadd, 1) by decide +kernel)) ?_
      refine Iff.trans (zw_istore (ls' := [.ref 1, .int x1, .int x2, .int x3, .int x4, .int (x5 + (zI σ 96 (x6 : Int32).toNatClampNeg)), .int x6]) (show decode cX11_luck 97 = .ok (.istore 5, 2) by decide +kernel) (zset_s (Nat.le_of_ble_eq_true rfl) rfl)) ?_
      refine Iff.trans (zw_iinc (w := 1) (ls' := [.ref 1, .int x1, .int x2, .int x3, .int x4, .int (x5 + (zI σ 96 (x6 : Int32).toNatClampNeg)), .int (x6 + 1)]) (show decode cX11_luck 99 = .ok (.iinc 6 1, 3) by decide +kernel) rfl (by decide) (zset_s (Nat.le_of_ble_eq_true rfl) rfl)) ?_
      refine Iff.trans (zw_goto (t := 71) (show decode cX11_luck 102 = .ok (.goto (-31), 3) by decide +kernel) (by decide)) ?_
      exact Iff.rfl

theorem bX11_spreadParts_0 {d : Nat} {σ : zS} {Q : Option Value → zS → Prop} (hl : zLay σ) {x1 x2 x3 : Int32} : zCall (d + 1) kX11_spreadParts [.ref 1, .int x1, .int x2, .int x3] σ Q ↔ zCall d kJ7_fill_53178 [.ref 96, .int 0] σ (fun r σ' => zisN r = true ∧ zW (d + 1) kX11_spreadParts 8 [.ref 1, .int x1, .int x2, .int x3, .retAddr 0, .retAddr 0, .retAddr 0] (zRstk r ++ []) σ' Q) := by
  show zW (d + 1) kX11_spreadParts 0 [.ref 1, .int x1, .int x2, .int x3, .retAddr 0, .retAddr 0, .retAddr 0] [] σ Q ↔ _
  refine Iff.trans (zw_aload_n (show decode cX11_spreadParts 0 = .ok (.aload_n 0, 1) by decide +kernel) rfl) ?_
  refine Iff.trans (zw_get (show decode cX11_spreadParts 1 = .ok (.getfield 102, 3) by decide +kernel) (by decide +kernel : zfld 11 102 = some (11, 19)) (hl.k2 zk_1) (hl.n2 zk_1) (zgetR (v := 96) (hl.r zrt_1_19) rfl)) ?_
  refine Iff.trans (zw_iconst (x := 0) (show decode cX11_spreadParts 4 = .ok (.iconst 0, 1) by decide +kernel) (by decide)) ?_
  refine Iff.trans (zw_invS (K' := kJ7_fill_53178) (as := [.ref 96, .int 0]) (rest := []) (show decode cX11_spreadParts 5 = .ok (.invokestatic 304, 3) by decide +kernel) (by rfl) rfl rfl rfl ⟨Nat.le_of_ble_eq_true rfl, Nat.le_of_ble_eq_true rfl, Nat.le_of_ble_eq_true rfl⟩) ?_
  exact Iff.rfl

theorem bX11_spreadParts_8 {d : Nat} {σ : zS} {Q : Option Value → zS → Prop} (hl : zLay σ) {x1 x2 x3 : Int32} : zW (d + 1) kX11_spreadParts 8 [.ref 1, .int x1, .int x2, .int x3, .retAddr 0, .retAddr 0, .retAddr 0] [] σ Q ↔ (vp_in 0 21 ∧ (if 1 ≤ x3 then zW (d + 1) kX11_spreadParts 26 [.ref 1, .int x1, .int x2, .int x3, .int 0, .retAddr 0, .retAddr 0] [] (zsI σ 96 (upd (zI σ 96) (0 : Int32).toNatClampNeg 1000000)) Q else Q none (zsI σ 96 (upd (zI σ 96) (0 : Int32).toNatClampNeg 1000000)))) := by
  refine Iff.trans (zw_aload_n (show decode cX11_spreadParts 8 = .ok (.aload_n 0, 1) by decide +kernel) rfl) ?_
  refine Iff.trans (zw_get (show decode cX11_spreadParts 9 = .ok (.getfield 102, 3) by decide +kernel) (by decide +kernel : zfld 11 102 = some (11, 19)) (hl.k2 zk_1) (hl.n2 zk_1) (zgetR (v := 96) (hl.r zrt_1_19) rfl)) ?_
  refine Iff.trans (zw_iconst (x := 0) (show decode cX11_spreadParts 12 = .ok (.iconst 0, 1) by decide +kernel) (by decide)) ?_
  refine Iff.trans (zw_ldc_w (x := 1000000) (show decode cX11_spreadParts 13 = .ok (.ldc_w 310, 3) by decide +kernel) (by decide +kernel)) ?_
  refine Iff.trans (zw_iast2 (show decode cX11_spreadParts 16 = .ok (.iastore, 1) by decide +kernel) (hl.k2 zk_96) (hl.n2 zk_96) (hl.l2 zk_96 zl_96) (σ' := (zsI σ 96 (upd (zI σ 96) (0 : Int32).toNatClampNeg 1000000))) rfl) ?_
  refine zw_and ?_
  refine Iff.trans (zw_iload_n (show decode cX11_spreadParts 17 = .ok (.iload_n 3, 1) by decide +kernel) rfl) ?_
  refine Iff.trans (zw_iconst (x := 1) (show decode cX11_spreadParts 18 = .ok (.iconst 1, 1) by decide +kernel) (by decide)) ?_
  refine Iff.trans (zw_icmp_ge (t := 23) (show decode cX11_spreadParts 19 = .ok (.if_icmp .ge 4, 3) by decide +kernel) (by decide)) ?_
  refine zw_ite ?_ ?_
  · refine Iff.trans (zw_iconst (x := 0) (show decode cX11_spreadParts 23 = .ok (.iconst 0, 1) by decide +kernel) (by decide)) ?_
    refine Iff.trans (zw_istore (ls' := [.ref 1, .int x1, .int x2, .int x3, .int 0, .retAddr 0, .retAddr 0]) (show decode cX11_spreadParts 24 = .ok (.istore 4, 2) by decide +kernel) (zset_s (Nat.le_of_ble_eq_true rfl) rfl)) ?_
    exact Iff.rfl
  · exact zw_ret (show decode cX11_spreadParts 22 = .ok (.return_, 1) by decide +kernel) rfl

theorem bX11_spreadParts_26 {d : Nat} {σ : zS} {Q : Option Value → zS → Prop} (hl : zLay σ) {x1 x2 x3 x4 : Int32} {v5 v6 : Value} (hv5 : v5.category = 1) (hv6 : v6.category = 1) : zW (d + 1) kX11_spreadParts 26 [.ref 1, .int x1, .int x2, .int x3, .int x4, v5, v6] [] σ Q ↔ (if x1 ≤ x4 then Q none σ else zW (d + 1) kX11_spreadParts 41 [.ref 1, .int x1, .int x2, .int x3, .int x4, .int (21 - 1), v6] [] σ Q) := by
  refine Iff.trans (zw_iload (show decode cX11_spreadParts 26 = .ok (.iload 4, 2) by decide +kernel) rfl) ?_
  refine Iff.trans (zw_iload_n (show decode cX11_spreadParts 28 = .ok (.iload_n 1, 1) by decide +kernel) rfl) ?_
  refine Iff.trans (zw_icmp_ge (t := 105) (show decode cX11_spreadParts 29 = .ok (.if_icmp .ge 76, 3) by decide +kernel) (by decide)) ?_
  refine zw_ite ?_ ?_
  · exact zw_ret (show decode cX11_spreadParts 105 = .ok (.return_, 1) by decide +kernel) rfl
  · refine Iff.trans (zw_aload_n (show decode cX11_spreadParts 32 = .ok (.aload_n 0, 1) by decide +kernel) rfl) ?_
    refine Iff.trans (zw_get (show decode cX11_spreadParts 33 = .ok (.getfield 102, 3) by decide +kernel) (by decide +kernel : zfld 11 102 = some (11, 19)) (hl.k2 zk_1) (hl.n2 zk_1) (zgetR (v := 96) (hl.r zrt_1_19) rfl)) ?_
    refine Iff.trans (zw_alen (show decode cX11_spreadParts 36 = .ok (.arraylength, 1) by decide +kernel) ⟨by rw [(hl.k2 zk_96)]; decide, Or.inl (by rw [(hl.k2 zk_96)]; decide)⟩ (hl.n2 zk_96) (hl.l2 zk_96 zl_96) (v := 21) rfl) ?_
    refine Iff.trans (zw_iconst (x := 1) (show decode cX11_spreadParts 37 = .ok (.iconst 1, 1) by decide +kernel) (by decide)) ?_
    refine Iff.trans (zw_isub (show decode cX11_spreadParts 38 = .ok (.isub, 1) by decide +kernel)) ?_
    refine Iff.trans (zw_istore (ls' := [.ref 1, .int x1, .int x2, .int x3, .int x4, .int (21 - 1), v6]) (show decode cX11_spreadParts 39 = .ok (.istore 5, 2) by decide +kernel) (zset_s (Nat.le_of_ble_eq_true rfl) rfl)) ?_
    exact Iff.rfl

theorem bX11_spreadParts_41 {d : Nat} {σ : zS} {Q : Option Value → zS → Prop} (hl : zLay σ) {x1 x2 x3 x4 x5 : Int32} {v6 : Value} (hv6 : v6.category = 1) : zW (d + 1) kX11_spreadParts 41 [.ref 1, .int x1, .int x2, .int x3, .int x4, .int x5, v6] [] σ Q ↔ (if x5 < (0 : Int32) then zW (d + 1) kX11_spreadParts 26 [.ref 1, .int x1, .int x2, .int x3, .int (x4 + 1), .int x5, v6] [] σ Q else (if x5 = (0 : Int32) then zW (d + 1) kX11_spreadParts 68 [.ref 1, .int x1, .int x2, .int x3, .int x4, .int x5, v6] [.int 0] σ Q else (vp_in (x5 - 1) 21 ∧ (¬ x3 = (0 : Int32) ∧ zW (d + 1) kX11_spreadParts 68 [.ref 1, .int x1, .int x2, .int x3, .int x4, .int x5, v6] [.int (((zI σ 96 (x5 - 1 : Int32).toNatClampNeg) * x2) / x3)] σ Q)))) := by
  refine Iff.trans (zw_iload (show decode cX11_spreadParts 41 = .ok (.iload 5, 2) by decide +kernel) rfl) ?_
  refine Iff.trans (zw_if_lt (t := 99) (show decode cX11_spreadParts 43 = .ok (.ifCond .lt 56, 3) by decide +kernel) (by decide)) ?_
  refine zw_ite ?_ ?_
  · refine Iff.trans (zw_iinc (w := 1) (ls' := [.ref 1, .int x1, .int x2, .int x3, .int (x4 + 1), .int x5, v6]) (show decode cX11_spreadParts 99 = .ok (.iinc 4 1, 3) by decide +kernel) rfl (by decide) (zset_s (Nat.le_of_ble_eq_true rfl) rfl)) ?_
    refine Iff.trans (zw_goto (t := 26) (show decode cX11_spreadParts 102 = .ok (.goto (-76), 3) by decide +kernel) (by decide)) ?_
    exact Iff.rfl
  · refine Iff.trans (zw_iload (show decode cX11_spreadParts 46 = .ok (.iload 5, 2) by decide +kernel) rfl) ?_
    refine Iff.trans (zw_if_ne (t := 55) (show decode cX11_spreadParts 48 = .ok (.ifCond .ne 7, 3) by decide +kernel) (by decide)) ?_
    refine zw_ite ?_ ?_
    · refine Iff.trans (zw_iconst (x := 0) (show decode cX11_spreadParts 51 = .ok (.iconst 0, 1) by decide +kernel) (by decide)) ?_
      refine Iff.trans (zw_goto (t := 68) (show decode cX11_spreadParts 52 = .ok (.goto 16, 3) by decide +kernel) (by decide)) ?_
      exact Iff.rfl
    · refine Iff.trans (zw_aload_n (show decode cX11_spreadParts 55 = .ok (.aload_n 0, 1) by decide +kernel) rfl) ?_
      refine Iff.trans (zw_get (show decode cX11_spreadParts 56 = .ok (.getfield 102, 3) by decide +kernel) (by decide +kernel : zfld 11 102 = some (11, 19)) (hl.k2 zk_1) (hl.n2 zk_1) (zgetR (v := 96) (hl.r zrt_1_19) rfl)) ?_
      refine Iff.trans (zw_iload (show decode cX11_spreadParts 59 = .ok (.iload 5, 2) by decide +kernel) rfl) ?_
      refine Iff.trans (zw_iconst (x := 1) (show decode cX11_spreadParts 61 = .ok (.iconst 1, 1) by decide +kernel) (by decide)) ?_
      refine Iff.trans (zw_isub (show decode cX11_spreadParts 62 = .ok (.isub, 1) by decide +kernel)) ?_
      refine Iff.trans (zw_iald2 (show decode cX11_spreadParts 63 = .ok (.iaload, 1) by decide +kernel) (hl.k2 zk_96) (hl.n2 zk_96) (hl.l2 zk_96 zl_96) (w := zI σ 96 (x5 - 1 : Int32).toNatClampNeg) rfl) ?_
      refine zw_and ?_
      refine Iff.trans (zw_iload_n (show decode cX11_spreadParts 64 = .ok (.iload_n 2, 1) by decide +kernel) rfl) ?_
      refine Iff.trans (zw_imul (show decode cX11_spreadParts 65 = .ok (.imul, 1) by decide +kernel)) ?_
      refine Iff.trans (zw_iload_n (show decode cX11_spreadParts 66 = .ok (.iload_n 3, 1) by decide +kernel) rfl) ?_
      refine Iff.trans (zw_idiv (show decode cX11_spreadParts 67 = .ok (.idiv, 1) by decide +kernel)) ?_
      refine zw_and ?_
      exact Iff.rfl

theorem bX11_spreadParts_68 {d : Nat} {σ : zS} {Q : Option Value → zS → Prop} (hl : zLay σ) {x1 x2 x3 x4 x5 y0 : Int32} {v6 : Value} (hv6 : v6.category = 1) : zW (d + 1) kX11_spreadParts 68 [.ref 1, .int x1, .int x2, .int x3, .int x4, .int x5, v6] [.int y0] σ Q ↔ (vp_in x5 21 ∧ (¬ x3 = (0 : Int32) ∧ (vp_in x5 21 ∧ zW (d + 1) kX11_spreadParts 41 [.ref 1, .int x1, .int x2, .int x3, .int x4, .int (x5 + (-1)), .int y0] [] (zsI σ 96 (upd (zI σ 96) (x5 : Int32).toNatClampNeg ((((zI σ 96 (x5 : Int32).toNatClampNeg) * (x3 - x2)) / x3) + y0))) Q))) := by
  refine Iff.trans (zw_istore (ls' := [.ref 1, .int x1, .int x2, .int x3, .int x4, .int x5, .int y0]) (show decode cX11_spreadParts 68 = .ok (.istore 6, 2) by decide +kernel) (zset_s (Nat.le_of_ble_eq_true rfl) rfl)) ?_
  refine Iff.trans (zw_aload_n (show decode cX11_spreadParts 70 = .ok (.aload_n 0, 1) by decide +kernel) rfl) ?_
  refine Iff.trans (zw_get (show decode cX11_spreadParts 71 = .ok (.getfield 102, 3) by decide +kernel) (by decide +kernel : zfld 11 102 = some (11, 19)) (hl.k2 zk_1) (hl.n2 zk_1) (zgetR (v := 96) (hl.r zrt_1_19) rfl)) ?_
  refine Iff.trans (zw_iload (show decode cX11_spreadParts 74 = .ok (.iload 5, 2) by decide +kernel) rfl) ?_
  refine Iff.trans (zw_aload_n (show decode cX11_spreadParts 76 = .ok (.aload_n 0, 1) by decide +kernel) rfl) ?_
  refine Iff.trans (zw_get (show decode cX11_spreadParts 77 = .ok (.getfield 102, 3) by decide +kernel) (by decide +kernel : zfld 11 102 = some (11, 19)) (hl.k2 zk_1) (hl.n2 zk_1) (zgetR (v := 96) (hl.r zrt_1_19) rfl)) ?_
  refine Iff.trans (zw_iload (show decode cX11_spreadParts 80 = .ok (.iload 5, 2) by decide +kernel) rfl) ?_
  refine Iff.trans (zw_iald2 (show decode cX11_spreadParts 82 = .ok (.iaload, 1) by decide +kernel) (hl.k2 zk_96) (hl.n2 zk_96) (hl.l2 zk_96 zl_96) (w := zI σ 96 (x5 : Int32).toNatClampNeg) rfl) ?_
  refine zw_and ?_
  refine Iff.trans (zw_iload_n (show decode cX11_spreadParts 83 = .ok (.iload_n 3, 1) by decide +kernel) rfl) ?_
  refine Iff.trans (zw_iload_n (show decode cX11_spreadParts 84 = .ok (.iload_n 2, 1) by decide +kernel) rfl) ?_
  refine Iff.trans (zw_isub (show decode cX11_spreadParts 85 = .ok (.isub, 1) by decide +kernel)) ?_
  refine Iff.trans (zw_imul (show decode cX11_spreadParts 86 = .ok (.imul, 1) by decide +kernel)) ?_
  refine Iff.trans (zw_iload_n (show decode cX11_spreadParts 87 = .ok (.iload_n 3, 1) by decide +kernel) rfl) ?_
  refine Iff.trans (zw_idiv (show decode cX11_spreadParts 88 = .ok (.idiv, 1) by decide +kernel)) ?_
  refine zw_and ?_
  refine Iff.trans (zw_iload (show decode cX11_spreadParts 89 = .ok (.iload 6, 2) by decide +kernel) rfl) ?_
  refine Iff.trans (zw_iadd (show decode cX11_spreadParts 91 = .ok (.iadd, 1) by decide +kernel)) ?_
  refine Iff.trans (zw_iast2 (show decode cX11_spreadParts 92 = .ok (.iastore, 1) by decide +kernel) (hl.k2 zk_96) (hl.n2 zk_96) (hl.l2 zk_96 zl_96) (σ' := (zsI σ 96 (upd (zI σ 96) (x5 : Int32).toNatClampNeg ((((zI σ 96 (x5 : Int32).toNatClampNeg) * (x3 - x2)) / x3) + y0)))) rfl) ?_
  refine zw_and ?_
  refine Iff.trans (zw_iinc (w := (-1)) (ls' := [.ref 1, .int x1, .int x2, .int x3, .int x4, .int (x5 + (-1)), .int y0]) (show decode cX11_spreadParts 93 = .ok (.iinc 5 (-1), 3) by decide +kernel) rfl (by decide) (zset_s (Nat.le_of_ble_eq_true rfl) rfl)) ?_
  refine Iff.trans (zw_goto (t := 41) (show decode cX11_spreadParts 96 = .ok (.goto (-55), 3) by decide +kernel) (by decide)) ?_
  exact Iff.rfl

theorem bX11_best_0 {d : Nat} {σ : zS} {Q : Option Value → zS → Prop} (hl : zLay σ) {x1 x2 x3 x4 : Int32} : zCall (d + 1) kX11_best [.ref 1, .int x1, .int x2, .int x3, .int x4] σ Q ↔ zCall d kX11_noBrook [.ref 1, .int x1] σ (fun r σ' => zisN r = true ∧ zW (d + 1) kX11_best 5 [.ref 1, .int x1, .int x2, .int x3, .int x4, .retAddr 0, .retAddr 0, .retAddr 0, .retAddr 0, .retAddr 0, .retAddr 0, .retAddr 0] (zRstk r ++ []) σ' Q) := by
  show zW (d + 1) kX11_best 0 [.ref 1, .int x1, .int x2, .int x3, .int x4, .retAddr 0, .retAddr 0, .retAddr 0, .retAddr 0, .retAddr 0, .retAddr 0, .retAddr 0] [] σ Q ↔ _
  refine Iff.trans (zw_aload_n (show decode cX11_best 0 = .ok (.aload_n 0, 1) by decide +kernel) rfl) ?_
  refine Iff.trans (zw_iload_n (show decode cX11_best 1 = .ok (.iload_n 1, 1) by decide +kernel) rfl) ?_
  refine Iff.trans (zw_invV (K' := kX11_noBrook) (as' := [.int x1]) (rest := []) (show decode cX11_best 2 = .ok (.invokevirtual 157, 3) by decide +kernel) (by rfl) rfl rfl rfl (hl.k2 zk_1) (by decide) (hl.n2 zk_1) ⟨Nat.le_of_ble_eq_true rfl, Nat.le_of_ble_eq_true rfl, Nat.le_of_ble_eq_true rfl⟩) ?_
  exact Iff.rfl

theorem bX11_best_5 {d : Nat} {σ : zS} {Q : Option Value → zS → Prop} (hl : zLay σ) {x1 x2 x3 x4 y0 : Int32} : zW (d + 1) kX11_best 5 [.ref 1, .int x1, .int x2, .int x3, .int x4, .retAddr 0, .retAddr 0, .retAddr 0, .retAddr 0, .retAddr 0, .retAddr 0, .retAddr 0] [.int y0] σ Q ↔ (if y0 = (0 : Int32) then zCall d kX11_noBits [.int x2, .int (zI σ 1 4)] σ (fun r σ' => zisN r = true ∧ zW (d + 1) kX11_best 16 [.ref 1, .int x1, .int x2, .int x3, .int x4, .retAddr 0, .retAddr 0, .retAddr 0, .retAddr 0, .retAddr 0, .retAddr 0, .retAddr 0] (zRstk r ++ []) σ' Q) else Q (some (.int (-1))) σ) := by
  refine Iff.trans (zw_if_ne (t := 37) (show decode cX11_best 5 = .ok (.ifCond .ne 32, 3) by decide +kernel) (by decide)) ?_
  refine zw_ite ?_ ?_
  · refine Iff.trans (zw_iload_n (show decode cX11_best 8 = .ok (.iload_n 2, 1) by decide +kernel) rfl) ?_
    refine Iff.trans (zw_aload_n (show decode cX11_best 9 = .ok (.aload_n 0, 1) by decide +kernel) rfl) ?_
    refine Iff.trans (zw_getI (show decode cX11_best 10 = .ok (.getfield 143, 3) by decide +kernel) (by decide +kernel : zfld 11 143 = some (11, 4)) (hl.k2 zk_1) (hl.n2 zk_1) (Or.inl rfl) (w := zI σ 1 4) rfl) ?_
    refine Iff.trans (zw_invS (K' := kX11_noBits) (as := [.int x2, .int (zI σ 1 4)]) (rest := []) (show decode cX11_best 13 = .ok (.invokestatic 311, 3) by decide +kernel) (by rfl) rfl rfl rfl ⟨Nat.le_of_ble_eq_true rfl, Nat.le_of_ble_eq_true rfl, Nat.le_of_ble_eq_true rfl⟩) ?_
    exact Iff.rfl
  · refine Iff.trans (zw_iconst (x := (-1)) (show decode cX11_best 37 = .ok (.iconst (-1), 1) by decide +kernel) (by decide)) ?_
    exact zw_iret1 (show decode cX11_best 38 = .ok (.ireturn, 1) by decide +kernel) rfl

theorem bX11_best_16 {d : Nat} {σ : zS} {Q : Option Value → zS → Prop} (hl : zLay σ) {x1 x2 x3 x4 y0 : Int32} : zW (d + 1) kX11_best 16 [.ref 1, .int x1, .int x2, .int x3, .int x4, .retAddr 0, .retAddr 0, .retAddr 0, .retAddr 0, .retAddr 0, .retAddr 0, .retAddr 0] [.int y0] σ Q ↔ (if y0 = (0 : Int32) then zCall d kX11_noSeeds [.int x3] σ (fun r σ' => zisN r = true ∧ zW (d + 1) kX11_best 23 [.ref 1, .int x1, .int x2, .int x3, .int x4, .retAddr 0, .retAddr 0, .retAddr 0, .retAddr 0, .retAddr 0, .retAddr 0, .retAddr 0] (zRstk r ++ []) σ' Q) else Q (some (.int (-1))) σ) := by
  refine Iff.trans (zw_if_ne (t := 37) (show decode cX11_best 16 = .ok (.ifCond .ne 21, 3) by decide +kernel) (by decide)) ?_
  refine zw_ite ?_ ?_
  · refine Iff.trans (zw_iload_n (show decode cX11_best 19 = .ok (.iload_n 3, 1) by decide +kernel) rfl) ?_
    refine Iff.trans (zw_invS (K' := kX11_noSeeds) (as := [.int x3]) (rest := []) (show decode cX11_best 20 = .ok (.invokestatic 285, 3) by decide +kernel) (by rfl) rfl rfl rfl ⟨Nat.le_of_ble_eq_true rfl, Nat.le_of_ble_eq_true rfl, Nat.le_of_ble_eq_true rfl⟩) ?_
    exact Iff.rfl
  · refine Iff.trans (zw_iconst (x := (-1)) (show decode cX11_best 37 = .ok (.iconst (-1), 1) by decide +kernel) (by decide)) ?_
    exact zw_iret1 (show decode cX11_best 38 = .ok (.ireturn, 1) by decide +kernel) rfl

theorem bX11_best_23 {d : Nat} {σ : zS} {Q : Option Value → zS → Prop} (hl : zLay σ) {x1 x2 x3 x4 y0 : Int32} : zW (d + 1) kX11_best 23 [.ref 1, .int x1, .int x2, .int x3, .int x4, .retAddr 0, .retAddr 0, .retAddr 0, .retAddr 0, .retAddr 0, .retAddr 0, .retAddr 0] [.int y0] σ Q ↔ (if y0 = (0 : Int32) then (if x4 < (0 : Int32) then Q (some (.int (-1))) σ else (if x4 ≤ 2 then (vp_in x1 6 ∧ zW (d + 1) kX11_best 45 [.ref 1, .int x1, .int x2, .int x3, .int x4, .retAddr 0, .retAddr 0, .retAddr 0, .retAddr 0, .retAddr 0, .retAddr 0, .retAddr 0] (va_rf (zR σ 4 (x1 : Int32).toNatClampNeg) :: []) σ Q) else Q (some (.int (-1))) σ)) else Q (some (.int (-1))) σ) := by
  refine Iff.trans (zw_if_ne (t := 37) (show decode cX11_best 23 = .ok (.ifCond .ne 14, 3) by decide +kernel) (by decide)) ?_
  refine zw_ite ?_ ?_
  · refine Iff.trans (zw_iload (show decode cX11_best 26 = .ok (.iload 4, 2) by decide +kernel) rfl) ?_
    refine Iff.trans (zw_if_lt (t := 37) (show decode cX11_best 28 = .ok (.ifCond .lt 9, 3) by decide +kernel) (by decide)) ?_
    refine zw_ite ?_ ?_
    · refine Iff.trans (zw_iconst (x := (-1)) (show decode cX11_best 37 = .ok (.iconst (-1), 1) by decide +kernel) (by decide)) ?_
      exact zw_iret1 (show decode cX11_best 38 = .ok (.ireturn, 1) by decide +kernel) rfl
    · refine Iff.trans (zw_iload (show decode cX11_best 31 = .ok (.iload 4, 2) by decide +kernel) rfl) ?_
      refine Iff.trans (zw_iconst (x := 2) (show decode cX11_best 33 = .ok (.iconst 2, 1) by decide +kernel) (by decide)) ?_
      refine Iff.trans (zw_icmp_le (t := 39) (show decode cX11_best 34 = .ok (.if_icmp .le 5, 3) by decide +kernel) (by decide)) ?_
      refine zw_ite ?_ ?_
      · refine Iff.trans (zw_aload_n (show decode cX11_best 39 = .ok (.aload_n 0, 1) by decide +kernel) rfl) ?_
        refine Iff.trans (zw_get (show decode cX11_best 40 = .ok (.getfield 18, 3) by decide +kernel) (by decide +kernel : zfld 11 18 = some (11, 1)) (hl.k2 zk_1) (hl.n2 zk_1) (zgetR (v := 4) (hl.r zrt_1_1) rfl)) ?_
        refine Iff.trans (zw_iload_n (show decode cX11_best 43 = .ok (.iload_n 1, 1) by decide +kernel) rfl) ?_
        refine Iff.trans (zw_aald (show decode cX11_best 44 = .ok (.aaload, 1) by decide +kernel) (by rw [(hl.k2 zk_4)]; decide) (hl.n2 zk_4) (hl.l2 zk_4 zl_4)) ?_
        refine zw_and ?_
        exact Iff.rfl
      · refine Iff.trans (zw_iconst (x := (-1)) (show decode cX11_best 37 = .ok (.iconst (-1), 1) by decide +kernel) (by decide)) ?_
        exact zw_iret1 (show decode cX11_best 38 = .ok (.ireturn, 1) by decide +kernel) rfl
  · refine Iff.trans (zw_iconst (x := (-1)) (show decode cX11_best 37 = .ok (.iconst (-1), 1) by decide +kernel) (by decide)) ?_
    exact zw_iret1 (show decode cX11_best 38 = .ok (.ireturn, 1) by decide +kernel) rfl

theorem bX11_best_45 {d : Nat} {σ : zS} {Q : Option Value → zS → Prop} (hl : zLay σ) {x1 x2 x3 x4 : Int32} {b0 : Nat} (hb0 : zk b0 = 0) : zW (d + 1) kX11_best 45 [.ref 1, .int x1, .int x2, .int x3, .int x4, .retAddr 0, .retAddr 0, .retAddr 0, .retAddr 0, .retAddr 0, .retAddr 0, .retAddr 0] [.ref b0] σ Q ↔ zW (d + 1) kX11_best 59 [.ref 1, .int x1, .int x2, .int x3, .int x4, .ref b0, .int (-1), .int (-1), .int (-1), .int 0, .retAddr 0, .retAddr 0] [] σ Q := by
  refine Iff.trans (zw_astore (ls' := [.ref 1, .int x1, .int x2, .int x3, .int x4, .ref b0, .retAddr 0, .retAddr 0, .retAddr 0, .retAddr 0, .retAddr 0, .retAddr 0]) (show decode cX11_best 45 = .ok (.astore 5, 2) by decide +kernel) (zset_s (Nat.le_of_ble_eq_true rfl) rfl)) ?_
  refine Iff.trans (zw_iconst (x := (-1)) (show decode cX11_best 47 = .ok (.iconst (-1), 1) by decide +kernel) (by decide)) ?_
  refine Iff.trans (zw_istore (ls' := [.ref 1, .int x1, .int x2, .int x3, .int x4, .ref b0, .int (-1), .retAddr 0, .retAddr 0, .retAddr 0, .retAddr 0, .retAddr 0]) (show decode cX11_best 48 = .ok (.istore 6, 2) by decide +kernel) (zset_s (Nat.le_of_ble_eq_true rfl) rfl)) ?_
  refine Iff.trans (zw_iconst (x := (-1)) (show decode cX11_best 50 = .ok (.iconst (-1), 1) by decide +kernel) (by decide)) ?_
  refine Iff.trans (zw_istore (ls' := [.ref 1, .int x1, .int x2, .int x3, .int x4, .ref b0, .int (-1), .int (-1), .retAddr 0, .retAddr 0, .retAddr 0, .retAddr 0]) (show decode cX11_best 51 = .ok (.istore 7, 2) by decide +kernel) (zset_s (Nat.le_of_ble_eq_true rfl) rfl)) ?_
  refine Iff.trans (zw_iconst (x := (-1)) (show decode cX11_best 53 = .ok (.iconst (-1), 1) by decide +kernel) (by decide)) ?_
  refine Iff.trans (zw_istore (ls' := [.ref 1, .int x1, .int x2, .int x3, .int x4, .ref b0, .int (-1), .int (-1), .int (-1), .retAddr 0, .retAddr 0, .retAddr 0]) (show decode cX11_best 54 = .ok (.istore 8, 2) by decide +kernel) (zset_s (Nat.le_of_ble_eq_true rfl) rfl)) ?_
  refine Iff.trans (zw_iconst (x := 0) (show decode cX11_best 56 = .ok (.iconst 0, 1) by decide +kernel) (by decide)) ?_
  refine Iff.trans (zw_istore (ls' := [.ref 1, .int x1, .int x2, .int x3, .int x4, .ref b0, .int (-1), .int (-1), .int (-1), .int 0, .retAddr 0, .retAddr 0]) (show decode cX11_best 57 = .ok (.istore 9, 2) by decide +kernel) (zset_s (Nat.le_of_ble_eq_true rfl) rfl)) ?_
  exact Iff.rfl

theorem bX11_best_59 {d : Nat} {σ : zS} {Q : Option Value → zS → Prop} (hl : zLay σ) {x1 x2 x3 x4 x6 x7 x8 x9 : Int32} {a5 : Nat} {v10 v11 : Value} (ha5 : zk a5 = 0) (hv10 : v10.category = 1) (hv11 : v11.category = 1) : zW (d + 1) kX11_best 59 [.ref 1, .int x1, .int x2, .int x3, .int x4, .ref a5, .int x6, .int x7, .int x8, .int x9, v10, v11] [] σ Q ↔ (if (zI σ 1 4) ≤ x9 then zW (d + 1) kX11_best 158 [.ref 1, .int x1, .int x2, .int x3, .int x4, .ref a5, .int x6, .int x7, .int x8, .int x9, v10, v11] [] σ Q else (if 10 ≤ x9 then zW (d + 1) kX11_best 158 [.ref 1, .int x1, .int x2, .int x3, .int x4, .ref a5, .int x6, .int x7, .int x8, .int x9, v10, v11] [] σ Q else zW (d + 1) kX11_best 78 [.ref 1, .int x1, .int x2, .int x3, .int x4, .ref a5, .int x6, .int x7, .int x8, .int x9, .int 0, v11] [] σ Q)) := by
  refine Iff.trans (zw_iload (show decode cX11_best 59 = .ok (.iload 9, 2) by decide +kernel) rfl) ?_
  refine Iff.trans (zw_aload_n (show decode cX11_best 61 = .ok (.aload_n 0, 1) by decide +kernel) rfl) ?_
  refine Iff.trans (zw_getI (show decode cX11_best 62 = .ok (.getfield 143, 3) by decide +kernel) (by decide +kernel : zfld 11 143 = some (11, 4)) (hl.k2 zk_1) (hl.n2 zk_1) (Or.inl rfl) (w := zI σ 1 4) rfl) ?_
  refine Iff.trans (zw_icmp_ge (t := 158) (show decode cX11_best 65 = .ok (.if_icmp .ge 93, 3) by decide +kernel) (by decide)) ?_
  refine zw_ite ?_ ?_
  · exact Iff.rfl
  · refine Iff.trans (zw_iload (show decode cX11_best 68 = .ok (.iload 9, 2) by decide +kernel) rfl) ?_
    refine Iff.trans (zw_bipush (x := 10) (show decode cX11_best 70 = .ok (.bipush 10, 2) by decide +kernel) (by decide)) ?_
    refine Iff.trans (zw_icmp_ge (t := 158) (show decode cX11_best 72 = .ok (.if_icmp .ge 86, 3) by decide +kernel) (by decide)) ?_
    refine zw_ite ?_ ?_
    · exact Iff.rfl
    · refine Iff.trans (zw_iconst (x := 0) (show decode cX11_best 75 = .ok (.iconst 0, 1) by decide +kernel) (by decide)) ?_
      refine Iff.trans (zw_istore (ls' := [.ref 1, .int x1, .int x2, .int x3, .int x4, .ref a5, .int x6, .int x7, .int x8, .int x9, .int 0, v11]) (show decode cX11_best 76 = .ok (.istore 10, 2) by decide +kernel) (zset_s (Nat.le_of_ble_eq_true rfl) rfl)) ?_
      exact Iff.rfl

theorem bX11_best_78 {d : Nat} {σ : zS} {Q : Option Value → zS → Prop} (hl : zLay σ) {x1 x2 x3 x4 x6 x7 x8 x9 x10 : Int32} {a5 : Nat} {v11 : Value} (ha5 : zk a5 = 0) (hv11 : v11.category = 1) : zW (d + 1) kX11_best 78 [.ref 1, .int x1, .int x2, .int x3, .int x4, .ref a5, .int x6, .int x7, .int x8, .int x9, .int x10, v11] [] σ Q ↔ (if (zI σ a5 3) ≤ x10 then zW (d + 1) kX11_best 59 [.ref 1, .int x1, .int x2, .int x3, .int x4, .ref a5, .int x6, .int x7, .int x8, .int (x9 + 1), .int x10, v11] [] σ Q else zCall d kX11_hasBit [.int x2, .int x9] σ (fun r σ' => zisN r = true ∧ zW (d + 1) kX11_best 94 [.ref 1, .int x1, .int x2, .int x3, .int x4, .ref a5, .int x6, .int x7, .int x8, .int x9, .int x10, v11] (zRstk r ++ []) σ' Q)) := by
  refine Iff.trans (zw_iload (show decode cX11_best 78 = .ok (.iload 10, 2) by decide +kernel) rfl) ?_
  refine Iff.trans (zw_aload (show decode cX11_best 80 = .ok (.aload 5, 2) by decide +kernel) rfl) ?_
  refine Iff.trans (zw_getI (show decode cX11_best 82 = .ok (.getfield 164, 3) by decide +kernel) (by decide +kernel : zfld 11 164 = some (0, 3)) (hl.k2 ha5) (hl.n2 ha5) (Or.inl rfl) (w := zI σ a5 3) rfl) ?_
  refine Iff.trans (zw_icmp_ge (t := 152) (show decode cX11_best 85 = .ok (.if_icmp .ge 67, 3) by decide +kernel) (by decide)) ?_
  refine zw_ite ?_ ?_
  · refine Iff.trans (zw_iinc (w := 1) (ls' := [.ref 1, .int x1, .int x2, .int x3, .int x4, .ref a5, .int x6, .int x7, .int x8, .int (x9 + 1), .int x10, v11]) (show decode cX11_best 152 = .ok (.iinc 9 1, 3) by decide +kernel) rfl (by decide) (zset_s (Nat.le_of_ble_eq_true rfl) rfl)) ?_
    refine Iff.trans (zw_goto (t := 59) (show decode cX11_best 155 = .ok (.goto (-96), 3) by decide +kernel) (by decide)) ?_
    exact Iff.rfl
  · refine Iff.trans (zw_iload_n (show decode cX11_best 88 = .ok (.iload_n 2, 1) by decide +kernel) rfl) ?_
    refine Iff.trans (zw_iload (show decode cX11_best 89 = .ok (.iload 9, 2) by decide +kernel) rfl) ?_
    refine Iff.trans (zw_invS (K' := kX11_hasBit) (as := [.int x2, .int x9]) (rest := []) (show decode cX11_best 91 = .ok (.invokestatic 282, 3) by decide +kernel) (by rfl) rfl rfl rfl ⟨Nat.le_of_ble_eq_true rfl, Nat.le_of_ble_eq_true rfl, Nat.le_of_ble_eq_true rfl⟩) ?_
    exact Iff.rfl

theorem bX11_best_94 {d : Nat} {σ : zS} {Q : Option Value → zS → Prop} (hl : zLay σ) {x1 x2 x3 x4 x6 x7 x8 x9 x10 y0 : Int32} {a5 : Nat} {v11 : Value} (ha5 : zk a5 = 0) (hv11 : v11.category = 1) : zW (d + 1) kX11_best 94 [.ref 1, .int x1, .int x2, .int x3, .int x4, .ref a5, .int x6, .int x7, .int x8, .int x9, .int x10, v11] [.int y0] σ Q ↔ (if y0 = (0 : Int32) then zW (d + 1) kX11_best 59 [.ref 1, .int x1, .int x2, .int x3, .int x4, .ref a5, .int x6, .int x7, .int x8, .int (x9 + 1), .int x10, v11] [] σ Q else (vp_in x9 10 ∧ zW (d + 1) kX11_best 107 [.ref 1, .int x1, .int x2, .int x3, .int x4, .ref a5, .int x6, .int x7, .int x8, .int x9, .int x10, v11] (va_rf (zR σ 5 (x9 : Int32).toNatClampNeg) :: [.ref a5, .ref 1]) σ Q)) := by
  refine Iff.trans (zw_if_eq (t := 152) (show decode cX11_best 94 = .ok (.ifCond .eq 58, 3) by decide +kernel) (by decide)) ?_
  refine zw_ite ?_ ?_
  · refine Iff.trans (zw_iinc (w := 1) (ls' := [.ref 1, .int x1, .int x2, .int x3, .int x4, .ref a5, .int x6, .int x7, .int x8, .int (x9 + 1), .int x10, v11]) (show decode cX11_best 152 = .ok (.iinc 9 1, 3) by decide +kernel) rfl (by decide) (zset_s (Nat.le_of_ble_eq_true rfl) rfl)) ?_
    refine Iff.trans (zw_goto (t := 59) (show decode cX11_best 155 = .ok (.goto (-96), 3) by decide +kernel) (by decide)) ?_
    exact Iff.rfl
  · refine Iff.trans (zw_aload_n (show decode cX11_best 97 = .ok (.aload_n 0, 1) by decide +kernel) rfl) ?_
    refine Iff.trans (zw_aload (show decode cX11_best 98 = .ok (.aload 5, 2) by decide +kernel) rfl) ?_
    refine Iff.trans (zw_aload_n (show decode cX11_best 100 = .ok (.aload_n 0, 1) by decide +kernel) rfl) ?_
    refine Iff.trans (zw_get (show decode cX11_best 101 = .ok (.getfield 24, 3) by decide +kernel) (by decide +kernel : zfld 11 24 = some (11, 3)) (hl.k2 zk_1) (hl.n2 zk_1) (zgetR (v := 5) (hl.r zrt_1_3) rfl)) ?_
    refine Iff.trans (zw_iload (show decode cX11_best 104 = .ok (.iload 9, 2) by decide +kernel) rfl) ?_
    refine Iff.trans (zw_aald (show decode cX11_best 106 = .ok (.aaload, 1) by decide +kernel) (by rw [(hl.k2 zk_5)]; decide) (hl.n2 zk_5) (hl.l2 zk_5 zl_5)) ?_
    refine zw_and ?_
    exact Iff.rfl

theorem bX11_best_107 {d : Nat} {σ : zS} {Q : Option Value → zS → Prop} (hl : zLay σ) {x1 x2 x3 x4 x6 x7 x8 x9 x10 : Int32} {a5 b0 b1 : Nat} {v11 : Value} (ha5 : zk a5 = 0) (hv11 : v11.category = 1) (hb0 : zk b0 = 6) (hb1 : zk b1 = 0) : zW (d + 1) kX11_best 107 [.ref 1, .int x1, .int x2, .int x3, .int x4, .ref a5, .int x6, .int x7, .int x8, .int x9, .int x10, v11] [.ref b0, .ref b1, .ref 1] σ Q ↔ zCall d kX11_timeAlone [.ref 1, .ref b1, .ref b0, .int x10, .int x3] σ (fun r σ' => zisN r = true ∧ zW (d + 1) kX11_best 113 [.ref 1, .int x1, .int x2, .int x3, .int x4, .ref a5, .int x6, .int x7, .int x8, .int x9, .int x10, v11] (zRstk r ++ []) σ' Q) := by
  refine Iff.trans (zw_iload (show decode cX11_best 107 = .ok (.iload 10, 2) by decide +kernel) rfl) ?_
  refine Iff.trans (zw_iload_n (show decode cX11_best 109 = .ok (.iload_n 3, 1) by decide +kernel) rfl) ?_
  refine Iff.trans (zw_invV (K' := kX11_timeAlone) (as' := [.ref b1, .ref b0, .int x10, .int x3]) (rest := []) (show decode cX11_best 110 = .ok (.invokevirtual 314, 3) by decide +kernel) (by rfl) rfl rfl rfl (hl.k2 zk_1) (by decide) (hl.n2 zk_1) ⟨Nat.le_of_ble_eq_true rfl, Nat.le_of_ble_eq_true rfl, Nat.le_of_ble_eq_true rfl⟩) ?_
  exact Iff.rfl

theorem bX11_best_113 {d : Nat} {σ : zS} {Q : Option Value → zS → Prop} (hl : zLay σ) {x1 x2 x3 x4 x6 x7 x8 x9 x10 y0 : Int32} {a5 : Nat} {v11 : Value} (ha5 : zk a5 = 0) (hv11 : v11.category = 1) : zW (d + 1) kX11_best 113 [.ref 1, .int x1, .int x2, .int x3, .int x4, .ref a5, .int x6, .int x7, .int x8, .int x9, .int x10, v11] [.int y0] σ Q ↔ (if y0 = (-1) then zW (d + 1) kX11_best 78 [.ref 1, .int x1, .int x2, .int x3, .int x4, .ref a5, .int x6, .int x7, .int x8, .int x9, .int (x10 + 1), .int y0] [] σ Q else (if x8 = (-1) then zW (d + 1) kX11_best 134 [.ref 1, .int x1, .int x2, .int x3, .int x4, .ref a5, .int x6, .int x7, .int x8, .int x9, .int x10, .int y0] [] σ Q else (if x8 ≤ y0 then zW (d + 1) kX11_best 78 [.ref 1, .int x1, .int x2, .int x3, .int x4, .ref a5, .int x6, .int x7, .int x8, .int x9, .int (x10 + 1), .int y0] [] σ Q else zW (d + 1) kX11_best 134 [.ref 1, .int x1, .int x2, .int x3, .int x4, .ref a5, .int x6, .int x7, .int x8, .int x9, .int x10, .int y0] [] σ Q))) := by
  refine Iff.trans (zw_istore (ls' := [.ref 1, .int x1, .int x2, .int x3, .int x4, .ref a5, .int x6, .int x7, .int x8, .int x9, .int x10, .int y0]) (show decode cX11_best 113 = .ok (.istore 11, 2) by decide +kernel) (zset_s (Nat.le_of_ble_eq_true rfl) rfl)) ?_
  refine Iff.trans (zw_iload (show decode cX11_best 115 = .ok (.iload 11, 2) by decide +kernel) rfl) ?_
  refine Iff.trans (zw_iconst (x := (-1)) (show decode cX11_best 117 = .ok (.iconst (-1), 1) by decide +kernel) (by decide)) ?_
  refine Iff.trans (zw_icmp_eq (t := 146) (show decode cX11_best 118 = .ok (.if_icmp .eq 28, 3) by decide +kernel) (by decide)) ?_
  refine zw_ite ?_ ?_
  · refine Iff.trans (zw_iinc (w := 1) (ls' := [.ref 1, .int x1, .int x2, .int x3, .int x4, .ref a5, .int x6, .int x7, .int x8, .int x9, .int (x10 + 1), .int y0]) (show decode cX11_best 146 = .ok (.iinc 10 1, 3) by decide +kernel) rfl (by decide) (zset_s (Nat.le_of_ble_eq_true rfl) rfl)) ?_
    refine Iff.trans (zw_goto (t := 78) (show decode cX11_best 149 = .ok (.goto (-71), 3) by decide +kernel) (by decide)) ?_
    exact Iff.rfl
  · refine Iff.trans (zw_iload (show decode cX11_best 121 = .ok (.iload 8, 2) by decide +kernel) rfl) ?_
    refine Iff.trans (zw_iconst (x := (-1)) (show decode cX11_best 123 = .ok (.iconst (-1), 1) by decide +kernel) (by decide)) ?_
    refine Iff.trans (zw_icmp_eq (t := 134) (show decode cX11_best 124 = .ok (.if_icmp .eq 10, 3) by decide +kernel) (by decide)) ?_
    refine zw_ite ?_ ?_
    · exact Iff.rfl
    · refine Iff.trans (zw_iload (show decode cX11_best 127 = .ok (.iload 11, 2) by decide +kernel) rfl) ?_
      refine Iff.trans (zw_iload (show decode cX11_best 129 = .ok (.iload 8, 2) by decide +kernel) rfl) ?_
      refine Iff.trans (zw_icmp_ge (t := 146) (show decode cX11_best 131 = .ok (.if_icmp .ge 15, 3) by decide +kernel) (by decide)) ?_
      refine zw_ite ?_ ?_
      · refine Iff.trans (zw_iinc (w := 1) (ls' := [.ref 1, .int x1, .int x2, .int x3, .int x4, .ref a5, .int x6, .int x7, .int x8, .int x9, .int (x10 + 1), .int y0]) (show decode cX11_best 146 = .ok (.iinc 10 1, 3) by decide +kernel) rfl (by decide) (zset_s (Nat.le_of_ble_eq_true rfl) rfl)) ?_
        refine Iff.trans (zw_goto (t := 78) (show decode cX11_best 149 = .ok (.goto (-71), 3) by decide +kernel) (by decide)) ?_
        exact Iff.rfl
      · exact Iff.rfl

theorem bX11_best_134 {d : Nat} {σ : zS} {Q : Option Value → zS → Prop} (hl : zLay σ) {x1 x2 x3 x4 x6 x7 x8 x9 x10 x11 : Int32} {a5 : Nat} (ha5 : zk a5 = 0) : zW (d + 1) kX11_best 134 [.ref 1, .int x1, .int x2, .int x3, .int x4, .ref a5, .int x6, .int x7, .int x8, .int x9, .int x10, .int x11] [] σ Q ↔ zW (d + 1) kX11_best 78 [.ref 1, .int x1, .int x2, .int x3, .int x4, .ref a5, .int x9, .int x10, .int x11, .int x9, .int (x10 + 1), .int x11] [] σ Q := by
  refine Iff.trans (zw_iload (show decode cX11_best 134 = .ok (.iload 9, 2) by decide +kernel) rfl) ?_
  refine Iff.trans (zw_istore (ls' := [.ref 1, .int x1, .int x2, .int x3, .int x4, .ref a5, .int x9, .int x7, .int x8, .int x9, .int x10, .int x11]) (show decode cX11_best 136 = .ok (.istore 6, 2) by decide +kernel) (zset_s (Nat.le_of_ble_eq_true rfl) rfl)) ?_
  refine Iff.trans (zw_iload (show decode cX11_best 138 = .ok (.iload 10, 2) by decide +kernel) rfl) ?_
  refine Iff.trans (zw_istore (ls' := [.ref 1, .int x1, .int x2, .int x3, .int x4, .ref a5, .int x9, .int x10, .int x8, .int x9, .int x10, .int x11]) (show decode cX11_best 140 = .ok (.istore 7, 2) by decide +kernel) (zset_s (Nat.le_of_ble_eq_true rfl) rfl)) ?_
  refine Iff.trans (zw_iload (show decode cX11_best 142 = .ok (.iload 11, 2) by decide +kernel) rfl) ?_
  refine Iff.trans (zw_istore (ls' := [.ref 1, .int x1, .int x2, .int x3, .int x4, .ref a5, .int x9, .int x10, .int x11, .int x9, .int x10, .int x11]) (show decode cX11_best 144 = .ok (.istore 8, 2) by decide +kernel) (zset_s (Nat.le_of_ble_eq_true rfl) rfl)) ?_
  refine Iff.trans (zw_iinc (w := 1) (ls' := [.ref 1, .int x1, .int x2, .int x3, .int x4, .ref a5, .int x9, .int x10, .int x11, .int x9, .int (x10 + 1), .int x11]) (show decode cX11_best 146 = .ok (.iinc 10 1, 3) by decide +kernel) rfl (by decide) (zset_s (Nat.le_of_ble_eq_true rfl) rfl)) ?_
  refine Iff.trans (zw_goto (t := 78) (show decode cX11_best 149 = .ok (.goto (-71), 3) by decide +kernel) (by decide)) ?_
  exact Iff.rfl

theorem bX11_best_158 {d : Nat} {σ : zS} {Q : Option Value → zS → Prop} (hl : zLay σ) {x1 x2 x3 x4 x6 x7 x8 x9 : Int32} {a5 : Nat} {v10 v11 : Value} (ha5 : zk a5 = 0) (hv10 : v10.category = 1) (hv11 : v11.category = 1) : zW (d + 1) kX11_best 158 [.ref 1, .int x1, .int x2, .int x3, .int x4, .ref a5, .int x6, .int x7, .int x8, .int x9, v10, v11] [] σ Q ↔ (if x4 = (0 : Int32) then Q (some (.int x6)) σ else (if x4 = 1 then Q (some (.int x7)) σ else Q (some (.int x8)) σ)) := by
  refine Iff.trans (zw_iload (show decode cX11_best 158 = .ok (.iload 4, 2) by decide +kernel) rfl) ?_
  refine Iff.trans (zw_if_ne (t := 166) (show decode cX11_best 160 = .ok (.ifCond .ne 6, 3) by decide +kernel) (by decide)) ?_
  refine zw_ite ?_ ?_
  · refine Iff.trans (zw_iload (show decode cX11_best 163 = .ok (.iload 6, 2) by decide +kernel) rfl) ?_
    exact zw_iret1 (show decode cX11_best 165 = .ok (.ireturn, 1) by decide +kernel) rfl
  · refine Iff.trans (zw_iload (show decode cX11_best 166 = .ok (.iload 4, 2) by decide +kernel) rfl) ?_
    refine Iff.trans (zw_iconst (x := 1) (show decode cX11_best 168 = .ok (.iconst 1, 1) by decide +kernel) (by decide)) ?_
    refine Iff.trans (zw_icmp_ne (t := 177) (show decode cX11_best 169 = .ok (.if_icmp .ne 8, 3) by decide +kernel) (by decide)) ?_
    refine zw_ite ?_ ?_
    · refine Iff.trans (zw_iload (show decode cX11_best 172 = .ok (.iload 7, 2) by decide +kernel) rfl) ?_
      refine Iff.trans (zw_goto (t := 179) (show decode cX11_best 174 = .ok (.goto 5, 3) by decide +kernel) (by decide)) ?_
      exact zw_iret1 (show decode cX11_best 179 = .ok (.ireturn, 1) by decide +kernel) rfl
    · refine Iff.trans (zw_iload (show decode cX11_best 177 = .ok (.iload 8, 2) by decide +kernel) rfl) ?_
      exact zw_iret1 (show decode cX11_best 179 = .ok (.ireturn, 1) by decide +kernel) rfl

theorem bX11_choice_0 {d : Nat} {σ : zS} {Q : Option Value → zS → Prop} (hl : zLay σ) {x1 x2 x3 x4 x5 : Int32} : zCall (d + 1) kX11_choice [.ref 1, .int x1, .int x2, .int x3, .int x4, .int x5] σ Q ↔ zCall d kX11_noBrook [.ref 1, .int x1] σ (fun r σ' => zisN r = true ∧ zW (d + 1) kX11_choice 5 [.ref 1, .int x1, .int x2, .int x3, .int x4, .int x5, .retAddr 0, .retAddr 0, .retAddr 0, .retAddr 0, .retAddr 0, .retAddr 0, .retAddr 0, .retAddr 0, .retAddr 0] (zRstk r ++ []) σ' Q) := by
  show zW (d + 1) kX11_choice 0 [.ref 1, .int x1, .int x2, .int x3, .int x4, .int x5, .retAddr 0, .retAddr 0, .retAddr 0, .retAddr 0, .retAddr 0, .retAddr 0, .retAddr 0, .retAddr 0, .retAddr 0] [] σ Q ↔ _
  refine Iff.trans (zw_aload_n (show decode cX11_choice 0 = .ok (.aload_n 0, 1) by decide +kernel) rfl) ?_
  refine Iff.trans (zw_iload_n (show decode cX11_choice 1 = .ok (.iload_n 1, 1) by decide +kernel) rfl) ?_
  refine Iff.trans (zw_invV (K' := kX11_noBrook) (as' := [.int x1]) (rest := []) (show decode cX11_choice 2 = .ok (.invokevirtual 157, 3) by decide +kernel) (by rfl) rfl rfl rfl (hl.k2 zk_1) (by decide) (hl.n2 zk_1) ⟨Nat.le_of_ble_eq_true rfl, Nat.le_of_ble_eq_true rfl, Nat.le_of_ble_eq_true rfl⟩) ?_
  exact Iff.rfl

theorem bX11_choice_5 {d : Nat} {σ : zS} {Q : Option Value → zS → Prop} (hl : zLay σ) {x1 x2 x3 x4 x5 y0 : Int32} : zW (d + 1) kX11_choice 5 [.ref 1, .int x1, .int x2, .int x3, .int x4, .int x5, .retAddr 0, .retAddr 0, .retAddr 0, .retAddr 0, .retAddr 0, .retAddr 0, .retAddr 0, .retAddr 0, .retAddr 0] [.int y0] σ Q ↔ (if y0 = (0 : Int32) then zCall d kX11_noStick [.ref 1, .int x2] σ (fun r σ' => zisN r = true ∧ zW (d + 1) kX11_choice 13 [.ref 1, .int x1, .int x2, .int x3, .int x4, .int x5, .retAddr 0, .retAddr 0, .retAddr 0, .retAddr 0, .retAddr 0, .retAddr 0, .retAddr 0, .retAddr 0, .retAddr 0] (zRstk r ++ []) σ' Q) else Q (some (.int (-1000))) σ) := by
  refine Iff.trans (zw_if_ne (t := 43) (show decode cX11_choice 5 = .ok (.ifCond .ne 38, 3) by decide +kernel) (by decide)) ?_
  refine zw_ite ?_ ?_
  · refine Iff.trans (zw_aload_n (show decode cX11_choice 8 = .ok (.aload_n 0, 1) by decide +kernel) rfl) ?_
    refine Iff.trans (zw_iload_n (show decode cX11_choice 9 = .ok (.iload_n 2, 1) by decide +kernel) rfl) ?_
    refine Iff.trans (zw_invV (K' := kX11_noStick) (as' := [.int x2]) (rest := []) (show decode cX11_choice 10 = .ok (.invokevirtual 187, 3) by decide +kernel) (by rfl) rfl rfl rfl (hl.k2 zk_1) (by decide) (hl.n2 zk_1) ⟨Nat.le_of_ble_eq_true rfl, Nat.le_of_ble_eq_true rfl, Nat.le_of_ble_eq_true rfl⟩) ?_
    exact Iff.rfl
  · refine Iff.trans (zw_sipush (x := (-1000)) (show decode cX11_choice 43 = .ok (.sipush (-1000), 3) by decide +kernel) (by decide)) ?_
    exact zw_iret1 (show decode cX11_choice 46 = .ok (.ireturn, 1) by decide +kernel) rfl

theorem bX11_choice_13 {d : Nat} {σ : zS} {Q : Option Value → zS → Prop} (hl : zLay σ) {x1 x2 x3 x4 x5 y0 : Int32} : zW (d + 1) kX11_choice 13 [.ref 1, .int x1, .int x2, .int x3, .int x4, .int x5, .retAddr 0, .retAddr 0, .retAddr 0, .retAddr 0, .retAddr 0, .retAddr 0, .retAddr 0, .retAddr 0, .retAddr 0] [.int y0] σ Q ↔ (if y0 = (0 : Int32) then zCall d kX11_noStick [.ref 1, .int x3] σ (fun r σ' => zisN r = true ∧ zW (d + 1) kX11_choice 21 [.ref 1, .int x1, .int x2, .int x3, .int x4, .int x5, .retAddr 0, .retAddr 0, .retAddr 0, .retAddr 0, .retAddr 0, .retAddr 0, .retAddr 0, .retAddr 0, .retAddr 0] (zRstk r ++ []) σ' Q) else Q (some (.int (-1000))) σ) := by
  refine Iff.trans (zw_if_ne (t := 43) (show decode cX11_choice 13 = .ok (.ifCond .ne 30, 3) by decide +kernel) (by decide)) ?_
  refine zw_ite ?_ ?_
  · refine Iff.trans (zw_aload_n (show decode cX11_choice 16 = .ok (.aload_n 0, 1) by decide +kernel) rfl) ?_
    refine Iff.trans (zw_iload_n (show decode cX11_choice 17 = .ok (.iload_n 3, 1) by decide +kernel) rfl) ?_
    refine Iff.trans (zw_invV (K' := kX11_noStick) (as' := [.int x3]) (rest := []) (show decode cX11_choice 18 = .ok (.invokevirtual 187, 3) by decide +kernel) (by rfl) rfl rfl rfl (hl.k2 zk_1) (by decide) (hl.n2 zk_1) ⟨Nat.le_of_ble_eq_true rfl, Nat.le_of_ble_eq_true rfl, Nat.le_of_ble_eq_true rfl⟩) ?_
    exact Iff.rfl
  · refine Iff.trans (zw_sipush (x := (-1000)) (show decode cX11_choice 43 = .ok (.sipush (-1000), 3) by decide +kernel) (by decide)) ?_
    exact zw_iret1 (show decode cX11_choice 46 = .ok (.ireturn, 1) by decide +kernel) rfl

theorem bX11_choice_21 {d : Nat} {σ : zS} {Q : Option Value → zS → Prop} (hl : zLay σ) {x1 x2 x3 x4 x5 y0 : Int32} : zW (d + 1) kX11_choice 21 [.ref 1, .int x1, .int x2, .int x3, .int x4, .int x5, .retAddr 0, .retAddr 0, .retAddr 0, .retAddr 0, .retAddr 0, .retAddr 0, .retAddr 0, .retAddr 0, .retAddr 0] [.int y0] σ Q ↔ (if y0 = (0 : Int32) then zCall d kX11_noSeeds [.int x4] σ (fun r σ' => zisN r = true ∧ zW (d + 1) kX11_choice 29 [.ref 1, .int x1, .int x2, .int x3, .int x4, .int x5, .retAddr 0, .retAddr 0, .retAddr 0, .retAddr 0, .retAddr 0, .retAddr 0, .retAddr 0, .retAddr 0, .retAddr 0] (zRstk r ++ []) σ' Q) else Q (some (.int (-1000))) σ) := by
  refine Iff.trans (zw_if_ne (t := 43) (show decode cX11_choice 21 = .ok (.ifCond .ne 22, 3) by decide +kernel) (by decide)) ?_
  refine zw_ite ?_ ?_
  · refine Iff.trans (zw_iload (show decode cX11_choice 24 = .ok (.iload 4, 2) by decide +kernel) rfl) ?_
    refine Iff.trans (zw_invS (K' := kX11_noSeeds) (as := [.int x4]) (rest := []) (show decode cX11_choice 26 = .ok (.invokestatic 285, 3) by decide +kernel) (by rfl) rfl rfl rfl ⟨Nat.le_of_ble_eq_true rfl, Nat.le_of_ble_eq_true rfl, Nat.le_of_ble_eq_true rfl⟩) ?_
    exact Iff.rfl
  · refine Iff.trans (zw_sipush (x := (-1000)) (show decode cX11_choice 43 = .ok (.sipush (-1000), 3) by decide +kernel) (by decide)) ?_
    exact zw_iret1 (show decode cX11_choice 46 = .ok (.ireturn, 1) by decide +kernel) rfl

theorem bX11_choice_29 {d : Nat} {σ : zS} {Q : Option Value → zS → Prop} (hl : zLay σ) {x1 x2 x3 x4 x5 y0 : Int32} : zW (d + 1) kX11_choice 29 [.ref 1, .int x1, .int x2, .int x3, .int x4, .int x5, .retAddr 0, .retAddr 0, .retAddr 0, .retAddr 0, .retAddr 0, .retAddr 0, .retAddr 0, .retAddr 0, .retAddr 0] [.int y0] σ Q ↔ (if y0 = (0 : Int32) then (if x5 < (0 : Int32) then Q (some (.int (-1000))) σ else (if x5 ≤ 2 then (vp_in x1 6 ∧ zW (d + 1) kX11_choice 53 [.ref 1, .int x1, .int x2, .int x3, .int x4, .int x5, .retAddr 0, .retAddr 0, .retAddr 0, .retAddr 0, .retAddr 0, .retAddr 0, .retAddr 0, .retAddr 0, .retAddr 0] (va_rf (zR σ 4 (x1 : Int32).toNatClampNeg) :: []) σ Q) else Q (some (.int (-1000))) σ)) else Q (some (.int (-1000))) σ) := by
  refine Iff.trans (zw_if_ne (t := 43) (show decode cX11_choice 29 = .ok (.ifCond .ne 14, 3) by decide +kernel) (by decide)) ?_
  refine zw_ite ?_ ?_
  · refine Iff.trans (zw_iload (show decode cX11_choice 32 = .ok (.iload 5, 2) by decide +kernel) rfl) ?_
    refine Iff.trans (zw_if_lt (t := 43) (show decode cX11_choice 34 = .ok (.ifCond .lt 9, 3) by decide +kernel) (by decide)) ?_
    refine zw_ite ?_ ?_
    · refine Iff.trans (zw_sipush (x := (-1000)) (show decode cX11_choice 43 = .ok (.sipush (-1000), 3) by decide +kernel) (by decide)) ?_
      exact zw_iret1 (show decode cX11_choice 46 = .ok (.ireturn, 1) by decide +kernel) rfl
    · refine Iff.trans (zw_iload (show decode cX11_choice 37 = .ok (.iload 5, 2) by decide +kernel) rfl) ?_
      refine Iff.trans (zw_iconst (x := 2) (show decode cX11_choice 39 = .ok (.iconst 2, 1) by decide +kernel) (by decide)) ?_
      refine Iff.trans (zw_icmp_le (t := 47) (show decode cX11_choice 40 = .ok (.if_icmp .le 7, 3) by decide +kernel) (by decide)) ?_
      refine zw_ite ?_ ?_
      · refine Iff.trans (zw_aload_n (show decode cX11_choice 47 = .ok (.aload_n 0, 1) by decide +kernel) rfl) ?_
        refine Iff.trans (zw_get (show decode cX11_choice 48 = .ok (.getfield 18, 3) by decide +kernel) (by decide +kernel : zfld 11 18 = some (11, 1)) (hl.k2 zk_1) (hl.n2 zk_1) (zgetR (v := 4) (hl.r zrt_1_1) rfl)) ?_
        refine Iff.trans (zw_iload_n (show decode cX11_choice 51 = .ok (.iload_n 1, 1) by decide +kernel) rfl) ?_
        refine Iff.trans (zw_aald (show decode cX11_choice 52 = .ok (.aaload, 1) by decide +kernel) (by rw [(hl.k2 zk_4)]; decide) (hl.n2 zk_4) (hl.l2 zk_4 zl_4)) ?_
        refine zw_and ?_
        exact Iff.rfl
      · refine Iff.trans (zw_sipush (x := (-1000)) (show decode cX11_choice 43 = .ok (.sipush (-1000), 3) by decide +kernel) (by decide)) ?_
        exact zw_iret1 (show decode cX11_choice 46 = .ok (.ireturn, 1) by decide +kernel) rfl
  · refine Iff.trans (zw_sipush (x := (-1000)) (show decode cX11_choice 43 = .ok (.sipush (-1000), 3) by decide +kernel) (by decide)) ?_
    exact zw_iret1 (show decode cX11_choice 46 = .ok (.ireturn, 1) by decide +kernel) rfl

theorem bX11_choice_53 {d : Nat} {σ : zS} {Q : Option Value → zS → Prop} (hl : zLay σ) {x1 x2 x3 x4 x5 : Int32} {b0 : Nat} (hb0 : zk b0 = 0) : zW (d + 1) kX11_choice 53 [.ref 1, .int x1, .int x2, .int x3, .int x4, .int x5, .retAddr 0, .retAddr 0, .retAddr 0, .retAddr 0, .retAddr 0, .retAddr 0, .retAddr 0, .retAddr 0, .retAddr 0] [.ref b0] σ Q ↔ zW (d + 1) kX11_choice 67 [.ref 1, .int x1, .int x2, .int x3, .int x4, .int x5, .ref b0, .int (-1), .int (-1), .int 0, .int 0, .retAddr 0, .retAddr 0, .retAddr 0, .retAddr 0] [] σ Q := by
  refine Iff.trans (zw_astore (ls' := [.ref 1, .int x1, .int x2, .int x3, .int x4, .int x5, .ref b0, .retAddr 0, .retAddr 0, .retAddr 0, .retAddr 0, .retAddr 0, .retAddr 0, .retAddr 0, .retAddr 0]) (show decode cX11_choice 53 = .ok (.astore 6, 2) by decide +kernel) (zset_s (Nat.le_of_ble_eq_true rfl) rfl)) ?_
  refine Iff.trans (zw_iconst (x := (-1)) (show decode cX11_choice 55 = .ok (.iconst (-1), 1) by decide +kernel) (by decide)) ?_
  refine Iff.trans (zw_istore (ls' := [.ref 1, .int x1, .int x2, .int x3, .int x4, .int x5, .ref b0, .int (-1), .retAddr 0, .retAddr 0, .retAddr 0, .retAddr 0, .retAddr 0, .retAddr 0, .retAddr 0]) (show decode cX11_choice 56 = .ok (.istore 7, 2) by decide +kernel) (zset_s (Nat.le_of_ble_eq_true rfl) rfl)) ?_
  refine Iff.trans (zw_iconst (x := (-1)) (show decode cX11_choice 58 = .ok (.iconst (-1), 1) by decide +kernel) (by decide)) ?_
  refine Iff.trans (zw_istore (ls' := [.ref 1, .int x1, .int x2, .int x3, .int x4, .int x5, .ref b0, .int (-1), .int (-1), .retAddr 0, .retAddr 0, .retAddr 0, .retAddr 0, .retAddr 0, .retAddr 0]) (show decode cX11_choice 59 = .ok (.istore 8, 2) by decide +kernel) (zset_s (Nat.le_of_ble_eq_true rfl) rfl)) ?_
  refine Iff.trans (zw_iconst (x := 0) (show decode cX11_choice 61 = .ok (.iconst 0, 1) by decide +kernel) (by decide)) ?_
  refine Iff.trans (zw_istore (ls' := [.ref 1, .int x1, .int x2, .int x3, .int x4, .int x5, .ref b0, .int (-1), .int (-1), .int 0, .retAddr 0, .retAddr 0, .retAddr 0, .retAddr 0, .retAddr 0]) (show decode cX11_choice 62 = .ok (.istore 9, 2) by decide +kernel) (zset_s (Nat.le_of_ble_eq_true rfl) rfl)) ?_
  refine Iff.trans (zw_iconst (x := 0) (show decode cX11_choice 64 = .ok (.iconst 0, 1) by decide +kernel) (by decide)) ?_
  refine Iff.trans (zw_istore (ls' := [.ref 1, .int x1, .int x2, .int x3, .int x4, .int x5, .ref b0, .int (-1), .int (-1), .int 0, .int 0, .retAddr 0, .retAddr 0, .retAddr 0, .retAddr 0]) (show decode cX11_choice 65 = .ok (.istore 10, 2) by decide +kernel) (zset_s (Nat.le_of_ble_eq_true rfl) rfl)) ?_
  exact Iff.rfl

theorem bX11_choice_67 {d : Nat} {σ : zS} {Q : Option Value → zS → Prop} (hl : zLay σ) {x1 x2 x3 x4 x5 x7 x8 x9 x10 : Int32} {a6 : Nat} {v11 v12 v13 v14 : Value} (ha6 : zk a6 = 0) (hv11 : v11.category = 1) (hv12 : v12.category = 1) (hv13 : v13.category = 1) (hv14 : v14.category = 1) : zW (d + 1) kX11_choice 67 [.ref 1, .int x1, .int x2, .int x3, .int x4, .int x5, .ref a6, .int x7, .int x8, .int x9, .int x10, v11, v12, v13, v14] [] σ Q ↔ (if (zI σ a6 3) ≤ x10 then (if x7 = (-1) then Q (some (.int (-1000))) σ else (if x5 = (0 : Int32) then Q (some (.int x7)) σ else (if x5 = 1 then Q (some (.int x8)) σ else Q (some (.int x9)) σ))) else zW (d + 1) kX11_choice 86 [.ref 1, .int x1, .int x2, .int x3, .int x4, .int x5, .ref a6, .int x7, .int x8, .int x9, .int x10, .int (-1), .int 0, .int 0, v14] [] σ Q) := by
  refine Iff.trans (zw_iload (show decode cX11_choice 67 = .ok (.iload 10, 2) by decide +kernel) rfl) ?_
  refine Iff.trans (zw_aload (show decode cX11_choice 69 = .ok (.aload 6, 2) by decide +kernel) rfl) ?_
  refine Iff.trans (zw_getI (show decode cX11_choice 71 = .ok (.getfield 164, 3) by decide +kernel) (by decide +kernel : zfld 11 164 = some (0, 3)) (hl.k2 ha6) (hl.n2 ha6) (Or.inl rfl) (w := zI σ a6 3) rfl) ?_
  refine Iff.trans (zw_icmp_ge (t := 196) (show decode cX11_choice 74 = .ok (.if_icmp .ge 122, 3) by decide +kernel) (by decide)) ?_
  refine zw_ite ?_ ?_
  · refine Iff.trans (zw_iload (show decode cX11_choice 196 = .ok (.iload 7, 2) by decide +kernel) rfl) ?_
    refine Iff.trans (zw_iconst (x := (-1)) (show decode cX11_choice 198 = .ok (.iconst (-1), 1) by decide +kernel) (by decide)) ?_
    refine Iff.trans (zw_icmp_ne (t := 206) (show decode cX11_choice 199 = .ok (.if_icmp .ne 7, 3) by decide +kernel) (by decide)) ?_
    refine zw_ite ?_ ?_
    · refine Iff.trans (zw_sipush (x := (-1000)) (show decode cX11_choice 202 = .ok (.sipush (-1000), 3) by decide +kernel) (by decide)) ?_
      exact zw_iret1 (show decode cX11_choice 205 = .ok (.ireturn, 1) by decide +kernel) rfl
    · refine Iff.trans (zw_iload (show decode cX11_choice 206 = .ok (.iload 5, 2) by decide +kernel) rfl) ?_
      refine Iff.trans (zw_if_ne (t := 214) (show decode cX11_choice 208 = .ok (.ifCond .ne 6, 3) by decide +kernel) (by decide)) ?_
      refine zw_ite ?_ ?_
      · refine Iff.trans (zw_iload (show decode cX11_choice 211 = .ok (.iload 7, 2) by decide +kernel) rfl) ?_
        exact zw_iret1 (show decode cX11_choice 213 = .ok (.ireturn, 1) by decide +kernel) rfl
      · refine Iff.trans (zw_iload (show decode cX11_choice 214 = .ok (.iload 5, 2) by decide +kernel) rfl) ?_
        refine Iff.trans (zw_iconst (x := 1) (show decode cX11_choice 216 = .ok (.iconst 1, 1) by decide +kernel) (by decide)) ?_
        refine Iff.trans (zw_icmp_ne (t := 225) (show decode cX11_choice 217 = .ok (.if_icmp .ne 8, 3) by decide +kernel) (by decide)) ?_
        refine zw_ite ?_ ?_
        · refine Iff.trans (zw_iload (show decode cX11_choice 220 = .ok (.iload 8, 2) by decide +kernel) rfl) ?_
          refine Iff.trans (zw_goto (t := 227) (show decode cX11_choice 222 = .ok (.goto 5, 3) by decide +kernel) (by decide)) ?_
          exact zw_iret1 (show decode cX11_choice 227 = .ok (.ireturn, 1) by decide +kernel) rfl
        · refine Iff.trans (zw_iload (show decode cX11_choice 225 = .ok (.iload 9, 2) by decide +kernel) rfl) ?_
          exact zw_iret1 (show decode cX11_choice 227 = .ok (.ireturn, 1) by decide +kernel) rfl
  · refine Iff.trans (zw_iconst (x := (-1)) (show decode cX11_choice 77 = .ok (.iconst (-1), 1) by decide +kernel) (by decide)) ?_
    refine Iff.trans (zw_istore (ls' := [.ref 1, .int x1, .int x2, .int x3, .int x4, .int x5, .ref a6, .int x7, .int x8, .int x9, .int x10, .int (-1), v12, v13, v14]) (show decode cX11_choice 78 = .ok (.istore 11, 2) by decide +kernel) (zset_s (Nat.le_of_ble_eq_true rfl) rfl)) ?_
    refine Iff.trans (zw_iconst (x := 0) (show decode cX11_choice 80 = .ok (.iconst 0, 1) by decide +kernel) (by decide)) ?_
    refine Iff.trans (zw_istore (ls' := [.ref 1, .int x1, .int x2, .int x3, .int x4, .int x5, .ref a6, .int x7, .int x8, .int x9, .int x10, .int (-1), .int 0, v13, v14]) (show decode cX11_choice 81 = .ok (.istore 12, 2) by decide +kernel) (zset_s (Nat.le_of_ble_eq_true rfl) rfl)) ?_
    refine Iff.trans (zw_iconst (x := 0) (show decode cX11_choice 83 = .ok (.iconst 0, 1) by decide +kernel) (by decide)) ?_
    refine Iff.trans (zw_istore (ls' := [.ref 1, .int x1, .int x2, .int x3, .int x4, .int x5, .ref a6, .int x7, .int x8, .int x9, .int x10, .int (-1), .int 0, .int 0, v14]) (show decode cX11_choice 84 = .ok (.istore 13, 2) by decide +kernel) (zset_s (Nat.le_of_ble_eq_true rfl) rfl)) ?_
    exact Iff.rfl

theorem bX11_choice_86 {d : Nat} {σ : zS} {Q : Option Value → zS → Prop} (hl : zLay σ) {x1 x2 x3 x4 x5 x7 x8 x9 x10 x11 x12 x13 : Int32} {a6 : Nat} {v14 : Value} (ha6 : zk a6 = 0) (hv14 : v14.category = 1) : zW (d + 1) kX11_choice 86 [.ref 1, .int x1, .int x2, .int x3, .int x4, .int x5, .ref a6, .int x7, .int x8, .int x9, .int x10, .int x11, .int x12, .int x13, v14] [] σ Q ↔ (if (zI σ a6 3) ≤ x13 then (if x11 = (-1) then zW (d + 1) kX11_choice 67 [.ref 1, .int x1, .int x2, .int x3, .int x4, .int x5, .ref a6, .int x7, .int x8, .int x9, .int (x10 + 1), .int x11, .int x12, .int x13, v14] [] σ Q else (if x7 = (-1) then zW (d + 1) kX11_choice 178 [.ref 1, .int x1, .int x2, .int x3, .int x4, .int x5, .ref a6, .int x7, .int x8, .int x9, .int x10, .int x11, .int x12, .int x13, v14] [] σ Q else (if x12 ≤ x9 then zW (d + 1) kX11_choice 67 [.ref 1, .int x1, .int x2, .int x3, .int x4, .int x5, .ref a6, .int x7, .int x8, .int x9, .int (x10 + 1), .int x11, .int x12, .int x13, v14] [] σ Q else zW (d + 1) kX11_choice 178 [.ref 1, .int x1, .int x2, .int x3, .int x4, .int x5, .ref a6, .int x7, .int x8, .int x9, .int x10, .int x11, .int x12, .int x13, v14] [] σ Q))) else (vp_in x2 10 ∧ zW (d + 1) kX11_choice 105 [.ref 1, .int x1, .int x2, .int x3, .int x4, .int x5, .ref a6, .int x7, .int x8, .int x9, .int x10, .int x11, .int x12, .int x13, v14] (va_rf (zR σ 5 (x2 : Int32).toNatClampNeg) :: [.ref a6, .ref 1]) σ Q)) := by
  refine Iff.trans (zw_iload (show decode cX11_choice 86 = .ok (.iload 13, 2) by decide +kernel) rfl) ?_
  refine Iff.trans (zw_aload (show decode cX11_choice 88 = .ok (.aload 6, 2) by decide +kernel) rfl) ?_
  refine Iff.trans (zw_getI (show decode cX11_choice 90 = .ok (.getfield 164, 3) by decide +kernel) (by decide +kernel : zfld 11 164 = some (0, 3)) (hl.k2 ha6) (hl.n2 ha6) (Or.inl rfl) (w := zI σ a6 3) rfl) ?_
  refine Iff.trans (zw_icmp_ge (t := 159) (show decode cX11_choice 93 = .ok (.if_icmp .ge 66, 3) by decide +kernel) (by decide)) ?_
  refine zw_ite ?_ ?_
  · refine Iff.trans (zw_iload (show decode cX11_choice 159 = .ok (.iload 11, 2) by decide +kernel) rfl) ?_
    refine Iff.trans (zw_iconst (x := (-1)) (show decode cX11_choice 161 = .ok (.iconst (-1), 1) by decide +kernel) (by decide)) ?_
    refine Iff.trans (zw_icmp_eq (t := 190) (show decode cX11_choice 162 = .ok (.if_icmp .eq 28, 3) by decide +kernel) (by decide)) ?_
    refine zw_ite ?_ ?_
    · refine Iff.trans (zw_iinc (w := 1) (ls' := [.ref 1, .int x1, .int x2, .int x3, .int x4, .int x5, .ref a6, .int x7, .int x8, .int x9, .int (x10 + 1), .int x11, .int x12, .int x13, v14]) (show decode cX11_choice 190 = .ok (.iinc 10 1, 3) by decide +kernel) rfl (by decide) (zset_s (Nat.le_of_ble_eq_true rfl) rfl)) ?_
      refine Iff.trans (zw_goto (t := 67) (show decode cX11_choice 193 = .ok (.goto (-126), 3) by decide +kernel) (by decide)) ?_
      exact Iff.rfl
    · refine Iff.trans (zw_iload (show decode cX11_choice 165 = .ok (.iload 7, 2) by decide +kernel) rfl) ?_
      refine Iff.trans (zw_iconst (x := (-1)) (show decode cX11_choice 167 = .ok (.iconst (-1), 1) by decide +kernel) (by decide)) ?_
      refine Iff.trans (zw_icmp_eq (t := 178) (show decode cX11_choice 168 = .ok (.if_icmp .eq 10, 3) by decide +kernel) (by decide)) ?_
      refine zw_ite ?_ ?_
      · exact Iff.rfl
      · refine Iff.trans (zw_iload (show decode cX11_choice 171 = .ok (.iload 12, 2) by decide +kernel) rfl) ?_
        refine Iff.trans (zw_iload (show decode cX11_choice 173 = .ok (.iload 9, 2) by decide +kernel) rfl) ?_
        refine Iff.trans (zw_icmp_le (t := 190) (show decode cX11_choice 175 = .ok (.if_icmp .le 15, 3) by decide +kernel) (by decide)) ?_
        refine zw_ite ?_ ?_
        · refine Iff.trans (zw_iinc (w := 1) (ls' := [.ref 1, .int x1, .int x2, .int x3, .int x4, .int x5, .ref a6, .int x7, .int x8, .int x9, .int (x10 + 1), .int x11, .int x12, .int x13, v14]) (show decode cX11_choice 190 = .ok (.iinc 10 1, 3) by decide +kernel) rfl (by decide) (zset_s (Nat.le_of_ble_eq_true rfl) rfl)) ?_
          refine Iff.trans (zw_goto (t := 67) (show decode cX11_choice 193 = .ok (.goto (-126), 3) by decide +kernel) (by decide)) ?_
          exact Iff.rfl
        · exact Iff.rfl
  · refine Iff.trans (zw_aload_n (show decode cX11_choice 96 = .ok (.aload_n 0, 1) by decide +kernel) rfl) ?_
    refine Iff.trans (zw_aload (show decode cX11_choice 97 = .ok (.aload 6, 2) by decide +kernel) rfl) ?_
    refine Iff.trans (zw_aload_n (show decode cX11_choice 99 = .ok (.aload_n 0, 1) by decide +kernel) rfl) ?_
    refine Iff.trans (zw_get (show decode cX11_choice 100 = .ok (.getfield 24, 3) by decide +kernel) (by decide +kernel : zfld 11 24 = some (11, 3)) (hl.k2 zk_1) (hl.n2 zk_1) (zgetR (v := 5) (hl.r zrt_1_3) rfl)) ?_
    refine Iff.trans (zw_iload_n (show decode cX11_choice 103 = .ok (.iload_n 2, 1) by decide +kernel) rfl) ?_
    refine Iff.trans (zw_aald (show decode cX11_choice 104 = .ok (.aaload, 1) by decide +kernel) (by rw [(hl.k2 zk_5)]; decide) (hl.n2 zk_5) (hl.l2 zk_5 zl_5)) ?_
    refine zw_and ?_
    exact Iff.rfl

theorem bX11_choice_105 {d : Nat} {σ : zS} {Q : Option Value → zS → Prop} (hl : zLay σ) {x1 x2 x3 x4 x5 x7 x8 x9 x10 x11 x12 x13 : Int32} {a6 b0 b1 : Nat} {v14 : Value} (ha6 : zk a6 = 0) (hv14 : v14.category = 1) (hb0 : zk b0 = 6) (hb1 : zk b1 = 0) : zW (d + 1) kX11_choice 105 [.ref 1, .int x1, .int x2, .int x3, .int x4, .int x5, .ref a6, .int x7, .int x8, .int x9, .int x10, .int x11, .int x12, .int x13, v14] [.ref b0, .ref b1, .ref 1] σ Q ↔ (vp_in x3 10 ∧ zW (d + 1) kX11_choice 113 [.ref 1, .int x1, .int x2, .int x3, .int x4, .int x5, .ref a6, .int x7, .int x8, .int x9, .int x10, .int x11, .int x12, .int x13, v14] (va_rf (zR σ 5 (x3 : Int32).toNatClampNeg) :: [.int x10, .ref b0, .ref b1, .ref 1]) σ Q) := by
  refine Iff.trans (zw_iload (show decode cX11_choice 105 = .ok (.iload 10, 2) by decide +kernel) rfl) ?_
  refine Iff.trans (zw_aload_n (show decode cX11_choice 107 = .ok (.aload_n 0, 1) by decide +kernel) rfl) ?_
  refine Iff.trans (zw_get (show decode cX11_choice 108 = .ok (.getfield 24, 3) by decide +kernel) (by decide +kernel : zfld 11 24 = some (11, 3)) (hl.k2 zk_1) (hl.n2 zk_1) (zgetR (v := 5) (hl.r zrt_1_3) rfl)) ?_
  refine Iff.trans (zw_iload_n (show decode cX11_choice 111 = .ok (.iload_n 3, 1) by decide +kernel) rfl) ?_
  refine Iff.trans (zw_aald (show decode cX11_choice 112 = .ok (.aaload, 1) by decide +kernel) (by rw [(hl.k2 zk_5)]; decide) (hl.n2 zk_5) (hl.l2 zk_5 zl_5)) ?_
  refine zw_and ?_
  exact Iff.rfl

theorem bX11_choice_113 {d : Nat} {σ : zS} {Q : Option Value → zS → Prop} (hl : zLay σ) {x1 x2 x3 x4 x5 x7 x8 x9 x10 x11 x12 x13 y1 : Int32} {a6 b0 b2 b3 : Nat} {v14 : Value} (ha6 : zk a6 = 0) (hv14 : v14.category = 1) (hb0 : zk b0 = 6) (hb2 : zk b2 = 6) (hb3 : zk b3 = 0) : zW (d + 1) kX11_choice 113 [.ref 1, .int x1, .int x2, .int x3, .int x4, .int x5, .ref a6, .int x7, .int x8, .int x9, .int x10, .int x11, .int x12, .int x13, v14] [.ref b0, .int y1, .ref b2, .ref b3, .ref 1] σ Q ↔ zCall d kX11_placeTwo [.ref 1, .ref b3, .ref b2, .int y1, .ref b0, .int x13] σ (fun r σ' => zisN r = true ∧ zW (d + 1) kX11_choice 118 [.ref 1, .int x1, .int x2, .int x3, .int x4, .int x5, .ref a6, .int x7, .int x8, .int x9, .int x10, .int x11, .int x12, .int x13, v14] (zRstk r ++ []) σ' Q) := by
  refine Iff.trans (zw_iload (show decode cX11_choice 113 = .ok (.iload 13, 2) by decide +kernel) rfl) ?_
  refine Iff.trans (zw_invV (K' := kX11_placeTwo) (as' := [.ref b3, .ref b2, .int y1, .ref b0, .int x13]) (rest := []) (show decode cX11_choice 115 = .ok (.invokevirtual 318, 3) by decide +kernel) (by rfl) rfl rfl rfl (hl.k2 zk_1) (by decide) (hl.n2 zk_1) ⟨Nat.le_of_ble_eq_true rfl, Nat.le_of_ble_eq_true rfl, Nat.le_of_ble_eq_true rfl⟩) ?_
  exact Iff.rfl

theorem bX11_choice_118 {d : Nat} {σ : zS} {Q : Option Value → zS → Prop} (hl : zLay σ) {x1 x2 x3 x4 x5 x7 x8 x9 x10 x11 x12 x13 y0 : Int32} {a6 : Nat} {v14 : Value} (ha6 : zk a6 = 0) (hv14 : v14.category = 1) : zW (d + 1) kX11_choice 118 [.ref 1, .int x1, .int x2, .int x3, .int x4, .int x5, .ref a6, .int x7, .int x8, .int x9, .int x10, .int x11, .int x12, .int x13, v14] [.int y0] σ Q ↔ (if y0 = (0 : Int32) then zW (d + 1) kX11_choice 86 [.ref 1, .int x1, .int x2, .int x3, .int x4, .int x5, .ref a6, .int x7, .int x8, .int x9, .int x10, .int x11, .int x12, .int (x13 + 1), v14] [] σ Q else zCall d kX11_leadOfFirst [.ref 1, .int x4] σ (fun r σ' => zisN r = true ∧ zW (d + 1) kX11_choice 130 [.ref 1, .int x1, .int x2, .int x3, .int x4, .int x5, .ref a6, .int x7, .int x8, .int x9, .int x10, .int x11, .int x12, .int x13, v14] (zRstk r ++ []) σ' Q)) := by
  refine Iff.trans (zw_if_ne (t := 124) (show decode cX11_choice 118 = .ok (.ifCond .ne 6, 3) by decide +kernel) (by decide)) ?_
  refine zw_ite ?_ ?_
  · refine Iff.trans (zw_goto (t := 153) (show decode cX11_choice 121 = .ok (.goto 32, 3) by decide +kernel) (by decide)) ?_
    refine Iff.trans (zw_iinc (w := 1) (ls' := [.ref 1, .int x1, .int x2, .int x3, .int x4, .int x5, .ref a6, .int x7, .int x8, .int x9, .int x10, .int x11, .int x12, .int (x13 + 1), v14]) (show decode cX11_choice 153 = .ok (.iinc 13 1, 3) by decide +kernel) rfl (by decide) (zset_s (Nat.le_of_ble_eq_true rfl) rfl)) ?_
    refine Iff.trans (zw_goto (t := 86) (show decode cX11_choice 156 = .ok (.goto (-70), 3) by decide +kernel) (by decide)) ?_
    exact Iff.rfl
  · refine Iff.trans (zw_aload_n (show decode cX11_choice 124 = .ok (.aload_n 0, 1) by decide +kernel) rfl) ?_
    refine Iff.trans (zw_iload (show decode cX11_choice 125 = .ok (.iload 4, 2) by decide +kernel) rfl) ?_
    refine Iff.trans (zw_invV (K' := kX11_leadOfFirst) (as' := [.int x4]) (rest := []) (show decode cX11_choice 127 = .ok (.invokevirtual 322, 3) by decide +kernel) (by rfl) rfl rfl rfl (hl.k2 zk_1) (by decide) (hl.n2 zk_1) ⟨Nat.le_of_ble_eq_true rfl, Nat.le_of_ble_eq_true rfl, Nat.le_of_ble_eq_true rfl⟩) ?_
    exact Iff.rfl

theorem bX11_choice_130 {d : Nat} {σ : zS} {Q : Option Value → zS → Prop} (hl : zLay σ) {x1 x2 x3 x4 x5 x7 x8 x9 x10 x11 x12 x13 y0 : Int32} {a6 : Nat} {v14 : Value} (ha6 : zk a6 = 0) (hv14 : v14.category = 1) : zW (d + 1) kX11_choice 130 [.ref 1, .int x1, .int x2, .int x3, .int x4, .int x5, .ref a6, .int x7, .int x8, .int x9, .int x10, .int x11, .int x12, .int x13, v14] [.int y0] σ Q ↔ (if x11 = (-1) then zW (d + 1) kX11_choice 86 [.ref 1, .int x1, .int x2, .int x3, .int x4, .int x5, .ref a6, .int x7, .int x8, .int x9, .int x10, .int x13, .int y0, .int (x13 + 1), .int y0] [] σ Q else (if x12 ≤ y0 then zW (d + 1) kX11_choice 86 [.ref 1, .int x1, .int x2, .int x3, .int x4, .int x5, .ref a6, .int x7, .int x8, .int x9, .int x10, .int x11, .int x12, .int (x13 + 1), .int y0] [] σ Q else zW (d + 1) kX11_choice 86 [.ref 1, .int x1, .int x2, .int x3, .int x4, .int x5, .ref a6, .int x7, .int x8, .int x9, .int x10, .int x13, .int y0, .int (x13 + 1), .int y0] [] σ Q)) := by
  refine Iff.trans (zw_istore (ls' := [.ref 1, .int x1, .int x2, .int x3, .int x4, .int x5, .ref a6, .int x7, .int x8, .int x9, .int x10, .int x11, .int x12, .int x13, .int y0]) (show decode cX11_choice 130 = .ok (.istore 14, 2) by decide +kernel) (zset_s (Nat.le_of_ble_eq_true rfl) rfl)) ?_
  refine Iff.trans (zw_iload (show decode cX11_choice 132 = .ok (.iload 11, 2) by decide +kernel) rfl) ?_
  refine Iff.trans (zw_iconst (x := (-1)) (show decode cX11_choice 134 = .ok (.iconst (-1), 1) by decide +kernel) (by decide)) ?_
  refine Iff.trans (zw_icmp_eq (t := 145) (show decode cX11_choice 135 = .ok (.if_icmp .eq 10, 3) by decide +kernel) (by decide)) ?_
  refine zw_ite ?_ ?_
  · refine Iff.trans (zw_iload (show decode cX11_choice 145 = .ok (.iload 13, 2) by decide +kernel) rfl) ?_
    refine Iff.trans (zw_istore (ls' := [.ref 1, .int x1, .int x2, .int x3, .int x4, .int x5, .ref a6, .int x7, .int x8, .int x9, .int x10, .int x13, .int x12, .int x13, .int y0]) (show decode cX11_choice 147 = .ok (.istore 11, 2) by decide +kernel) (zset_s (Nat.le_of_ble_eq_true rfl) rfl)) ?_
    refine Iff.trans (zw_iload (show decode cX11_choice 149 = .ok (.iload 14, 2) by decide +kernel) rfl) ?_
    refine Iff.trans (zw_istore (ls' := [.ref 1, .int x1, .int x2, .int x3, .int x4, .int x5, .ref a6, .int x7, .int x8, .int x9, .int x10, .int x13, .int y0, .int x13, .int y0]) (show decode cX11_choice 151 = .ok (.istore 12, 2) by decide +kernel) (zset_s (Nat.le_of_ble_eq_true rfl) rfl)) ?_
    refine Iff.trans (zw_iinc (w := 1) (ls' := [.ref 1, .int x1, .int x2, .int x3, .int x4, .int x5, .ref a6, .int x7, .int x8, .int x9, .int x10, .int x13, .int y0, .int (x13 + 1), .int y0]) (show decode cX11_choice 153 = .ok (.iinc 13 1, 3) by decide +kernel) rfl (by decide) (zset_s (Nat.le_of_ble_eq_true rfl) rfl)) ?_
    refine Iff.trans (zw_goto (t := 86) (show decode cX11_choice 156 = .ok (.goto (-70), 3) by decide +kernel) (by decide)) ?_
    exact Iff.rfl
  · refine Iff.trans (zw_iload (show decode cX11_choice 138 = .ok (.iload 14, 2) by decide +kernel) rfl) ?_
    refine Iff.trans (zw_iload (show decode cX11_choice 140 = .ok (.iload 12, 2) by decide +kernel) rfl) ?_
    refine Iff.trans (zw_icmp_ge (t := 153) (show decode cX11_choice 142 = .ok (.if_icmp .ge 11, 3) by decide +kernel) (by decide)) ?_
    refine zw_ite ?_ ?_
    · refine Iff.trans (zw_iinc (w := 1) (ls' := [.ref 1, .int x1, .int x2, .int x3, .int x4, .int x5, .ref a6, .int x7, .int x8, .int x9, .int x10, .int x11, .int x12, .int (x13 + 1), .int y0]) (show decode cX11_choice 153 = .ok (.iinc 13 1, 3) by decide +kernel) rfl (by decide) (zset_s (Nat.le_of_ble_eq_true rfl) rfl)) ?_
      refine Iff.trans (zw_goto (t := 86) (show decode cX11_choice 156 = .ok (.goto (-70), 3) by decide +kernel) (by decide)) ?_
      exact Iff.rfl
    · refine Iff.trans (zw_iload (show decode cX11_choice 145 = .ok (.iload 13, 2) by decide +kernel) rfl) ?_
      refine Iff.trans (zw_istore (ls' := [.ref 1, .int x1, .int x2, .int x3, .int x4, .int x5, .ref a6, .int x7, .int x8, .int x9, .int x10, .int x13, .int x12, .int x13, .int y0]) (show decode cX11_choice 147 = .ok (.istore 11, 2) by decide +kernel) (zset_s (Nat.le_of_ble_eq_true rfl) rfl)) ?_
      refine Iff.trans (zw_iload (show decode cX11_choice 149 = .ok (.iload 14, 2) by decide +kernel) rfl) ?_
      refine Iff.trans (zw_istore (ls' := [.ref 1, .int x1, .int x2, .int x3, .int x4, .int x5, .ref a6, .int x7, .int x8, .int x9, .int x10, .int x13, .int y0, .int x13, .int y0]) (show decode cX11_choice 151 = .ok (.istore 12, 2) by decide +kernel) (zset_s (Nat.le_of_ble_eq_true rfl) rfl)) ?_
      refine Iff.trans (zw_iinc (w := 1) (ls' := [.ref 1, .int x1, .int x2, .int x3, .int x4, .int x5, .ref a6, .int x7, .int x8, .int x9, .int x10, .int x13, .int y0, .int (x13 + 1), .int y0]) (show decode cX11_choice 153 = .ok (.iinc 13 1, 3) by decide +kernel) rfl (by decide) (zset_s (Nat.le_of_ble_eq_true rfl) rfl)) ?_
      refine Iff.trans (zw_goto (t := 86) (show decode cX11_choice 156 = .ok (.goto (-70), 3) by decide +kernel) (by decide)) ?_
      exact Iff.rfl

theorem bX11_choice_178 {d : Nat} {σ : zS} {Q : Option Value → zS → Prop} (hl : zLay σ) {x1 x2 x3 x4 x5 x7 x8 x9 x10 x11 x12 x13 : Int32} {a6 : Nat} {v14 : Value} (ha6 : zk a6 = 0) (hv14 : v14.category = 1) : zW (d + 1) kX11_choice 178 [.ref 1, .int x1, .int x2, .int x3, .int x4, .int x5, .ref a6, .int x7, .int x8, .int x9, .int x10, .int x11, .int x12, .int x13, v14] [] σ Q ↔ zW (d + 1) kX11_choice 67 [.ref 1, .int x1, .int x2, .int x3, .int x4, .int x5, .ref a6, .int x10, .int x11, .int x12, .int (x10 + 1), .int x11, .int x12, .int x13, v14] [] σ Q := by
  refine Iff.trans (zw_iload (show decode cX11_choice 178 = .ok (.iload 10, 2) by decide +kernel) rfl) ?_
  refine Iff.trans (zw_istore (ls' := [.ref 1, .int x1, .int x2, .int x3, .int x4, .int x5, .ref a6, .int x10, .int x8, .int x9, .int x10, .int x11, .int x12, .int x13, v14]) (show decode cX11_choice 180 = .ok (.istore 7, 2) by decide +kernel) (zset_s (Nat.le_of_ble_eq_true rfl) rfl)) ?_
  refine Iff.trans (zw_iload (show decode cX11_choice 182 = .ok (.iload 11, 2) by decide +kernel) rfl) ?_
  refine Iff.trans (zw_istore (ls' := [.ref 1, .int x1, .int x2, .int x3, .int x4, .int x5, .ref a6, .int x10, .int x11, .int x9, .int x10, .int x11, .int x12, .int x13, v14]) (show decode cX11_choice 184 = .ok (.istore 8, 2) by decide +kernel) (zset_s (Nat.le_of_ble_eq_true rfl) rfl)) ?_
  refine Iff.trans (zw_iload (show decode cX11_choice 186 = .ok (.iload 12, 2) by decide +kernel) rfl) ?_
  refine Iff.trans (zw_istore (ls' := [.ref 1, .int x1, .int x2, .int x3, .int x4, .int x5, .ref a6, .int x10, .int x11, .int x12, .int x10, .int x11, .int x12, .int x13, v14]) (show decode cX11_choice 188 = .ok (.istore 9, 2) by decide +kernel) (zset_s (Nat.le_of_ble_eq_true rfl) rfl)) ?_
  refine Iff.trans (zw_iinc (w := 1) (ls' := [.ref 1, .int x1, .int x2, .int x3, .int x4, .int x5, .ref a6, .int x10, .int x11, .int x12, .int (x10 + 1), .int x11, .int x12, .int x13, v14]) (show decode cX11_choice 190 = .ok (.iinc 10 1, 3) by decide +kernel) rfl (by decide) (zset_s (Nat.le_of_ble_eq_true rfl) rfl)) ?_
  refine Iff.trans (zw_goto (t := 67) (show decode cX11_choice 193 = .ok (.goto (-126), 3) by decide +kernel) (by decide)) ?_
  exact Iff.rfl

theorem bX11_same_0 {d : Nat} {σ : zS} {Q : Option Value → zS → Prop} (hl : zLay σ) {x1 x2 x3 : Int32} : zCall (d + 1) kX11_same [.ref 1, .int x1, .int x2, .int x3] σ Q ↔ (if (zI σ 12 4) = (0 : Int32) then Q (some (.int (-1))) σ else (if x1 < (0 : Int32) then Q (some (.int (-1))) σ else (if 3 < x1 then Q (some (.int (-1))) σ else (if x2 < (0 : Int32) then Q (some (.int (-1))) σ else (if 3 < x2 then Q (some (.int (-1))) σ else zCall d kX11_noSeeds [.int x3] σ (fun r σ' => zisN r = true ∧ zW (d + 1) kX11_same 32 [.ref 1, .int x1, .int x2, .int x3, .retAddr 0, .retAddr 0] (zRstk r ++ []) σ' Q)))))) := by
  show zW (d + 1) kX11_same 0 [.ref 1, .int x1, .int x2, .int x3, .retAddr 0, .retAddr 0] [] σ Q ↔ _
  refine Iff.trans (zw_aload_n (show decode cX11_same 0 = .ok (.aload_n 0, 1) by decide +kernel) rfl) ?_
  refine Iff.trans (zw_get (show decode cX11_same 1 = .ok (.getfield 48, 3) by decide +kernel) (by decide +kernel : zfld 11 48 = some (11, 8)) (hl.k2 zk_1) (hl.n2 zk_1) (zgetR (v := 12) (hl.r zrt_1_8) rfl)) ?_
  refine Iff.trans (zw_getI (show decode cX11_same 4 = .ok (.getfield 200, 3) by decide +kernel) (by decide +kernel : zfld 11 200 = some (2, 4)) (hl.k2 zk_12) (hl.n2 zk_12) (Or.inl rfl) (w := zI σ 12 4) rfl) ?_
  refine Iff.trans (zw_if_eq (t := 35) (show decode cX11_same 7 = .ok (.ifCond .eq 28, 3) by decide +kernel) (by decide)) ?_
  refine zw_ite ?_ ?_
  · refine Iff.trans (zw_iconst (x := (-1)) (show decode cX11_same 35 = .ok (.iconst (-1), 1) by decide +kernel) (by decide)) ?_
    exact zw_iret1 (show decode cX11_same 36 = .ok (.ireturn, 1) by decide +kernel) rfl
  · refine Iff.trans (zw_iload_n (show decode cX11_same 10 = .ok (.iload_n 1, 1) by decide +kernel) rfl) ?_
    refine Iff.trans (zw_if_lt (t := 35) (show decode cX11_same 11 = .ok (.ifCond .lt 24, 3) by decide +kernel) (by decide)) ?_
    refine zw_ite ?_ ?_
    · refine Iff.trans (zw_iconst (x := (-1)) (show decode cX11_same 35 = .ok (.iconst (-1), 1) by decide +kernel) (by decide)) ?_
      exact zw_iret1 (show decode cX11_same 36 = .ok (.ireturn, 1) by decide +kernel) rfl
    · refine Iff.trans (zw_iload_n (show decode cX11_same 14 = .ok (.iload_n 1, 1) by decide +kernel) rfl) ?_
      refine Iff.trans (zw_iconst (x := 3) (show decode cX11_same 15 = .ok (.iconst 3, 1) by decide +kernel) (by decide)) ?_
      refine Iff.trans (zw_icmp_gt (t := 35) (show decode cX11_same 16 = .ok (.if_icmp .gt 19, 3) by decide +kernel) (by decide)) ?_
      refine zw_ite ?_ ?_
      · refine Iff.trans (zw_iconst (x := (-1)) (show decode cX11_same 35 = .ok (.iconst (-1), 1) by decide +kernel) (by decide)) ?_
        exact zw_iret1 (show decode cX11_same 36 = .ok (.ireturn, 1) by decide +kernel) rfl
      · refine Iff.trans (zw_iload_n (show decode cX11_same 19 = .ok (.iload_n 2, 1) by decide +kernel) rfl) ?_
        refine Iff.trans (zw_if_lt (t := 35) (show decode cX11_same 20 = .ok (.ifCond .lt 15, 3) by decide +kernel) (by decide)) ?_
        refine zw_ite ?_ ?_
        · refine Iff.trans (zw_iconst (x := (-1)) (show decode cX11_same 35 = .ok (.iconst (-1), 1) by decide +kernel) (by decide)) ?_
          exact zw_iret1 (show decode cX11_same 36 = .ok (.ireturn, 1) by decide +kernel) rfl
        · refine Iff.trans (zw_iload_n (show decode cX11_same 23 = .ok (.iload_n 2, 1) by decide +kernel) rfl) ?_
          refine Iff.trans (zw_iconst (x := 3) (show decode cX11_same 24 = .ok (.iconst 3, 1) by decide +kernel) (by decide)) ?_
          refine Iff.trans (zw_icmp_gt (t := 35) (show decode cX11_same 25 = .ok (.if_icmp .gt 10, 3) by decide +kernel) (by decide)) ?_
          refine zw_ite ?_ ?_
          · refine Iff.trans (zw_iconst (x := (-1)) (show decode cX11_same 35 = .ok (.iconst (-1), 1) by decide +kernel) (by decide)) ?_
            exact zw_iret1 (show decode cX11_same 36 = .ok (.ireturn, 1) by decide +kernel) rfl
          · refine Iff.trans (zw_iload_n (show decode cX11_same 28 = .ok (.iload_n 3, 1) by decide +kernel) rfl) ?_
            refine Iff.trans (zw_invS (K' := kX11_noSeeds) (as := [.int x3]) (rest := []) (show decode cX11_same 29 = .ok (.invokestatic 285, 3) by decide +kernel) (by rfl) rfl rfl rfl ⟨Nat.le_of_ble_eq_true rfl, Nat.le_of_ble_eq_true rfl, Nat.le_of_ble_eq_true rfl⟩) ?_
            exact Iff.rfl

theorem bX11_same_32 {d : Nat} {σ : zS} {Q : Option Value → zS → Prop} (hl : zLay σ) {x1 x2 x3 y0 : Int32} : zW (d + 1) kX11_same 32 [.ref 1, .int x1, .int x2, .int x3, .retAddr 0, .retAddr 0] [.int y0] σ Q ↔ (if y0 = (0 : Int32) then zCall d kX11_turnRunners [.ref 1, .int 0] σ (fun r σ' => zisN r = true ∧ zW (d + 1) kX11_same 42 [.ref 1, .int x1, .int x2, .int x3, .retAddr 0, .retAddr 0] (zRstk r ++ []) σ' Q) else Q (some (.int (-1))) σ) := by
  refine Iff.trans (zw_if_eq (t := 37) (show decode cX11_same 32 = .ok (.ifCond .eq 5, 3) by decide +kernel) (by decide)) ?_
  refine zw_ite ?_ ?_
  · refine Iff.trans (zw_aload_n (show decode cX11_same 37 = .ok (.aload_n 0, 1) by decide +kernel) rfl) ?_
    refine Iff.trans (zw_iconst (x := 0) (show decode cX11_same 38 = .ok (.iconst 0, 1) by decide +kernel) (by decide)) ?_
    refine Iff.trans (zw_invV (K' := kX11_turnRunners) (as' := [.int 0]) (rest := []) (show decode cX11_same 39 = .ok (.invokevirtual 325, 3) by decide +kernel) (by rfl) rfl rfl rfl (hl.k2 zk_1) (by decide) (hl.n2 zk_1) ⟨Nat.le_of_ble_eq_true rfl, Nat.le_of_ble_eq_true rfl, Nat.le_of_ble_eq_true rfl⟩) ?_
    exact Iff.rfl
  · refine Iff.trans (zw_iconst (x := (-1)) (show decode cX11_same 35 = .ok (.iconst (-1), 1) by decide +kernel) (by decide)) ?_
    exact zw_iret1 (show decode cX11_same 36 = .ok (.ireturn, 1) by decide +kernel) rfl

theorem bX11_same_42 {d : Nat} {σ : zS} {Q : Option Value → zS → Prop} (hl : zLay σ) {x1 x2 x3 : Int32} : zW (d + 1) kX11_same 42 [.ref 1, .int x1, .int x2, .int x3, .retAddr 0, .retAddr 0] [] σ Q ↔ zCall d kX2_fits [.ref 60, .int x1] σ (fun r σ' => zisN r = true ∧ zW (d + 1) kX11_same 50 [.ref 1, .int x1, .int x2, .int x3, .retAddr 0, .retAddr 0] (zRstk r ++ []) σ' Q) := by
  refine Iff.trans (zw_aload_n (show decode cX11_same 42 = .ok (.aload_n 0, 1) by decide +kernel) rfl) ?_
  refine Iff.trans (zw_get (show decode cX11_same 43 = .ok (.getfield 65, 3) by decide +kernel) (by decide +kernel : zfld 11 65 = some (11, 12)) (hl.k2 zk_1) (hl.n2 zk_1) (zgetR (v := 60) (hl.r zrt_1_12) rfl)) ?_
  refine Iff.trans (zw_iload_n (show decode cX11_same 46 = .ok (.iload_n 1, 1) by decide +kernel) rfl) ?_
  refine Iff.trans (zw_invV (K' := kX2_fits) (as' := [.int x1]) (rest := []) (show decode cX11_same 47 = .ok (.invokevirtual 224, 3) by decide +kernel) (by rfl) rfl rfl rfl (hl.k2 zk_60) (by decide) (hl.n2 zk_60) ⟨Nat.le_of_ble_eq_true rfl, Nat.le_of_ble_eq_true rfl, Nat.le_of_ble_eq_true rfl⟩) ?_
  exact Iff.rfl

theorem bX11_same_50 {d : Nat} {σ : zS} {Q : Option Value → zS → Prop} (hl : zLay σ) {x1 x2 x3 y0 : Int32} : zW (d + 1) kX11_same 50 [.ref 1, .int x1, .int x2, .int x3, .retAddr 0, .retAddr 0] [.int y0] σ Q ↔ (if y0 = (0 : Int32) then Q (some (.int (-1))) σ else zCall d kX2_fits [.ref 60, .int x2] σ (fun r σ' => zisN r = true ∧ zW (d + 1) kX11_same 61 [.ref 1, .int x1, .int x2, .int x3, .retAddr 0, .retAddr 0] (zRstk r ++ []) σ' Q)) := by
  refine Iff.trans (zw_if_eq (t := 64) (show decode cX11_same 50 = .ok (.ifCond .eq 14, 3) by decide +kernel) (by decide)) ?_
  refine zw_ite ?_ ?_
  · refine Iff.trans (zw_iconst (x := (-1)) (show decode cX11_same 64 = .ok (.iconst (-1), 1) by decide +kernel) (by decide)) ?_
    exact zw_iret1 (show decode cX11_same 65 = .ok (.ireturn, 1) by decide +kernel) rfl
  · refine Iff.trans (zw_aload_n (show decode cX11_same 53 = .ok (.aload_n 0, 1) by decide +kernel) rfl) ?_
    refine Iff.trans (zw_get (show decode cX11_same 54 = .ok (.getfield 65, 3) by decide +kernel) (by decide +kernel : zfld 11 65 = some (11, 12)) (hl.k2 zk_1) (hl.n2 zk_1) (zgetR (v := 60) (hl.r zrt_1_12) rfl)) ?_
    refine Iff.trans (zw_iload_n (show decode cX11_same 57 = .ok (.iload_n 2, 1) by decide +kernel) rfl) ?_
    refine Iff.trans (zw_invV (K' := kX2_fits) (as' := [.int x2]) (rest := []) (show decode cX11_same 58 = .ok (.invokevirtual 224, 3) by decide +kernel) (by rfl) rfl rfl rfl (hl.k2 zk_60) (by decide) (hl.n2 zk_60) ⟨Nat.le_of_ble_eq_true rfl, Nat.le_of_ble_eq_true rfl, Nat.le_of_ble_eq_true rfl⟩) ?_
    exact Iff.rfl

theorem bX11_same_61 {d : Nat} {σ : zS} {Q : Option Value → zS → Prop} (hl : zLay σ) {x1 x2 x3 y0 : Int32} : zW (d + 1) kX11_same 61 [.ref 1, .int x1, .int x2, .int x3, .retAddr 0, .retAddr 0] [.int y0] σ Q ↔ (if y0 = (0 : Int32) then Q (some (.int (-1))) σ else zW (d + 1) kX11_same 72 [.ref 1, .int x1, .int x2, .int x3, .int 0, .int 0] [] σ Q) := by
  refine Iff.trans (zw_if_ne (t := 66) (show decode cX11_same 61 = .ok (.ifCond .ne 5, 3) by decide +kernel) (by decide)) ?_
  refine zw_ite ?_ ?_
  · refine Iff.trans (zw_iconst (x := (-1)) (show decode cX11_same 64 = .ok (.iconst (-1), 1) by decide +kernel) (by decide)) ?_
    exact zw_iret1 (show decode cX11_same 65 = .ok (.ireturn, 1) by decide +kernel) rfl
  · refine Iff.trans (zw_iconst (x := 0) (show decode cX11_same 66 = .ok (.iconst 0, 1) by decide +kernel) (by decide)) ?_
    refine Iff.trans (zw_istore (ls' := [.ref 1, .int x1, .int x2, .int x3, .int 0, .retAddr 0]) (show decode cX11_same 67 = .ok (.istore 4, 2) by decide +kernel) (zset_s (Nat.le_of_ble_eq_true rfl) rfl)) ?_
    refine Iff.trans (zw_iconst (x := 0) (show decode cX11_same 69 = .ok (.iconst 0, 1) by decide +kernel) (by decide)) ?_
    refine Iff.trans (zw_istore (ls' := [.ref 1, .int x1, .int x2, .int x3, .int 0, .int 0]) (show decode cX11_same 70 = .ok (.istore 5, 2) by decide +kernel) (zset_s (Nat.le_of_ble_eq_true rfl) rfl)) ?_
    exact Iff.rfl

theorem bX11_same_72 {d : Nat} {σ : zS} {Q : Option Value → zS → Prop} (hl : zLay σ) {x1 x2 x3 x4 x5 : Int32} : zW (d + 1) kX11_same 72 [.ref 1, .int x1, .int x2, .int x3, .int x4, .int x5] [] σ Q ↔ (if x3 ≤ x5 then Q (some (.int x4)) σ else zCall d kX11_placesWith [.ref 1, .int x1, .int x5] σ (fun r σ' => zisN r = true ∧ zW (d + 1) kX11_same 85 [.ref 1, .int x1, .int x2, .int x3, .int x4, .int x5] (zRstk r ++ []) σ' Q)) := by
  refine Iff.trans (zw_iload (show decode cX11_same 72 = .ok (.iload 5, 2) by decide +kernel) rfl) ?_
  refine Iff.trans (zw_iload_n (show decode cX11_same 74 = .ok (.iload_n 3, 1) by decide +kernel) rfl) ?_
  refine Iff.trans (zw_icmp_ge (t := 104) (show decode cX11_same 75 = .ok (.if_icmp .ge 29, 3) by decide +kernel) (by decide)) ?_
  refine zw_ite ?_ ?_
  · refine Iff.trans (zw_iload (show decode cX11_same 104 = .ok (.iload 4, 2) by decide +kernel) rfl) ?_
    exact zw_iret1 (show decode cX11_same 106 = .ok (.ireturn, 1) by decide +kernel) rfl
  · refine Iff.trans (zw_aload_n (show decode cX11_same 78 = .ok (.aload_n 0, 1) by decide +kernel) rfl) ?_
    refine Iff.trans (zw_iload_n (show decode cX11_same 79 = .ok (.iload_n 1, 1) by decide +kernel) rfl) ?_
    refine Iff.trans (zw_iload (show decode cX11_same 80 = .ok (.iload 5, 2) by decide +kernel) rfl) ?_
    refine Iff.trans (zw_invV (K' := kX11_placesWith) (as' := [.int x1, .int x5]) (rest := []) (show decode cX11_same 82 = .ok (.invokevirtual 328, 3) by decide +kernel) (by rfl) rfl rfl rfl (hl.k2 zk_1) (by decide) (hl.n2 zk_1) ⟨Nat.le_of_ble_eq_true rfl, Nat.le_of_ble_eq_true rfl, Nat.le_of_ble_eq_true rfl⟩) ?_
    exact Iff.rfl

theorem bX11_same_85 {d : Nat} {σ : zS} {Q : Option Value → zS → Prop} (hl : zLay σ) {x1 x2 x3 x4 x5 y0 : Int32} : zW (d + 1) kX11_same 85 [.ref 1, .int x1, .int x2, .int x3, .int x4, .int x5] [.int y0] σ Q ↔ zCall d kX11_placesWith [.ref 1, .int x2, .int x5] σ (fun r σ' => zisN r = true ∧ zW (d + 1) kX11_same 92 [.ref 1, .int x1, .int x2, .int x3, .int x4, .int x5] (zRstk r ++ [.int y0]) σ' Q) := by
  refine Iff.trans (zw_aload_n (show decode cX11_same 85 = .ok (.aload_n 0, 1) by decide +kernel) rfl) ?_
  refine Iff.trans (zw_iload_n (show decode cX11_same 86 = .ok (.iload_n 2, 1) by decide +kernel) rfl) ?_
  refine Iff.trans (zw_iload (show decode cX11_same 87 = .ok (.iload 5, 2) by decide +kernel) rfl) ?_
  refine Iff.trans (zw_invV (K' := kX11_placesWith) (as' := [.int x2, .int x5]) (rest := [.int y0]) (show decode cX11_same 89 = .ok (.invokevirtual 328, 3) by decide +kernel) (by rfl) rfl rfl rfl (hl.k2 zk_1) (by decide) (hl.n2 zk_1) ⟨Nat.le_of_ble_eq_true rfl, Nat.le_of_ble_eq_true rfl, Nat.le_of_ble_eq_true rfl⟩) ?_
  exact Iff.rfl

theorem bX11_same_92 {d : Nat} {σ : zS} {Q : Option Value → zS → Prop} (hl : zLay σ) {x1 x2 x3 x4 x5 y0 y1 : Int32} : zW (d + 1) kX11_same 92 [.ref 1, .int x1, .int x2, .int x3, .int x4, .int x5] [.int y0, .int y1] σ Q ↔ (if y1 = y0 then zW (d + 1) kX11_same 72 [.ref 1, .int x1, .int x2, .int x3, .int (x4 + 1), .int (x5 + 1)] [] σ Q else zW (d + 1) kX11_same 72 [.ref 1, .int x1, .int x2, .int x3, .int x4, .int (x5 + 1)] [] σ Q) := by
  refine Iff.trans (zw_icmp_ne (t := 98) (show decode cX11_same 92 = .ok (.if_icmp .ne 6, 3) by decide +kernel) (by decide)) ?_
  refine zw_ite ?_ ?_
  · refine Iff.trans (zw_iinc (w := 1) (ls' := [.ref 1, .int x1, .int x2, .int x3, .int (x4 + 1), .int x5]) (show decode cX11_same 95 = .ok (.iinc 4 1, 3) by decide +kernel) rfl (by decide) (zset_s (Nat.le_of_ble_eq_true rfl) rfl)) ?_
    refine Iff.trans (zw_iinc (w := 1) (ls' := [.ref 1, .int x1, .int x2, .int x3, .int (x4 + 1), .int (x5 + 1)]) (show decode cX11_same 98 = .ok (.iinc 5 1, 3) by decide +kernel) rfl (by decide) (zset_s (Nat.le_of_ble_eq_true rfl) rfl)) ?_
    refine Iff.trans (zw_goto (t := 72) (show decode cX11_same 101 = .ok (.goto (-29), 3) by decide +kernel) (by decide)) ?_
    exact Iff.rfl
  · refine Iff.trans (zw_iinc (w := 1) (ls' := [.ref 1, .int x1, .int x2, .int x3, .int x4, .int (x5 + 1)]) (show decode cX11_same 98 = .ok (.iinc 5 1, 3) by decide +kernel) rfl (by decide) (zset_s (Nat.le_of_ble_eq_true rfl) rfl)) ?_
    refine Iff.trans (zw_goto (t := 72) (show decode cX11_same 101 = .ok (.goto (-29), 3) by decide +kernel) (by decide)) ?_
    exact Iff.rfl

theorem bX11_placesWith_0 {d : Nat} {σ : zS} {Q : Option Value → zS → Prop} (hl : zLay σ) {x1 x2 : Int32} : zCall (d + 1) kX11_placesWith [.ref 1, .int x1, .int x2] σ Q ↔ zCall d kX2_begin [.ref 60, .long ((x2 : Int32).toInt64)] (zsI σ 11 (upd (upd (upd (zI σ 11) 0 (zI σ 10 0)) 2 (zI σ 10 2)) 1 x1)) (fun r σ' => zisN r = true ∧ zW (d + 1) kX11_placesWith 45 [.ref 1, .int x1, .int x2, .retAddr 0, .retAddr 0] (zRstk r ++ []) σ' Q) := by
  show zW (d + 1) kX11_placesWith 0 [.ref 1, .int x1, .int x2, .retAddr 0, .retAddr 0] [] σ Q ↔ _
  refine Iff.trans (zw_aload_n (show decode cX11_placesWith 0 = .ok (.aload_n 0, 1) by decide +kernel) rfl) ?_
  refine Iff.trans (zw_get (show decode cX11_placesWith 1 = .ok (.getfield 42, 3) by decide +kernel) (by decide +kernel : zfld 11 42 = some (11, 7)) (hl.k2 zk_1) (hl.n2 zk_1) (zgetR (v := 11) (hl.r zrt_1_7) rfl)) ?_
  refine Iff.trans (zw_aload_n (show decode cX11_placesWith 4 = .ok (.aload_n 0, 1) by decide +kernel) rfl) ?_
  refine Iff.trans (zw_get (show decode cX11_placesWith 5 = .ok (.getfield 38, 3) by decide +kernel) (by decide +kernel : zfld 11 38 = some (11, 6)) (hl.k2 zk_1) (hl.n2 zk_1) (zgetR (v := 10) (hl.r zrt_1_6) rfl)) ?_
  refine Iff.trans (zw_getI (show decode cX11_placesWith 8 = .ok (.getfield 190, 3) by decide +kernel) (by decide +kernel : zfld 11 190 = some (10, 0)) (hl.k2 zk_10) (hl.n2 zk_10) (Or.inl rfl) (w := zI σ 10 0) rfl) ?_
  refine Iff.trans (zw_putI (show decode cX11_placesWith 11 = .ok (.putfield 190, 3) by decide +kernel) (by decide +kernel : zfld 11 190 = some (10, 0)) (hl.k2 zk_11) (hl.n2 zk_11) rfl (Or.inl rfl) (σ' := (zsI σ 11 (upd (zI σ 11) 0 (zI σ 10 0)))) rfl) ?_
  refine Iff.trans (zw_aload_n (show decode cX11_placesWith 14 = .ok (.aload_n 0, 1) by decide +kernel) rfl) ?_
  refine Iff.trans (zw_get (show decode cX11_placesWith 15 = .ok (.getfield 42, 3) by decide +kernel) (by decide +kernel : zfld 11 42 = some (11, 7)) (hl.I.k2 zk_1) (hl.I.n2 zk_1) (zgetR (v := 11) (hl.I.r zrt_1_7) rfl)) ?_
  refine Iff.trans (zw_aload_n (show decode cX11_placesWith 18 = .ok (.aload_n 0, 1) by decide +kernel) rfl) ?_
  refine Iff.trans (zw_get (show decode cX11_placesWith 19 = .ok (.getfield 38, 3) by decide +kernel) (by decide +kernel : zfld 11 38 = some (11, 6)) (hl.I.k2 zk_1) (hl.I.n2 zk_1) (zgetR (v := 10) (hl.I.r zrt_1_6) rfl)) ?_
  refine Iff.trans (zw_getI (show decode cX11_placesWith 22 = .ok (.getfield 193, 3) by decide +kernel) (by decide +kernel : zfld 11 193 = some (10, 2)) (hl.I.k2 zk_10) (hl.I.n2 zk_10) (Or.inl rfl) (w := zI σ 10 2) (congrFun (zI_ne (by decide)) 2)) ?_
  refine Iff.trans (zw_putI (show decode cX11_placesWith 25 = .ok (.putfield 193, 3) by decide +kernel) (by decide +kernel : zfld 11 193 = some (10, 2)) (hl.I.k2 zk_11) (hl.I.n2 zk_11) rfl (Or.inl rfl) (σ' := (zsI σ 11 (upd (upd (zI σ 11) 0 (zI σ 10 0)) 2 (zI σ 10 2)))) (Eq.trans (congrArg (fun f => zsI (zsI σ 11 (upd (zI σ 11) 0 (zI σ 10 0))) 11 (upd f 2 (zI σ 10 2))) zI_self) zsI_s)) ?_
  refine Iff.trans (zw_aload_n (show decode cX11_placesWith 28 = .ok (.aload_n 0, 1) by decide +kernel) rfl) ?_
  refine Iff.trans (zw_get (show decode cX11_placesWith 29 = .ok (.getfield 42, 3) by decide +kernel) (by decide +kernel : zfld 11 42 = some (11, 7)) (hl.I.k2 zk_1) (hl.I.n2 zk_1) (zgetR (v := 11) (hl.I.r zrt_1_7) rfl)) ?_
  refine Iff.trans (zw_iload_n (show decode cX11_placesWith 32 = .ok (.iload_n 1, 1) by decide +kernel) rfl) ?_
  refine Iff.trans (zw_putI (show decode cX11_placesWith 33 = .ok (.putfield 180, 3) by decide +kernel) (by decide +kernel : zfld 11 180 = some (10, 1)) (hl.I.k2 zk_11) (hl.I.n2 zk_11) rfl (Or.inl rfl) (σ' := (zsI σ 11 (upd (upd (upd (zI σ 11) 0 (zI σ 10 0)) 2 (zI σ 10 2)) 1 x1))) (Eq.trans (congrArg (fun f => zsI (zsI σ 11 (upd (upd (zI σ 11) 0 (zI σ 10 0)) 2 (zI σ 10 2))) 11 (upd f 1 x1)) zI_self) zsI_s)) ?_
  refine Iff.trans (zw_aload_n (show decode cX11_placesWith 36 = .ok (.aload_n 0, 1) by decide +kernel) rfl) ?_
  refine Iff.trans (zw_get (show decode cX11_placesWith 37 = .ok (.getfield 65, 3) by decide +kernel) (by decide +kernel : zfld 11 65 = some (11, 12)) (hl.I.k2 zk_1) (hl.I.n2 zk_1) (zgetR (v := 60) (hl.I.r zrt_1_12) rfl)) ?_
  refine Iff.trans (zw_iload_n (show decode cX11_placesWith 40 = .ok (.iload_n 2, 1) by decide +kernel) rfl) ?_
  refine Iff.trans (zw_i2l (show decode cX11_placesWith 41 = .ok (.i2l, 1) by decide +kernel)) ?_
  refine Iff.trans (zw_invV (K' := kX2_begin) (as' := [.long ((x2 : Int32).toInt64)]) (rest := []) (show decode cX11_placesWith 42 = .ok (.invokevirtual 227, 3) by decide +kernel) (by rfl) rfl rfl rfl (hl.I.k2 zk_60) (by decide) (hl.I.n2 zk_60) ⟨Nat.le_of_ble_eq_true rfl, Nat.le_of_ble_eq_true rfl, Nat.le_of_ble_eq_true rfl⟩) ?_
  exact Iff.rfl

theorem bX11_placesWith_45 {d : Nat} {σ : zS} {Q : Option Value → zS → Prop} (hl : zLay σ) {x1 x2 : Int32} : zW (d + 1) kX11_placesWith 45 [.ref 1, .int x1, .int x2, .retAddr 0, .retAddr 0] [] σ Q ↔ zCall d kX2_run [.ref 60, .int 60, .ref 11] σ (fun r σ' => zisN r = true ∧ zW (d + 1) kX11_placesWith 58 [.ref 1, .int x1, .int x2, .retAddr 0, .retAddr 0] (zRstk r ++ []) σ' Q) := by
  refine Iff.trans (zw_aload_n (show decode cX11_placesWith 45 = .ok (.aload_n 0, 1) by decide +kernel) rfl) ?_
  refine Iff.trans (zw_get (show decode cX11_placesWith 46 = .ok (.getfield 65, 3) by decide +kernel) (by decide +kernel : zfld 11 65 = some (11, 12)) (hl.k2 zk_1) (hl.n2 zk_1) (zgetR (v := 60) (hl.r zrt_1_12) rfl)) ?_
  refine Iff.trans (zw_bipush (x := 60) (show decode cX11_placesWith 49 = .ok (.bipush 60, 2) by decide +kernel) (by decide)) ?_
  refine Iff.trans (zw_aload_n (show decode cX11_placesWith 51 = .ok (.aload_n 0, 1) by decide +kernel) rfl) ?_
  refine Iff.trans (zw_get (show decode cX11_placesWith 52 = .ok (.getfield 42, 3) by decide +kernel) (by decide +kernel : zfld 11 42 = some (11, 7)) (hl.k2 zk_1) (hl.n2 zk_1) (zgetR (v := 11) (hl.r zrt_1_7) rfl)) ?_
  refine Iff.trans (zw_invV (K' := kX2_run) (as' := [.int 60, .ref 11]) (rest := []) (show decode cX11_placesWith 55 = .ok (.invokevirtual 239, 3) by decide +kernel) (by rfl) rfl rfl rfl (hl.k2 zk_60) (by decide) (hl.n2 zk_60) ⟨Nat.le_of_ble_eq_true rfl, Nat.le_of_ble_eq_true rfl, Nat.le_of_ble_eq_true rfl⟩) ?_
  exact Iff.rfl

theorem bX11_placesWith_58 {d : Nat} {σ : zS} {Q : Option Value → zS → Prop} (hl : zLay σ) {x1 x2 : Int32} : zW (d + 1) kX11_placesWith 58 [.ref 1, .int x1, .int x2, .retAddr 0, .retAddr 0] [] σ Q ↔ zW (d + 1) kX11_placesWith 63 [.ref 1, .int x1, .int x2, .int 0, .int 0] [] σ Q := by
  refine Iff.trans (zw_iconst (x := 0) (show decode cX11_placesWith 58 = .ok (.iconst 0, 1) by decide +kernel) (by decide)) ?_
  refine Iff.trans (zw_istore_n (ls' := [.ref 1, .int x1, .int x2, .int 0, .retAddr 0]) (show decode cX11_placesWith 59 = .ok (.istore_n 3, 1) by decide +kernel) (zset_s (Nat.le_of_ble_eq_true rfl) rfl)) ?_
  refine Iff.trans (zw_iconst (x := 0) (show decode cX11_placesWith 60 = .ok (.iconst 0, 1) by decide +kernel) (by decide)) ?_
  refine Iff.trans (zw_istore (ls' := [.ref 1, .int x1, .int x2, .int 0, .int 0]) (show decode cX11_placesWith 61 = .ok (.istore 4, 2) by decide +kernel) (zset_s (Nat.le_of_ble_eq_true rfl) rfl)) ?_
  exact Iff.rfl

theorem bX11_placesWith_63 {d : Nat} {σ : zS} {Q : Option Value → zS → Prop} (hl : zLay σ) {x1 x2 x3 x4 : Int32} : zW (d + 1) kX11_placesWith 63 [.ref 1, .int x1, .int x2, .int x3, .int x4] [] σ Q ↔ (if (zI σ 60 4) ≤ x4 then Q (some (.int x3)) σ else zCall d kX2_placeOf [.ref 60, .int x4] σ (fun r σ' => zisN r = true ∧ zW (d + 1) kX11_placesWith 87 [.ref 1, .int x1, .int x2, .int x3, .int x4] (zRstk r ++ [.int (x3 <<< (3 &&& 31))]) σ' Q)) := by
  refine Iff.trans (zw_iload (show decode cX11_placesWith 63 = .ok (.iload 4, 2) by decide +kernel) rfl) ?_
  refine Iff.trans (zw_aload_n (show decode cX11_placesWith 65 = .ok (.aload_n 0, 1) by decide +kernel) rfl) ?_
  refine Iff.trans (zw_get (show decode cX11_placesWith 66 = .ok (.getfield 65, 3) by decide +kernel) (by decide +kernel : zfld 11 65 = some (11, 12)) (hl.k2 zk_1) (hl.n2 zk_1) (zgetR (v := 60) (hl.r zrt_1_12) rfl)) ?_
  refine Iff.trans (zw_getI (show decode cX11_placesWith 69 = .ok (.getfield 200, 3) by decide +kernel) (by decide +kernel : zfld 11 200 = some (2, 4)) (hl.k2 zk_60) (hl.n2 zk_60) (Or.inl rfl) (w := zI σ 60 4) rfl) ?_
  refine Iff.trans (zw_icmp_ge (t := 95) (show decode cX11_placesWith 72 = .ok (.if_icmp .ge 23, 3) by decide +kernel) (by decide)) ?_
  refine zw_ite ?_ ?_
  · refine Iff.trans (zw_iload_n (show decode cX11_placesWith 95 = .ok (.iload_n 3, 1) by decide +kernel) rfl) ?_
    exact zw_iret1 (show decode cX11_placesWith 96 = .ok (.ireturn, 1) by decide +kernel) rfl
  · refine Iff.trans (zw_iload_n (show decode cX11_placesWith 75 = .ok (.iload_n 3, 1) by decide +kernel) rfl) ?_
    refine Iff.trans (zw_iconst (x := 3) (show decode cX11_placesWith 76 = .ok (.iconst 3, 1) by decide +kernel) (by decide)) ?_
    refine Iff.trans (zw_ishl (show decode cX11_placesWith 77 = .ok (.ishl, 1) by decide +kernel)) ?_
    refine Iff.trans (zw_aload_n (show decode cX11_placesWith 78 = .ok (.aload_n 0, 1) by decide +kernel) rfl) ?_
    refine Iff.trans (zw_get (show decode cX11_placesWith 79 = .ok (.getfield 65, 3) by decide +kernel) (by decide +kernel : zfld 11 65 = some (11, 12)) (hl.k2 zk_1) (hl.n2 zk_1) (zgetR (v := 60) (hl.r zrt_1_12) rfl)) ?_
    refine Iff.trans (zw_iload (show decode cX11_placesWith 82 = .ok (.iload 4, 2) by decide +kernel) rfl) ?_
    refine Iff.trans (zw_invV (K' := kX2_placeOf) (as' := [.int x4]) (rest := [.int (x3 <<< (3 &&& 31))]) (show decode cX11_placesWith 84 = .ok (.invokevirtual 264, 3) by decide +kernel) (by rfl) rfl rfl rfl (hl.k2 zk_60) (by decide) (hl.n2 zk_60) ⟨Nat.le_of_ble_eq_true rfl, Nat.le_of_ble_eq_true rfl, Nat.le_of_ble_eq_true rfl⟩) ?_
    exact Iff.rfl

theorem bX11_placesWith_87 {d : Nat} {σ : zS} {Q : Option Value → zS → Prop} (hl : zLay σ) {x1 x2 x3 x4 y0 y1 : Int32} : zW (d + 1) kX11_placesWith 87 [.ref 1, .int x1, .int x2, .int x3, .int x4] [.int y0, .int y1] σ Q ↔ zW (d + 1) kX11_placesWith 63 [.ref 1, .int x1, .int x2, .int (y1 ||| y0), .int (x4 + 1)] [] σ Q := by
  refine Iff.trans (zw_ior (show decode cX11_placesWith 87 = .ok (.ior, 1) by decide +kernel)) ?_
  refine Iff.trans (zw_istore_n (ls' := [.ref 1, .int x1, .int x2, .int (y1 ||| y0), .int x4]) (show decode cX11_placesWith 88 = .ok (.istore_n 3, 1) by decide +kernel) (zset_s (Nat.le_of_ble_eq_true rfl) rfl)) ?_
  refine Iff.trans (zw_iinc (w := 1) (ls' := [.ref 1, .int x1, .int x2, .int (y1 ||| y0), .int (x4 + 1)]) (show decode cX11_placesWith 89 = .ok (.iinc 4 1, 3) by decide +kernel) rfl (by decide) (zset_s (Nat.le_of_ble_eq_true rfl) rfl)) ?_
  refine Iff.trans (zw_goto (t := 63) (show decode cX11_placesWith 92 = .ok (.goto (-29), 3) by decide +kernel) (by decide)) ?_
  exact Iff.rfl

theorem bX11_carved_0 {d : Nat} {σ : zS} {Q : Option Value → zS → Prop} (hl : zLay σ) {x1 x2 x3 x4 : Int32} : zCall (d + 1) kX11_carved [.ref 1, .int x1, .int x2, .int x3, .int x4] σ Q ↔ zCall d kX11_noBrook [.ref 1, .int x1] σ (fun r σ' => zisN r = true ∧ zW (d + 1) kX11_carved 5 [.ref 1, .int x1, .int x2, .int x3, .int x4, .retAddr 0, .retAddr 0, .retAddr 0, .retAddr 0, .retAddr 0, .retAddr 0, .retAddr 0, .retAddr 0, .retAddr 0] (zRstk r ++ []) σ' Q) := by
  show zW (d + 1) kX11_carved 0 [.ref 1, .int x1, .int x2, .int x3, .int x4, .retAddr 0, .retAddr 0, .retAddr 0, .retAddr 0, .retAddr 0, .retAddr 0, .retAddr 0, .retAddr 0, .retAddr 0] [] σ Q ↔ _
  refine Iff.trans (zw_aload_n (show decode cX11_carved 0 = .ok (.aload_n 0, 1) by decide +kernel) rfl) ?_
  refine Iff.trans (zw_iload_n (show decode cX11_carved 1 = .ok (.iload_n 1, 1) by decide +kernel) rfl) ?_
  refine Iff.trans (zw_invV (K' := kX11_noBrook) (as' := [.int x1]) (rest := []) (show decode cX11_carved 2 = .ok (.invokevirtual 157, 3) by decide +kernel) (by rfl) rfl rfl rfl (hl.k2 zk_1) (by decide) (hl.n2 zk_1) ⟨Nat.le_of_ble_eq_true rfl, Nat.le_of_ble_eq_true rfl, Nat.le_of_ble_eq_true rfl⟩) ?_
  exact Iff.rfl

theorem bX11_carved_5 {d : Nat} {σ : zS} {Q : Option Value → zS → Prop} (hl : zLay σ) {x1 x2 x3 x4 y0 : Int32} : zW (d + 1) kX11_carved 5 [.ref 1, .int x1, .int x2, .int x3, .int x4, .retAddr 0, .retAddr 0, .retAddr 0, .retAddr 0, .retAddr 0, .retAddr 0, .retAddr 0, .retAddr 0, .retAddr 0] [.int y0] σ Q ↔ (if y0 = (0 : Int32) then (vp_in x1 6 ∧ zW (d + 1) kX11_carved 14 [.ref 1, .int x1, .int x2, .int x3, .int x4, .retAddr 0, .retAddr 0, .retAddr 0, .retAddr 0, .retAddr 0, .retAddr 0, .retAddr 0, .retAddr 0, .retAddr 0] (va_rf (zR σ 4 (x1 : Int32).toNatClampNeg) :: []) σ Q) else Q (some (.int (-1))) σ) := by
  refine Iff.trans (zw_if_ne (t := 43) (show decode cX11_carved 5 = .ok (.ifCond .ne 38, 3) by decide +kernel) (by decide)) ?_
  refine zw_ite ?_ ?_
  · refine Iff.trans (zw_aload_n (show decode cX11_carved 8 = .ok (.aload_n 0, 1) by decide +kernel) rfl) ?_
    refine Iff.trans (zw_get (show decode cX11_carved 9 = .ok (.getfield 18, 3) by decide +kernel) (by decide +kernel : zfld 11 18 = some (11, 1)) (hl.k2 zk_1) (hl.n2 zk_1) (zgetR (v := 4) (hl.r zrt_1_1) rfl)) ?_
    refine Iff.trans (zw_iload_n (show decode cX11_carved 12 = .ok (.iload_n 1, 1) by decide +kernel) rfl) ?_
    refine Iff.trans (zw_aald (show decode cX11_carved 13 = .ok (.aaload, 1) by decide +kernel) (by rw [(hl.k2 zk_4)]; decide) (hl.n2 zk_4) (hl.l2 zk_4 zl_4)) ?_
    refine zw_and ?_
    exact Iff.rfl
  · refine Iff.trans (zw_iconst (x := (-1)) (show decode cX11_carved 43 = .ok (.iconst (-1), 1) by decide +kernel) (by decide)) ?_
    exact zw_iret1 (show decode cX11_carved 44 = .ok (.ireturn, 1) by decide +kernel) rfl

theorem bX11_carved_14 {d : Nat} {σ : zS} {Q : Option Value → zS → Prop} (hl : zLay σ) {x1 x2 x3 x4 : Int32} {b0 : Nat} (hb0 : zk b0 = 0) : zW (d + 1) kX11_carved 14 [.ref 1, .int x1, .int x2, .int x3, .int x4, .retAddr 0, .retAddr 0, .retAddr 0, .retAddr 0, .retAddr 0, .retAddr 0, .retAddr 0, .retAddr 0, .retAddr 0] [.ref b0] σ Q ↔ zCall d kX0_has [.ref b0, .int 0, .int x2] σ (fun r σ' => zisN r = true ∧ zW (d + 1) kX11_carved 19 [.ref 1, .int x1, .int x2, .int x3, .int x4, .retAddr 0, .retAddr 0, .retAddr 0, .retAddr 0, .retAddr 0, .retAddr 0, .retAddr 0, .retAddr 0, .retAddr 0] (zRstk r ++ []) σ' Q) := by
  refine Iff.trans (zw_iconst (x := 0) (show decode cX11_carved 14 = .ok (.iconst 0, 1) by decide +kernel) (by decide)) ?_
  refine Iff.trans (zw_iload_n (show decode cX11_carved 15 = .ok (.iload_n 2, 1) by decide +kernel) rfl) ?_
  refine Iff.trans (zw_invV (K' := kX0_has) (as' := [.int 0, .int x2]) (rest := []) (show decode cX11_carved 16 = .ok (.invokevirtual 176, 3) by decide +kernel) (by rfl) rfl rfl rfl (hl.k2 hb0) (by decide) (hl.n2 hb0) ⟨Nat.le_of_ble_eq_true rfl, Nat.le_of_ble_eq_true rfl, Nat.le_of_ble_eq_true rfl⟩) ?_
  exact Iff.rfl

theorem bX11_carved_19 {d : Nat} {σ : zS} {Q : Option Value → zS → Prop} (hl : zLay σ) {x1 x2 x3 x4 y0 : Int32} : zW (d + 1) kX11_carved 19 [.ref 1, .int x1, .int x2, .int x3, .int x4, .retAddr 0, .retAddr 0, .retAddr 0, .retAddr 0, .retAddr 0, .retAddr 0, .retAddr 0, .retAddr 0, .retAddr 0] [.int y0] σ Q ↔ (if y0 = (0 : Int32) then Q (some (.int (-1))) σ else (if x3 < (0 : Int32) then Q (some (.int (-1))) σ else (if 30 < x3 then Q (some (.int (-1))) σ else (if x4 < (0 : Int32) then Q (some (.int (-1))) σ else (if x4 ≤ 3 then (vp_in x1 6 ∧ zW (d + 1) kX11_carved 51 [.ref 1, .int x1, .int x2, .int x3, .int x4, .retAddr 0, .retAddr 0, .retAddr 0, .retAddr 0, .retAddr 0, .retAddr 0, .retAddr 0, .retAddr 0, .retAddr 0] (va_rf (zR σ 4 (x1 : Int32).toNatClampNeg) :: []) σ Q) else Q (some (.int (-1))) σ))))) := by
  refine Iff.trans (zw_if_eq (t := 43) (show decode cX11_carved 19 = .ok (.ifCond .eq 24, 3) by decide +kernel) (by decide)) ?_
  refine zw_ite ?_ ?_
  · refine Iff.trans (zw_iconst (x := (-1)) (show decode cX11_carved 43 = .ok (.iconst (-1), 1) by decide +kernel) (by decide)) ?_
    exact zw_iret1 (show decode cX11_carved 44 = .ok (.ireturn, 1) by decide +kernel) rfl
  · refine Iff.trans (zw_iload_n (show decode cX11_carved 22 = .ok (.iload_n 3, 1) by decide +kernel) rfl) ?_
    refine Iff.trans (zw_if_lt (t := 43) (show decode cX11_carved 23 = .ok (.ifCond .lt 20, 3) by decide +kernel) (by decide)) ?_
    refine zw_ite ?_ ?_
    · refine Iff.trans (zw_iconst (x := (-1)) (show decode cX11_carved 43 = .ok (.iconst (-1), 1) by decide +kernel) (by decide)) ?_
      exact zw_iret1 (show decode cX11_carved 44 = .ok (.ireturn, 1) by decide +kernel) rfl
    · refine Iff.trans (zw_iload_n (show decode cX11_carved 26 = .ok (.iload_n 3, 1) by decide +kernel) rfl) ?_
      refine Iff.trans (zw_bipush (x := 30) (show decode cX11_carved 27 = .ok (.bipush 30, 2) by decide +kernel) (by decide)) ?_
      refine Iff.trans (zw_icmp_gt (t := 43) (show decode cX11_carved 29 = .ok (.if_icmp .gt 14, 3) by decide +kernel) (by decide)) ?_
      refine zw_ite ?_ ?_
      · refine Iff.trans (zw_iconst (x := (-1)) (show decode cX11_carved 43 = .ok (.iconst (-1), 1) by decide +kernel) (by decide)) ?_
        exact zw_iret1 (show decode cX11_carved 44 = .ok (.ireturn, 1) by decide +kernel) rfl
      · refine Iff.trans (zw_iload (show decode cX11_carved 32 = .ok (.iload 4, 2) by decide +kernel) rfl) ?_
        refine Iff.trans (zw_if_lt (t := 43) (show decode cX11_carved 34 = .ok (.ifCond .lt 9, 3) by decide +kernel) (by decide)) ?_
        refine zw_ite ?_ ?_
        · refine Iff.trans (zw_iconst (x := (-1)) (show decode cX11_carved 43 = .ok (.iconst (-1), 1) by decide +kernel) (by decide)) ?_
          exact zw_iret1 (show decode cX11_carved 44 = .ok (.ireturn, 1) by decide +kernel) rfl
        · refine Iff.trans (zw_iload (show decode cX11_carved 37 = .ok (.iload 4, 2) by decide +kernel) rfl) ?_
          refine Iff.trans (zw_iconst (x := 3) (show decode cX11_carved 39 = .ok (.iconst 3, 1) by decide +kernel) (by decide)) ?_
          refine Iff.trans (zw_icmp_le (t := 45) (show decode cX11_carved 40 = .ok (.if_icmp .le 5, 3) by decide +kernel) (by decide)) ?_
          refine zw_ite ?_ ?_
          · refine Iff.trans (zw_aload_n (show decode cX11_carved 45 = .ok (.aload_n 0, 1) by decide +kernel) rfl) ?_
            refine Iff.trans (zw_get (show decode cX11_carved 46 = .ok (.getfield 18, 3) by decide +kernel) (by decide +kernel : zfld 11 18 = some (11, 1)) (hl.k2 zk_1) (hl.n2 zk_1) (zgetR (v := 4) (hl.r zrt_1_1) rfl)) ?_
            refine Iff.trans (zw_iload_n (show decode cX11_carved 49 = .ok (.iload_n 1, 1) by decide +kernel) rfl) ?_
            refine Iff.trans (zw_aald (show decode cX11_carved 50 = .ok (.aaload, 1) by decide +kernel) (by rw [(hl.k2 zk_4)]; decide) (hl.n2 zk_4) (hl.l2 zk_4 zl_4)) ?_
            refine zw_and ?_
            exact Iff.rfl
          · refine Iff.trans (zw_iconst (x := (-1)) (show decode cX11_carved 43 = .ok (.iconst (-1), 1) by decide +kernel) (by decide)) ?_
            exact zw_iret1 (show decode cX11_carved 44 = .ok (.ireturn, 1) by decide +kernel) rfl

theorem bX11_carved_51 {d : Nat} {σ : zS} {Q : Option Value → zS → Prop} (hl : zLay σ) {x1 x2 x3 x4 : Int32} {b0 : Nat} (hb0 : zk b0 = 0) : zW (d + 1) kX11_carved 51 [.ref 1, .int x1, .int x2, .int x3, .int x4, .retAddr 0, .retAddr 0, .retAddr 0, .retAddr 0, .retAddr 0, .retAddr 0, .retAddr 0, .retAddr 0, .retAddr 0] [.ref b0] σ Q ↔ zW (d + 1) kX11_carved 68 [.ref 1, .int x1, .int x2, .int x3, .int x4, .ref b0, .int (-1), .int (-1), .int (-1), .int (-1), .int 1, .retAddr 0, .retAddr 0, .retAddr 0] [] σ Q := by
  refine Iff.trans (zw_astore (ls' := [.ref 1, .int x1, .int x2, .int x3, .int x4, .ref b0, .retAddr 0, .retAddr 0, .retAddr 0, .retAddr 0, .retAddr 0, .retAddr 0, .retAddr 0, .retAddr 0]) (show decode cX11_carved 51 = .ok (.astore 5, 2) by decide +kernel) (zset_s (Nat.le_of_ble_eq_true rfl) rfl)) ?_
  refine Iff.trans (zw_iconst (x := (-1)) (show decode cX11_carved 53 = .ok (.iconst (-1), 1) by decide +kernel) (by decide)) ?_
  refine Iff.trans (zw_istore (ls' := [.ref 1, .int x1, .int x2, .int x3, .int x4, .ref b0, .int (-1), .retAddr 0, .retAddr 0, .retAddr 0, .retAddr 0, .retAddr 0, .retAddr 0, .retAddr 0]) (show decode cX11_carved 54 = .ok (.istore 6, 2) by decide +kernel) (zset_s (Nat.le_of_ble_eq_true rfl) rfl)) ?_
  refine Iff.trans (zw_iconst (x := (-1)) (show decode cX11_carved 56 = .ok (.iconst (-1), 1) by decide +kernel) (by decide)) ?_
  refine Iff.trans (zw_istore (ls' := [.ref 1, .int x1, .int x2, .int x3, .int x4, .ref b0, .int (-1), .int (-1), .retAddr 0, .retAddr 0, .retAddr 0, .retAddr 0, .retAddr 0, .retAddr 0]) (show decode cX11_carved 57 = .ok (.istore 7, 2) by decide +kernel) (zset_s (Nat.le_of_ble_eq_true rfl) rfl)) ?_
  refine Iff.trans (zw_iconst (x := (-1)) (show decode cX11_carved 59 = .ok (.iconst (-1), 1) by decide +kernel) (by decide)) ?_
  refine Iff.trans (zw_istore (ls' := [.ref 1, .int x1, .int x2, .int x3, .int x4, .ref b0, .int (-1), .int (-1), .int (-1), .retAddr 0, .retAddr 0, .retAddr 0, .retAddr 0, .retAddr 0]) (show decode cX11_carved 60 = .ok (.istore 8, 2) by decide +kernel) (zset_s (Nat.le_of_ble_eq_true rfl) rfl)) ?_
  refine Iff.trans (zw_iconst (x := (-1)) (show decode cX11_carved 62 = .ok (.iconst (-1), 1) by decide +kernel) (by decide)) ?_
  refine Iff.trans (zw_istore (ls' := [.ref 1, .int x1, .int x2, .int x3, .int x4, .ref b0, .int (-1), .int (-1), .int (-1), .int (-1), .retAddr 0, .retAddr 0, .retAddr 0, .retAddr 0]) (show decode cX11_carved 63 = .ok (.istore 9, 2) by decide +kernel) (zset_s (Nat.le_of_ble_eq_true rfl) rfl)) ?_
  refine Iff.trans (zw_iconst (x := 1) (show decode cX11_carved 65 = .ok (.iconst 1, 1) by decide +kernel) (by decide)) ?_
  refine Iff.trans (zw_istore (ls' := [.ref 1, .int x1, .int x2, .int x3, .int x4, .ref b0, .int (-1), .int (-1), .int (-1), .int (-1), .int 1, .retAddr 0, .retAddr 0, .retAddr 0]) (show decode cX11_carved 66 = .ok (.istore 10, 2) by decide +kernel) (zset_s (Nat.le_of_ble_eq_true rfl) rfl)) ?_
  exact Iff.rfl

theorem bX11_carved_68 {d : Nat} {σ : zS} {Q : Option Value → zS → Prop} (hl : zLay σ) {x1 x2 x3 x4 x6 x7 x8 x9 x10 : Int32} {a5 : Nat} {v11 v12 v13 : Value} (ha5 : zk a5 = 0) (hv11 : v11.category = 1) (hv12 : v12.category = 1) (hv13 : v13.category = 1) : zW (d + 1) kX11_carved 68 [.ref 1, .int x1, .int x2, .int x3, .int x4, .ref a5, .int x6, .int x7, .int x8, .int x9, .int x10, v11, v12, v13] [] σ Q ↔ (if 5 < x10 then (if x4 = (0 : Int32) then Q (some (.int x6)) σ else (if x4 = 1 then Q (some (.int x7)) σ else (if x4 = 2 then Q (some (.int x8)) σ else Q (some (.int x9)) σ))) else zW (d + 1) kX11_carved 77 [.ref 1, .int x1, .int x2, .int x3, .int x4, .ref a5, .int x6, .int x7, .int x8, .int x9, .int x10, .int 0, v12, v13] [] σ Q) := by
  refine Iff.trans (zw_iload (show decode cX11_carved 68 = .ok (.iload 10, 2) by decide +kernel) rfl) ?_
  refine Iff.trans (zw_iconst (x := 5) (show decode cX11_carved 70 = .ok (.iconst 5, 1) by decide +kernel) (by decide)) ?_
  refine Iff.trans (zw_icmp_gt (t := 188) (show decode cX11_carved 71 = .ok (.if_icmp .gt 117, 3) by decide +kernel) (by decide)) ?_
  refine zw_ite ?_ ?_
  · refine Iff.trans (zw_iload (show decode cX11_carved 188 = .ok (.iload 4, 2) by decide +kernel) rfl) ?_
    refine Iff.trans (zw_if_ne (t := 196) (show decode cX11_carved 190 = .ok (.ifCond .ne 6, 3) by decide +kernel) (by decide)) ?_
    refine zw_ite ?_ ?_
    · refine Iff.trans (zw_iload (show decode cX11_carved 193 = .ok (.iload 6, 2) by decide +kernel) rfl) ?_
      exact zw_iret1 (show decode cX11_carved 195 = .ok (.ireturn, 1) by decide +kernel) rfl
    · refine Iff.trans (zw_iload (show decode cX11_carved 196 = .ok (.iload 4, 2) by decide +kernel) rfl) ?_
      refine Iff.trans (zw_iconst (x := 1) (show decode cX11_carved 198 = .ok (.iconst 1, 1) by decide +kernel) (by decide)) ?_
      refine Iff.trans (zw_icmp_ne (t := 205) (show decode cX11_carved 199 = .ok (.if_icmp .ne 6, 3) by decide +kernel) (by decide)) ?_
      refine zw_ite ?_ ?_
      · refine Iff.trans (zw_iload (show decode cX11_carved 202 = .ok (.iload 7, 2) by decide +kernel) rfl) ?_
        exact zw_iret1 (show decode cX11_carved 204 = .ok (.ireturn, 1) by decide +kernel) rfl
      · refine Iff.trans (zw_iload (show decode cX11_carved 205 = .ok (.iload 4, 2) by decide +kernel) rfl) ?_
        refine Iff.trans (zw_iconst (x := 2) (show decode cX11_carved 207 = .ok (.iconst 2, 1) by decide +kernel) (by decide)) ?_
        refine Iff.trans (zw_icmp_ne (t := 216) (show decode cX11_carved 208 = .ok (.if_icmp .ne 8, 3) by decide +kernel) (by decide)) ?_
        refine zw_ite ?_ ?_
        · refine Iff.trans (zw_iload (show decode cX11_carved 211 = .ok (.iload 8, 2) by decide +kernel) rfl) ?_
          refine Iff.trans (zw_goto (t := 218) (show decode cX11_carved 213 = .ok (.goto 5, 3) by decide +kernel) (by decide)) ?_
          exact zw_iret1 (show decode cX11_carved 218 = .ok (.ireturn, 1) by decide +kernel) rfl
        · refine Iff.trans (zw_iload (show decode cX11_carved 216 = .ok (.iload 9, 2) by decide +kernel) rfl) ?_
          exact zw_iret1 (show decode cX11_carved 218 = .ok (.ireturn, 1) by decide +kernel) rfl
  · refine Iff.trans (zw_iconst (x := 0) (show decode cX11_carved 74 = .ok (.iconst 0, 1) by decide +kernel) (by decide)) ?_
    refine Iff.trans (zw_istore (ls' := [.ref 1, .int x1, .int x2, .int x3, .int x4, .ref a5, .int x6, .int x7, .int x8, .int x9, .int x10, .int 0, v12, v13]) (show decode cX11_carved 75 = .ok (.istore 11, 2) by decide +kernel) (zset_s (Nat.le_of_ble_eq_true rfl) rfl)) ?_
    exact Iff.rfl

theorem bX11_carved_77 {d : Nat} {σ : zS} {Q : Option Value → zS → Prop} (hl : zLay σ) {x1 x2 x3 x4 x6 x7 x8 x9 x10 x11 : Int32} {a5 : Nat} {v12 v13 : Value} (ha5 : zk a5 = 0) (hv12 : v12.category = 1) (hv13 : v13.category = 1) : zW (d + 1) kX11_carved 77 [.ref 1, .int x1, .int x2, .int x3, .int x4, .ref a5, .int x6, .int x7, .int x8, .int x9, .int x10, .int x11, v12, v13] [] σ Q ↔ (if 9 < x11 then zW (d + 1) kX11_carved 68 [.ref 1, .int x1, .int x2, .int x3, .int x4, .ref a5, .int x6, .int x7, .int x8, .int x9, .int (x10 + 1), .int x11, v12, v13] [] σ Q else zW (d + 1) kX11_carved 87 [.ref 1, .int x1, .int x2, .int x3, .int x4, .ref a5, .int x6, .int x7, .int x8, .int x9, .int x10, .int x11, .int 0, v13] [] σ Q) := by
  refine Iff.trans (zw_iload (show decode cX11_carved 77 = .ok (.iload 11, 2) by decide +kernel) rfl) ?_
  refine Iff.trans (zw_bipush (x := 9) (show decode cX11_carved 79 = .ok (.bipush 9, 2) by decide +kernel) (by decide)) ?_
  refine Iff.trans (zw_icmp_gt (t := 182) (show decode cX11_carved 81 = .ok (.if_icmp .gt 101, 3) by decide +kernel) (by decide)) ?_
  refine zw_ite ?_ ?_
  · refine Iff.trans (zw_iinc (w := 1) (ls' := [.ref 1, .int x1, .int x2, .int x3, .int x4, .ref a5, .int x6, .int x7, .int x8, .int x9, .int (x10 + 1), .int x11, v12, v13]) (show decode cX11_carved 182 = .ok (.iinc 10 1, 3) by decide +kernel) rfl (by decide) (zset_s (Nat.le_of_ble_eq_true rfl) rfl)) ?_
    refine Iff.trans (zw_goto (t := 68) (show decode cX11_carved 185 = .ok (.goto (-117), 3) by decide +kernel) (by decide)) ?_
    exact Iff.rfl
  · refine Iff.trans (zw_iconst (x := 0) (show decode cX11_carved 84 = .ok (.iconst 0, 1) by decide +kernel) (by decide)) ?_
    refine Iff.trans (zw_istore (ls' := [.ref 1, .int x1, .int x2, .int x3, .int x4, .ref a5, .int x6, .int x7, .int x8, .int x9, .int x10, .int x11, .int 0, v13]) (show decode cX11_carved 85 = .ok (.istore 12, 2) by decide +kernel) (zset_s (Nat.le_of_ble_eq_true rfl) rfl)) ?_
    exact Iff.rfl

theorem bX11_carved_87 {d : Nat} {σ : zS} {Q : Option Value → zS → Prop} (hl : zLay σ) {x1 x2 x3 x4 x6 x7 x8 x9 x10 x11 x12 : Int32} {a5 : Nat} {v13 : Value} (ha5 : zk a5 = 0) (hv13 : v13.category = 1) : zW (d + 1) kX11_carved 87 [.ref 1, .int x1, .int x2, .int x3, .int x4, .ref a5, .int x6, .int x7, .int x8, .int x9, .int x10, .int x11, .int x12, v13] [] σ Q ↔ (if 9 < x12 then zW (d + 1) kX11_carved 77 [.ref 1, .int x1, .int x2, .int x3, .int x4, .ref a5, .int x6, .int x7, .int x8, .int x9, .int x10, .int (x11 + 1), .int x12, v13] [] σ Q else (if x3 < (((2 * x10) + x11) + x12) then zW (d + 1) kX11_carved 77 [.ref 1, .int x1, .int x2, .int x3, .int x4, .ref a5, .int x6, .int x7, .int x8, .int x9, .int x10, .int (x11 + 1), .int x12, v13] [] σ Q else zCall d kX6_shape [.ref 95, .int x10, .int x11, .int x12] σ (fun r σ' => zisN r = true ∧ zW (d + 1) kX11_carved 121 [.ref 1, .int x1, .int x2, .int x3, .int x4, .ref a5, .int x6, .int x7, .int x8, .int x9, .int x10, .int x11, .int x12, v13] (zRstk r ++ []) σ' Q))) := by
  refine Iff.trans (zw_iload (show decode cX11_carved 87 = .ok (.iload 12, 2) by decide +kernel) rfl) ?_
  refine Iff.trans (zw_bipush (x := 9) (show decode cX11_carved 89 = .ok (.bipush 9, 2) by decide +kernel) (by decide)) ?_
  refine Iff.trans (zw_icmp_gt (t := 176) (show decode cX11_carved 91 = .ok (.if_icmp .gt 85, 3) by decide +kernel) (by decide)) ?_
  refine zw_ite ?_ ?_
  · refine Iff.trans (zw_iinc (w := 1) (ls' := [.ref 1, .int x1, .int x2, .int x3, .int x4, .ref a5, .int x6, .int x7, .int x8, .int x9, .int x10, .int (x11 + 1), .int x12, v13]) (show decode cX11_carved 176 = .ok (.iinc 11 1, 3) by decide +kernel) rfl (by decide) (zset_s (Nat.le_of_ble_eq_true rfl) rfl)) ?_
    refine Iff.trans (zw_goto (t := 77) (show decode cX11_carved 179 = .ok (.goto (-102), 3) by decide +kernel) (by decide)) ?_
    exact Iff.rfl
  · refine Iff.trans (zw_iconst (x := 2) (show decode cX11_carved 94 = .ok (.iconst 2, 1) by decide +kernel) (by decide)) ?_
    refine Iff.trans (zw_iload (show decode cX11_carved 95 = .ok (.iload 10, 2) by decide +kernel) rfl) ?_
    refine Iff.trans (zw_imul (show decode cX11_carved 97 = .ok (.imul, 1) by decide +kernel)) ?_
    refine Iff.trans (zw_iload (show decode cX11_carved 98 = .ok (.iload 11, 2) by decide +kernel) rfl) ?_
    refine Iff.trans (zw_iadd (show decode cX11_carved 100 = .ok (.iadd, 1) by decide +kernel)) ?_
    refine Iff.trans (zw_iload (show decode cX11_carved 101 = .ok (.iload 12, 2) by decide +kernel) rfl) ?_
    refine Iff.trans (zw_iadd (show decode cX11_carved 103 = .ok (.iadd, 1) by decide +kernel)) ?_
    refine Iff.trans (zw_iload_n (show decode cX11_carved 104 = .ok (.iload_n 3, 1) by decide +kernel) rfl) ?_
    refine Iff.trans (zw_icmp_gt (t := 176) (show decode cX11_carved 105 = .ok (.if_icmp .gt 71, 3) by decide +kernel) (by decide)) ?_
    refine zw_ite ?_ ?_
    · refine Iff.trans (zw_iinc (w := 1) (ls' := [.ref 1, .int x1, .int x2, .int x3, .int x4, .ref a5, .int x6, .int x7, .int x8, .int x9, .int x10, .int (x11 + 1), .int x12, v13]) (show decode cX11_carved 176 = .ok (.iinc 11 1, 3) by decide +kernel) rfl (by decide) (zset_s (Nat.le_of_ble_eq_true rfl) rfl)) ?_
      refine Iff.trans (zw_goto (t := 77) (show decode cX11_carved 179 = .ok (.goto (-102), 3) by decide +kernel) (by decide)) ?_
      exact Iff.rfl
    · refine Iff.trans (zw_aload_n (show decode cX11_carved 108 = .ok (.aload_n 0, 1) by decide +kernel) rfl) ?_
      refine Iff.trans (zw_get (show decode cX11_carved 109 = .ok (.getfield 98, 3) by decide +kernel) (by decide +kernel : zfld 11 98 = some (11, 18)) (hl.k2 zk_1) (hl.n2 zk_1) (zgetR (v := 95) (hl.r zrt_1_18) rfl)) ?_
      refine Iff.trans (zw_iload (show decode cX11_carved 112 = .ok (.iload 10, 2) by decide +kernel) rfl) ?_
      refine Iff.trans (zw_iload (show decode cX11_carved 114 = .ok (.iload 11, 2) by decide +kernel) rfl) ?_
      refine Iff.trans (zw_iload (show decode cX11_carved 116 = .ok (.iload 12, 2) by decide +kernel) rfl) ?_
      refine Iff.trans (zw_invV (K' := kX6_shape) (as' := [.int x10, .int x11, .int x12]) (rest := []) (show decode cX11_carved 118 = .ok (.invokevirtual 153, 3) by decide +kernel) (by rfl) rfl rfl rfl (hl.k2 zk_95) (by decide) (hl.n2 zk_95) ⟨Nat.le_of_ble_eq_true rfl, Nat.le_of_ble_eq_true rfl, Nat.le_of_ble_eq_true rfl⟩) ?_
      exact Iff.rfl

theorem bX11_carved_121 {d : Nat} {σ : zS} {Q : Option Value → zS → Prop} (hl : zLay σ) {x1 x2 x3 x4 x6 x7 x8 x9 x10 x11 x12 : Int32} {a5 : Nat} {v13 : Value} (ha5 : zk a5 = 0) (hv13 : v13.category = 1) : zW (d + 1) kX11_carved 121 [.ref 1, .int x1, .int x2, .int x3, .int x4, .ref a5, .int x6, .int x7, .int x8, .int x9, .int x10, .int x11, .int x12, v13] [] σ Q ↔ zCall d kX11_ticksAlone [.ref 1, .ref a5, .ref 95, .int x2, .long 0] σ (fun r σ' => zisN r = true ∧ zW (d + 1) kX11_carved 133 [.ref 1, .int x1, .int x2, .int x3, .int x4, .ref a5, .int x6, .int x7, .int x8, .int x9, .int x10, .int x11, .int x12, v13] (zRstk r ++ []) σ' Q) := by
  refine Iff.trans (zw_aload_n (show decode cX11_carved 121 = .ok (.aload_n 0, 1) by decide +kernel) rfl) ?_
  refine Iff.trans (zw_aload (show decode cX11_carved 122 = .ok (.aload 5, 2) by decide +kernel) rfl) ?_
  refine Iff.trans (zw_aload_n (show decode cX11_carved 124 = .ok (.aload_n 0, 1) by decide +kernel) rfl) ?_
  refine Iff.trans (zw_get (show decode cX11_carved 125 = .ok (.getfield 98, 3) by decide +kernel) (by decide +kernel : zfld 11 98 = some (11, 18)) (hl.k2 zk_1) (hl.n2 zk_1) (zgetR (v := 95) (hl.r zrt_1_18) rfl)) ?_
  refine Iff.trans (zw_iload_n (show decode cX11_carved 128 = .ok (.iload_n 2, 1) by decide +kernel) rfl) ?_
  refine Iff.trans (zw_lconst (x := 0) (show decode cX11_carved 129 = .ok (.lconst 0, 1) by decide +kernel) (by decide)) ?_
  refine Iff.trans (zw_invV (K' := kX11_ticksAlone) (as' := [.ref a5, .ref 95, .int x2, .long 0]) (rest := []) (show decode cX11_carved 130 = .ok (.invokevirtual 297, 3) by decide +kernel) (by rfl) rfl rfl rfl (hl.k2 zk_1) (by decide) (hl.n2 zk_1) ⟨Nat.le_of_ble_eq_true rfl, Nat.le_of_ble_eq_true rfl, Nat.le_of_ble_eq_true rfl⟩) ?_
  exact Iff.rfl

theorem bX11_carved_133 {d : Nat} {σ : zS} {Q : Option Value → zS → Prop} (hl : zLay σ) {x1 x2 x3 x4 x6 x7 x8 x9 x10 x11 x12 y0 : Int32} {a5 : Nat} {v13 : Value} (ha5 : zk a5 = 0) (hv13 : v13.category = 1) : zW (d + 1) kX11_carved 133 [.ref 1, .int x1, .int x2, .int x3, .int x4, .ref a5, .int x6, .int x7, .int x8, .int x9, .int x10, .int x11, .int x12, v13] [.int y0] σ Q ↔ (if y0 = (-1) then zW (d + 1) kX11_carved 87 [.ref 1, .int x1, .int x2, .int x3, .int x4, .ref a5, .int x6, .int x7, .int x8, .int x9, .int x10, .int x11, .int (x12 + 1), .int y0] [] σ Q else (if x9 = (-1) then zW (d + 1) kX11_carved 154 [.ref 1, .int x1, .int x2, .int x3, .int x4, .ref a5, .int x6, .int x7, .int x8, .int x9, .int x10, .int x11, .int x12, .int y0] [] σ Q else (if x9 ≤ y0 then zW (d + 1) kX11_carved 87 [.ref 1, .int x1, .int x2, .int x3, .int x4, .ref a5, .int x6, .int x7, .int x8, .int x9, .int x10, .int x11, .int (x12 + 1), .int y0] [] σ Q else zW (d + 1) kX11_carved 154 [.ref 1, .int x1, .int x2, .int x3, .int x4, .ref a5, .int x6, .int x7, .int x8, .int x9, .int x10, .int x11, .int x12, .int y0] [] σ Q))) := by
  refine Iff.trans (zw_istore (ls' := [.ref 1, .int x1, .int x2, .int x3, .int x4, .ref a5, .int x6, .int x7, .int x8, .int x9, .int x10, .int x11, .int x12, .int y0]) (show decode cX11_carved 133 = .ok (.istore 13, 2) by decide +kernel) (zset_s (Nat.le_of_ble_eq_true rfl) rfl)) ?_
  refine Iff.trans (zw_iload (show decode cX11_carved 135 = .ok (.iload 13, 2) by decide +kernel) rfl) ?_
  refine Iff.trans (zw_iconst (x := (-1)) (show decode cX11_carved 137 = .ok (.iconst (-1), 1) by decide +kernel) (by decide)) ?_
  refine Iff.trans (zw_icmp_eq (t := 170) (show decode cX11_carved 138 = .ok (.if_icmp .eq 32, 3) by decide +kernel) (by decide)) ?_
  refine zw_ite ?_ ?_
  · refine Iff.trans (zw_iinc (w := 1) (ls' := [.ref 1, .int x1, .int x2, .int x3, .int x4, .ref a5, .int x6, .int x7, .int x8, .int x9, .int x10, .int x11, .int (x12 + 1), .int y0]) (show decode cX11_carved 170 = .ok (.iinc 12 1, 3) by decide +kernel) rfl (by decide) (zset_s (Nat.le_of_ble_eq_true rfl) rfl)) ?_
    refine Iff.trans (zw_goto (t := 87) (show decode cX11_carved 173 = .ok (.goto (-86), 3) by decide +kernel) (by decide)) ?_
    exact Iff.rfl
  · refine Iff.trans (zw_iload (show decode cX11_carved 141 = .ok (.iload 9, 2) by decide +kernel) rfl) ?_
    refine Iff.trans (zw_iconst (x := (-1)) (show decode cX11_carved 143 = .ok (.iconst (-1), 1) by decide +kernel) (by decide)) ?_
    refine Iff.trans (zw_icmp_eq (t := 154) (show decode cX11_carved 144 = .ok (.if_icmp .eq 10, 3) by decide +kernel) (by decide)) ?_
    refine zw_ite ?_ ?_
    · exact Iff.rfl
    · refine Iff.trans (zw_iload (show decode cX11_carved 147 = .ok (.iload 13, 2) by decide +kernel) rfl) ?_
      refine Iff.trans (zw_iload (show decode cX11_carved 149 = .ok (.iload 9, 2) by decide +kernel) rfl) ?_
      refine Iff.trans (zw_icmp_ge (t := 170) (show decode cX11_carved 151 = .ok (.if_icmp .ge 19, 3) by decide +kernel) (by decide)) ?_
      refine zw_ite ?_ ?_
      · refine Iff.trans (zw_iinc (w := 1) (ls' := [.ref 1, .int x1, .int x2, .int x3, .int x4, .ref a5, .int x6, .int x7, .int x8, .int x9, .int x10, .int x11, .int (x12 + 1), .int y0]) (show decode cX11_carved 170 = .ok (.iinc 12 1, 3) by decide +kernel) rfl (by decide) (zset_s (Nat.le_of_ble_eq_true rfl) rfl)) ?_
        refine Iff.trans (zw_goto (t := 87) (show decode cX11_carved 173 = .ok (.goto (-86), 3) by decide +kernel) (by decide)) ?_
        exact Iff.rfl
      · exact Iff.rfl

theorem bX11_carved_154 {d : Nat} {σ : zS} {Q : Option Value → zS → Prop} (hl : zLay σ) {x1 x2 x3 x4 x6 x7 x8 x9 x10 x11 x12 x13 : Int32} {a5 : Nat} (ha5 : zk a5 = 0) : zW (d + 1) kX11_carved 154 [.ref 1, .int x1, .int x2, .int x3, .int x4, .ref a5, .int x6, .int x7, .int x8, .int x9, .int x10, .int x11, .int x12, .int x13] [] σ Q ↔ zW (d + 1) kX11_carved 87 [.ref 1, .int x1, .int x2, .int x3, .int x4, .ref a5, .int x10, .int x11, .int x12, .int x13, .int x10, .int x11, .int (x12 + 1), .int x13] [] σ Q := by
  refine Iff.trans (zw_iload (show decode cX11_carved 154 = .ok (.iload 10, 2) by decide +kernel) rfl) ?_
  refine Iff.trans (zw_istore (ls' := [.ref 1, .int x1, .int x2, .int x3, .int x4, .ref a5, .int x10, .int x7, .int x8, .int x9, .int x10, .int x11, .int x12, .int x13]) (show decode cX11_carved 156 = .ok (.istore 6, 2) by decide +kernel) (zset_s (Nat.le_of_ble_eq_true rfl) rfl)) ?_
  refine Iff.trans (zw_iload (show decode cX11_carved 158 = .ok (.iload 11, 2) by decide +kernel) rfl) ?_
  refine Iff.trans (zw_istore (ls' := [.ref 1, .int x1, .int x2, .int x3, .int x4, .ref a5, .int x10, .int x11, .int x8, .int x9, .int x10, .int x11, .int x12, .int x13]) (show decode cX11_carved 160 = .ok (.istore 7, 2) by decide +kernel) (zset_s (Nat.le_of_ble_eq_true rfl) rfl)) ?_
  refine Iff.trans (zw_iload (show decode cX11_carved 162 = .ok (.iload 12, 2) by decide +kernel) rfl) ?_
  refine Iff.trans (zw_istore (ls' := [.ref 1, .int x1, .int x2, .int x3, .int x4, .ref a5, .int x10, .int x11, .int x12, .int x9, .int x10, .int x11, .int x12, .int x13]) (show decode cX11_carved 164 = .ok (.istore 8, 2) by decide +kernel) (zset_s (Nat.le_of_ble_eq_true rfl) rfl)) ?_
  refine Iff.trans (zw_iload (show decode cX11_carved 166 = .ok (.iload 13, 2) by decide +kernel) rfl) ?_
  refine Iff.trans (zw_istore (ls' := [.ref 1, .int x1, .int x2, .int x3, .int x4, .ref a5, .int x10, .int x11, .int x12, .int x13, .int x10, .int x11, .int x12, .int x13]) (show decode cX11_carved 168 = .ok (.istore 9, 2) by decide +kernel) (zset_s (Nat.le_of_ble_eq_true rfl) rfl)) ?_
  refine Iff.trans (zw_iinc (w := 1) (ls' := [.ref 1, .int x1, .int x2, .int x3, .int x4, .ref a5, .int x10, .int x11, .int x12, .int x13, .int x10, .int x11, .int (x12 + 1), .int x13]) (show decode cX11_carved 170 = .ok (.iinc 12 1, 3) by decide +kernel) rfl (by decide) (zset_s (Nat.le_of_ble_eq_true rfl) rfl)) ?_
  refine Iff.trans (zw_goto (t := 87) (show decode cX11_carved 173 = .ok (.goto (-86), 3) by decide +kernel) (by decide)) ?_
  exact Iff.rfl

theorem bX11_turnRunners_0 {d : Nat} {σ : zS} {Q : Option Value → zS → Prop} (hl : zLay σ) {x1 : Int32} : zCall (d + 1) kX11_turnRunners [.ref 1, .int x1] σ Q ↔ zW (d + 1) kX11_turnRunners 11 [.ref 1, .int x1, .retAddr 0, .retAddr 0] (va_rf ((zR σ 12) 3) :: [.ref 60]) σ Q := by
  show zW (d + 1) kX11_turnRunners 0 [.ref 1, .int x1, .retAddr 0, .retAddr 0] [] σ Q ↔ _
  refine Iff.trans (zw_aload_n (show decode cX11_turnRunners 0 = .ok (.aload_n 0, 1) by decide +kernel) rfl) ?_
  refine Iff.trans (zw_get (show decode cX11_turnRunners 1 = .ok (.getfield 65, 3) by decide +kernel) (by decide +kernel : zfld 11 65 = some (11, 12)) (hl.k2 zk_1) (hl.n2 zk_1) (zgetR (v := 60) (hl.r zrt_1_12) rfl)) ?_
  refine Iff.trans (zw_aload_n (show decode cX11_turnRunners 4 = .ok (.aload_n 0, 1) by decide +kernel) rfl) ?_
  refine Iff.trans (zw_get (show decode cX11_turnRunners 5 = .ok (.getfield 48, 3) by decide +kernel) (by decide +kernel : zfld 11 48 = some (11, 8)) (hl.k2 zk_1) (hl.n2 zk_1) (zgetR (v := 12) (hl.r zrt_1_8) rfl)) ?_
  refine Iff.trans (zw_getR (show decode cX11_turnRunners 8 = .ok (.getfield 210, 3) by decide +kernel) (by decide +kernel : zfld 11 210 = some (2, 3)) (hl.k2 zk_12) (hl.n2 zk_12) rfl (w := (zR σ 12) 3) rfl) ?_
  exact Iff.rfl

theorem bX11_turnRunners_11 {d : Nat} {σ : zS} {Q : Option Value → zS → Prop} (hl : zLay σ) {x1 : Int32} {b0 : Nat} (hb0 : zk b0 = 0) : zW (d + 1) kX11_turnRunners 11 [.ref 1, .int x1, .retAddr 0, .retAddr 0] [.ref b0, .ref 60] σ Q ↔ zCall d kX2_clear [.ref 60, .ref b0] σ (fun r σ' => zisN r = true ∧ zW (d + 1) kX11_turnRunners 14 [.ref 1, .int x1, .retAddr 0, .retAddr 0] (zRstk r ++ []) σ' Q) := by
  refine Iff.trans (zw_invV (K' := kX2_clear) (as' := [.ref b0]) (rest := []) (show decode cX11_turnRunners 11 = .ok (.invokevirtual 203, 3) by decide +kernel) (by rfl) rfl rfl rfl (hl.k2 zk_60) (by decide) (hl.n2 zk_60) ⟨Nat.le_of_ble_eq_true rfl, Nat.le_of_ble_eq_true rfl, Nat.le_of_ble_eq_true rfl⟩) ?_
  exact Iff.rfl

theorem bX11_turnRunners_14 {d : Nat} {σ : zS} {Q : Option Value → zS → Prop} (hl : zLay σ) {x1 : Int32} : zW (d + 1) kX11_turnRunners 14 [.ref 1, .int x1, .retAddr 0, .retAddr 0] [] σ Q ↔ zW (d + 1) kX11_turnRunners 16 [.ref 1, .int x1, .int 0, .retAddr 0] [] σ Q := by
  refine Iff.trans (zw_iconst (x := 0) (show decode cX11_turnRunners 14 = .ok (.iconst 0, 1) by decide +kernel) (by decide)) ?_
  refine Iff.trans (zw_istore_n (ls' := [.ref 1, .int x1, .int 0, .retAddr 0]) (show decode cX11_turnRunners 15 = .ok (.istore_n 2, 1) by decide +kernel) (zset_s (Nat.le_of_ble_eq_true rfl) rfl)) ?_
  exact Iff.rfl

theorem bX11_turnRunners_16 {d : Nat} {σ : zS} {Q : Option Value → zS → Prop} (hl : zLay σ) {x1 x2 : Int32} {v3 : Value} (hv3 : v3.category = 1) : zW (d + 1) kX11_turnRunners 16 [.ref 1, .int x1, .int x2, v3] [] σ Q ↔ (if (zI σ 12 4) ≤ x2 then Q none σ else (if 6 ≤ x2 then Q none σ else (if (zI σ 12 4) ≤ (x2 + x1) then zW (d + 1) kX11_turnRunners 63 [.ref 1, .int x1, .int x2, v3] [.int ((x2 + x1) - (zI σ 12 4))] σ Q else zW (d + 1) kX11_turnRunners 63 [.ref 1, .int x1, .int x2, v3] [.int (x2 + x1)] σ Q))) := by
  refine Iff.trans (zw_iload_n (show decode cX11_turnRunners 16 = .ok (.iload_n 2, 1) by decide +kernel) rfl) ?_
  refine Iff.trans (zw_aload_n (show decode cX11_turnRunners 17 = .ok (.aload_n 0, 1) by decide +kernel) rfl) ?_
  refine Iff.trans (zw_get (show decode cX11_turnRunners 18 = .ok (.getfield 48, 3) by decide +kernel) (by decide +kernel : zfld 11 48 = some (11, 8)) (hl.k2 zk_1) (hl.n2 zk_1) (zgetR (v := 12) (hl.r zrt_1_8) rfl)) ?_
  refine Iff.trans (zw_getI (show decode cX11_turnRunners 21 = .ok (.getfield 200, 3) by decide +kernel) (by decide +kernel : zfld 11 200 = some (2, 4)) (hl.k2 zk_12) (hl.n2 zk_12) (Or.inl rfl) (w := zI σ 12 4) rfl) ?_
  refine Iff.trans (zw_icmp_ge (t := 111) (show decode cX11_turnRunners 24 = .ok (.if_icmp .ge 87, 3) by decide +kernel) (by decide)) ?_
  refine zw_ite ?_ ?_
  · exact zw_ret (show decode cX11_turnRunners 111 = .ok (.return_, 1) by decide +kernel) rfl
  · refine Iff.trans (zw_iload_n (show decode cX11_turnRunners 27 = .ok (.iload_n 2, 1) by decide +kernel) rfl) ?_
    refine Iff.trans (zw_bipush (x := 6) (show decode cX11_turnRunners 28 = .ok (.bipush 6, 2) by decide +kernel) (by decide)) ?_
    refine Iff.trans (zw_icmp_ge (t := 111) (show decode cX11_turnRunners 30 = .ok (.if_icmp .ge 81, 3) by decide +kernel) (by decide)) ?_
    refine zw_ite ?_ ?_
    · exact zw_ret (show decode cX11_turnRunners 111 = .ok (.return_, 1) by decide +kernel) rfl
    · refine Iff.trans (zw_iload_n (show decode cX11_turnRunners 33 = .ok (.iload_n 2, 1) by decide +kernel) rfl) ?_
      refine Iff.trans (zw_iload_n (show decode cX11_turnRunners 34 = .ok (.iload_n 1, 1) by decide +kernel) rfl) ?_
      refine Iff.trans (zw_iadd (show decode cX11_turnRunners 35 = .ok (.iadd, 1) by decide +kernel)) ?_
      refine Iff.trans (zw_aload_n (show decode cX11_turnRunners 36 = .ok (.aload_n 0, 1) by decide +kernel) rfl) ?_
      refine Iff.trans (zw_get (show decode cX11_turnRunners 37 = .ok (.getfield 48, 3) by decide +kernel) (by decide +kernel : zfld 11 48 = some (11, 8)) (hl.k2 zk_1) (hl.n2 zk_1) (zgetR (v := 12) (hl.r zrt_1_8) rfl)) ?_
      refine Iff.trans (zw_getI (show decode cX11_turnRunners 40 = .ok (.getfield 200, 3) by decide +kernel) (by decide +kernel : zfld 11 200 = some (2, 4)) (hl.k2 zk_12) (hl.n2 zk_12) (Or.inl rfl) (w := zI σ 12 4) rfl) ?_
      refine Iff.trans (zw_icmp_ge (t := 52) (show decode cX11_turnRunners 43 = .ok (.if_icmp .ge 9, 3) by decide +kernel) (by decide)) ?_
      refine zw_ite ?_ ?_
      · refine Iff.trans (zw_iload_n (show decode cX11_turnRunners 52 = .ok (.iload_n 2, 1) by decide +kernel) rfl) ?_
        refine Iff.trans (zw_iload_n (show decode cX11_turnRunners 53 = .ok (.iload_n 1, 1) by decide +kernel) rfl) ?_
        refine Iff.trans (zw_iadd (show decode cX11_turnRunners 54 = .ok (.iadd, 1) by decide +kernel)) ?_
        refine Iff.trans (zw_aload_n (show decode cX11_turnRunners 55 = .ok (.aload_n 0, 1) by decide +kernel) rfl) ?_
        refine Iff.trans (zw_get (show decode cX11_turnRunners 56 = .ok (.getfield 48, 3) by decide +kernel) (by decide +kernel : zfld 11 48 = some (11, 8)) (hl.k2 zk_1) (hl.n2 zk_1) (zgetR (v := 12) (hl.r zrt_1_8) rfl)) ?_
        refine Iff.trans (zw_getI (show decode cX11_turnRunners 59 = .ok (.getfield 200, 3) by decide +kernel) (by decide +kernel : zfld 11 200 = some (2, 4)) (hl.k2 zk_12) (hl.n2 zk_12) (Or.inl rfl) (w := zI σ 12 4) rfl) ?_
        refine Iff.trans (zw_isub (show decode cX11_turnRunners 62 = .ok (.isub, 1) by decide +kernel)) ?_
        exact Iff.rfl
      · refine Iff.trans (zw_iload_n (show decode cX11_turnRunners 46 = .ok (.iload_n 2, 1) by decide +kernel) rfl) ?_
        refine Iff.trans (zw_iload_n (show decode cX11_turnRunners 47 = .ok (.iload_n 1, 1) by decide +kernel) rfl) ?_
        refine Iff.trans (zw_iadd (show decode cX11_turnRunners 48 = .ok (.iadd, 1) by decide +kernel)) ?_
        refine Iff.trans (zw_goto (t := 63) (show decode cX11_turnRunners 49 = .ok (.goto 14, 3) by decide +kernel) (by decide)) ?_
        exact Iff.rfl

theorem bX11_turnRunners_63 {d : Nat} {σ : zS} {Q : Option Value → zS → Prop} (hl : zLay σ) {x1 x2 y0 : Int32} {v3 : Value} (hv3 : v3.category = 1) : zW (d + 1) kX11_turnRunners 63 [.ref 1, .int x1, .int x2, v3] [.int y0] σ Q ↔ (if y0 < (0 : Int32) then zW (d + 1) kX11_turnRunners 105 [.ref 1, .int x1, .int x2, .int y0] [] σ Q else (if 6 ≤ y0 then zW (d + 1) kX11_turnRunners 105 [.ref 1, .int x1, .int x2, .int y0] [] σ Q else (vp_in x2 6 ∧ zW (d + 1) kX11_turnRunners 87 [.ref 1, .int x1, .int x2, .int y0] (va_rf (zR σ 13 (x2 : Int32).toNatClampNeg) :: [.ref 60]) σ Q))) := by
  refine Iff.trans (zw_istore_n (ls' := [.ref 1, .int x1, .int x2, .int y0]) (show decode cX11_turnRunners 63 = .ok (.istore_n 3, 1) by decide +kernel) (zset_s (Nat.le_of_ble_eq_true rfl) rfl)) ?_
  refine Iff.trans (zw_iload_n (show decode cX11_turnRunners 64 = .ok (.iload_n 3, 1) by decide +kernel) rfl) ?_
  refine Iff.trans (zw_if_lt (t := 105) (show decode cX11_turnRunners 65 = .ok (.ifCond .lt 40, 3) by decide +kernel) (by decide)) ?_
  refine zw_ite ?_ ?_
  · exact Iff.rfl
  · refine Iff.trans (zw_iload_n (show decode cX11_turnRunners 68 = .ok (.iload_n 3, 1) by decide +kernel) rfl) ?_
    refine Iff.trans (zw_bipush (x := 6) (show decode cX11_turnRunners 69 = .ok (.bipush 6, 2) by decide +kernel) (by decide)) ?_
    refine Iff.trans (zw_icmp_ge (t := 105) (show decode cX11_turnRunners 71 = .ok (.if_icmp .ge 34, 3) by decide +kernel) (by decide)) ?_
    refine zw_ite ?_ ?_
    · exact Iff.rfl
    · refine Iff.trans (zw_aload_n (show decode cX11_turnRunners 74 = .ok (.aload_n 0, 1) by decide +kernel) rfl) ?_
      refine Iff.trans (zw_get (show decode cX11_turnRunners 75 = .ok (.getfield 65, 3) by decide +kernel) (by decide +kernel : zfld 11 65 = some (11, 12)) (hl.k2 zk_1) (hl.n2 zk_1) (zgetR (v := 60) (hl.r zrt_1_12) rfl)) ?_
      refine Iff.trans (zw_aload_n (show decode cX11_turnRunners 78 = .ok (.aload_n 0, 1) by decide +kernel) rfl) ?_
      refine Iff.trans (zw_get (show decode cX11_turnRunners 79 = .ok (.getfield 48, 3) by decide +kernel) (by decide +kernel : zfld 11 48 = some (11, 8)) (hl.k2 zk_1) (hl.n2 zk_1) (zgetR (v := 12) (hl.r zrt_1_8) rfl)) ?_
      refine Iff.trans (zw_get (show decode cX11_turnRunners 82 = .ok (.getfield 246, 3) by decide +kernel) (by decide +kernel : zfld 11 246 = some (2, 0)) (hl.k2 zk_12) (hl.n2 zk_12) (zgetR (v := 13) (hl.r zrt_12_0) rfl)) ?_
      refine Iff.trans (zw_iload_n (show decode cX11_turnRunners 85 = .ok (.iload_n 2, 1) by decide +kernel) rfl) ?_
      refine Iff.trans (zw_aald (show decode cX11_turnRunners 86 = .ok (.aaload, 1) by decide +kernel) (by rw [(hl.k2 zk_13)]; decide) (hl.n2 zk_13) (hl.l2 zk_13 zl_13)) ?_
      refine zw_and ?_
      exact Iff.rfl

theorem bX11_turnRunners_87 {d : Nat} {σ : zS} {Q : Option Value → zS → Prop} (hl : zLay σ) {x1 x2 x3 : Int32} {b0 : Nat} (hb0 : zk b0 = 4) : zW (d + 1) kX11_turnRunners 87 [.ref 1, .int x1, .int x2, .int x3] [.ref b0, .ref 60] σ Q ↔ zW (d + 1) kX11_turnRunners 90 [.ref 1, .int x1, .int x2, .int x3] (va_rf ((zR σ b0) 0) :: [.ref 60]) σ Q := by
  refine Iff.trans (zw_getR (show decode cX11_turnRunners 87 = .ok (.getfield 332, 3) by decide +kernel) (by decide +kernel : zfld 11 332 = some (4, 0)) (hl.k2 hb0) (hl.n2 hb0) rfl (w := (zR σ b0) 0) rfl) ?_
  exact Iff.rfl

theorem bX11_turnRunners_90 {d : Nat} {σ : zS} {Q : Option Value → zS → Prop} (hl : zLay σ) {x1 x2 x3 : Int32} {b0 : Nat} (hb0 : zk b0 = 6) : zW (d + 1) kX11_turnRunners 90 [.ref 1, .int x1, .int x2, .int x3] [.ref b0, .ref 60] σ Q ↔ (vp_in x3 6 ∧ zW (d + 1) kX11_turnRunners 99 [.ref 1, .int x1, .int x2, .int x3] (va_rf (zR σ 13 (x3 : Int32).toNatClampNeg) :: [.ref b0, .ref 60]) σ Q) := by
  refine Iff.trans (zw_aload_n (show decode cX11_turnRunners 90 = .ok (.aload_n 0, 1) by decide +kernel) rfl) ?_
  refine Iff.trans (zw_get (show decode cX11_turnRunners 91 = .ok (.getfield 48, 3) by decide +kernel) (by decide +kernel : zfld 11 48 = some (11, 8)) (hl.k2 zk_1) (hl.n2 zk_1) (zgetR (v := 12) (hl.r zrt_1_8) rfl)) ?_
  refine Iff.trans (zw_get (show decode cX11_turnRunners 94 = .ok (.getfield 246, 3) by decide +kernel) (by decide +kernel : zfld 11 246 = some (2, 0)) (hl.k2 zk_12) (hl.n2 zk_12) (zgetR (v := 13) (hl.r zrt_12_0) rfl)) ?_
  refine Iff.trans (zw_iload_n (show decode cX11_turnRunners 97 = .ok (.iload_n 3, 1) by decide +kernel) rfl) ?_
  refine Iff.trans (zw_aald (show decode cX11_turnRunners 98 = .ok (.aaload, 1) by decide +kernel) (by rw [(hl.k2 zk_13)]; decide) (hl.n2 zk_13) (hl.l2 zk_13 zl_13)) ?_
  refine zw_and ?_
  exact Iff.rfl

theorem bX11_turnRunners_99 {d : Nat} {σ : zS} {Q : Option Value → zS → Prop} (hl : zLay σ) {x1 x2 x3 : Int32} {b0 b1 : Nat} (hb0 : zk b0 = 4) (hb1 : zk b1 = 6) : zW (d + 1) kX11_turnRunners 99 [.ref 1, .int x1, .int x2, .int x3] [.ref b0, .ref b1, .ref 60] σ Q ↔ zCall d kX2_add [.ref 60, .ref b1, .int (zI σ b0 1)] σ (fun r σ' => zisN r = true ∧ zW (d + 1) kX11_turnRunners 105 [.ref 1, .int x1, .int x2, .int x3] (zRstk r ++ []) σ' Q) := by
  refine Iff.trans (zw_getI (show decode cX11_turnRunners 99 = .ok (.getfield 335, 3) by decide +kernel) (by decide +kernel : zfld 11 335 = some (4, 1)) (hl.k2 hb0) (hl.n2 hb0) (Or.inl rfl) (w := zI σ b0 1) rfl) ?_
  refine Iff.trans (zw_invV (K' := kX2_add) (as' := [.ref b1, .int (zI σ b0 1)]) (rest := []) (show decode cX11_turnRunners 102 = .ok (.invokevirtual 220, 3) by decide +kernel) (by rfl) rfl rfl rfl (hl.k2 zk_60) (by decide) (hl.n2 zk_60) ⟨Nat.le_of_ble_eq_true rfl, Nat.le_of_ble_eq_true rfl, Nat.le_of_ble_eq_true rfl⟩) ?_
  exact Iff.rfl

theorem bX11_turnRunners_105 {d : Nat} {σ : zS} {Q : Option Value → zS → Prop} (hl : zLay σ) {x1 x2 x3 : Int32} : zW (d + 1) kX11_turnRunners 105 [.ref 1, .int x1, .int x2, .int x3] [] σ Q ↔ zW (d + 1) kX11_turnRunners 16 [.ref 1, .int x1, .int (x2 + 1), .int x3] [] σ Q := by
  refine Iff.trans (zw_iinc (w := 1) (ls' := [.ref 1, .int x1, .int (x2 + 1), .int x3]) (show decode cX11_turnRunners 105 = .ok (.iinc 2 1, 3) by decide +kernel) rfl (by decide) (zset_s (Nat.le_of_ble_eq_true rfl) rfl)) ?_
  refine Iff.trans (zw_goto (t := 16) (show decode cX11_turnRunners 108 = .ok (.goto (-92), 3) by decide +kernel) (by decide)) ?_
  exact Iff.rfl

