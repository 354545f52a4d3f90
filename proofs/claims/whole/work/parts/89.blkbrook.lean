/-! the class's brook, row by row (by blocks.py with its throw as an end) -/
theorem bX11_brook_0 {d : Nat} {σ : zS} {Q : Option Value → zS → Prop} (hl : zLay σ) {x1 x2 : Int32} : zCall (d + 1) kX11_brook [.ref 1, .int x1, .int x2] σ Q ↔ zCall d kX11_noBrook [.ref 1, .int x1] σ (fun r σ' => zisN r = true ∧ zW (d + 1) kX11_brook 5 [.ref 1, .int x1, .int x2, .retAddr 0] (zRstk r ++ []) σ' Q) := by
  show zW (d + 1) kX11_brook 0 [.ref 1, .int x1, .int x2, .retAddr 0] [] σ Q ↔ _
  refine Iff.trans (zw_aload_n (show decode cX11_brook 0 = .ok (.aload_n 0, 1) by decide +kernel) rfl) ?_
  refine Iff.trans (zw_iload_n (show decode cX11_brook 1 = .ok (.iload_n 1, 1) by decide +kernel) rfl) ?_
  refine Iff.trans (zw_invV (K' := kX11_noBrook) (as' := [.int x1]) (rest := []) (show decode cX11_brook 2 = .ok (.invokevirtual 157, 3) by decide +kernel) (by rfl) rfl rfl rfl (hl.k2 zk_1) (by decide) (hl.n2 zk_1) ⟨Nat.le_of_ble_eq_true rfl, Nat.le_of_ble_eq_true rfl, Nat.le_of_ble_eq_true rfl⟩) ?_
  exact Iff.rfl

theorem bX11_brook_5 {d : Nat} {σ : zS} {Q : Option Value → zS → Prop} (hl : zLay σ) {x1 x2 y0 : Int32} : zW (d + 1) kX11_brook 5 [.ref 1, .int x1, .int x2, .retAddr 0] [.int y0] σ Q ↔ (if y0 = (0 : Int32) then (if x2 < (0 : Int32) then Q (some zThr) σ else (if x2 ≤ 3 then (vp_in x1 6 ∧ zW (d + 1) kX11_brook 31 [.ref 1, .int x1, .int x2, .retAddr 0] (va_rf (zR σ 4 (x1 : Int32).toNatClampNeg) :: []) σ Q) else Q (some zThr) σ)) else Q (some zThr) σ) := by
  refine Iff.trans (zw_if_ne (t := 17) (show decode cX11_brook 5 = .ok (.ifCond .ne 12, 3) by decide +kernel) (by decide)) ?_
  refine zw_ite ?_ ?_
  · refine Iff.trans (zw_iload_n (show decode cX11_brook 8 = .ok (.iload_n 2, 1) by decide +kernel) rfl) ?_
    refine Iff.trans (zw_if_lt (t := 17) (show decode cX11_brook 9 = .ok (.ifCond .lt 8, 3) by decide +kernel) (by decide)) ?_
    refine zw_ite ?_ ?_
    · exact zw_throw (show decode cX11_brook 17 = .ok (.new 161, 3) by decide +kernel) rfl
    · refine Iff.trans (zw_iload_n (show decode cX11_brook 12 = .ok (.iload_n 2, 1) by decide +kernel) rfl) ?_
      refine Iff.trans (zw_iconst (x := 3) (show decode cX11_brook 13 = .ok (.iconst 3, 1) by decide +kernel) (by decide)) ?_
      refine Iff.trans (zw_icmp_le (t := 25) (show decode cX11_brook 14 = .ok (.if_icmp .le 11, 3) by decide +kernel) (by decide)) ?_
      refine zw_ite ?_ ?_
      · refine Iff.trans (zw_aload_n (show decode cX11_brook 25 = .ok (.aload_n 0, 1) by decide +kernel) rfl) ?_
        refine Iff.trans (zw_get (show decode cX11_brook 26 = .ok (.getfield 18, 3) by decide +kernel) (by decide +kernel : zfld 11 18 = some (11, 1)) (hl.k2 zk_1) (hl.n2 zk_1) (zgetR (v := 4) (hl.r zrt_1_1) rfl)) ?_
        refine Iff.trans (zw_iload_n (show decode cX11_brook 29 = .ok (.iload_n 1, 1) by decide +kernel) rfl) ?_
        refine Iff.trans (zw_aald (show decode cX11_brook 30 = .ok (.aaload, 1) by decide +kernel) (by rw [(hl.k2 zk_4)]; decide) (hl.n2 zk_4) (hl.l2 zk_4 zl_4)) ?_
        refine zw_and ?_
        exact Iff.rfl
      · exact zw_throw (show decode cX11_brook 17 = .ok (.new 161, 3) by decide +kernel) rfl
  · exact zw_throw (show decode cX11_brook 17 = .ok (.new 161, 3) by decide +kernel) rfl

theorem bX11_brook_31 {d : Nat} {σ : zS} {Q : Option Value → zS → Prop} (hl : zLay σ) {x1 x2 : Int32} {b0 : Nat} (hb0 : zk b0 = 0) : zW (d + 1) kX11_brook 31 [.ref 1, .int x1, .int x2, .retAddr 0] [.ref b0] σ Q ↔ (if x2 = (0 : Int32) then Q (some (.int (zI σ b0 3))) σ else (if x2 = 1 then Q (some (.int (zI σ b0 4))) σ else (if x2 = 2 then zCall d kX0_stonesInAll [.ref b0] σ (fun r σ' => zisN r = true ∧ zW (d + 1) kX11_brook 60 [.ref 1, .int x1, .int x2, .ref b0] (zRstk r ++ []) σ' Q) else zCall d kX0_eddiesInAll [.ref b0] σ (fun r σ' => zisN r = true ∧ zW (d + 1) kX11_brook 67 [.ref 1, .int x1, .int x2, .ref b0] (zRstk r ++ []) σ' Q)))) := by
  refine Iff.trans (zw_astore_n (ls' := [.ref 1, .int x1, .int x2, .ref b0]) (show decode cX11_brook 31 = .ok (.astore_n 3, 1) by decide +kernel) (zset_s (Nat.le_of_ble_eq_true rfl) rfl)) ?_
  refine Iff.trans (zw_iload_n (show decode cX11_brook 32 = .ok (.iload_n 2, 1) by decide +kernel) rfl) ?_
  refine Iff.trans (zw_if_ne (t := 41) (show decode cX11_brook 33 = .ok (.ifCond .ne 8, 3) by decide +kernel) (by decide)) ?_
  refine zw_ite ?_ ?_
  · refine Iff.trans (zw_aload_n (show decode cX11_brook 36 = .ok (.aload_n 3, 1) by decide +kernel) rfl) ?_
    refine Iff.trans (zw_getI (show decode cX11_brook 37 = .ok (.getfield 164, 3) by decide +kernel) (by decide +kernel : zfld 11 164 = some (0, 3)) (hl.k2 hb0) (hl.n2 hb0) (Or.inl rfl) (w := zI σ b0 3) rfl) ?_
    exact zw_iret1 (show decode cX11_brook 40 = .ok (.ireturn, 1) by decide +kernel) rfl
  · refine Iff.trans (zw_iload_n (show decode cX11_brook 41 = .ok (.iload_n 2, 1) by decide +kernel) rfl) ?_
    refine Iff.trans (zw_iconst (x := 1) (show decode cX11_brook 42 = .ok (.iconst 1, 1) by decide +kernel) (by decide)) ?_
    refine Iff.trans (zw_icmp_ne (t := 51) (show decode cX11_brook 43 = .ok (.if_icmp .ne 8, 3) by decide +kernel) (by decide)) ?_
    refine zw_ite ?_ ?_
    · refine Iff.trans (zw_aload_n (show decode cX11_brook 46 = .ok (.aload_n 3, 1) by decide +kernel) rfl) ?_
      refine Iff.trans (zw_getI (show decode cX11_brook 47 = .ok (.getfield 167, 3) by decide +kernel) (by decide +kernel : zfld 11 167 = some (0, 4)) (hl.k2 hb0) (hl.n2 hb0) (Or.inl rfl) (w := zI σ b0 4) rfl) ?_
      exact zw_iret1 (show decode cX11_brook 50 = .ok (.ireturn, 1) by decide +kernel) rfl
    · refine Iff.trans (zw_iload_n (show decode cX11_brook 51 = .ok (.iload_n 2, 1) by decide +kernel) rfl) ?_
      refine Iff.trans (zw_iconst (x := 2) (show decode cX11_brook 52 = .ok (.iconst 2, 1) by decide +kernel) (by decide)) ?_
      refine Iff.trans (zw_icmp_ne (t := 63) (show decode cX11_brook 53 = .ok (.if_icmp .ne 10, 3) by decide +kernel) (by decide)) ?_
      refine zw_ite ?_ ?_
      · refine Iff.trans (zw_aload_n (show decode cX11_brook 56 = .ok (.aload_n 3, 1) by decide +kernel) rfl) ?_
        refine Iff.trans (zw_invV (K' := kX0_stonesInAll) (as' := []) (rest := []) (show decode cX11_brook 57 = .ok (.invokevirtual 170, 3) by decide +kernel) (by rfl) rfl rfl rfl (hl.k2 hb0) (by decide) (hl.n2 hb0) ⟨Nat.le_of_ble_eq_true rfl, Nat.le_of_ble_eq_true rfl, Nat.le_of_ble_eq_true rfl⟩) ?_
        exact Iff.rfl
      · refine Iff.trans (zw_aload_n (show decode cX11_brook 63 = .ok (.aload_n 3, 1) by decide +kernel) rfl) ?_
        refine Iff.trans (zw_invV (K' := kX0_eddiesInAll) (as' := []) (rest := []) (show decode cX11_brook 64 = .ok (.invokevirtual 173, 3) by decide +kernel) (by rfl) rfl rfl rfl (hl.k2 hb0) (by decide) (hl.n2 hb0) ⟨Nat.le_of_ble_eq_true rfl, Nat.le_of_ble_eq_true rfl, Nat.le_of_ble_eq_true rfl⟩) ?_
        exact Iff.rfl

theorem bX11_brook_60 {d : Nat} {σ : zS} {Q : Option Value → zS → Prop} (hl : zLay σ) {x1 x2 y0 : Int32} {a3 : Nat} (ha3 : zk a3 = 0) : zW (d + 1) kX11_brook 60 [.ref 1, .int x1, .int x2, .ref a3] [.int y0] σ Q ↔ zW (d + 1) kX11_brook 67 [.ref 1, .int x1, .int x2, .ref a3] [.int y0] σ Q := by
  refine Iff.trans (zw_goto (t := 67) (show decode cX11_brook 60 = .ok (.goto 7, 3) by decide +kernel) (by decide)) ?_
  exact Iff.rfl

theorem bX11_brook_67 {d : Nat} {σ : zS} {Q : Option Value → zS → Prop} (hl : zLay σ) {x1 x2 y0 : Int32} {a3 : Nat} (ha3 : zk a3 = 0) : zW (d + 1) kX11_brook 67 [.ref 1, .int x1, .int x2, .ref a3] [.int y0] σ Q ↔ Q (some (.int y0)) σ := by
  exact zw_iret1 (show decode cX11_brook 67 = .ok (.ireturn, 1) by decide +kernel) rfl

