theorem bX0_clear_0 {d : Nat} {σ : zS} {Q : Option Value → zS → Prop} (hl : zLay σ) {a0 : Nat} (ha0 : zk a0 = 0) : zCall (d + 1) kX0_clear [.ref a0] σ Q ↔ zCall d kJ7_fill_53178 [.ref (a0 + 1), .int 0] (zsI σ a0 (upd (upd (zI σ a0) 3 0) 4 0)) (fun r σ' => zisN r = true ∧ zW (d + 1) kX0_clear 18 [.ref a0] (zRstk r ++ []) σ' Q) := by
  show zW (d + 1) kX0_clear 0 [.ref a0] [] σ Q ↔ _
  refine Iff.trans (zw_aload_n (show decode cX0_clear 0 = .ok (.aload_n 0, 1) by decide +kernel) rfl) ?_
  refine Iff.trans (zw_iconst (x := 0) (show decode cX0_clear 1 = .ok (.iconst 0, 1) by decide +kernel) (by decide)) ?_
  refine Iff.trans (zw_putI (show decode cX0_clear 2 = .ok (.putfield 21, 3) by decide +kernel) (by decide +kernel : zfld 0 21 = some (0, 3)) (hl.k2 ha0) (hl.n2 ha0) rfl (Or.inl rfl) (σ' := (zsI σ a0 (upd (zI σ a0) 3 0))) rfl) ?_
  refine Iff.trans (zw_aload_n (show decode cX0_clear 5 = .ok (.aload_n 0, 1) by decide +kernel) rfl) ?_
  refine Iff.trans (zw_iconst (x := 0) (show decode cX0_clear 6 = .ok (.iconst 0, 1) by decide +kernel) (by decide)) ?_
  refine Iff.trans (zw_putI (show decode cX0_clear 7 = .ok (.putfield 25, 3) by decide +kernel) (by decide +kernel : zfld 0 25 = some (0, 4)) (hl.I.k2 ha0) (hl.I.n2 ha0) rfl (Or.inl rfl) (σ' := (zsI σ a0 (upd (upd (zI σ a0) 3 0) 4 0))) (Eq.trans (congrArg (fun f => zsI (zsI σ a0 (upd (zI σ a0) 3 0)) a0 (upd f 4 0)) zI_self) zsI_s)) ?_
  refine Iff.trans (zw_aload_n (show decode cX0_clear 10 = .ok (.aload_n 0, 1) by decide +kernel) rfl) ?_
  refine Iff.trans (zw_get (show decode cX0_clear 11 = .ok (.getfield 9, 3) by decide +kernel) (by decide +kernel : zfld 0 9 = some (0, 0)) (hl.I.k2 ha0) (hl.I.n2 ha0) (zgetR (v := a0 + 1) (hl.I.r (zrt0_0 ha0)) rfl)) ?_
  refine Iff.trans (zw_iconst (x := 0) (show decode cX0_clear 14 = .ok (.iconst 0, 1) by decide +kernel) (by decide)) ?_
  refine Iff.trans (zw_invS (K' := kJ7_fill_53178) (as := [.ref (a0 + 1), .int 0]) (rest := []) (show decode cX0_clear 15 = .ok (.invokestatic 28, 3) by decide +kernel) (by rfl) rfl rfl rfl ⟨Nat.le_of_ble_eq_true rfl, Nat.le_of_ble_eq_true rfl, Nat.le_of_ble_eq_true rfl⟩) ?_
  exact Iff.rfl

theorem bX0_clear_18 {d : Nat} {σ : zS} {Q : Option Value → zS → Prop} (hl : zLay σ) {a0 : Nat} (ha0 : zk a0 = 0) : zW (d + 1) kX0_clear 18 [.ref a0] [] σ Q ↔ zCall d kJ7_fill_53178 [.ref (a0 + 2), .int 0] σ (fun r σ' => zisN r = true ∧ zW (d + 1) kX0_clear 26 [.ref a0] (zRstk r ++ []) σ' Q) := by
  refine Iff.trans (zw_aload_n (show decode cX0_clear 18 = .ok (.aload_n 0, 1) by decide +kernel) rfl) ?_
  refine Iff.trans (zw_get (show decode cX0_clear 19 = .ok (.getfield 15, 3) by decide +kernel) (by decide +kernel : zfld 0 15 = some (0, 1)) (hl.k2 ha0) (hl.n2 ha0) (zgetR (v := a0 + 2) (hl.r (zrt0_1 ha0)) rfl)) ?_
  refine Iff.trans (zw_iconst (x := 0) (show decode cX0_clear 22 = .ok (.iconst 0, 1) by decide +kernel) (by decide)) ?_
  refine Iff.trans (zw_invS (K' := kJ7_fill_53178) (as := [.ref (a0 + 2), .int 0]) (rest := []) (show decode cX0_clear 23 = .ok (.invokestatic 28, 3) by decide +kernel) (by rfl) rfl rfl rfl ⟨Nat.le_of_ble_eq_true rfl, Nat.le_of_ble_eq_true rfl, Nat.le_of_ble_eq_true rfl⟩) ?_
  exact Iff.rfl

theorem bX0_clear_26 {d : Nat} {σ : zS} {Q : Option Value → zS → Prop} (hl : zLay σ) {a0 : Nat} (ha0 : zk a0 = 0) : zW (d + 1) kX0_clear 26 [.ref a0] [] σ Q ↔ zCall d kJ7_fill_53178 [.ref (a0 + 3), .int 0] σ (fun r σ' => zisN r = true ∧ zW (d + 1) kX0_clear 34 [.ref a0] (zRstk r ++ []) σ' Q) := by
  refine Iff.trans (zw_aload_n (show decode cX0_clear 26 = .ok (.aload_n 0, 1) by decide +kernel) rfl) ?_
  refine Iff.trans (zw_get (show decode cX0_clear 27 = .ok (.getfield 18, 3) by decide +kernel) (by decide +kernel : zfld 0 18 = some (0, 2)) (hl.k2 ha0) (hl.n2 ha0) (zgetR (v := a0 + 3) (hl.r (zrt0_2 ha0)) rfl)) ?_
  refine Iff.trans (zw_iconst (x := 0) (show decode cX0_clear 30 = .ok (.iconst 0, 1) by decide +kernel) (by decide)) ?_
  refine Iff.trans (zw_invS (K' := kJ7_fill_53178) (as := [.ref (a0 + 3), .int 0]) (rest := []) (show decode cX0_clear 31 = .ok (.invokestatic 28, 3) by decide +kernel) (by rfl) rfl rfl rfl ⟨Nat.le_of_ble_eq_true rfl, Nat.le_of_ble_eq_true rfl, Nat.le_of_ble_eq_true rfl⟩) ?_
  exact Iff.rfl

theorem bX0_clear_34 {d : Nat} {σ : zS} {Q : Option Value → zS → Prop} (hl : zLay σ) {a0 : Nat} (ha0 : zk a0 = 0) : zW (d + 1) kX0_clear 34 [.ref a0] [] σ Q ↔ Q none σ := by
  exact zw_ret (show decode cX0_clear 34 = .ok (.return_, 1) by decide +kernel) rfl

theorem bX0_copyFrom_0 {d : Nat} {σ : zS} {Q : Option Value → zS → Prop} (hl : zLay σ) {a0 a1 : Nat} (ha0 : zk a0 = 0) (ha1 : zk a1 = 0) (hne : a0 + 4 ≤ a1 ∨ a1 + 4 ≤ a0) : zCall (d + 1) kX0_copyFrom [.ref a0, .ref a1] σ Q ↔ Q none (zsI (zsI (zsI (zsI σ a0 (upd (upd (zI σ a0) 3 (zI σ a1 3)) 4 (zI σ a1 4))) (a0 + 1) (va_cpy (zI σ (a1 + 1)) (zI σ (a0 + 1)) (0 : Int32).toNatClampNeg (0 : Int32).toNatClampNeg (96 : Int32).toNatClampNeg)) (a0 + 2) (va_cpy (zI σ (a1 + 2)) (zI σ (a0 + 2)) (0 : Int32).toNatClampNeg (0 : Int32).toNatClampNeg (16 : Int32).toNatClampNeg)) (a0 + 3) (va_cpy (zI σ (a1 + 3)) (zI σ (a0 + 3)) (0 : Int32).toNatClampNeg (0 : Int32).toNatClampNeg (16 : Int32).toNatClampNeg)) := by
  show zW (d + 1) kX0_copyFrom 0 [.ref a0, .ref a1] [] σ Q ↔ _
  refine Iff.trans (zw_aload_n (show decode cX0_copyFrom 0 = .ok (.aload_n 0, 1) by decide +kernel) rfl) ?_
  refine Iff.trans (zw_aload_n (show decode cX0_copyFrom 1 = .ok (.aload_n 1, 1) by decide +kernel) rfl) ?_
  refine Iff.trans (zw_getI (show decode cX0_copyFrom 2 = .ok (.getfield 21, 3) by decide +kernel) (by decide +kernel : zfld 0 21 = some (0, 3)) (hl.k2 ha1) (hl.n2 ha1) (Or.inl rfl) (w := zI σ a1 3) rfl) ?_
  refine Iff.trans (zw_putI (show decode cX0_copyFrom 5 = .ok (.putfield 21, 3) by decide +kernel) (by decide +kernel : zfld 0 21 = some (0, 3)) (hl.k2 ha0) (hl.n2 ha0) rfl (Or.inl rfl) (σ' := (zsI σ a0 (upd (zI σ a0) 3 (zI σ a1 3)))) rfl) ?_
  refine Iff.trans (zw_aload_n (show decode cX0_copyFrom 8 = .ok (.aload_n 0, 1) by decide +kernel) rfl) ?_
  refine Iff.trans (zw_aload_n (show decode cX0_copyFrom 9 = .ok (.aload_n 1, 1) by decide +kernel) rfl) ?_
  refine Iff.trans (zw_getI (show decode cX0_copyFrom 10 = .ok (.getfield 25, 3) by decide +kernel) (by decide +kernel : zfld 0 25 = some (0, 4)) (hl.I.k2 ha1) (hl.I.n2 ha1) (Or.inl rfl) (w := zI σ a1 4) (congrFun (zI_ne (by omega)) 4)) ?_
  refine Iff.trans (zw_putI (show decode cX0_copyFrom 13 = .ok (.putfield 25, 3) by decide +kernel) (by decide +kernel : zfld 0 25 = some (0, 4)) (hl.I.k2 ha0) (hl.I.n2 ha0) rfl (Or.inl rfl) (σ' := (zsI σ a0 (upd (upd (zI σ a0) 3 (zI σ a1 3)) 4 (zI σ a1 4)))) (Eq.trans (congrArg (fun f => zsI (zsI σ a0 (upd (zI σ a0) 3 (zI σ a1 3))) a0 (upd f 4 (zI σ a1 4))) zI_self) zsI_s)) ?_
  refine Iff.trans (zw_aload_n (show decode cX0_copyFrom 16 = .ok (.aload_n 1, 1) by decide +kernel) rfl) ?_
  refine Iff.trans (zw_get (show decode cX0_copyFrom 17 = .ok (.getfield 9, 3) by decide +kernel) (by decide +kernel : zfld 0 9 = some (0, 0)) (hl.I.k2 ha1) (hl.I.n2 ha1) (zgetR (v := a1 + 1) (hl.I.r (zrt0_0 ha1)) rfl)) ?_
  refine Iff.trans (zw_iconst (x := 0) (show decode cX0_copyFrom 20 = .ok (.iconst 0, 1) by decide +kernel) (by decide)) ?_
  refine Iff.trans (zw_aload_n (show decode cX0_copyFrom 21 = .ok (.aload_n 0, 1) by decide +kernel) rfl) ?_
  refine Iff.trans (zw_get (show decode cX0_copyFrom 22 = .ok (.getfield 9, 3) by decide +kernel) (by decide +kernel : zfld 0 9 = some (0, 0)) (hl.I.k2 ha0) (hl.I.n2 ha0) (zgetR (v := a0 + 1) (hl.I.r (zrt0_0 ha0)) rfl)) ?_
  refine Iff.trans (zw_iconst (x := 0) (show decode cX0_copyFrom 25 = .ok (.iconst 0, 1) by decide +kernel) (by decide)) ?_
  refine Iff.trans (zw_bipush (x := 96) (show decode cX0_copyFrom 26 = .ok (.bipush 96, 2) by decide +kernel) (by decide)) ?_
  refine Iff.trans (zw_ncopy2 (show decode cX0_copyFrom 28 = .ok (.invokestatic 34, 3) by decide +kernel) (by rfl) (Nat.le_of_ble_eq_true rfl) (hl.I.k2 (zf_brook ha1).1.1) (hl.I.k2 (zf_brook ha0).1.1) (hl.I.l2 (zf_brook ha1).1.1 (zf_brook ha1).1.2) (hl.I.l2 (zf_brook ha0).1.1 (zf_brook ha0).1.2) (by decide) (σ' := (zsI (zsI σ a0 (upd (upd (zI σ a0) 3 (zI σ a1 3)) 4 (zI σ a1 4))) (a0 + 1) (va_cpy (zI σ (a1 + 1)) (zI σ (a0 + 1)) (0 : Int32).toNatClampNeg (0 : Int32).toNatClampNeg (96 : Int32).toNatClampNeg))) (zcong2 (fun f g => zsI (zsI σ a0 (upd (upd (zI σ a0) 3 (zI σ a1 3)) 4 (zI σ a1 4))) (a0 + 1) (va_cpy f g (0 : Int32).toNatClampNeg (0 : Int32).toNatClampNeg (96 : Int32).toNatClampNeg)) (zI_ne (by omega)) (zI_ne (by omega)))) ?_
  refine Iff.trans (zw_aload_n (show decode cX0_copyFrom 31 = .ok (.aload_n 1, 1) by decide +kernel) rfl) ?_
  refine Iff.trans (zw_get (show decode cX0_copyFrom 32 = .ok (.getfield 15, 3) by decide +kernel) (by decide +kernel : zfld 0 15 = some (0, 1)) (hl.I.I.k2 ha1) (hl.I.I.n2 ha1) (zgetR (v := a1 + 2) (hl.I.I.r (zrt0_1 ha1)) rfl)) ?_
  refine Iff.trans (zw_iconst (x := 0) (show decode cX0_copyFrom 35 = .ok (.iconst 0, 1) by decide +kernel) (by decide)) ?_
  refine Iff.trans (zw_aload_n (show decode cX0_copyFrom 36 = .ok (.aload_n 0, 1) by decide +kernel) rfl) ?_
  refine Iff.trans (zw_get (show decode cX0_copyFrom 37 = .ok (.getfield 15, 3) by decide +kernel) (by decide +kernel : zfld 0 15 = some (0, 1)) (hl.I.I.k2 ha0) (hl.I.I.n2 ha0) (zgetR (v := a0 + 2) (hl.I.I.r (zrt0_1 ha0)) rfl)) ?_
  refine Iff.trans (zw_iconst (x := 0) (show decode cX0_copyFrom 40 = .ok (.iconst 0, 1) by decide +kernel) (by decide)) ?_
  refine Iff.trans (zw_bipush (x := 16) (show decode cX0_copyFrom 41 = .ok (.bipush 16, 2) by decide +kernel) (by decide)) ?_
  refine Iff.trans (zw_ncopy2 (show decode cX0_copyFrom 43 = .ok (.invokestatic 34, 3) by decide +kernel) (by rfl) (Nat.le_of_ble_eq_true rfl) (hl.I.I.k2 (zf_brook ha1).2.1.1) (hl.I.I.k2 (zf_brook ha0).2.1.1) (hl.I.I.l2 (zf_brook ha1).2.1.1 (zf_brook ha1).2.1.2) (hl.I.I.l2 (zf_brook ha0).2.1.1 (zf_brook ha0).2.1.2) (by decide) (σ' := (zsI (zsI (zsI σ a0 (upd (upd (zI σ a0) 3 (zI σ a1 3)) 4 (zI σ a1 4))) (a0 + 1) (va_cpy (zI σ (a1 + 1)) (zI σ (a0 + 1)) (0 : Int32).toNatClampNeg (0 : Int32).toNatClampNeg (96 : Int32).toNatClampNeg)) (a0 + 2) (va_cpy (zI σ (a1 + 2)) (zI σ (a0 + 2)) (0 : Int32).toNatClampNeg (0 : Int32).toNatClampNeg (16 : Int32).toNatClampNeg))) (zcong2 (fun f g => zsI (zsI (zsI σ a0 (upd (upd (zI σ a0) 3 (zI σ a1 3)) 4 (zI σ a1 4))) (a0 + 1) (va_cpy (zI σ (a1 + 1)) (zI σ (a0 + 1)) (0 : Int32).toNatClampNeg (0 : Int32).toNatClampNeg (96 : Int32).toNatClampNeg)) (a0 + 2) (va_cpy f g (0 : Int32).toNatClampNeg (0 : Int32).toNatClampNeg (16 : Int32).toNatClampNeg)) (Eq.trans (zI_ne (by omega)) (zI_ne (by omega))) (Eq.trans (zI_ne (by omega)) (zI_ne (by omega))))) ?_
  refine Iff.trans (zw_aload_n (show decode cX0_copyFrom 46 = .ok (.aload_n 1, 1) by decide +kernel) rfl) ?_
  refine Iff.trans (zw_get (show decode cX0_copyFrom 47 = .ok (.getfield 18, 3) by decide +kernel) (by decide +kernel : zfld 0 18 = some (0, 2)) (hl.I.I.I.k2 ha1) (hl.I.I.I.n2 ha1) (zgetR (v := a1 + 3) (hl.I.I.I.r (zrt0_2 ha1)) rfl)) ?_
  refine Iff.trans (zw_iconst (x := 0) (show decode cX0_copyFrom 50 = .ok (.iconst 0, 1) by decide +kernel) (by decide)) ?_
  refine Iff.trans (zw_aload_n (show decode cX0_copyFrom 51 = .ok (.aload_n 0, 1) by decide +kernel) rfl) ?_
  refine Iff.trans (zw_get (show decode cX0_copyFrom 52 = .ok (.getfield 18, 3) by decide +kernel) (by decide +kernel : zfld 0 18 = some (0, 2)) (hl.I.I.I.k2 ha0) (hl.I.I.I.n2 ha0) (zgetR (v := a0 + 3) (hl.I.I.I.r (zrt0_2 ha0)) rfl)) ?_
  refine Iff.trans (zw_iconst (x := 0) (show decode cX0_copyFrom 55 = .ok (.iconst 0, 1) by decide +kernel) (by decide)) ?_
  refine Iff.trans (zw_bipush (x := 16) (show decode cX0_copyFrom 56 = .ok (.bipush 16, 2) by decide +kernel) (by decide)) ?_
  refine Iff.trans (zw_ncopy2 (show decode cX0_copyFrom 58 = .ok (.invokestatic 34, 3) by decide +kernel) (by rfl) (Nat.le_of_ble_eq_true rfl) (hl.I.I.I.k2 (zf_brook ha1).2.2.1) (hl.I.I.I.k2 (zf_brook ha0).2.2.1) (hl.I.I.I.l2 (zf_brook ha1).2.2.1 (zf_brook ha1).2.2.2) (hl.I.I.I.l2 (zf_brook ha0).2.2.1 (zf_brook ha0).2.2.2) (by decide) (σ' := (zsI (zsI (zsI (zsI σ a0 (upd (upd (zI σ a0) 3 (zI σ a1 3)) 4 (zI σ a1 4))) (a0 + 1) (va_cpy (zI σ (a1 + 1)) (zI σ (a0 + 1)) (0 : Int32).toNatClampNeg (0 : Int32).toNatClampNeg (96 : Int32).toNatClampNeg)) (a0 + 2) (va_cpy (zI σ (a1 + 2)) (zI σ (a0 + 2)) (0 : Int32).toNatClampNeg (0 : Int32).toNatClampNeg (16 : Int32).toNatClampNeg)) (a0 + 3) (va_cpy (zI σ (a1 + 3)) (zI σ (a0 + 3)) (0 : Int32).toNatClampNeg (0 : Int32).toNatClampNeg (16 : Int32).toNatClampNeg))) (zcong2 (fun f g => zsI (zsI (zsI (zsI σ a0 (upd (upd (zI σ a0) 3 (zI σ a1 3)) 4 (zI σ a1 4))) (a0 + 1) (va_cpy (zI σ (a1 + 1)) (zI σ (a0 + 1)) (0 : Int32).toNatClampNeg (0 : Int32).toNatClampNeg (96 : Int32).toNatClampNeg)) (a0 + 2) (va_cpy (zI σ (a1 + 2)) (zI σ (a0 + 2)) (0 : Int32).toNatClampNeg (0 : Int32).toNatClampNeg (16 : Int32).toNatClampNeg)) (a0 + 3) (va_cpy f g (0 : Int32).toNatClampNeg (0 : Int32).toNatClampNeg (16 : Int32).toNatClampNeg)) (Eq.trans (zI_ne (by omega)) (Eq.trans (zI_ne (by omega)) (zI_ne (by omega)))) (Eq.trans (zI_ne (by omega)) (Eq.trans (zI_ne (by omega)) (zI_ne (by omega)))))) ?_
  exact zw_ret (show decode cX0_copyFrom 61 = .ok (.return_, 1) by decide +kernel) rfl

theorem bX0_put_0 {d : Nat} {σ : zS} {Q : Option Value → zS → Prop} (hl : zLay σ) {a0 : Nat} {x1 x2 x3 : Int32} (ha0 : zk a0 = 0) : zCall d kX0_put [.ref a0, .int x1, .int x2, .int x3] σ Q ↔ (if x1 < (0 : Int32) then Q none σ else (if 16 ≤ x1 then Q none σ else (if x2 < (0 : Int32) then Q none σ else (if x2 < 6 then (vp_in ((16 * x2) + x1) 96 ∧ (if x3 = 111 then (vp_in x1 16 ∧ zW d kX0_put 72 [.ref a0, .int x1, .int x2, .int x3, .int (1 <<< (x2 &&& 31))] [.int ((zI σ (a0 + 2) (x1 : Int32).toNatClampNeg) ||| (1 <<< (x2 &&& 31))), .int x1, .ref (a0 + 2)] (zsI σ (a0 + 1) (upd (zI σ (a0 + 1)) ((16 * x2) + x1 : Int32).toNatClampNeg x3)) Q) else (vp_in x1 16 ∧ zW d kX0_put 72 [.ref a0, .int x1, .int x2, .int x3, .int (1 <<< (x2 &&& 31))] [.int ((zI σ (a0 + 2) (x1 : Int32).toNatClampNeg) &&& ((1 <<< (x2 &&& 31)) ^^^ (-1))), .int x1, .ref (a0 + 2)] (zsI σ (a0 + 1) (upd (zI σ (a0 + 1)) ((16 * x2) + x1 : Int32).toNatClampNeg x3)) Q))) else Q none σ)))) := by
  show zW d kX0_put 0 [.ref a0, .int x1, .int x2, .int x3, .retAddr 0] [] σ Q ↔ _
  refine Iff.trans (zw_iload_n (show decode cX0_put 0 = .ok (.iload_n 1, 1) by decide +kernel) rfl) ?_
  refine Iff.trans (zw_if_lt (t := 20) (show decode cX0_put 1 = .ok (.ifCond .lt 19, 3) by decide +kernel) (by decide)) ?_
  refine zw_ite ?_ ?_
  · exact zw_ret (show decode cX0_put 20 = .ok (.return_, 1) by decide +kernel) rfl
  · refine Iff.trans (zw_iload_n (show decode cX0_put 4 = .ok (.iload_n 1, 1) by decide +kernel) rfl) ?_
    refine Iff.trans (zw_bipush (x := 16) (show decode cX0_put 5 = .ok (.bipush 16, 2) by decide +kernel) (by decide)) ?_
    refine Iff.trans (zw_icmp_ge (t := 20) (show decode cX0_put 7 = .ok (.if_icmp .ge 13, 3) by decide +kernel) (by decide)) ?_
    refine zw_ite ?_ ?_
    · exact zw_ret (show decode cX0_put 20 = .ok (.return_, 1) by decide +kernel) rfl
    · refine Iff.trans (zw_iload_n (show decode cX0_put 10 = .ok (.iload_n 2, 1) by decide +kernel) rfl) ?_
      refine Iff.trans (zw_if_lt (t := 20) (show decode cX0_put 11 = .ok (.ifCond .lt 9, 3) by decide +kernel) (by decide)) ?_
      refine zw_ite ?_ ?_
      · exact zw_ret (show decode cX0_put 20 = .ok (.return_, 1) by decide +kernel) rfl
      · refine Iff.trans (zw_iload_n (show decode cX0_put 14 = .ok (.iload_n 2, 1) by decide +kernel) rfl) ?_
        refine Iff.trans (zw_bipush (x := 6) (show decode cX0_put 15 = .ok (.bipush 6, 2) by decide +kernel) (by decide)) ?_
        refine Iff.trans (zw_icmp_lt (t := 21) (show decode cX0_put 17 = .ok (.if_icmp .lt 4, 3) by decide +kernel) (by decide)) ?_
        refine zw_ite ?_ ?_
        · refine Iff.trans (zw_iconst (x := 1) (show decode cX0_put 21 = .ok (.iconst 1, 1) by decide +kernel) (by decide)) ?_
          refine Iff.trans (zw_iload_n (show decode cX0_put 22 = .ok (.iload_n 2, 1) by decide +kernel) rfl) ?_
          refine Iff.trans (zw_ishl (show decode cX0_put 23 = .ok (.ishl, 1) by decide +kernel)) ?_
          refine Iff.trans (zw_istore (ls' := [.ref a0, .int x1, .int x2, .int x3, .int (1 <<< (x2 &&& 31))]) (show decode cX0_put 24 = .ok (.istore 4, 2) by decide +kernel) (zset_s (Nat.le_of_ble_eq_true rfl) rfl)) ?_
          refine Iff.trans (zw_aload_n (show decode cX0_put 26 = .ok (.aload_n 0, 1) by decide +kernel) rfl) ?_
          refine Iff.trans (zw_get (show decode cX0_put 27 = .ok (.getfield 9, 3) by decide +kernel) (by decide +kernel : zfld 0 9 = some (0, 0)) (hl.k2 ha0) (hl.n2 ha0) (zgetR (v := a0 + 1) (hl.r (zrt0_0 ha0)) rfl)) ?_
          refine Iff.trans (zw_bipush (x := 16) (show decode cX0_put 30 = .ok (.bipush 16, 2) by decide +kernel) (by decide)) ?_
          refine Iff.trans (zw_iload_n (show decode cX0_put 32 = .ok (.iload_n 2, 1) by decide +kernel) rfl) ?_
          refine Iff.trans (zw_imul (show decode cX0_put 33 = .ok (.imul, 1) by decide +kernel)) ?_
          refine Iff.trans (zw_iload_n (show decode cX0_put 34 = .ok (.iload_n 1, 1) by decide +kernel) rfl) ?_
          refine Iff.trans (zw_iadd (show decode cX0_put 35 = .ok (.iadd, 1) by decide +kernel)) ?_
          refine Iff.trans (zw_iload_n (show decode cX0_put 36 = .ok (.iload_n 3, 1) by decide +kernel) rfl) ?_
          refine Iff.trans (zw_iast2 (show decode cX0_put 37 = .ok (.iastore, 1) by decide +kernel) (hl.k2 (zf_brook ha0).1.1) (hl.n2 (zf_brook ha0).1.1) (hl.l2 (zf_brook ha0).1.1 (zf_brook ha0).1.2) (σ' := (zsI σ (a0 + 1) (upd (zI σ (a0 + 1)) ((16 * x2) + x1 : Int32).toNatClampNeg x3))) rfl) ?_
          refine zw_and ?_
          refine Iff.trans (zw_aload_n (show decode cX0_put 38 = .ok (.aload_n 0, 1) by decide +kernel) rfl) ?_
          refine Iff.trans (zw_get (show decode cX0_put 39 = .ok (.getfield 15, 3) by decide +kernel) (by decide +kernel : zfld 0 15 = some (0, 1)) (hl.I.k2 ha0) (hl.I.n2 ha0) (zgetR (v := a0 + 2) (hl.I.r (zrt0_1 ha0)) rfl)) ?_
          refine Iff.trans (zw_iload_n (show decode cX0_put 42 = .ok (.iload_n 1, 1) by decide +kernel) rfl) ?_
          refine Iff.trans (zw_iload_n (show decode cX0_put 43 = .ok (.iload_n 3, 1) by decide +kernel) rfl) ?_
          refine Iff.trans (zw_bipush (x := 111) (show decode cX0_put 44 = .ok (.bipush 111, 2) by decide +kernel) (by decide)) ?_
          refine Iff.trans (zw_icmp_ne (t := 61) (show decode cX0_put 46 = .ok (.if_icmp .ne 15, 3) by decide +kernel) (by decide)) ?_
          refine zw_ite ?_ ?_
          · refine Iff.trans (zw_aload_n (show decode cX0_put 49 = .ok (.aload_n 0, 1) by decide +kernel) rfl) ?_
            refine Iff.trans (zw_get (show decode cX0_put 50 = .ok (.getfield 15, 3) by decide +kernel) (by decide +kernel : zfld 0 15 = some (0, 1)) (hl.I.k2 ha0) (hl.I.n2 ha0) (zgetR (v := a0 + 2) (hl.I.r (zrt0_1 ha0)) rfl)) ?_
            refine Iff.trans (zw_iload_n (show decode cX0_put 53 = .ok (.iload_n 1, 1) by decide +kernel) rfl) ?_
            refine Iff.trans (zw_iald2 (show decode cX0_put 54 = .ok (.iaload, 1) by decide +kernel) (hl.I.k2 (zf_brook ha0).2.1.1) (hl.I.n2 (zf_brook ha0).2.1.1) (hl.I.l2 (zf_brook ha0).2.1.1 (zf_brook ha0).2.1.2) (w := zI σ (a0 + 2) (x1 : Int32).toNatClampNeg) (congrFun (zI_ne (by omega)) _)) ?_
            refine zw_and ?_
            refine Iff.trans (zw_iload (show decode cX0_put 55 = .ok (.iload 4, 2) by decide +kernel) rfl) ?_
            refine Iff.trans (zw_ior (show decode cX0_put 57 = .ok (.ior, 1) by decide +kernel)) ?_
            refine Iff.trans (zw_goto (t := 72) (show decode cX0_put 58 = .ok (.goto 14, 3) by decide +kernel) (by decide)) ?_
            exact Iff.rfl
          · refine Iff.trans (zw_aload_n (show decode cX0_put 61 = .ok (.aload_n 0, 1) by decide +kernel) rfl) ?_
            refine Iff.trans (zw_get (show decode cX0_put 62 = .ok (.getfield 15, 3) by decide +kernel) (by decide +kernel : zfld 0 15 = some (0, 1)) (hl.I.k2 ha0) (hl.I.n2 ha0) (zgetR (v := a0 + 2) (hl.I.r (zrt0_1 ha0)) rfl)) ?_
            refine Iff.trans (zw_iload_n (show decode cX0_put 65 = .ok (.iload_n 1, 1) by decide +kernel) rfl) ?_
            refine Iff.trans (zw_iald2 (show decode cX0_put 66 = .ok (.iaload, 1) by decide +kernel) (hl.I.k2 (zf_brook ha0).2.1.1) (hl.I.n2 (zf_brook ha0).2.1.1) (hl.I.l2 (zf_brook ha0).2.1.1 (zf_brook ha0).2.1.2) (w := zI σ (a0 + 2) (x1 : Int32).toNatClampNeg) (congrFun (zI_ne (by omega)) _)) ?_
            refine zw_and ?_
            refine Iff.trans (zw_iload (show decode cX0_put 67 = .ok (.iload 4, 2) by decide +kernel) rfl) ?_
            refine Iff.trans (zw_iconst (x := (-1)) (show decode cX0_put 69 = .ok (.iconst (-1), 1) by decide +kernel) (by decide)) ?_
            refine Iff.trans (zw_ixor (show decode cX0_put 70 = .ok (.ixor, 1) by decide +kernel)) ?_
            refine Iff.trans (zw_iand (show decode cX0_put 71 = .ok (.iand, 1) by decide +kernel)) ?_
            exact Iff.rfl
        · exact zw_ret (show decode cX0_put 20 = .ok (.return_, 1) by decide +kernel) rfl

theorem bX0_put_72 {d : Nat} {σ : zS} {Q : Option Value → zS → Prop} (hl : zLay σ) {a0 : Nat} {x1 x2 x3 x4 y0 y1 : Int32} (ha0 : zk a0 = 0) : zW d kX0_put 72 [.ref a0, .int x1, .int x2, .int x3, .int x4] [.int y0, .int y1, .ref (a0 + 2)] σ Q ↔ (vp_in y1 16 ∧ (if x3 = 64 then (vp_in x1 16 ∧ (vp_in x1 16 ∧ Q none (zsI (zsI σ (a0 + 2) (upd (zI σ (a0 + 2)) (y1 : Int32).toNatClampNeg y0)) (a0 + 3) (upd (zI σ (a0 + 3)) (x1 : Int32).toNatClampNeg ((zI σ (a0 + 3) (x1 : Int32).toNatClampNeg) ||| x4))))) else (vp_in x1 16 ∧ (vp_in x1 16 ∧ Q none (zsI (zsI σ (a0 + 2) (upd (zI σ (a0 + 2)) (y1 : Int32).toNatClampNeg y0)) (a0 + 3) (upd (zI σ (a0 + 3)) (x1 : Int32).toNatClampNeg ((zI σ (a0 + 3) (x1 : Int32).toNatClampNeg) &&& (x4 ^^^ (-1))))))))) := by
  refine Iff.trans (zw_iast2 (show decode cX0_put 72 = .ok (.iastore, 1) by decide +kernel) (hl.k2 (zf_brook ha0).2.1.1) (hl.n2 (zf_brook ha0).2.1.1) (hl.l2 (zf_brook ha0).2.1.1 (zf_brook ha0).2.1.2) (σ' := (zsI σ (a0 + 2) (upd (zI σ (a0 + 2)) (y1 : Int32).toNatClampNeg y0))) rfl) ?_
  refine zw_and ?_
  refine Iff.trans (zw_aload_n (show decode cX0_put 73 = .ok (.aload_n 0, 1) by decide +kernel) rfl) ?_
  refine Iff.trans (zw_get (show decode cX0_put 74 = .ok (.getfield 18, 3) by decide +kernel) (by decide +kernel : zfld 0 18 = some (0, 2)) (hl.I.k2 ha0) (hl.I.n2 ha0) (zgetR (v := a0 + 3) (hl.I.r (zrt0_2 ha0)) rfl)) ?_
  refine Iff.trans (zw_iload_n (show decode cX0_put 77 = .ok (.iload_n 1, 1) by decide +kernel) rfl) ?_
  refine Iff.trans (zw_iload_n (show decode cX0_put 78 = .ok (.iload_n 3, 1) by decide +kernel) rfl) ?_
  refine Iff.trans (zw_bipush (x := 64) (show decode cX0_put 79 = .ok (.bipush 64, 2) by decide +kernel) (by decide)) ?_
  refine Iff.trans (zw_icmp_ne (t := 96) (show decode cX0_put 81 = .ok (.if_icmp .ne 15, 3) by decide +kernel) (by decide)) ?_
  refine zw_ite ?_ ?_
  · refine Iff.trans (zw_aload_n (show decode cX0_put 84 = .ok (.aload_n 0, 1) by decide +kernel) rfl) ?_
    refine Iff.trans (zw_get (show decode cX0_put 85 = .ok (.getfield 18, 3) by decide +kernel) (by decide +kernel : zfld 0 18 = some (0, 2)) (hl.I.k2 ha0) (hl.I.n2 ha0) (zgetR (v := a0 + 3) (hl.I.r (zrt0_2 ha0)) rfl)) ?_
    refine Iff.trans (zw_iload_n (show decode cX0_put 88 = .ok (.iload_n 1, 1) by decide +kernel) rfl) ?_
    refine Iff.trans (zw_iald2 (show decode cX0_put 89 = .ok (.iaload, 1) by decide +kernel) (hl.I.k2 (zf_brook ha0).2.2.1) (hl.I.n2 (zf_brook ha0).2.2.1) (hl.I.l2 (zf_brook ha0).2.2.1 (zf_brook ha0).2.2.2) (w := zI σ (a0 + 3) (x1 : Int32).toNatClampNeg) (congrFun (zI_ne (by omega)) _)) ?_
    refine zw_and ?_
    refine Iff.trans (zw_iload (show decode cX0_put 90 = .ok (.iload 4, 2) by decide +kernel) rfl) ?_
    refine Iff.trans (zw_ior (show decode cX0_put 92 = .ok (.ior, 1) by decide +kernel)) ?_
    refine Iff.trans (zw_goto (t := 107) (show decode cX0_put 93 = .ok (.goto 14, 3) by decide +kernel) (by decide)) ?_
    refine Iff.trans (zw_iast2 (show decode cX0_put 107 = .ok (.iastore, 1) by decide +kernel) (hl.I.k2 (zf_brook ha0).2.2.1) (hl.I.n2 (zf_brook ha0).2.2.1) (hl.I.l2 (zf_brook ha0).2.2.1 (zf_brook ha0).2.2.2) (σ' := (zsI (zsI σ (a0 + 2) (upd (zI σ (a0 + 2)) (y1 : Int32).toNatClampNeg y0)) (a0 + 3) (upd (zI σ (a0 + 3)) (x1 : Int32).toNatClampNeg ((zI σ (a0 + 3) (x1 : Int32).toNatClampNeg) ||| x4)))) (congrArg (fun f => zsI (zsI σ (a0 + 2) (upd (zI σ (a0 + 2)) (y1 : Int32).toNatClampNeg y0)) (a0 + 3) (upd f (x1 : Int32).toNatClampNeg ((zI σ (a0 + 3) (x1 : Int32).toNatClampNeg) ||| x4))) (zI_ne (by omega)))) ?_
    refine zw_and ?_
    exact zw_ret (show decode cX0_put 108 = .ok (.return_, 1) by decide +kernel) rfl
  · refine Iff.trans (zw_aload_n (show decode cX0_put 96 = .ok (.aload_n 0, 1) by decide +kernel) rfl) ?_
    refine Iff.trans (zw_get (show decode cX0_put 97 = .ok (.getfield 18, 3) by decide +kernel) (by decide +kernel : zfld 0 18 = some (0, 2)) (hl.I.k2 ha0) (hl.I.n2 ha0) (zgetR (v := a0 + 3) (hl.I.r (zrt0_2 ha0)) rfl)) ?_
    refine Iff.trans (zw_iload_n (show decode cX0_put 100 = .ok (.iload_n 1, 1) by decide +kernel) rfl) ?_
    refine Iff.trans (zw_iald2 (show decode cX0_put 101 = .ok (.iaload, 1) by decide +kernel) (hl.I.k2 (zf_brook ha0).2.2.1) (hl.I.n2 (zf_brook ha0).2.2.1) (hl.I.l2 (zf_brook ha0).2.2.1 (zf_brook ha0).2.2.2) (w := zI σ (a0 + 3) (x1 : Int32).toNatClampNeg) (congrFun (zI_ne (by omega)) _)) ?_
    refine zw_and ?_
    refine Iff.trans (zw_iload (show decode cX0_put 102 = .ok (.iload 4, 2) by decide +kernel) rfl) ?_
    refine Iff.trans (zw_iconst (x := (-1)) (show decode cX0_put 104 = .ok (.iconst (-1), 1) by decide +kernel) (by decide)) ?_
    refine Iff.trans (zw_ixor (show decode cX0_put 105 = .ok (.ixor, 1) by decide +kernel)) ?_
    refine Iff.trans (zw_iand (show decode cX0_put 106 = .ok (.iand, 1) by decide +kernel)) ?_
    refine Iff.trans (zw_iast2 (show decode cX0_put 107 = .ok (.iastore, 1) by decide +kernel) (hl.I.k2 (zf_brook ha0).2.2.1) (hl.I.n2 (zf_brook ha0).2.2.1) (hl.I.l2 (zf_brook ha0).2.2.1 (zf_brook ha0).2.2.2) (σ' := (zsI (zsI σ (a0 + 2) (upd (zI σ (a0 + 2)) (y1 : Int32).toNatClampNeg y0)) (a0 + 3) (upd (zI σ (a0 + 3)) (x1 : Int32).toNatClampNeg ((zI σ (a0 + 3) (x1 : Int32).toNatClampNeg) &&& (x4 ^^^ (-1)))))) (congrArg (fun f => zsI (zsI σ (a0 + 2) (upd (zI σ (a0 + 2)) (y1 : Int32).toNatClampNeg y0)) (a0 + 3) (upd f (x1 : Int32).toNatClampNeg ((zI σ (a0 + 3) (x1 : Int32).toNatClampNeg) &&& (x4 ^^^ (-1))))) (zI_ne (by omega)))) ?_
    refine zw_and ?_
    exact zw_ret (show decode cX0_put 108 = .ok (.return_, 1) by decide +kernel) rfl

theorem bX0_has_0 {d : Nat} {σ : zS} {Q : Option Value → zS → Prop} (hl : zLay σ) {a0 : Nat} {x1 x2 : Int32} (ha0 : zk a0 = 0) : zCall d kX0_has [.ref a0, .int x1, .int x2] σ Q ↔ (if x1 < (0 : Int32) then Q (some (.int 0)) σ else (if (zI σ a0 4) ≤ x1 then Q (some (.int 0)) σ else (if x2 < (0 : Int32) then Q (some (.int 0)) σ else (if (zI σ a0 3) ≤ x2 then Q (some (.int 0)) σ else Q (some (.int 1)) σ)))) := by
  show zW d kX0_has 0 [.ref a0, .int x1, .int x2] [] σ Q ↔ _
  refine Iff.trans (zw_iload_n (show decode cX0_has 0 = .ok (.iload_n 1, 1) by decide +kernel) rfl) ?_
  refine Iff.trans (zw_if_lt (t := 28) (show decode cX0_has 1 = .ok (.ifCond .lt 27, 3) by decide +kernel) (by decide)) ?_
  refine zw_ite ?_ ?_
  · refine Iff.trans (zw_iconst (x := 0) (show decode cX0_has 28 = .ok (.iconst 0, 1) by decide +kernel) (by decide)) ?_
    exact zw_iret2c (show decode cX0_has 29 = .ok (.ireturn, 1) by decide +kernel) rfl (Or.inl rfl)
  · refine Iff.trans (zw_iload_n (show decode cX0_has 4 = .ok (.iload_n 1, 1) by decide +kernel) rfl) ?_
    refine Iff.trans (zw_aload_n (show decode cX0_has 5 = .ok (.aload_n 0, 1) by decide +kernel) rfl) ?_
    refine Iff.trans (zw_getI (show decode cX0_has 6 = .ok (.getfield 25, 3) by decide +kernel) (by decide +kernel : zfld 0 25 = some (0, 4)) (hl.k2 ha0) (hl.n2 ha0) (Or.inl rfl) (w := zI σ a0 4) rfl) ?_
    refine Iff.trans (zw_icmp_ge (t := 28) (show decode cX0_has 9 = .ok (.if_icmp .ge 19, 3) by decide +kernel) (by decide)) ?_
    refine zw_ite ?_ ?_
    · refine Iff.trans (zw_iconst (x := 0) (show decode cX0_has 28 = .ok (.iconst 0, 1) by decide +kernel) (by decide)) ?_
      exact zw_iret2c (show decode cX0_has 29 = .ok (.ireturn, 1) by decide +kernel) rfl (Or.inl rfl)
    · refine Iff.trans (zw_iload_n (show decode cX0_has 12 = .ok (.iload_n 2, 1) by decide +kernel) rfl) ?_
      refine Iff.trans (zw_if_lt (t := 28) (show decode cX0_has 13 = .ok (.ifCond .lt 15, 3) by decide +kernel) (by decide)) ?_
      refine zw_ite ?_ ?_
      · refine Iff.trans (zw_iconst (x := 0) (show decode cX0_has 28 = .ok (.iconst 0, 1) by decide +kernel) (by decide)) ?_
        exact zw_iret2c (show decode cX0_has 29 = .ok (.ireturn, 1) by decide +kernel) rfl (Or.inl rfl)
      · refine Iff.trans (zw_iload_n (show decode cX0_has 16 = .ok (.iload_n 2, 1) by decide +kernel) rfl) ?_
        refine Iff.trans (zw_aload_n (show decode cX0_has 17 = .ok (.aload_n 0, 1) by decide +kernel) rfl) ?_
        refine Iff.trans (zw_getI (show decode cX0_has 18 = .ok (.getfield 21, 3) by decide +kernel) (by decide +kernel : zfld 0 21 = some (0, 3)) (hl.k2 ha0) (hl.n2 ha0) (Or.inl rfl) (w := zI σ a0 3) rfl) ?_
        refine Iff.trans (zw_icmp_ge (t := 28) (show decode cX0_has 21 = .ok (.if_icmp .ge 7, 3) by decide +kernel) (by decide)) ?_
        refine zw_ite ?_ ?_
        · refine Iff.trans (zw_iconst (x := 0) (show decode cX0_has 28 = .ok (.iconst 0, 1) by decide +kernel) (by decide)) ?_
          exact zw_iret2c (show decode cX0_has 29 = .ok (.ireturn, 1) by decide +kernel) rfl (Or.inl rfl)
        · refine Iff.trans (zw_iconst (x := 1) (show decode cX0_has 24 = .ok (.iconst 1, 1) by decide +kernel) (by decide)) ?_
          refine Iff.trans (zw_goto (t := 29) (show decode cX0_has 25 = .ok (.goto 4, 3) by decide +kernel) (by decide)) ?_
          exact zw_iret2c (show decode cX0_has 29 = .ok (.ireturn, 1) by decide +kernel) rfl (Or.inr rfl)

theorem bX0_signAt_0 {d : Nat} {σ : zS} {Q : Option Value → zS → Prop} (hl : zLay σ) {a0 : Nat} {x1 x2 : Int32} (ha0 : zk a0 = 0) : zCall d kX0_signAt [.ref a0, .int x1, .int x2] σ Q ↔ (if x1 < (0 : Int32) then Q (some (.int 0)) σ else (if 16 ≤ x1 then Q (some (.int 0)) σ else (if x2 < (0 : Int32) then Q (some (.int 0)) σ else (if x2 < 6 then (vp_in ((16 * x2) + x1) 96 ∧ Q (some (.int (zI σ (a0 + 1) ((16 * x2) + x1 : Int32).toNatClampNeg))) σ) else Q (some (.int 0)) σ)))) := by
  show zW d kX0_signAt 0 [.ref a0, .int x1, .int x2] [] σ Q ↔ _
  refine Iff.trans (zw_iload_n (show decode cX0_signAt 0 = .ok (.iload_n 1, 1) by decide +kernel) rfl) ?_
  refine Iff.trans (zw_if_lt (t := 20) (show decode cX0_signAt 1 = .ok (.ifCond .lt 19, 3) by decide +kernel) (by decide)) ?_
  refine zw_ite ?_ ?_
  · refine Iff.trans (zw_iconst (x := 0) (show decode cX0_signAt 20 = .ok (.iconst 0, 1) by decide +kernel) (by decide)) ?_
    refine Iff.trans (zw_goto (t := 35) (show decode cX0_signAt 21 = .ok (.goto 14, 3) by decide +kernel) (by decide)) ?_
    exact zw_iret1 (show decode cX0_signAt 35 = .ok (.ireturn, 1) by decide +kernel) rfl
  · refine Iff.trans (zw_iload_n (show decode cX0_signAt 4 = .ok (.iload_n 1, 1) by decide +kernel) rfl) ?_
    refine Iff.trans (zw_bipush (x := 16) (show decode cX0_signAt 5 = .ok (.bipush 16, 2) by decide +kernel) (by decide)) ?_
    refine Iff.trans (zw_icmp_ge (t := 20) (show decode cX0_signAt 7 = .ok (.if_icmp .ge 13, 3) by decide +kernel) (by decide)) ?_
    refine zw_ite ?_ ?_
    · refine Iff.trans (zw_iconst (x := 0) (show decode cX0_signAt 20 = .ok (.iconst 0, 1) by decide +kernel) (by decide)) ?_
      refine Iff.trans (zw_goto (t := 35) (show decode cX0_signAt 21 = .ok (.goto 14, 3) by decide +kernel) (by decide)) ?_
      exact zw_iret1 (show decode cX0_signAt 35 = .ok (.ireturn, 1) by decide +kernel) rfl
    · refine Iff.trans (zw_iload_n (show decode cX0_signAt 10 = .ok (.iload_n 2, 1) by decide +kernel) rfl) ?_
      refine Iff.trans (zw_if_lt (t := 20) (show decode cX0_signAt 11 = .ok (.ifCond .lt 9, 3) by decide +kernel) (by decide)) ?_
      refine zw_ite ?_ ?_
      · refine Iff.trans (zw_iconst (x := 0) (show decode cX0_signAt 20 = .ok (.iconst 0, 1) by decide +kernel) (by decide)) ?_
        refine Iff.trans (zw_goto (t := 35) (show decode cX0_signAt 21 = .ok (.goto 14, 3) by decide +kernel) (by decide)) ?_
        exact zw_iret1 (show decode cX0_signAt 35 = .ok (.ireturn, 1) by decide +kernel) rfl
      · refine Iff.trans (zw_iload_n (show decode cX0_signAt 14 = .ok (.iload_n 2, 1) by decide +kernel) rfl) ?_
        refine Iff.trans (zw_bipush (x := 6) (show decode cX0_signAt 15 = .ok (.bipush 6, 2) by decide +kernel) (by decide)) ?_
        refine Iff.trans (zw_icmp_lt (t := 24) (show decode cX0_signAt 17 = .ok (.if_icmp .lt 7, 3) by decide +kernel) (by decide)) ?_
        refine zw_ite ?_ ?_
        · refine Iff.trans (zw_aload_n (show decode cX0_signAt 24 = .ok (.aload_n 0, 1) by decide +kernel) rfl) ?_
          refine Iff.trans (zw_get (show decode cX0_signAt 25 = .ok (.getfield 9, 3) by decide +kernel) (by decide +kernel : zfld 0 9 = some (0, 0)) (hl.k2 ha0) (hl.n2 ha0) (zgetR (v := a0 + 1) (hl.r (zrt0_0 ha0)) rfl)) ?_
          refine Iff.trans (zw_bipush (x := 16) (show decode cX0_signAt 28 = .ok (.bipush 16, 2) by decide +kernel) (by decide)) ?_
          refine Iff.trans (zw_iload_n (show decode cX0_signAt 30 = .ok (.iload_n 2, 1) by decide +kernel) rfl) ?_
          refine Iff.trans (zw_imul (show decode cX0_signAt 31 = .ok (.imul, 1) by decide +kernel)) ?_
          refine Iff.trans (zw_iload_n (show decode cX0_signAt 32 = .ok (.iload_n 1, 1) by decide +kernel) rfl) ?_
          refine Iff.trans (zw_iadd (show decode cX0_signAt 33 = .ok (.iadd, 1) by decide +kernel)) ?_
          refine Iff.trans (zw_iald2 (show decode cX0_signAt 34 = .ok (.iaload, 1) by decide +kernel) (hl.k2 (zf_brook ha0).1.1) (hl.n2 (zf_brook ha0).1.1) (hl.l2 (zf_brook ha0).1.1 (zf_brook ha0).1.2) (w := zI σ (a0 + 1) ((16 * x2) + x1 : Int32).toNatClampNeg) rfl) ?_
          refine zw_and ?_
          exact zw_iret1 (show decode cX0_signAt 35 = .ok (.ireturn, 1) by decide +kernel) rfl
        · refine Iff.trans (zw_iconst (x := 0) (show decode cX0_signAt 20 = .ok (.iconst 0, 1) by decide +kernel) (by decide)) ?_
          refine Iff.trans (zw_goto (t := 35) (show decode cX0_signAt 21 = .ok (.goto 14, 3) by decide +kernel) (by decide)) ?_
          exact zw_iret1 (show decode cX0_signAt 35 = .ok (.ireturn, 1) by decide +kernel) rfl

theorem bX0_paceAt_0 {d : Nat} {σ : zS} {Q : Option Value → zS → Prop} (hl : zLay σ) {a0 : Nat} {x1 x2 x3 : Int32} (ha0 : zk a0 = 0) : zCall (d + 1) kX0_paceAt [.ref a0, .int x1, .int x2, .int x3] σ Q ↔ zCall d kX0_signAt [.ref a0, .int x1, .int x2] σ (fun r σ' => zisN r = true ∧ zW (d + 1) kX0_paceAt 6 [.ref a0, .int x1, .int x2, .int x3, .retAddr 0] (zRstk r ++ []) σ' Q) := by
  show zW (d + 1) kX0_paceAt 0 [.ref a0, .int x1, .int x2, .int x3, .retAddr 0] [] σ Q ↔ _
  refine Iff.trans (zw_aload_n (show decode cX0_paceAt 0 = .ok (.aload_n 0, 1) by decide +kernel) rfl) ?_
  refine Iff.trans (zw_iload_n (show decode cX0_paceAt 1 = .ok (.iload_n 1, 1) by decide +kernel) rfl) ?_
  refine Iff.trans (zw_iload_n (show decode cX0_paceAt 2 = .ok (.iload_n 2, 1) by decide +kernel) rfl) ?_
  refine Iff.trans (zw_invV (K' := kX0_signAt) (as' := [.int x1, .int x2]) (rest := []) (show decode cX0_paceAt 3 = .ok (.invokevirtual 40, 3) by decide +kernel) (by rfl) rfl rfl rfl (hl.k2 ha0) (by decide) (hl.n2 ha0) ⟨Nat.le_of_ble_eq_true rfl, Nat.le_of_ble_eq_true rfl, Nat.le_of_ble_eq_true rfl⟩) ?_
  exact Iff.rfl

theorem bX0_paceAt_6 {d : Nat} {σ : zS} {Q : Option Value → zS → Prop} (hl : zLay σ) {a0 : Nat} {x1 x2 x3 y0 : Int32} (ha0 : zk a0 = 0) : zW (d + 1) kX0_paceAt 6 [.ref a0, .int x1, .int x2, .int x3, .retAddr 0] [.int y0] σ Q ↔ (if y0 = 111 then Q (some (.int 1)) σ else (if y0 = 64 then Q (some (.int (1 + x3))) σ else Q (some (.int ((y0 - 48) + x3))) σ)) := by
  refine Iff.trans (zw_istore (ls' := [.ref a0, .int x1, .int x2, .int x3, .int y0]) (show decode cX0_paceAt 6 = .ok (.istore 4, 2) by decide +kernel) (zset_s (Nat.le_of_ble_eq_true rfl) rfl)) ?_
  refine Iff.trans (zw_iload (show decode cX0_paceAt 8 = .ok (.iload 4, 2) by decide +kernel) rfl) ?_
  refine Iff.trans (zw_bipush (x := 111) (show decode cX0_paceAt 10 = .ok (.bipush 111, 2) by decide +kernel) (by decide)) ?_
  refine Iff.trans (zw_icmp_ne (t := 17) (show decode cX0_paceAt 12 = .ok (.if_icmp .ne 5, 3) by decide +kernel) (by decide)) ?_
  refine zw_ite ?_ ?_
  · refine Iff.trans (zw_iconst (x := 1) (show decode cX0_paceAt 15 = .ok (.iconst 1, 1) by decide +kernel) (by decide)) ?_
    exact zw_iret1 (show decode cX0_paceAt 16 = .ok (.ireturn, 1) by decide +kernel) rfl
  · refine Iff.trans (zw_iload (show decode cX0_paceAt 17 = .ok (.iload 4, 2) by decide +kernel) rfl) ?_
    refine Iff.trans (zw_bipush (x := 64) (show decode cX0_paceAt 19 = .ok (.bipush 64, 2) by decide +kernel) (by decide)) ?_
    refine Iff.trans (zw_icmp_ne (t := 28) (show decode cX0_paceAt 21 = .ok (.if_icmp .ne 7, 3) by decide +kernel) (by decide)) ?_
    refine zw_ite ?_ ?_
    · refine Iff.trans (zw_iconst (x := 1) (show decode cX0_paceAt 24 = .ok (.iconst 1, 1) by decide +kernel) (by decide)) ?_
      refine Iff.trans (zw_goto (t := 33) (show decode cX0_paceAt 25 = .ok (.goto 8, 3) by decide +kernel) (by decide)) ?_
      refine Iff.trans (zw_iload_n (show decode cX0_paceAt 33 = .ok (.iload_n 3, 1) by decide +kernel) rfl) ?_
      refine Iff.trans (zw_iadd (show decode cX0_paceAt 34 = .ok (.iadd, 1) by decide +kernel)) ?_
      exact zw_iret1 (show decode cX0_paceAt 35 = .ok (.ireturn, 1) by decide +kernel) rfl
    · refine Iff.trans (zw_iload (show decode cX0_paceAt 28 = .ok (.iload 4, 2) by decide +kernel) rfl) ?_
      refine Iff.trans (zw_bipush (x := 48) (show decode cX0_paceAt 30 = .ok (.bipush 48, 2) by decide +kernel) (by decide)) ?_
      refine Iff.trans (zw_isub (show decode cX0_paceAt 32 = .ok (.isub, 1) by decide +kernel)) ?_
      refine Iff.trans (zw_iload_n (show decode cX0_paceAt 33 = .ok (.iload_n 3, 1) by decide +kernel) rfl) ?_
      refine Iff.trans (zw_iadd (show decode cX0_paceAt 34 = .ok (.iadd, 1) by decide +kernel)) ?_
      exact zw_iret1 (show decode cX0_paceAt 35 = .ok (.ireturn, 1) by decide +kernel) rfl

theorem bX0_stonesAt_0 {d : Nat} {σ : zS} {Q : Option Value → zS → Prop} (hl : zLay σ) {a0 : Nat} {x1 : Int32} (ha0 : zk a0 = 0) : zCall d kX0_stonesAt [.ref a0, .int x1] σ Q ↔ (if x1 < (0 : Int32) then Q (some (.int 0)) σ else (if x1 < 16 then (vp_in x1 16 ∧ Q (some (.int (zI σ (a0 + 2) (x1 : Int32).toNatClampNeg))) σ) else Q (some (.int 0)) σ)) := by
  show zW d kX0_stonesAt 0 [.ref a0, .int x1] [] σ Q ↔ _
  refine Iff.trans (zw_iload_n (show decode cX0_stonesAt 0 = .ok (.iload_n 1, 1) by decide +kernel) rfl) ?_
  refine Iff.trans (zw_if_lt (t := 10) (show decode cX0_stonesAt 1 = .ok (.ifCond .lt 9, 3) by decide +kernel) (by decide)) ?_
  refine zw_ite ?_ ?_
  · refine Iff.trans (zw_iconst (x := 0) (show decode cX0_stonesAt 10 = .ok (.iconst 0, 1) by decide +kernel) (by decide)) ?_
    refine Iff.trans (zw_goto (t := 20) (show decode cX0_stonesAt 11 = .ok (.goto 9, 3) by decide +kernel) (by decide)) ?_
    exact zw_iret1 (show decode cX0_stonesAt 20 = .ok (.ireturn, 1) by decide +kernel) rfl
  · refine Iff.trans (zw_iload_n (show decode cX0_stonesAt 4 = .ok (.iload_n 1, 1) by decide +kernel) rfl) ?_
    refine Iff.trans (zw_bipush (x := 16) (show decode cX0_stonesAt 5 = .ok (.bipush 16, 2) by decide +kernel) (by decide)) ?_
    refine Iff.trans (zw_icmp_lt (t := 14) (show decode cX0_stonesAt 7 = .ok (.if_icmp .lt 7, 3) by decide +kernel) (by decide)) ?_
    refine zw_ite ?_ ?_
    · refine Iff.trans (zw_aload_n (show decode cX0_stonesAt 14 = .ok (.aload_n 0, 1) by decide +kernel) rfl) ?_
      refine Iff.trans (zw_get (show decode cX0_stonesAt 15 = .ok (.getfield 15, 3) by decide +kernel) (by decide +kernel : zfld 0 15 = some (0, 1)) (hl.k2 ha0) (hl.n2 ha0) (zgetR (v := a0 + 2) (hl.r (zrt0_1 ha0)) rfl)) ?_
      refine Iff.trans (zw_iload_n (show decode cX0_stonesAt 18 = .ok (.iload_n 1, 1) by decide +kernel) rfl) ?_
      refine Iff.trans (zw_iald2 (show decode cX0_stonesAt 19 = .ok (.iaload, 1) by decide +kernel) (hl.k2 (zf_brook ha0).2.1.1) (hl.n2 (zf_brook ha0).2.1.1) (hl.l2 (zf_brook ha0).2.1.1 (zf_brook ha0).2.1.2) (w := zI σ (a0 + 2) (x1 : Int32).toNatClampNeg) rfl) ?_
      refine zw_and ?_
      exact zw_iret1 (show decode cX0_stonesAt 20 = .ok (.ireturn, 1) by decide +kernel) rfl
    · refine Iff.trans (zw_iconst (x := 0) (show decode cX0_stonesAt 10 = .ok (.iconst 0, 1) by decide +kernel) (by decide)) ?_
      refine Iff.trans (zw_goto (t := 20) (show decode cX0_stonesAt 11 = .ok (.goto 9, 3) by decide +kernel) (by decide)) ?_
      exact zw_iret1 (show decode cX0_stonesAt 20 = .ok (.ireturn, 1) by decide +kernel) rfl

theorem bX0_eddiesAt_0 {d : Nat} {σ : zS} {Q : Option Value → zS → Prop} (hl : zLay σ) {a0 : Nat} {x1 : Int32} (ha0 : zk a0 = 0) : zCall d kX0_eddiesAt [.ref a0, .int x1] σ Q ↔ (if x1 < (0 : Int32) then Q (some (.int 0)) σ else (if x1 < 16 then (vp_in x1 16 ∧ Q (some (.int (zI σ (a0 + 3) (x1 : Int32).toNatClampNeg))) σ) else Q (some (.int 0)) σ)) := by
  show zW d kX0_eddiesAt 0 [.ref a0, .int x1] [] σ Q ↔ _
  refine Iff.trans (zw_iload_n (show decode cX0_eddiesAt 0 = .ok (.iload_n 1, 1) by decide +kernel) rfl) ?_
  refine Iff.trans (zw_if_lt (t := 10) (show decode cX0_eddiesAt 1 = .ok (.ifCond .lt 9, 3) by decide +kernel) (by decide)) ?_
  refine zw_ite ?_ ?_
  · refine Iff.trans (zw_iconst (x := 0) (show decode cX0_eddiesAt 10 = .ok (.iconst 0, 1) by decide +kernel) (by decide)) ?_
    refine Iff.trans (zw_goto (t := 20) (show decode cX0_eddiesAt 11 = .ok (.goto 9, 3) by decide +kernel) (by decide)) ?_
    exact zw_iret1 (show decode cX0_eddiesAt 20 = .ok (.ireturn, 1) by decide +kernel) rfl
  · refine Iff.trans (zw_iload_n (show decode cX0_eddiesAt 4 = .ok (.iload_n 1, 1) by decide +kernel) rfl) ?_
    refine Iff.trans (zw_bipush (x := 16) (show decode cX0_eddiesAt 5 = .ok (.bipush 16, 2) by decide +kernel) (by decide)) ?_
    refine Iff.trans (zw_icmp_lt (t := 14) (show decode cX0_eddiesAt 7 = .ok (.if_icmp .lt 7, 3) by decide +kernel) (by decide)) ?_
    refine zw_ite ?_ ?_
    · refine Iff.trans (zw_aload_n (show decode cX0_eddiesAt 14 = .ok (.aload_n 0, 1) by decide +kernel) rfl) ?_
      refine Iff.trans (zw_get (show decode cX0_eddiesAt 15 = .ok (.getfield 18, 3) by decide +kernel) (by decide +kernel : zfld 0 18 = some (0, 2)) (hl.k2 ha0) (hl.n2 ha0) (zgetR (v := a0 + 3) (hl.r (zrt0_2 ha0)) rfl)) ?_
      refine Iff.trans (zw_iload_n (show decode cX0_eddiesAt 18 = .ok (.iload_n 1, 1) by decide +kernel) rfl) ?_
      refine Iff.trans (zw_iald2 (show decode cX0_eddiesAt 19 = .ok (.iaload, 1) by decide +kernel) (hl.k2 (zf_brook ha0).2.2.1) (hl.n2 (zf_brook ha0).2.2.1) (hl.l2 (zf_brook ha0).2.2.1 (zf_brook ha0).2.2.2) (w := zI σ (a0 + 3) (x1 : Int32).toNatClampNeg) rfl) ?_
      refine zw_and ?_
      exact zw_iret1 (show decode cX0_eddiesAt 20 = .ok (.ireturn, 1) by decide +kernel) rfl
    · refine Iff.trans (zw_iconst (x := 0) (show decode cX0_eddiesAt 10 = .ok (.iconst 0, 1) by decide +kernel) (by decide)) ?_
      refine Iff.trans (zw_goto (t := 20) (show decode cX0_eddiesAt 11 = .ok (.goto 9, 3) by decide +kernel) (by decide)) ?_
      exact zw_iret1 (show decode cX0_eddiesAt 20 = .ok (.ireturn, 1) by decide +kernel) rfl

theorem bX0_stonesInAll_0 {d : Nat} {σ : zS} {Q : Option Value → zS → Prop} (hl : zLay σ) {a0 : Nat} (ha0 : zk a0 = 0) : zCall (d + 1) kX0_stonesInAll [.ref a0] σ Q ↔ zW (d + 1) kX0_stonesInAll 4 [.ref a0, .int 0, .int 0] [] σ Q := by
  show zW (d + 1) kX0_stonesInAll 0 [.ref a0, .retAddr 0, .retAddr 0] [] σ Q ↔ _
  refine Iff.trans (zw_iconst (x := 0) (show decode cX0_stonesInAll 0 = .ok (.iconst 0, 1) by decide +kernel) (by decide)) ?_
  refine Iff.trans (zw_istore_n (ls' := [.ref a0, .int 0, .retAddr 0]) (show decode cX0_stonesInAll 1 = .ok (.istore_n 1, 1) by decide +kernel) (zset_s (Nat.le_of_ble_eq_true rfl) rfl)) ?_
  refine Iff.trans (zw_iconst (x := 0) (show decode cX0_stonesInAll 2 = .ok (.iconst 0, 1) by decide +kernel) (by decide)) ?_
  refine Iff.trans (zw_istore_n (ls' := [.ref a0, .int 0, .int 0]) (show decode cX0_stonesInAll 3 = .ok (.istore_n 2, 1) by decide +kernel) (zset_s (Nat.le_of_ble_eq_true rfl) rfl)) ?_
  exact Iff.rfl

theorem bX0_stonesInAll_4 {d : Nat} {σ : zS} {Q : Option Value → zS → Prop} (hl : zLay σ) {a0 : Nat} {x1 x2 : Int32} (ha0 : zk a0 = 0) : zW (d + 1) kX0_stonesInAll 4 [.ref a0, .int x1, .int x2] [] σ Q ↔ (if 16 ≤ x2 then Q (some (.int x1)) σ else (vp_in x2 16 ∧ zCall d kJ6_bitCount_0f7a4 [.int (zI σ (a0 + 2) (x2 : Int32).toNatClampNeg)] σ (fun r σ' => zisN r = true ∧ zW (d + 1) kX0_stonesInAll 20 [.ref a0, .int x1, .int x2] (zRstk r ++ [.int x1]) σ' Q))) := by
  refine Iff.trans (zw_iload_n (show decode cX0_stonesInAll 4 = .ok (.iload_n 2, 1) by decide +kernel) rfl) ?_
  refine Iff.trans (zw_bipush (x := 16) (show decode cX0_stonesInAll 5 = .ok (.bipush 16, 2) by decide +kernel) (by decide)) ?_
  refine Iff.trans (zw_icmp_ge (t := 28) (show decode cX0_stonesInAll 7 = .ok (.if_icmp .ge 21, 3) by decide +kernel) (by decide)) ?_
  refine zw_ite ?_ ?_
  · refine Iff.trans (zw_iload_n (show decode cX0_stonesInAll 28 = .ok (.iload_n 1, 1) by decide +kernel) rfl) ?_
    exact zw_iret1 (show decode cX0_stonesInAll 29 = .ok (.ireturn, 1) by decide +kernel) rfl
  · refine Iff.trans (zw_iload_n (show decode cX0_stonesInAll 10 = .ok (.iload_n 1, 1) by decide +kernel) rfl) ?_
    refine Iff.trans (zw_aload_n (show decode cX0_stonesInAll 11 = .ok (.aload_n 0, 1) by decide +kernel) rfl) ?_
    refine Iff.trans (zw_get (show decode cX0_stonesInAll 12 = .ok (.getfield 15, 3) by decide +kernel) (by decide +kernel : zfld 0 15 = some (0, 1)) (hl.k2 ha0) (hl.n2 ha0) (zgetR (v := a0 + 2) (hl.r (zrt0_1 ha0)) rfl)) ?_
    refine Iff.trans (zw_iload_n (show decode cX0_stonesInAll 15 = .ok (.iload_n 2, 1) by decide +kernel) rfl) ?_
    refine Iff.trans (zw_iald2 (show decode cX0_stonesInAll 16 = .ok (.iaload, 1) by decide +kernel) (hl.k2 (zf_brook ha0).2.1.1) (hl.n2 (zf_brook ha0).2.1.1) (hl.l2 (zf_brook ha0).2.1.1 (zf_brook ha0).2.1.2) (w := zI σ (a0 + 2) (x2 : Int32).toNatClampNeg) rfl) ?_
    refine zw_and ?_
    refine Iff.trans (zw_invS (K' := kJ6_bitCount_0f7a4) (as := [.int (zI σ (a0 + 2) (x2 : Int32).toNatClampNeg)]) (rest := [.int x1]) (show decode cX0_stonesInAll 17 = .ok (.invokestatic 44, 3) by decide +kernel) (by rfl) rfl rfl rfl ⟨Nat.le_of_ble_eq_true rfl, Nat.le_of_ble_eq_true rfl, Nat.le_of_ble_eq_true rfl⟩) ?_
    exact Iff.rfl

theorem bX0_stonesInAll_20 {d : Nat} {σ : zS} {Q : Option Value → zS → Prop} (hl : zLay σ) {a0 : Nat} {x1 x2 y0 y1 : Int32} (ha0 : zk a0 = 0) : zW (d + 1) kX0_stonesInAll 20 [.ref a0, .int x1, .int x2] [.int y0, .int y1] σ Q ↔ zW (d + 1) kX0_stonesInAll 4 [.ref a0, .int (y1 + y0), .int (x2 + 1)] [] σ Q := by
  refine Iff.trans (zw_iadd (show decode cX0_stonesInAll 20 = .ok (.iadd, 1) by decide +kernel)) ?_
  refine Iff.trans (zw_istore_n (ls' := [.ref a0, .int (y1 + y0), .int x2]) (show decode cX0_stonesInAll 21 = .ok (.istore_n 1, 1) by decide +kernel) (zset_s (Nat.le_of_ble_eq_true rfl) rfl)) ?_
  refine Iff.trans (zw_iinc (w := 1) (ls' := [.ref a0, .int (y1 + y0), .int (x2 + 1)]) (show decode cX0_stonesInAll 22 = .ok (.iinc 2 1, 3) by decide +kernel) rfl (by decide) (zset_s (Nat.le_of_ble_eq_true rfl) rfl)) ?_
  refine Iff.trans (zw_goto (t := 4) (show decode cX0_stonesInAll 25 = .ok (.goto (-21), 3) by decide +kernel) (by decide)) ?_
  exact Iff.rfl

theorem bX0_eddiesInAll_0 {d : Nat} {σ : zS} {Q : Option Value → zS → Prop} (hl : zLay σ) {a0 : Nat} (ha0 : zk a0 = 0) : zCall (d + 1) kX0_eddiesInAll [.ref a0] σ Q ↔ zW (d + 1) kX0_eddiesInAll 4 [.ref a0, .int 0, .int 0] [] σ Q := by
  show zW (d + 1) kX0_eddiesInAll 0 [.ref a0, .retAddr 0, .retAddr 0] [] σ Q ↔ _
  refine Iff.trans (zw_iconst (x := 0) (show decode cX0_eddiesInAll 0 = .ok (.iconst 0, 1) by decide +kernel) (by decide)) ?_
  refine Iff.trans (zw_istore_n (ls' := [.ref a0, .int 0, .retAddr 0]) (show decode cX0_eddiesInAll 1 = .ok (.istore_n 1, 1) by decide +kernel) (zset_s (Nat.le_of_ble_eq_true rfl) rfl)) ?_
  refine Iff.trans (zw_iconst (x := 0) (show decode cX0_eddiesInAll 2 = .ok (.iconst 0, 1) by decide +kernel) (by decide)) ?_
  refine Iff.trans (zw_istore_n (ls' := [.ref a0, .int 0, .int 0]) (show decode cX0_eddiesInAll 3 = .ok (.istore_n 2, 1) by decide +kernel) (zset_s (Nat.le_of_ble_eq_true rfl) rfl)) ?_
  exact Iff.rfl

theorem bX0_eddiesInAll_4 {d : Nat} {σ : zS} {Q : Option Value → zS → Prop} (hl : zLay σ) {a0 : Nat} {x1 x2 : Int32} (ha0 : zk a0 = 0) : zW (d + 1) kX0_eddiesInAll 4 [.ref a0, .int x1, .int x2] [] σ Q ↔ (if 16 ≤ x2 then Q (some (.int x1)) σ else (vp_in x2 16 ∧ zCall d kJ6_bitCount_0f7a4 [.int (zI σ (a0 + 3) (x2 : Int32).toNatClampNeg)] σ (fun r σ' => zisN r = true ∧ zW (d + 1) kX0_eddiesInAll 20 [.ref a0, .int x1, .int x2] (zRstk r ++ [.int x1]) σ' Q))) := by
  refine Iff.trans (zw_iload_n (show decode cX0_eddiesInAll 4 = .ok (.iload_n 2, 1) by decide +kernel) rfl) ?_
  refine Iff.trans (zw_bipush (x := 16) (show decode cX0_eddiesInAll 5 = .ok (.bipush 16, 2) by decide +kernel) (by decide)) ?_
  refine Iff.trans (zw_icmp_ge (t := 28) (show decode cX0_eddiesInAll 7 = .ok (.if_icmp .ge 21, 3) by decide +kernel) (by decide)) ?_
  refine zw_ite ?_ ?_
  · refine Iff.trans (zw_iload_n (show decode cX0_eddiesInAll 28 = .ok (.iload_n 1, 1) by decide +kernel) rfl) ?_
    exact zw_iret1 (show decode cX0_eddiesInAll 29 = .ok (.ireturn, 1) by decide +kernel) rfl
  · refine Iff.trans (zw_iload_n (show decode cX0_eddiesInAll 10 = .ok (.iload_n 1, 1) by decide +kernel) rfl) ?_
    refine Iff.trans (zw_aload_n (show decode cX0_eddiesInAll 11 = .ok (.aload_n 0, 1) by decide +kernel) rfl) ?_
    refine Iff.trans (zw_get (show decode cX0_eddiesInAll 12 = .ok (.getfield 18, 3) by decide +kernel) (by decide +kernel : zfld 0 18 = some (0, 2)) (hl.k2 ha0) (hl.n2 ha0) (zgetR (v := a0 + 3) (hl.r (zrt0_2 ha0)) rfl)) ?_
    refine Iff.trans (zw_iload_n (show decode cX0_eddiesInAll 15 = .ok (.iload_n 2, 1) by decide +kernel) rfl) ?_
    refine Iff.trans (zw_iald2 (show decode cX0_eddiesInAll 16 = .ok (.iaload, 1) by decide +kernel) (hl.k2 (zf_brook ha0).2.2.1) (hl.n2 (zf_brook ha0).2.2.1) (hl.l2 (zf_brook ha0).2.2.1 (zf_brook ha0).2.2.2) (w := zI σ (a0 + 3) (x2 : Int32).toNatClampNeg) rfl) ?_
    refine zw_and ?_
    refine Iff.trans (zw_invS (K' := kJ6_bitCount_0f7a4) (as := [.int (zI σ (a0 + 3) (x2 : Int32).toNatClampNeg)]) (rest := [.int x1]) (show decode cX0_eddiesInAll 17 = .ok (.invokestatic 44, 3) by decide +kernel) (by rfl) rfl rfl rfl ⟨Nat.le_of_ble_eq_true rfl, Nat.le_of_ble_eq_true rfl, Nat.le_of_ble_eq_true rfl⟩) ?_
    exact Iff.rfl

theorem bX0_eddiesInAll_20 {d : Nat} {σ : zS} {Q : Option Value → zS → Prop} (hl : zLay σ) {a0 : Nat} {x1 x2 y0 y1 : Int32} (ha0 : zk a0 = 0) : zW (d + 1) kX0_eddiesInAll 20 [.ref a0, .int x1, .int x2] [.int y0, .int y1] σ Q ↔ zW (d + 1) kX0_eddiesInAll 4 [.ref a0, .int (y1 + y0), .int (x2 + 1)] [] σ Q := by
  refine Iff.trans (zw_iadd (show decode cX0_eddiesInAll 20 = .ok (.iadd, 1) by decide +kernel)) ?_
  refine Iff.trans (zw_istore_n (ls' := [.ref a0, .int (y1 + y0), .int x2]) (show decode cX0_eddiesInAll 21 = .ok (.istore_n 1, 1) by decide +kernel) (zset_s (Nat.le_of_ble_eq_true rfl) rfl)) ?_
  refine Iff.trans (zw_iinc (w := 1) (ls' := [.ref a0, .int (y1 + y0), .int (x2 + 1)]) (show decode cX0_eddiesInAll 22 = .ok (.iinc 2 1, 3) by decide +kernel) rfl (by decide) (zset_s (Nat.le_of_ble_eq_true rfl) rfl)) ?_
  refine Iff.trans (zw_goto (t := 4) (show decode cX0_eddiesInAll 25 = .ok (.goto (-21), 3) by decide +kernel) (by decide)) ?_
  exact Iff.rfl

theorem bX0_stonesBar_0 {d : Nat} {σ : zS} {Q : Option Value → zS → Prop} (hl : zLay σ) {x0 : Int32} : zCall d kX0_stonesBar [.int x0] σ Q ↔ (if 2 ≤ x0 then Q (some (.int 0)) σ else Q (some (.int 1)) σ) := by
  show zW d kX0_stonesBar 0 [.int x0] [] σ Q ↔ _
  refine Iff.trans (zw_iload_n (show decode cX0_stonesBar 0 = .ok (.iload_n 0, 1) by decide +kernel) rfl) ?_
  refine Iff.trans (zw_iconst (x := 2) (show decode cX0_stonesBar 1 = .ok (.iconst 2, 1) by decide +kernel) (by decide)) ?_
  refine Iff.trans (zw_icmp_ge (t := 9) (show decode cX0_stonesBar 2 = .ok (.if_icmp .ge 7, 3) by decide +kernel) (by decide)) ?_
  refine zw_ite ?_ ?_
  · refine Iff.trans (zw_iconst (x := 0) (show decode cX0_stonesBar 9 = .ok (.iconst 0, 1) by decide +kernel) (by decide)) ?_
    exact zw_iret2c (show decode cX0_stonesBar 10 = .ok (.ireturn, 1) by decide +kernel) rfl (Or.inl rfl)
  · refine Iff.trans (zw_iconst (x := 1) (show decode cX0_stonesBar 5 = .ok (.iconst 1, 1) by decide +kernel) (by decide)) ?_
    refine Iff.trans (zw_goto (t := 10) (show decode cX0_stonesBar 6 = .ok (.goto 4, 3) by decide +kernel) (by decide)) ?_
    exact zw_iret2c (show decode cX0_stonesBar 10 = .ok (.ireturn, 1) by decide +kernel) rfl (Or.inr rfl)

theorem bX0_holds_0 {d : Nat} {σ : zS} {Q : Option Value → zS → Prop} (hl : zLay σ) {a0 a1 : Nat} {x2 x3 x4 : Int32} (ha0 : zk a0 = 0) (ha1 : zk a1 = 6) : zCall (d + 1) kX0_holds [.ref a0, .ref a1, .int x2, .int x3, .int x4] σ Q ↔ (if x2 < (0 : Int32) then Q (some (.int 0)) σ else (if (zI σ a0 4) ≤ x2 then Q (some (.int 0)) σ else (if x3 < (0 : Int32) then Q (some (.int 0)) σ else (if x3 ≤ ((zI σ a0 3) - (zI σ a1 0)) then zCall d kX0_stonesBar [.int x4] σ (fun r σ' => zisN r = true ∧ zW (d + 1) kX0_holds 36 [.ref a0, .ref a1, .int x2, .int x3, .int x4] (zRstk r ++ []) σ' Q) else Q (some (.int 0)) σ)))) := by
  show zW (d + 1) kX0_holds 0 [.ref a0, .ref a1, .int x2, .int x3, .int x4] [] σ Q ↔ _
  refine Iff.trans (zw_iload_n (show decode cX0_holds 0 = .ok (.iload_n 2, 1) by decide +kernel) rfl) ?_
  refine Iff.trans (zw_if_lt (t := 29) (show decode cX0_holds 1 = .ok (.ifCond .lt 28, 3) by decide +kernel) (by decide)) ?_
  refine zw_ite ?_ ?_
  · refine Iff.trans (zw_iconst (x := 0) (show decode cX0_holds 29 = .ok (.iconst 0, 1) by decide +kernel) (by decide)) ?_
    exact zw_iret2c (show decode cX0_holds 30 = .ok (.ireturn, 1) by decide +kernel) rfl (Or.inl rfl)
  · refine Iff.trans (zw_iload_n (show decode cX0_holds 4 = .ok (.iload_n 2, 1) by decide +kernel) rfl) ?_
    refine Iff.trans (zw_aload_n (show decode cX0_holds 5 = .ok (.aload_n 0, 1) by decide +kernel) rfl) ?_
    refine Iff.trans (zw_getI (show decode cX0_holds 6 = .ok (.getfield 25, 3) by decide +kernel) (by decide +kernel : zfld 0 25 = some (0, 4)) (hl.k2 ha0) (hl.n2 ha0) (Or.inl rfl) (w := zI σ a0 4) rfl) ?_
    refine Iff.trans (zw_icmp_ge (t := 29) (show decode cX0_holds 9 = .ok (.if_icmp .ge 20, 3) by decide +kernel) (by decide)) ?_
    refine zw_ite ?_ ?_
    · refine Iff.trans (zw_iconst (x := 0) (show decode cX0_holds 29 = .ok (.iconst 0, 1) by decide +kernel) (by decide)) ?_
      exact zw_iret2c (show decode cX0_holds 30 = .ok (.ireturn, 1) by decide +kernel) rfl (Or.inl rfl)
    · refine Iff.trans (zw_iload_n (show decode cX0_holds 12 = .ok (.iload_n 3, 1) by decide +kernel) rfl) ?_
      refine Iff.trans (zw_if_lt (t := 29) (show decode cX0_holds 13 = .ok (.ifCond .lt 16, 3) by decide +kernel) (by decide)) ?_
      refine zw_ite ?_ ?_
      · refine Iff.trans (zw_iconst (x := 0) (show decode cX0_holds 29 = .ok (.iconst 0, 1) by decide +kernel) (by decide)) ?_
        exact zw_iret2c (show decode cX0_holds 30 = .ok (.ireturn, 1) by decide +kernel) rfl (Or.inl rfl)
      · refine Iff.trans (zw_iload_n (show decode cX0_holds 16 = .ok (.iload_n 3, 1) by decide +kernel) rfl) ?_
        refine Iff.trans (zw_aload_n (show decode cX0_holds 17 = .ok (.aload_n 0, 1) by decide +kernel) rfl) ?_
        refine Iff.trans (zw_getI (show decode cX0_holds 18 = .ok (.getfield 21, 3) by decide +kernel) (by decide +kernel : zfld 0 21 = some (0, 3)) (hl.k2 ha0) (hl.n2 ha0) (Or.inl rfl) (w := zI σ a0 3) rfl) ?_
        refine Iff.trans (zw_aload_n (show decode cX0_holds 21 = .ok (.aload_n 1, 1) by decide +kernel) rfl) ?_
        refine Iff.trans (zw_getI (show decode cX0_holds 22 = .ok (.getfield 50, 3) by decide +kernel) (by decide +kernel : zfld 0 50 = some (6, 0)) (hl.k2 ha1) (hl.n2 ha1) (Or.inl rfl) (w := zI σ a1 0) rfl) ?_
        refine Iff.trans (zw_isub (show decode cX0_holds 25 = .ok (.isub, 1) by decide +kernel)) ?_
        refine Iff.trans (zw_icmp_le (t := 31) (show decode cX0_holds 26 = .ok (.if_icmp .le 5, 3) by decide +kernel) (by decide)) ?_
        refine zw_ite ?_ ?_
        · refine Iff.trans (zw_iload (show decode cX0_holds 31 = .ok (.iload 4, 2) by decide +kernel) rfl) ?_
          refine Iff.trans (zw_invS (K' := kX0_stonesBar) (as := [.int x4]) (rest := []) (show decode cX0_holds 33 = .ok (.invokestatic 55, 3) by decide +kernel) (by rfl) rfl rfl rfl ⟨Nat.le_of_ble_eq_true rfl, Nat.le_of_ble_eq_true rfl, Nat.le_of_ble_eq_true rfl⟩) ?_
          exact Iff.rfl
        · refine Iff.trans (zw_iconst (x := 0) (show decode cX0_holds 29 = .ok (.iconst 0, 1) by decide +kernel) (by decide)) ?_
          exact zw_iret2c (show decode cX0_holds 30 = .ok (.ireturn, 1) by decide +kernel) rfl (Or.inl rfl)

theorem bX0_holds_36 {d : Nat} {σ : zS} {Q : Option Value → zS → Prop} (hl : zLay σ) {a0 a1 : Nat} {x2 x3 x4 y0 : Int32} (ha0 : zk a0 = 0) (ha1 : zk a1 = 6) : zW (d + 1) kX0_holds 36 [.ref a0, .ref a1, .int x2, .int x3, .int x4] [.int y0] σ Q ↔ (if y0 = (0 : Int32) then Q (some (.int 1)) σ else zCall d kX0_stonesAt [.ref a0, .int x2] σ (fun r σ' => zisN r = true ∧ zW (d + 1) kX0_holds 44 [.ref a0, .ref a1, .int x2, .int x3, .int x4] (zRstk r ++ []) σ' Q)) := by
  refine Iff.trans (zw_if_eq (t := 53) (show decode cX0_holds 36 = .ok (.ifCond .eq 17, 3) by decide +kernel) (by decide)) ?_
  refine zw_ite ?_ ?_
  · refine Iff.trans (zw_iconst (x := 1) (show decode cX0_holds 53 = .ok (.iconst 1, 1) by decide +kernel) (by decide)) ?_
    refine Iff.trans (zw_goto (t := 58) (show decode cX0_holds 54 = .ok (.goto 4, 3) by decide +kernel) (by decide)) ?_
    exact zw_iret2c (show decode cX0_holds 58 = .ok (.ireturn, 1) by decide +kernel) rfl (Or.inr rfl)
  · refine Iff.trans (zw_aload_n (show decode cX0_holds 39 = .ok (.aload_n 0, 1) by decide +kernel) rfl) ?_
    refine Iff.trans (zw_iload_n (show decode cX0_holds 40 = .ok (.iload_n 2, 1) by decide +kernel) rfl) ?_
    refine Iff.trans (zw_invV (K' := kX0_stonesAt) (as' := [.int x2]) (rest := []) (show decode cX0_holds 41 = .ok (.invokevirtual 59, 3) by decide +kernel) (by rfl) rfl rfl rfl (hl.k2 ha0) (by decide) (hl.n2 ha0) ⟨Nat.le_of_ble_eq_true rfl, Nat.le_of_ble_eq_true rfl, Nat.le_of_ble_eq_true rfl⟩) ?_
    exact Iff.rfl

theorem bX0_holds_44 {d : Nat} {σ : zS} {Q : Option Value → zS → Prop} (hl : zLay σ) {a0 a1 : Nat} {x2 x3 x4 y0 : Int32} (ha0 : zk a0 = 0) (ha1 : zk a1 = 6) : zW (d + 1) kX0_holds 44 [.ref a0, .ref a1, .int x2, .int x3, .int x4] [.int y0] σ Q ↔ zCall d kX6_lanesFrom [.ref a1, .int x3] σ (fun r σ' => zisN r = true ∧ zW (d + 1) kX0_holds 49 [.ref a0, .ref a1, .int x2, .int x3, .int x4] (zRstk r ++ [.int y0]) σ' Q) := by
  refine Iff.trans (zw_aload_n (show decode cX0_holds 44 = .ok (.aload_n 1, 1) by decide +kernel) rfl) ?_
  refine Iff.trans (zw_iload_n (show decode cX0_holds 45 = .ok (.iload_n 3, 1) by decide +kernel) rfl) ?_
  refine Iff.trans (zw_invV (K' := kX6_lanesFrom) (as' := [.int x3]) (rest := [.int y0]) (show decode cX0_holds 46 = .ok (.invokevirtual 62, 3) by decide +kernel) (by rfl) rfl rfl rfl (hl.k2 ha1) (by decide) (hl.n2 ha1) ⟨Nat.le_of_ble_eq_true rfl, Nat.le_of_ble_eq_true rfl, Nat.le_of_ble_eq_true rfl⟩) ?_
  exact Iff.rfl

theorem bX0_holds_49 {d : Nat} {σ : zS} {Q : Option Value → zS → Prop} (hl : zLay σ) {a0 a1 : Nat} {x2 x3 x4 y0 y1 : Int32} (ha0 : zk a0 = 0) (ha1 : zk a1 = 6) : zW (d + 1) kX0_holds 49 [.ref a0, .ref a1, .int x2, .int x3, .int x4] [.int y0, .int y1] σ Q ↔ (if (y1 &&& y0) = (0 : Int32) then Q (some (.int 1)) σ else Q (some (.int 0)) σ) := by
  refine Iff.trans (zw_iand (show decode cX0_holds 49 = .ok (.iand, 1) by decide +kernel)) ?_
  refine Iff.trans (zw_if_ne (t := 57) (show decode cX0_holds 50 = .ok (.ifCond .ne 7, 3) by decide +kernel) (by decide)) ?_
  refine zw_ite ?_ ?_
  · refine Iff.trans (zw_iconst (x := 1) (show decode cX0_holds 53 = .ok (.iconst 1, 1) by decide +kernel) (by decide)) ?_
    refine Iff.trans (zw_goto (t := 58) (show decode cX0_holds 54 = .ok (.goto 4, 3) by decide +kernel) (by decide)) ?_
    exact zw_iret2c (show decode cX0_holds 58 = .ok (.ireturn, 1) by decide +kernel) rfl (Or.inr rfl)
  · refine Iff.trans (zw_iconst (x := 0) (show decode cX0_holds 57 = .ok (.iconst 0, 1) by decide +kernel) (by decide)) ?_
    exact zw_iret2c (show decode cX0_holds 58 = .ok (.ireturn, 1) by decide +kernel) rfl (Or.inl rfl)

theorem bX1_note_0 {d : Nat} {σ : zS} {Q : Option Value → zS → Prop} (hl : zLay σ) {a0 a1 : Nat} (ha0 : zk a0 = 1) (ha1 : zk a1 = 2) : zCall (d + 1) kX1_note [.ref a0, .ref a1] σ Q ↔ (if (zI σ a1 5) < (0 : Int32) then Q none σ else (if (zI σ a1 5) ≤ 60 then zCall d kX2_foremost [.ref a1] σ (fun r σ' => zisN r = true ∧ zW (d + 1) kX1_note 25 [.ref a0, .ref a1, .int (zI σ a1 5), .retAddr 0] (zRstk r ++ [.int (zI σ a1 5), .ref (a0 + 3)]) σ' Q) else Q none σ)) := by
  show zW (d + 1) kX1_note 0 [.ref a0, .ref a1, .retAddr 0, .retAddr 0] [] σ Q ↔ _
  refine Iff.trans (zw_aload_n (show decode cX1_note 0 = .ok (.aload_n 1, 1) by decide +kernel) rfl) ?_
  refine Iff.trans (zw_getI (show decode cX1_note 1 = .ok (.getfield 21, 3) by decide +kernel) (by decide +kernel : zfld 1 21 = some (2, 5)) (hl.k2 ha1) (hl.n2 ha1) (Or.inl rfl) (w := zI σ a1 5) rfl) ?_
  refine Iff.trans (zw_istore_n (ls' := [.ref a0, .ref a1, .int (zI σ a1 5), .retAddr 0]) (show decode cX1_note 4 = .ok (.istore_n 2, 1) by decide +kernel) (zset_s (Nat.le_of_ble_eq_true rfl) rfl)) ?_
  refine Iff.trans (zw_iload_n (show decode cX1_note 5 = .ok (.iload_n 2, 1) by decide +kernel) rfl) ?_
  refine Iff.trans (zw_if_lt (t := 15) (show decode cX1_note 6 = .ok (.ifCond .lt 9, 3) by decide +kernel) (by decide)) ?_
  refine zw_ite ?_ ?_
  · exact zw_ret (show decode cX1_note 15 = .ok (.return_, 1) by decide +kernel) rfl
  · refine Iff.trans (zw_iload_n (show decode cX1_note 9 = .ok (.iload_n 2, 1) by decide +kernel) rfl) ?_
    refine Iff.trans (zw_bipush (x := 60) (show decode cX1_note 10 = .ok (.bipush 60, 2) by decide +kernel) (by decide)) ?_
    refine Iff.trans (zw_icmp_le (t := 16) (show decode cX1_note 12 = .ok (.if_icmp .le 4, 3) by decide +kernel) (by decide)) ?_
    refine zw_ite ?_ ?_
    · refine Iff.trans (zw_aload_n (show decode cX1_note 16 = .ok (.aload_n 0, 1) by decide +kernel) rfl) ?_
      refine Iff.trans (zw_get (show decode cX1_note 17 = .ok (.getfield 18, 3) by decide +kernel) (by decide +kernel : zfld 1 18 = some (1, 2)) (hl.k2 ha0) (hl.n2 ha0) (zgetR (v := a0 + 3) (hl.r (zrt1_2 ha0)) rfl)) ?_
      refine Iff.trans (zw_iload_n (show decode cX1_note 20 = .ok (.iload_n 2, 1) by decide +kernel) rfl) ?_
      refine Iff.trans (zw_aload_n (show decode cX1_note 21 = .ok (.aload_n 1, 1) by decide +kernel) rfl) ?_
      refine Iff.trans (zw_invV (K' := kX2_foremost) (as' := []) (rest := [.int (zI σ a1 5), .ref (a0 + 3)]) (show decode cX1_note 22 = .ok (.invokevirtual 27, 3) by decide +kernel) (by rfl) rfl rfl rfl (hl.k2 ha1) (by decide) (hl.n2 ha1) ⟨Nat.le_of_ble_eq_true rfl, Nat.le_of_ble_eq_true rfl, Nat.le_of_ble_eq_true rfl⟩) ?_
      exact Iff.rfl
    · exact zw_ret (show decode cX1_note 15 = .ok (.return_, 1) by decide +kernel) rfl

theorem bX1_note_25 {d : Nat} {σ : zS} {Q : Option Value → zS → Prop} (hl : zLay σ) {a0 a1 : Nat} {x2 y0 y1 : Int32} (ha0 : zk a0 = 1) (ha1 : zk a1 = 2) : zW (d + 1) kX1_note 25 [.ref a0, .ref a1, .int x2, .retAddr 0] [.int y0, .int y1, .ref (a0 + 3)] σ Q ↔ (vp_in y1 61 ∧ zW (d + 1) kX1_note 28 [.ref a0, .ref a1, .int x2, .int 0] [] (zsI σ (a0 + 3) (upd (zI σ (a0 + 3)) (y1 : Int32).toNatClampNeg y0)) Q) := by
  refine Iff.trans (zw_iast2 (show decode cX1_note 25 = .ok (.iastore, 1) by decide +kernel) (hl.k2 (zf_log ha0).2.2.1) (hl.n2 (zf_log ha0).2.2.1) (hl.l2 (zf_log ha0).2.2.1 (zf_log ha0).2.2.2) (σ' := (zsI σ (a0 + 3) (upd (zI σ (a0 + 3)) (y1 : Int32).toNatClampNeg y0))) rfl) ?_
  refine zw_and ?_
  refine Iff.trans (zw_iconst (x := 0) (show decode cX1_note 26 = .ok (.iconst 0, 1) by decide +kernel) (by decide)) ?_
  refine Iff.trans (zw_istore_n (ls' := [.ref a0, .ref a1, .int x2, .int 0]) (show decode cX1_note 27 = .ok (.istore_n 3, 1) by decide +kernel) (zset_s (Nat.le_of_ble_eq_true rfl) rfl)) ?_
  exact Iff.rfl

theorem bX1_note_28 {d : Nat} {σ : zS} {Q : Option Value → zS → Prop} (hl : zLay σ) {a0 a1 : Nat} {x2 x3 : Int32} (ha0 : zk a0 = 1) (ha1 : zk a1 = 2) : zW (d + 1) kX1_note 28 [.ref a0, .ref a1, .int x2, .int x3] [] σ Q ↔ (if (zI σ a1 4) ≤ x3 then Q none σ else (if 6 ≤ x3 then Q none σ else (vp_in x3 6 ∧ zW (d + 1) kX1_note 58 [.ref a0, .ref a1, .int x2, .int x3] (va_rf (zR σ (a1 + 1) (x3 : Int32).toNatClampNeg) :: [.int ((6 * x2) + x3), .ref (a0 + 1)]) σ Q))) := by
  refine Iff.trans (zw_iload_n (show decode cX1_note 28 = .ok (.iload_n 3, 1) by decide +kernel) rfl) ?_
  refine Iff.trans (zw_aload_n (show decode cX1_note 29 = .ok (.aload_n 1, 1) by decide +kernel) rfl) ?_
  refine Iff.trans (zw_getI (show decode cX1_note 30 = .ok (.getfield 31, 3) by decide +kernel) (by decide +kernel : zfld 1 31 = some (2, 4)) (hl.k2 ha1) (hl.n2 ha1) (Or.inl rfl) (w := zI σ a1 4) rfl) ?_
  refine Iff.trans (zw_icmp_ge (t := 88) (show decode cX1_note 33 = .ok (.if_icmp .ge 55, 3) by decide +kernel) (by decide)) ?_
  refine zw_ite ?_ ?_
  · exact zw_ret (show decode cX1_note 88 = .ok (.return_, 1) by decide +kernel) rfl
  · refine Iff.trans (zw_iload_n (show decode cX1_note 36 = .ok (.iload_n 3, 1) by decide +kernel) rfl) ?_
    refine Iff.trans (zw_bipush (x := 6) (show decode cX1_note 37 = .ok (.bipush 6, 2) by decide +kernel) (by decide)) ?_
    refine Iff.trans (zw_icmp_ge (t := 88) (show decode cX1_note 39 = .ok (.if_icmp .ge 49, 3) by decide +kernel) (by decide)) ?_
    refine zw_ite ?_ ?_
    · exact zw_ret (show decode cX1_note 88 = .ok (.return_, 1) by decide +kernel) rfl
    · refine Iff.trans (zw_aload_n (show decode cX1_note 42 = .ok (.aload_n 0, 1) by decide +kernel) rfl) ?_
      refine Iff.trans (zw_get (show decode cX1_note 43 = .ok (.getfield 11, 3) by decide +kernel) (by decide +kernel : zfld 1 11 = some (1, 0)) (hl.k2 ha0) (hl.n2 ha0) (zgetR (v := a0 + 1) (hl.r (zrt1_0 ha0)) rfl)) ?_
      refine Iff.trans (zw_bipush (x := 6) (show decode cX1_note 46 = .ok (.bipush 6, 2) by decide +kernel) (by decide)) ?_
      refine Iff.trans (zw_iload_n (show decode cX1_note 48 = .ok (.iload_n 2, 1) by decide +kernel) rfl) ?_
      refine Iff.trans (zw_imul (show decode cX1_note 49 = .ok (.imul, 1) by decide +kernel)) ?_
      refine Iff.trans (zw_iload_n (show decode cX1_note 50 = .ok (.iload_n 3, 1) by decide +kernel) rfl) ?_
      refine Iff.trans (zw_iadd (show decode cX1_note 51 = .ok (.iadd, 1) by decide +kernel)) ?_
      refine Iff.trans (zw_aload_n (show decode cX1_note 52 = .ok (.aload_n 1, 1) by decide +kernel) rfl) ?_
      refine Iff.trans (zw_get (show decode cX1_note 53 = .ok (.getfield 34, 3) by decide +kernel) (by decide +kernel : zfld 1 34 = some (2, 0)) (hl.k2 ha1) (hl.n2 ha1) (zgetR (v := a1 + 1) (hl.r (zrt2_0 ha1)) rfl)) ?_
      refine Iff.trans (zw_iload_n (show decode cX1_note 56 = .ok (.iload_n 3, 1) by decide +kernel) rfl) ?_
      refine Iff.trans (zw_aald (show decode cX1_note 57 = .ok (.aaload, 1) by decide +kernel) (by rw [(hl.k2 (zf_race ha1).1.1)]; decide) (hl.n2 (zf_race ha1).1.1) (hl.l2 (zf_race ha1).1.1 (zf_race ha1).1.2)) ?_
      refine zw_and ?_
      exact Iff.rfl

theorem bX1_note_58 {d : Nat} {σ : zS} {Q : Option Value → zS → Prop} (hl : zLay σ) {a0 a1 b0 : Nat} {x2 x3 y1 : Int32} (ha0 : zk a0 = 1) (ha1 : zk a1 = 2) (hb0 : zk b0 = 4) : zW (d + 1) kX1_note 58 [.ref a0, .ref a1, .int x2, .int x3] [.ref b0, .int y1, .ref (a0 + 1)] σ Q ↔ (vp_in y1 366 ∧ (vp_in x3 6 ∧ zW (d + 1) kX1_note 78 [.ref a0, .ref a1, .int x2, .int x3] (va_rf (zR (zsI σ (a0 + 1) (upd (zI σ (a0 + 1)) (y1 : Int32).toNatClampNeg (zI σ b0 2))) (a1 + 1) (x3 : Int32).toNatClampNeg) :: [.int ((6 * x2) + x3), .ref (a0 + 2)]) (zsI σ (a0 + 1) (upd (zI σ (a0 + 1)) (y1 : Int32).toNatClampNeg (zI σ b0 2))) Q)) := by
  refine Iff.trans (zw_getI (show decode cX1_note 58 = .ok (.getfield 38, 3) by decide +kernel) (by decide +kernel : zfld 1 38 = some (4, 2)) (hl.k2 hb0) (hl.n2 hb0) (Or.inl rfl) (w := zI σ b0 2) rfl) ?_
  refine Iff.trans (zw_iast2 (show decode cX1_note 61 = .ok (.iastore, 1) by decide +kernel) (hl.k2 (zf_log ha0).1.1) (hl.n2 (zf_log ha0).1.1) (hl.l2 (zf_log ha0).1.1 (zf_log ha0).1.2) (σ' := (zsI σ (a0 + 1) (upd (zI σ (a0 + 1)) (y1 : Int32).toNatClampNeg (zI σ b0 2)))) rfl) ?_
  refine zw_and ?_
  refine Iff.trans (zw_aload_n (show decode cX1_note 62 = .ok (.aload_n 0, 1) by decide +kernel) rfl) ?_
  refine Iff.trans (zw_get (show decode cX1_note 63 = .ok (.getfield 15, 3) by decide +kernel) (by decide +kernel : zfld 1 15 = some (1, 1)) (hl.I.k2 ha0) (hl.I.n2 ha0) (zgetR (v := a0 + 2) (hl.I.r (zrt1_1 ha0)) rfl)) ?_
  refine Iff.trans (zw_bipush (x := 6) (show decode cX1_note 66 = .ok (.bipush 6, 2) by decide +kernel) (by decide)) ?_
  refine Iff.trans (zw_iload_n (show decode cX1_note 68 = .ok (.iload_n 2, 1) by decide +kernel) rfl) ?_
  refine Iff.trans (zw_imul (show decode cX1_note 69 = .ok (.imul, 1) by decide +kernel)) ?_
  refine Iff.trans (zw_iload_n (show decode cX1_note 70 = .ok (.iload_n 3, 1) by decide +kernel) rfl) ?_
  refine Iff.trans (zw_iadd (show decode cX1_note 71 = .ok (.iadd, 1) by decide +kernel)) ?_
  refine Iff.trans (zw_aload_n (show decode cX1_note 72 = .ok (.aload_n 1, 1) by decide +kernel) rfl) ?_
  refine Iff.trans (zw_get (show decode cX1_note 73 = .ok (.getfield 34, 3) by decide +kernel) (by decide +kernel : zfld 1 34 = some (2, 0)) (hl.I.k2 ha1) (hl.I.n2 ha1) (zgetR (v := a1 + 1) (hl.I.r (zrt2_0 ha1)) rfl)) ?_
  refine Iff.trans (zw_iload_n (show decode cX1_note 76 = .ok (.iload_n 3, 1) by decide +kernel) rfl) ?_
  refine Iff.trans (zw_aald (show decode cX1_note 77 = .ok (.aaload, 1) by decide +kernel) (by rw [(hl.I.k2 (zf_race ha1).1.1)]; decide) (hl.I.n2 (zf_race ha1).1.1) (hl.I.l2 (zf_race ha1).1.1 (zf_race ha1).1.2)) ?_
  refine zw_and ?_
  exact Iff.rfl

theorem bX1_note_78 {d : Nat} {σ : zS} {Q : Option Value → zS → Prop} (hl : zLay σ) {a0 a1 b0 : Nat} {x2 x3 y1 : Int32} (ha0 : zk a0 = 1) (ha1 : zk a1 = 2) (hb0 : zk b0 = 4) : zW (d + 1) kX1_note 78 [.ref a0, .ref a1, .int x2, .int x3] [.ref b0, .int y1, .ref (a0 + 2)] σ Q ↔ (vp_in y1 366 ∧ zW (d + 1) kX1_note 28 [.ref a0, .ref a1, .int x2, .int (x3 + 1)] [] (zsI σ (a0 + 2) (upd (zI σ (a0 + 2)) (y1 : Int32).toNatClampNeg (zI σ b0 3))) Q) := by
  refine Iff.trans (zw_getI (show decode cX1_note 78 = .ok (.getfield 43, 3) by decide +kernel) (by decide +kernel : zfld 1 43 = some (4, 3)) (hl.k2 hb0) (hl.n2 hb0) (Or.inl rfl) (w := zI σ b0 3) rfl) ?_
  refine Iff.trans (zw_iast2 (show decode cX1_note 81 = .ok (.iastore, 1) by decide +kernel) (hl.k2 (zf_log ha0).2.1.1) (hl.n2 (zf_log ha0).2.1.1) (hl.l2 (zf_log ha0).2.1.1 (zf_log ha0).2.1.2) (σ' := (zsI σ (a0 + 2) (upd (zI σ (a0 + 2)) (y1 : Int32).toNatClampNeg (zI σ b0 3)))) rfl) ?_
  refine zw_and ?_
  refine Iff.trans (zw_iinc (w := 1) (ls' := [.ref a0, .ref a1, .int x2, .int (x3 + 1)]) (show decode cX1_note 82 = .ok (.iinc 3 1, 3) by decide +kernel) rfl (by decide) (zset_s (Nat.le_of_ble_eq_true rfl) rfl)) ?_
  refine Iff.trans (zw_goto (t := 28) (show decode cX1_note 85 = .ok (.goto (-57), 3) by decide +kernel) (by decide)) ?_
  exact Iff.rfl

theorem bX1_noEntry_0 {d : Nat} {σ : zS} {Q : Option Value → zS → Prop} (hl : zLay σ) {x0 x1 : Int32} : zCall d kX1_noEntry [.int x0, .int x1] σ Q ↔ (if x0 < (0 : Int32) then Q (some (.int 1)) σ else (if 60 < x0 then Q (some (.int 1)) σ else (if x1 < (0 : Int32) then Q (some (.int 1)) σ else (if x1 < 6 then Q (some (.int 0)) σ else Q (some (.int 1)) σ)))) := by
  show zW d kX1_noEntry 0 [.int x0, .int x1] [] σ Q ↔ _
  refine Iff.trans (zw_iload_n (show decode cX1_noEntry 0 = .ok (.iload_n 0, 1) by decide +kernel) rfl) ?_
  refine Iff.trans (zw_if_lt (t := 20) (show decode cX1_noEntry 1 = .ok (.ifCond .lt 19, 3) by decide +kernel) (by decide)) ?_
  refine zw_ite ?_ ?_
  · refine Iff.trans (zw_iconst (x := 1) (show decode cX1_noEntry 20 = .ok (.iconst 1, 1) by decide +kernel) (by decide)) ?_
    refine Iff.trans (zw_goto (t := 25) (show decode cX1_noEntry 21 = .ok (.goto 4, 3) by decide +kernel) (by decide)) ?_
    exact zw_iret2c (show decode cX1_noEntry 25 = .ok (.ireturn, 1) by decide +kernel) rfl (Or.inr rfl)
  · refine Iff.trans (zw_iload_n (show decode cX1_noEntry 4 = .ok (.iload_n 0, 1) by decide +kernel) rfl) ?_
    refine Iff.trans (zw_bipush (x := 60) (show decode cX1_noEntry 5 = .ok (.bipush 60, 2) by decide +kernel) (by decide)) ?_
    refine Iff.trans (zw_icmp_gt (t := 20) (show decode cX1_noEntry 7 = .ok (.if_icmp .gt 13, 3) by decide +kernel) (by decide)) ?_
    refine zw_ite ?_ ?_
    · refine Iff.trans (zw_iconst (x := 1) (show decode cX1_noEntry 20 = .ok (.iconst 1, 1) by decide +kernel) (by decide)) ?_
      refine Iff.trans (zw_goto (t := 25) (show decode cX1_noEntry 21 = .ok (.goto 4, 3) by decide +kernel) (by decide)) ?_
      exact zw_iret2c (show decode cX1_noEntry 25 = .ok (.ireturn, 1) by decide +kernel) rfl (Or.inr rfl)
    · refine Iff.trans (zw_iload_n (show decode cX1_noEntry 10 = .ok (.iload_n 1, 1) by decide +kernel) rfl) ?_
      refine Iff.trans (zw_if_lt (t := 20) (show decode cX1_noEntry 11 = .ok (.ifCond .lt 9, 3) by decide +kernel) (by decide)) ?_
      refine zw_ite ?_ ?_
      · refine Iff.trans (zw_iconst (x := 1) (show decode cX1_noEntry 20 = .ok (.iconst 1, 1) by decide +kernel) (by decide)) ?_
        refine Iff.trans (zw_goto (t := 25) (show decode cX1_noEntry 21 = .ok (.goto 4, 3) by decide +kernel) (by decide)) ?_
        exact zw_iret2c (show decode cX1_noEntry 25 = .ok (.ireturn, 1) by decide +kernel) rfl (Or.inr rfl)
      · refine Iff.trans (zw_iload_n (show decode cX1_noEntry 14 = .ok (.iload_n 1, 1) by decide +kernel) rfl) ?_
        refine Iff.trans (zw_bipush (x := 6) (show decode cX1_noEntry 15 = .ok (.bipush 6, 2) by decide +kernel) (by decide)) ?_
        refine Iff.trans (zw_icmp_lt (t := 24) (show decode cX1_noEntry 17 = .ok (.if_icmp .lt 7, 3) by decide +kernel) (by decide)) ?_
        refine zw_ite ?_ ?_
        · refine Iff.trans (zw_iconst (x := 0) (show decode cX1_noEntry 24 = .ok (.iconst 0, 1) by decide +kernel) (by decide)) ?_
          exact zw_iret2c (show decode cX1_noEntry 25 = .ok (.ireturn, 1) by decide +kernel) rfl (Or.inl rfl)
        · refine Iff.trans (zw_iconst (x := 1) (show decode cX1_noEntry 20 = .ok (.iconst 1, 1) by decide +kernel) (by decide)) ?_
          refine Iff.trans (zw_goto (t := 25) (show decode cX1_noEntry 21 = .ok (.goto 4, 3) by decide +kernel) (by decide)) ?_
          exact zw_iret2c (show decode cX1_noEntry 25 = .ok (.ireturn, 1) by decide +kernel) rfl (Or.inr rfl)

theorem bX1_xAt_0 {d : Nat} {σ : zS} {Q : Option Value → zS → Prop} (hl : zLay σ) {a0 : Nat} {x1 x2 : Int32} (ha0 : zk a0 = 1) : zCall (d + 1) kX1_xAt [.ref a0, .int x1, .int x2] σ Q ↔ zCall d kX1_noEntry [.int x1, .int x2] σ (fun r σ' => zisN r = true ∧ zW (d + 1) kX1_xAt 5 [.ref a0, .int x1, .int x2] (zRstk r ++ []) σ' Q) := by
  show zW (d + 1) kX1_xAt 0 [.ref a0, .int x1, .int x2] [] σ Q ↔ _
  refine Iff.trans (zw_iload_n (show decode cX1_xAt 0 = .ok (.iload_n 1, 1) by decide +kernel) rfl) ?_
  refine Iff.trans (zw_iload_n (show decode cX1_xAt 1 = .ok (.iload_n 2, 1) by decide +kernel) rfl) ?_
  refine Iff.trans (zw_invS (K' := kX1_noEntry) (as := [.int x1, .int x2]) (rest := []) (show decode cX1_xAt 2 = .ok (.invokestatic 46, 3) by decide +kernel) (by rfl) rfl rfl rfl ⟨Nat.le_of_ble_eq_true rfl, Nat.le_of_ble_eq_true rfl, Nat.le_of_ble_eq_true rfl⟩) ?_
  exact Iff.rfl

theorem bX1_xAt_5 {d : Nat} {σ : zS} {Q : Option Value → zS → Prop} (hl : zLay σ) {a0 : Nat} {x1 x2 y0 : Int32} (ha0 : zk a0 = 1) : zW (d + 1) kX1_xAt 5 [.ref a0, .int x1, .int x2] [.int y0] σ Q ↔ (if y0 = (0 : Int32) then (vp_in ((6 * x1) + x2) 366 ∧ Q (some (.int (zI σ (a0 + 1) ((6 * x1) + x2 : Int32).toNatClampNeg))) σ) else Q (some (.int (-1))) σ) := by
  refine Iff.trans (zw_if_eq (t := 12) (show decode cX1_xAt 5 = .ok (.ifCond .eq 7, 3) by decide +kernel) (by decide)) ?_
  refine zw_ite ?_ ?_
  · refine Iff.trans (zw_aload_n (show decode cX1_xAt 12 = .ok (.aload_n 0, 1) by decide +kernel) rfl) ?_
    refine Iff.trans (zw_get (show decode cX1_xAt 13 = .ok (.getfield 11, 3) by decide +kernel) (by decide +kernel : zfld 1 11 = some (1, 0)) (hl.k2 ha0) (hl.n2 ha0) (zgetR (v := a0 + 1) (hl.r (zrt1_0 ha0)) rfl)) ?_
    refine Iff.trans (zw_bipush (x := 6) (show decode cX1_xAt 16 = .ok (.bipush 6, 2) by decide +kernel) (by decide)) ?_
    refine Iff.trans (zw_iload_n (show decode cX1_xAt 18 = .ok (.iload_n 1, 1) by decide +kernel) rfl) ?_
    refine Iff.trans (zw_imul (show decode cX1_xAt 19 = .ok (.imul, 1) by decide +kernel)) ?_
    refine Iff.trans (zw_iload_n (show decode cX1_xAt 20 = .ok (.iload_n 2, 1) by decide +kernel) rfl) ?_
    refine Iff.trans (zw_iadd (show decode cX1_xAt 21 = .ok (.iadd, 1) by decide +kernel)) ?_
    refine Iff.trans (zw_iald2 (show decode cX1_xAt 22 = .ok (.iaload, 1) by decide +kernel) (hl.k2 (zf_log ha0).1.1) (hl.n2 (zf_log ha0).1.1) (hl.l2 (zf_log ha0).1.1 (zf_log ha0).1.2) (w := zI σ (a0 + 1) ((6 * x1) + x2 : Int32).toNatClampNeg) rfl) ?_
    refine zw_and ?_
    exact zw_iret1 (show decode cX1_xAt 23 = .ok (.ireturn, 1) by decide +kernel) rfl
  · refine Iff.trans (zw_iconst (x := (-1)) (show decode cX1_xAt 8 = .ok (.iconst (-1), 1) by decide +kernel) (by decide)) ?_
    refine Iff.trans (zw_goto (t := 23) (show decode cX1_xAt 9 = .ok (.goto 14, 3) by decide +kernel) (by decide)) ?_
    exact zw_iret1 (show decode cX1_xAt 23 = .ok (.ireturn, 1) by decide +kernel) rfl

theorem bX1_yAt_0 {d : Nat} {σ : zS} {Q : Option Value → zS → Prop} (hl : zLay σ) {a0 : Nat} {x1 x2 : Int32} (ha0 : zk a0 = 1) : zCall (d + 1) kX1_yAt [.ref a0, .int x1, .int x2] σ Q ↔ zCall d kX1_noEntry [.int x1, .int x2] σ (fun r σ' => zisN r = true ∧ zW (d + 1) kX1_yAt 5 [.ref a0, .int x1, .int x2] (zRstk r ++ []) σ' Q) := by
  show zW (d + 1) kX1_yAt 0 [.ref a0, .int x1, .int x2] [] σ Q ↔ _
  refine Iff.trans (zw_iload_n (show decode cX1_yAt 0 = .ok (.iload_n 1, 1) by decide +kernel) rfl) ?_
  refine Iff.trans (zw_iload_n (show decode cX1_yAt 1 = .ok (.iload_n 2, 1) by decide +kernel) rfl) ?_
  refine Iff.trans (zw_invS (K' := kX1_noEntry) (as := [.int x1, .int x2]) (rest := []) (show decode cX1_yAt 2 = .ok (.invokestatic 46, 3) by decide +kernel) (by rfl) rfl rfl rfl ⟨Nat.le_of_ble_eq_true rfl, Nat.le_of_ble_eq_true rfl, Nat.le_of_ble_eq_true rfl⟩) ?_
  exact Iff.rfl

theorem bX1_yAt_5 {d : Nat} {σ : zS} {Q : Option Value → zS → Prop} (hl : zLay σ) {a0 : Nat} {x1 x2 y0 : Int32} (ha0 : zk a0 = 1) : zW (d + 1) kX1_yAt 5 [.ref a0, .int x1, .int x2] [.int y0] σ Q ↔ (if y0 = (0 : Int32) then (vp_in ((6 * x1) + x2) 366 ∧ Q (some (.int (zI σ (a0 + 2) ((6 * x1) + x2 : Int32).toNatClampNeg))) σ) else Q (some (.int (-1))) σ) := by
  refine Iff.trans (zw_if_eq (t := 12) (show decode cX1_yAt 5 = .ok (.ifCond .eq 7, 3) by decide +kernel) (by decide)) ?_
  refine zw_ite ?_ ?_
  · refine Iff.trans (zw_aload_n (show decode cX1_yAt 12 = .ok (.aload_n 0, 1) by decide +kernel) rfl) ?_
    refine Iff.trans (zw_get (show decode cX1_yAt 13 = .ok (.getfield 15, 3) by decide +kernel) (by decide +kernel : zfld 1 15 = some (1, 1)) (hl.k2 ha0) (hl.n2 ha0) (zgetR (v := a0 + 2) (hl.r (zrt1_1 ha0)) rfl)) ?_
    refine Iff.trans (zw_bipush (x := 6) (show decode cX1_yAt 16 = .ok (.bipush 6, 2) by decide +kernel) (by decide)) ?_
    refine Iff.trans (zw_iload_n (show decode cX1_yAt 18 = .ok (.iload_n 1, 1) by decide +kernel) rfl) ?_
    refine Iff.trans (zw_imul (show decode cX1_yAt 19 = .ok (.imul, 1) by decide +kernel)) ?_
    refine Iff.trans (zw_iload_n (show decode cX1_yAt 20 = .ok (.iload_n 2, 1) by decide +kernel) rfl) ?_
    refine Iff.trans (zw_iadd (show decode cX1_yAt 21 = .ok (.iadd, 1) by decide +kernel)) ?_
    refine Iff.trans (zw_iald2 (show decode cX1_yAt 22 = .ok (.iaload, 1) by decide +kernel) (hl.k2 (zf_log ha0).2.1.1) (hl.n2 (zf_log ha0).2.1.1) (hl.l2 (zf_log ha0).2.1.1 (zf_log ha0).2.1.2) (w := zI σ (a0 + 2) ((6 * x1) + x2 : Int32).toNatClampNeg) rfl) ?_
    refine zw_and ?_
    exact zw_iret1 (show decode cX1_yAt 23 = .ok (.ireturn, 1) by decide +kernel) rfl
  · refine Iff.trans (zw_iconst (x := (-1)) (show decode cX1_yAt 8 = .ok (.iconst (-1), 1) by decide +kernel) (by decide)) ?_
    refine Iff.trans (zw_goto (t := 23) (show decode cX1_yAt 9 = .ok (.goto 14, 3) by decide +kernel) (by decide)) ?_
    exact zw_iret1 (show decode cX1_yAt 23 = .ok (.ireturn, 1) by decide +kernel) rfl

theorem bX1_leaderAt_0 {d : Nat} {σ : zS} {Q : Option Value → zS → Prop} (hl : zLay σ) {a0 : Nat} {x1 : Int32} (ha0 : zk a0 = 1) : zCall d kX1_leaderAt [.ref a0, .int x1] σ Q ↔ (if x1 < (0 : Int32) then Q (some (.int (-1))) σ else (if x1 ≤ 60 then (vp_in x1 61 ∧ Q (some (.int (zI σ (a0 + 3) (x1 : Int32).toNatClampNeg))) σ) else Q (some (.int (-1))) σ)) := by
  show zW d kX1_leaderAt 0 [.ref a0, .int x1] [] σ Q ↔ _
  refine Iff.trans (zw_iload_n (show decode cX1_leaderAt 0 = .ok (.iload_n 1, 1) by decide +kernel) rfl) ?_
  refine Iff.trans (zw_if_lt (t := 10) (show decode cX1_leaderAt 1 = .ok (.ifCond .lt 9, 3) by decide +kernel) (by decide)) ?_
  refine zw_ite ?_ ?_
  · refine Iff.trans (zw_iconst (x := (-1)) (show decode cX1_leaderAt 10 = .ok (.iconst (-1), 1) by decide +kernel) (by decide)) ?_
    refine Iff.trans (zw_goto (t := 20) (show decode cX1_leaderAt 11 = .ok (.goto 9, 3) by decide +kernel) (by decide)) ?_
    exact zw_iret1 (show decode cX1_leaderAt 20 = .ok (.ireturn, 1) by decide +kernel) rfl
  · refine Iff.trans (zw_iload_n (show decode cX1_leaderAt 4 = .ok (.iload_n 1, 1) by decide +kernel) rfl) ?_
    refine Iff.trans (zw_bipush (x := 60) (show decode cX1_leaderAt 5 = .ok (.bipush 60, 2) by decide +kernel) (by decide)) ?_
    refine Iff.trans (zw_icmp_le (t := 14) (show decode cX1_leaderAt 7 = .ok (.if_icmp .le 7, 3) by decide +kernel) (by decide)) ?_
    refine zw_ite ?_ ?_
    · refine Iff.trans (zw_aload_n (show decode cX1_leaderAt 14 = .ok (.aload_n 0, 1) by decide +kernel) rfl) ?_
      refine Iff.trans (zw_get (show decode cX1_leaderAt 15 = .ok (.getfield 18, 3) by decide +kernel) (by decide +kernel : zfld 1 18 = some (1, 2)) (hl.k2 ha0) (hl.n2 ha0) (zgetR (v := a0 + 3) (hl.r (zrt1_2 ha0)) rfl)) ?_
      refine Iff.trans (zw_iload_n (show decode cX1_leaderAt 18 = .ok (.iload_n 1, 1) by decide +kernel) rfl) ?_
      refine Iff.trans (zw_iald2 (show decode cX1_leaderAt 19 = .ok (.iaload, 1) by decide +kernel) (hl.k2 (zf_log ha0).2.2.1) (hl.n2 (zf_log ha0).2.2.1) (hl.l2 (zf_log ha0).2.2.1 (zf_log ha0).2.2.2) (w := zI σ (a0 + 3) (x1 : Int32).toNatClampNeg) rfl) ?_
      refine zw_and ?_
      exact zw_iret1 (show decode cX1_leaderAt 20 = .ok (.ireturn, 1) by decide +kernel) rfl
    · refine Iff.trans (zw_iconst (x := (-1)) (show decode cX1_leaderAt 10 = .ok (.iconst (-1), 1) by decide +kernel) (by decide)) ?_
      refine Iff.trans (zw_goto (t := 20) (show decode cX1_leaderAt 11 = .ok (.goto 9, 3) by decide +kernel) (by decide)) ?_
      exact zw_iret1 (show decode cX1_leaderAt 20 = .ok (.ireturn, 1) by decide +kernel) rfl

theorem bX1_ticksLed_0 {d : Nat} {σ : zS} {Q : Option Value → zS → Prop} (hl : zLay σ) {a0 : Nat} {x1 x2 : Int32} (ha0 : zk a0 = 1) : zCall d kX1_ticksLed [.ref a0, .int x1, .int x2] σ Q ↔ zW d kX1_ticksLed 5 [.ref a0, .int x1, .int x2, .int 0, .int 1] [] σ Q := by
  show zW d kX1_ticksLed 0 [.ref a0, .int x1, .int x2, .retAddr 0, .retAddr 0] [] σ Q ↔ _
  refine Iff.trans (zw_iconst (x := 0) (show decode cX1_ticksLed 0 = .ok (.iconst 0, 1) by decide +kernel) (by decide)) ?_
  refine Iff.trans (zw_istore_n (ls' := [.ref a0, .int x1, .int x2, .int 0, .retAddr 0]) (show decode cX1_ticksLed 1 = .ok (.istore_n 3, 1) by decide +kernel) (zset_s (Nat.le_of_ble_eq_true rfl) rfl)) ?_
  refine Iff.trans (zw_iconst (x := 1) (show decode cX1_ticksLed 2 = .ok (.iconst 1, 1) by decide +kernel) (by decide)) ?_
  refine Iff.trans (zw_istore (ls' := [.ref a0, .int x1, .int x2, .int 0, .int 1]) (show decode cX1_ticksLed 3 = .ok (.istore 4, 2) by decide +kernel) (zset_s (Nat.le_of_ble_eq_true rfl) rfl)) ?_
  exact Iff.rfl

theorem bX1_ticksLed_5 {d : Nat} {σ : zS} {Q : Option Value → zS → Prop} (hl : zLay σ) {a0 : Nat} {x1 x2 x3 x4 : Int32} (ha0 : zk a0 = 1) : zW d kX1_ticksLed 5 [.ref a0, .int x1, .int x2, .int x3, .int x4] [] σ Q ↔ (if x2 < x4 then Q (some (.int x3)) σ else (if 60 < x4 then Q (some (.int x3)) σ else (vp_in x4 61 ∧ (if (zI σ (a0 + 3) (x4 : Int32).toNatClampNeg) = x1 then zW d kX1_ticksLed 5 [.ref a0, .int x1, .int x2, .int (x3 + 1), .int (x4 + 1)] [] σ Q else zW d kX1_ticksLed 5 [.ref a0, .int x1, .int x2, .int x3, .int (x4 + 1)] [] σ Q)))) := by
  refine Iff.trans (zw_iload (show decode cX1_ticksLed 5 = .ok (.iload 4, 2) by decide +kernel) rfl) ?_
  refine Iff.trans (zw_iload_n (show decode cX1_ticksLed 7 = .ok (.iload_n 2, 1) by decide +kernel) rfl) ?_
  refine Iff.trans (zw_icmp_gt (t := 38) (show decode cX1_ticksLed 8 = .ok (.if_icmp .gt 30, 3) by decide +kernel) (by decide)) ?_
  refine zw_ite ?_ ?_
  · refine Iff.trans (zw_iload_n (show decode cX1_ticksLed 38 = .ok (.iload_n 3, 1) by decide +kernel) rfl) ?_
    exact zw_iret1 (show decode cX1_ticksLed 39 = .ok (.ireturn, 1) by decide +kernel) rfl
  · refine Iff.trans (zw_iload (show decode cX1_ticksLed 11 = .ok (.iload 4, 2) by decide +kernel) rfl) ?_
    refine Iff.trans (zw_bipush (x := 60) (show decode cX1_ticksLed 13 = .ok (.bipush 60, 2) by decide +kernel) (by decide)) ?_
    refine Iff.trans (zw_icmp_gt (t := 38) (show decode cX1_ticksLed 15 = .ok (.if_icmp .gt 23, 3) by decide +kernel) (by decide)) ?_
    refine zw_ite ?_ ?_
    · refine Iff.trans (zw_iload_n (show decode cX1_ticksLed 38 = .ok (.iload_n 3, 1) by decide +kernel) rfl) ?_
      exact zw_iret1 (show decode cX1_ticksLed 39 = .ok (.ireturn, 1) by decide +kernel) rfl
    · refine Iff.trans (zw_aload_n (show decode cX1_ticksLed 18 = .ok (.aload_n 0, 1) by decide +kernel) rfl) ?_
      refine Iff.trans (zw_get (show decode cX1_ticksLed 19 = .ok (.getfield 18, 3) by decide +kernel) (by decide +kernel : zfld 1 18 = some (1, 2)) (hl.k2 ha0) (hl.n2 ha0) (zgetR (v := a0 + 3) (hl.r (zrt1_2 ha0)) rfl)) ?_
      refine Iff.trans (zw_iload (show decode cX1_ticksLed 22 = .ok (.iload 4, 2) by decide +kernel) rfl) ?_
      refine Iff.trans (zw_iald2 (show decode cX1_ticksLed 24 = .ok (.iaload, 1) by decide +kernel) (hl.k2 (zf_log ha0).2.2.1) (hl.n2 (zf_log ha0).2.2.1) (hl.l2 (zf_log ha0).2.2.1 (zf_log ha0).2.2.2) (w := zI σ (a0 + 3) (x4 : Int32).toNatClampNeg) rfl) ?_
      refine zw_and ?_
      refine Iff.trans (zw_iload_n (show decode cX1_ticksLed 25 = .ok (.iload_n 1, 1) by decide +kernel) rfl) ?_
      refine Iff.trans (zw_icmp_ne (t := 32) (show decode cX1_ticksLed 26 = .ok (.if_icmp .ne 6, 3) by decide +kernel) (by decide)) ?_
      refine zw_ite ?_ ?_
      · refine Iff.trans (zw_iinc (w := 1) (ls' := [.ref a0, .int x1, .int x2, .int (x3 + 1), .int x4]) (show decode cX1_ticksLed 29 = .ok (.iinc 3 1, 3) by decide +kernel) rfl (by decide) (zset_s (Nat.le_of_ble_eq_true rfl) rfl)) ?_
        refine Iff.trans (zw_iinc (w := 1) (ls' := [.ref a0, .int x1, .int x2, .int (x3 + 1), .int (x4 + 1)]) (show decode cX1_ticksLed 32 = .ok (.iinc 4 1, 3) by decide +kernel) rfl (by decide) (zset_s (Nat.le_of_ble_eq_true rfl) rfl)) ?_
        refine Iff.trans (zw_goto (t := 5) (show decode cX1_ticksLed 35 = .ok (.goto (-30), 3) by decide +kernel) (by decide)) ?_
        exact Iff.rfl
      · refine Iff.trans (zw_iinc (w := 1) (ls' := [.ref a0, .int x1, .int x2, .int x3, .int (x4 + 1)]) (show decode cX1_ticksLed 32 = .ok (.iinc 4 1, 3) by decide +kernel) rfl (by decide) (zset_s (Nat.le_of_ble_eq_true rfl) rfl)) ?_
        refine Iff.trans (zw_goto (t := 5) (show decode cX1_ticksLed 35 = .ok (.goto (-30), 3) by decide +kernel) (by decide)) ?_
        exact Iff.rfl

theorem bX1_changes_0 {d : Nat} {σ : zS} {Q : Option Value → zS → Prop} (hl : zLay σ) {a0 : Nat} {x1 : Int32} (ha0 : zk a0 = 1) : zCall d kX1_changes [.ref a0, .int x1] σ Q ↔ zW d kX1_changes 4 [.ref a0, .int x1, .int 0, .int 2] [] σ Q := by
  show zW d kX1_changes 0 [.ref a0, .int x1, .retAddr 0, .retAddr 0] [] σ Q ↔ _
  refine Iff.trans (zw_iconst (x := 0) (show decode cX1_changes 0 = .ok (.iconst 0, 1) by decide +kernel) (by decide)) ?_
  refine Iff.trans (zw_istore_n (ls' := [.ref a0, .int x1, .int 0, .retAddr 0]) (show decode cX1_changes 1 = .ok (.istore_n 2, 1) by decide +kernel) (zset_s (Nat.le_of_ble_eq_true rfl) rfl)) ?_
  refine Iff.trans (zw_iconst (x := 2) (show decode cX1_changes 2 = .ok (.iconst 2, 1) by decide +kernel) (by decide)) ?_
  refine Iff.trans (zw_istore_n (ls' := [.ref a0, .int x1, .int 0, .int 2]) (show decode cX1_changes 3 = .ok (.istore_n 3, 1) by decide +kernel) (zset_s (Nat.le_of_ble_eq_true rfl) rfl)) ?_
  exact Iff.rfl

theorem bX1_changes_4 {d : Nat} {σ : zS} {Q : Option Value → zS → Prop} (hl : zLay σ) {a0 : Nat} {x1 x2 x3 : Int32} (ha0 : zk a0 = 1) : zW d kX1_changes 4 [.ref a0, .int x1, .int x2, .int x3] [] σ Q ↔ (if x1 < x3 then Q (some (.int x2)) σ else (if 60 < x3 then Q (some (.int x2)) σ else (vp_in x3 61 ∧ (vp_in (x3 - 1) 61 ∧ (if (zI σ (a0 + 3) (x3 : Int32).toNatClampNeg) = (zI σ (a0 + 3) (x3 - 1 : Int32).toNatClampNeg) then zW d kX1_changes 4 [.ref a0, .int x1, .int x2, .int (x3 + 1)] [] σ Q else zW d kX1_changes 4 [.ref a0, .int x1, .int (x2 + 1), .int (x3 + 1)] [] σ Q))))) := by
  refine Iff.trans (zw_iload_n (show decode cX1_changes 4 = .ok (.iload_n 3, 1) by decide +kernel) rfl) ?_
  refine Iff.trans (zw_iload_n (show decode cX1_changes 5 = .ok (.iload_n 1, 1) by decide +kernel) rfl) ?_
  refine Iff.trans (zw_icmp_gt (t := 41) (show decode cX1_changes 6 = .ok (.if_icmp .gt 35, 3) by decide +kernel) (by decide)) ?_
  refine zw_ite ?_ ?_
  · refine Iff.trans (zw_iload_n (show decode cX1_changes 41 = .ok (.iload_n 2, 1) by decide +kernel) rfl) ?_
    exact zw_iret1 (show decode cX1_changes 42 = .ok (.ireturn, 1) by decide +kernel) rfl
  · refine Iff.trans (zw_iload_n (show decode cX1_changes 9 = .ok (.iload_n 3, 1) by decide +kernel) rfl) ?_
    refine Iff.trans (zw_bipush (x := 60) (show decode cX1_changes 10 = .ok (.bipush 60, 2) by decide +kernel) (by decide)) ?_
    refine Iff.trans (zw_icmp_gt (t := 41) (show decode cX1_changes 12 = .ok (.if_icmp .gt 29, 3) by decide +kernel) (by decide)) ?_
    refine zw_ite ?_ ?_
    · refine Iff.trans (zw_iload_n (show decode cX1_changes 41 = .ok (.iload_n 2, 1) by decide +kernel) rfl) ?_
      exact zw_iret1 (show decode cX1_changes 42 = .ok (.ireturn, 1) by decide +kernel) rfl
    · refine Iff.trans (zw_aload_n (show decode cX1_changes 15 = .ok (.aload_n 0, 1) by decide +kernel) rfl) ?_
      refine Iff.trans (zw_get (show decode cX1_changes 16 = .ok (.getfield 18, 3) by decide +kernel) (by decide +kernel : zfld 1 18 = some (1, 2)) (hl.k2 ha0) (hl.n2 ha0) (zgetR (v := a0 + 3) (hl.r (zrt1_2 ha0)) rfl)) ?_
      refine Iff.trans (zw_iload_n (show decode cX1_changes 19 = .ok (.iload_n 3, 1) by decide +kernel) rfl) ?_
      refine Iff.trans (zw_iald2 (show decode cX1_changes 20 = .ok (.iaload, 1) by decide +kernel) (hl.k2 (zf_log ha0).2.2.1) (hl.n2 (zf_log ha0).2.2.1) (hl.l2 (zf_log ha0).2.2.1 (zf_log ha0).2.2.2) (w := zI σ (a0 + 3) (x3 : Int32).toNatClampNeg) rfl) ?_
      refine zw_and ?_
      refine Iff.trans (zw_aload_n (show decode cX1_changes 21 = .ok (.aload_n 0, 1) by decide +kernel) rfl) ?_
      refine Iff.trans (zw_get (show decode cX1_changes 22 = .ok (.getfield 18, 3) by decide +kernel) (by decide +kernel : zfld 1 18 = some (1, 2)) (hl.k2 ha0) (hl.n2 ha0) (zgetR (v := a0 + 3) (hl.r (zrt1_2 ha0)) rfl)) ?_
      refine Iff.trans (zw_iload_n (show decode cX1_changes 25 = .ok (.iload_n 3, 1) by decide +kernel) rfl) ?_
      refine Iff.trans (zw_iconst (x := 1) (show decode cX1_changes 26 = .ok (.iconst 1, 1) by decide +kernel) (by decide)) ?_
      refine Iff.trans (zw_isub (show decode cX1_changes 27 = .ok (.isub, 1) by decide +kernel)) ?_
      refine Iff.trans (zw_iald2 (show decode cX1_changes 28 = .ok (.iaload, 1) by decide +kernel) (hl.k2 (zf_log ha0).2.2.1) (hl.n2 (zf_log ha0).2.2.1) (hl.l2 (zf_log ha0).2.2.1 (zf_log ha0).2.2.2) (w := zI σ (a0 + 3) (x3 - 1 : Int32).toNatClampNeg) rfl) ?_
      refine zw_and ?_
      refine Iff.trans (zw_icmp_eq (t := 35) (show decode cX1_changes 29 = .ok (.if_icmp .eq 6, 3) by decide +kernel) (by decide)) ?_
      refine zw_ite ?_ ?_
      · refine Iff.trans (zw_iinc (w := 1) (ls' := [.ref a0, .int x1, .int x2, .int (x3 + 1)]) (show decode cX1_changes 35 = .ok (.iinc 3 1, 3) by decide +kernel) rfl (by decide) (zset_s (Nat.le_of_ble_eq_true rfl) rfl)) ?_
        refine Iff.trans (zw_goto (t := 4) (show decode cX1_changes 38 = .ok (.goto (-34), 3) by decide +kernel) (by decide)) ?_
        exact Iff.rfl
      · refine Iff.trans (zw_iinc (w := 1) (ls' := [.ref a0, .int x1, .int (x2 + 1), .int x3]) (show decode cX1_changes 32 = .ok (.iinc 2 1, 3) by decide +kernel) rfl (by decide) (zset_s (Nat.le_of_ble_eq_true rfl) rfl)) ?_
        refine Iff.trans (zw_iinc (w := 1) (ls' := [.ref a0, .int x1, .int (x2 + 1), .int (x3 + 1)]) (show decode cX1_changes 35 = .ok (.iinc 3 1, 3) by decide +kernel) rfl (by decide) (zset_s (Nat.le_of_ble_eq_true rfl) rfl)) ?_
        refine Iff.trans (zw_goto (t := 4) (show decode cX1_changes 38 = .ok (.goto (-34), 3) by decide +kernel) (by decide)) ?_
        exact Iff.rfl

theorem bX1_copyFrom_0 {d : Nat} {σ : zS} {Q : Option Value → zS → Prop} (hl : zLay σ) {a0 a1 : Nat} (ha0 : zk a0 = 1) (ha1 : zk a1 = 1) (hne : a0 + 4 ≤ a1 ∨ a1 + 4 ≤ a0) : zCall (d + 1) kX1_copyFrom [.ref a0, .ref a1] σ Q ↔ Q none (zsI (zsI (zsI σ (a0 + 1) (va_cpy (zI σ (a1 + 1)) (zI σ (a0 + 1)) (0 : Int32).toNatClampNeg (0 : Int32).toNatClampNeg (366 : Int32).toNatClampNeg)) (a0 + 2) (va_cpy (zI σ (a1 + 2)) (zI σ (a0 + 2)) (0 : Int32).toNatClampNeg (0 : Int32).toNatClampNeg (366 : Int32).toNatClampNeg)) (a0 + 3) (va_cpy (zI σ (a1 + 3)) (zI σ (a0 + 3)) (0 : Int32).toNatClampNeg (0 : Int32).toNatClampNeg (61 : Int32).toNatClampNeg)) := by
  show zW (d + 1) kX1_copyFrom 0 [.ref a0, .ref a1] [] σ Q ↔ _
  refine Iff.trans (zw_aload_n (show decode cX1_copyFrom 0 = .ok (.aload_n 1, 1) by decide +kernel) rfl) ?_
  refine Iff.trans (zw_get (show decode cX1_copyFrom 1 = .ok (.getfield 11, 3) by decide +kernel) (by decide +kernel : zfld 1 11 = some (1, 0)) (hl.k2 ha1) (hl.n2 ha1) (zgetR (v := a1 + 1) (hl.r (zrt1_0 ha1)) rfl)) ?_
  refine Iff.trans (zw_iconst (x := 0) (show decode cX1_copyFrom 4 = .ok (.iconst 0, 1) by decide +kernel) (by decide)) ?_
  refine Iff.trans (zw_aload_n (show decode cX1_copyFrom 5 = .ok (.aload_n 0, 1) by decide +kernel) rfl) ?_
  refine Iff.trans (zw_get (show decode cX1_copyFrom 6 = .ok (.getfield 11, 3) by decide +kernel) (by decide +kernel : zfld 1 11 = some (1, 0)) (hl.k2 ha0) (hl.n2 ha0) (zgetR (v := a0 + 1) (hl.r (zrt1_0 ha0)) rfl)) ?_
  refine Iff.trans (zw_iconst (x := 0) (show decode cX1_copyFrom 9 = .ok (.iconst 0, 1) by decide +kernel) (by decide)) ?_
  refine Iff.trans (zw_sipush (x := 366) (show decode cX1_copyFrom 10 = .ok (.sipush 366, 3) by decide +kernel) (by decide)) ?_
  refine Iff.trans (zw_ncopy2 (show decode cX1_copyFrom 13 = .ok (.invokestatic 50, 3) by decide +kernel) (by rfl) (Nat.le_of_ble_eq_true rfl) (hl.k2 (zf_log ha1).1.1) (hl.k2 (zf_log ha0).1.1) (hl.l2 (zf_log ha1).1.1 (zf_log ha1).1.2) (hl.l2 (zf_log ha0).1.1 (zf_log ha0).1.2) (by decide) (σ' := (zsI σ (a0 + 1) (va_cpy (zI σ (a1 + 1)) (zI σ (a0 + 1)) (0 : Int32).toNatClampNeg (0 : Int32).toNatClampNeg (366 : Int32).toNatClampNeg))) rfl) ?_
  refine Iff.trans (zw_aload_n (show decode cX1_copyFrom 16 = .ok (.aload_n 1, 1) by decide +kernel) rfl) ?_
  refine Iff.trans (zw_get (show decode cX1_copyFrom 17 = .ok (.getfield 15, 3) by decide +kernel) (by decide +kernel : zfld 1 15 = some (1, 1)) (hl.I.k2 ha1) (hl.I.n2 ha1) (zgetR (v := a1 + 2) (hl.I.r (zrt1_1 ha1)) rfl)) ?_
  refine Iff.trans (zw_iconst (x := 0) (show decode cX1_copyFrom 20 = .ok (.iconst 0, 1) by decide +kernel) (by decide)) ?_
  refine Iff.trans (zw_aload_n (show decode cX1_copyFrom 21 = .ok (.aload_n 0, 1) by decide +kernel) rfl) ?_
  refine Iff.trans (zw_get (show decode cX1_copyFrom 22 = .ok (.getfield 15, 3) by decide +kernel) (by decide +kernel : zfld 1 15 = some (1, 1)) (hl.I.k2 ha0) (hl.I.n2 ha0) (zgetR (v := a0 + 2) (hl.I.r (zrt1_1 ha0)) rfl)) ?_
  refine Iff.trans (zw_iconst (x := 0) (show decode cX1_copyFrom 25 = .ok (.iconst 0, 1) by decide +kernel) (by decide)) ?_
  refine Iff.trans (zw_sipush (x := 366) (show decode cX1_copyFrom 26 = .ok (.sipush 366, 3) by decide +kernel) (by decide)) ?_
  refine Iff.trans (zw_ncopy2 (show decode cX1_copyFrom 29 = .ok (.invokestatic 50, 3) by decide +kernel) (by rfl) (Nat.le_of_ble_eq_true rfl) (hl.I.k2 (zf_log ha1).2.1.1) (hl.I.k2 (zf_log ha0).2.1.1) (hl.I.l2 (zf_log ha1).2.1.1 (zf_log ha1).2.1.2) (hl.I.l2 (zf_log ha0).2.1.1 (zf_log ha0).2.1.2) (by decide) (σ' := (zsI (zsI σ (a0 + 1) (va_cpy (zI σ (a1 + 1)) (zI σ (a0 + 1)) (0 : Int32).toNatClampNeg (0 : Int32).toNatClampNeg (366 : Int32).toNatClampNeg)) (a0 + 2) (va_cpy (zI σ (a1 + 2)) (zI σ (a0 + 2)) (0 : Int32).toNatClampNeg (0 : Int32).toNatClampNeg (366 : Int32).toNatClampNeg))) (zcong2 (fun f g => zsI (zsI σ (a0 + 1) (va_cpy (zI σ (a1 + 1)) (zI σ (a0 + 1)) (0 : Int32).toNatClampNeg (0 : Int32).toNatClampNeg (366 : Int32).toNatClampNeg)) (a0 + 2) (va_cpy f g (0 : Int32).toNatClampNeg (0 : Int32).toNatClampNeg (366 : Int32).toNatClampNeg)) (zI_ne (by omega)) (zI_ne (by omega)))) ?_
  refine Iff.trans (zw_aload_n (show decode cX1_copyFrom 32 = .ok (.aload_n 1, 1) by decide +kernel) rfl) ?_
  refine Iff.trans (zw_get (show decode cX1_copyFrom 33 = .ok (.getfield 18, 3) by decide +kernel) (by decide +kernel : zfld 1 18 = some (1, 2)) (hl.I.I.k2 ha1) (hl.I.I.n2 ha1) (zgetR (v := a1 + 3) (hl.I.I.r (zrt1_2 ha1)) rfl)) ?_
  refine Iff.trans (zw_iconst (x := 0) (show decode cX1_copyFrom 36 = .ok (.iconst 0, 1) by decide +kernel) (by decide)) ?_
  refine Iff.trans (zw_aload_n (show decode cX1_copyFrom 37 = .ok (.aload_n 0, 1) by decide +kernel) rfl) ?_
  refine Iff.trans (zw_get (show decode cX1_copyFrom 38 = .ok (.getfield 18, 3) by decide +kernel) (by decide +kernel : zfld 1 18 = some (1, 2)) (hl.I.I.k2 ha0) (hl.I.I.n2 ha0) (zgetR (v := a0 + 3) (hl.I.I.r (zrt1_2 ha0)) rfl)) ?_
  refine Iff.trans (zw_iconst (x := 0) (show decode cX1_copyFrom 41 = .ok (.iconst 0, 1) by decide +kernel) (by decide)) ?_
  refine Iff.trans (zw_bipush (x := 61) (show decode cX1_copyFrom 42 = .ok (.bipush 61, 2) by decide +kernel) (by decide)) ?_
  refine Iff.trans (zw_ncopy2 (show decode cX1_copyFrom 44 = .ok (.invokestatic 50, 3) by decide +kernel) (by rfl) (Nat.le_of_ble_eq_true rfl) (hl.I.I.k2 (zf_log ha1).2.2.1) (hl.I.I.k2 (zf_log ha0).2.2.1) (hl.I.I.l2 (zf_log ha1).2.2.1 (zf_log ha1).2.2.2) (hl.I.I.l2 (zf_log ha0).2.2.1 (zf_log ha0).2.2.2) (by decide) (σ' := (zsI (zsI (zsI σ (a0 + 1) (va_cpy (zI σ (a1 + 1)) (zI σ (a0 + 1)) (0 : Int32).toNatClampNeg (0 : Int32).toNatClampNeg (366 : Int32).toNatClampNeg)) (a0 + 2) (va_cpy (zI σ (a1 + 2)) (zI σ (a0 + 2)) (0 : Int32).toNatClampNeg (0 : Int32).toNatClampNeg (366 : Int32).toNatClampNeg)) (a0 + 3) (va_cpy (zI σ (a1 + 3)) (zI σ (a0 + 3)) (0 : Int32).toNatClampNeg (0 : Int32).toNatClampNeg (61 : Int32).toNatClampNeg))) (zcong2 (fun f g => zsI (zsI (zsI σ (a0 + 1) (va_cpy (zI σ (a1 + 1)) (zI σ (a0 + 1)) (0 : Int32).toNatClampNeg (0 : Int32).toNatClampNeg (366 : Int32).toNatClampNeg)) (a0 + 2) (va_cpy (zI σ (a1 + 2)) (zI σ (a0 + 2)) (0 : Int32).toNatClampNeg (0 : Int32).toNatClampNeg (366 : Int32).toNatClampNeg)) (a0 + 3) (va_cpy f g (0 : Int32).toNatClampNeg (0 : Int32).toNatClampNeg (61 : Int32).toNatClampNeg)) (Eq.trans (zI_ne (by omega)) (zI_ne (by omega))) (Eq.trans (zI_ne (by omega)) (zI_ne (by omega))))) ?_
  exact zw_ret (show decode cX1_copyFrom 47 = .ok (.return_, 1) by decide +kernel) rfl

theorem bX2_clear_0 {d : Nat} {σ : zS} {Q : Option Value → zS → Prop} (hl : zLay σ) {a0 a1 : Nat} (ha0 : zk a0 = 2) (ha1 : zk a1 = 0) : zCall d kX2_clear [.ref a0, .ref a1] σ Q ↔ Q none (zsI (zsR σ a0 (va_up (zR σ a0) 3 (some a1))) a0 (upd (upd (upd (upd (zI σ a0) 4 0) 5 0) 6 0) 9 0)) := by
  show zW d kX2_clear 0 [.ref a0, .ref a1] [] σ Q ↔ _
  refine Iff.trans (zw_aload_n (show decode cX2_clear 0 = .ok (.aload_n 0, 1) by decide +kernel) rfl) ?_
  refine Iff.trans (zw_aload_n (show decode cX2_clear 1 = .ok (.aload_n 1, 1) by decide +kernel) rfl) ?_
  refine Iff.trans (zw_putR (show decode cX2_clear 2 = .ok (.putfield 27, 3) by decide +kernel) (by decide +kernel : zfld 2 27 = some (2, 3)) (hl.k2 ha0) (hl.n2 ha0) rfl rfl (σ' := (zsR σ a0 (va_up (zR σ a0) 3 (some a1)))) rfl) ?_
  refine Iff.trans (zw_aload_n (show decode cX2_clear 5 = .ok (.aload_n 0, 1) by decide +kernel) rfl) ?_
  refine Iff.trans (zw_iconst (x := 0) (show decode cX2_clear 6 = .ok (.iconst 0, 1) by decide +kernel) (by decide)) ?_
  refine Iff.trans (zw_putI (show decode cX2_clear 7 = .ok (.putfield 32, 3) by decide +kernel) (by decide +kernel : zfld 2 32 = some (2, 4)) ((hl.Rf (zrtN2_3 ha0) rfl).k2 ha0) ((hl.Rf (zrtN2_3 ha0) rfl).n2 ha0) rfl (Or.inl rfl) (σ' := (zsI (zsR σ a0 (va_up (zR σ a0) 3 (some a1))) a0 (upd (zI σ a0) 4 0))) rfl) ?_
  refine Iff.trans (zw_aload_n (show decode cX2_clear 10 = .ok (.aload_n 0, 1) by decide +kernel) rfl) ?_
  refine Iff.trans (zw_iconst (x := 0) (show decode cX2_clear 11 = .ok (.iconst 0, 1) by decide +kernel) (by decide)) ?_
  refine Iff.trans (zw_putI (show decode cX2_clear 12 = .ok (.putfield 36, 3) by decide +kernel) (by decide +kernel : zfld 2 36 = some (2, 5)) ((hl.Rf (zrtN2_3 ha0) rfl).I.k2 ha0) ((hl.Rf (zrtN2_3 ha0) rfl).I.n2 ha0) rfl (Or.inl rfl) (σ' := (zsI (zsR σ a0 (va_up (zR σ a0) 3 (some a1))) a0 (upd (upd (zI σ a0) 4 0) 5 0))) (Eq.trans (congrArg (fun f => zsI (zsI (zsR σ a0 (va_up (zR σ a0) 3 (some a1))) a0 (upd (zI σ a0) 4 0)) a0 (upd f 5 0)) zI_self) zsI_s)) ?_
  refine Iff.trans (zw_aload_n (show decode cX2_clear 15 = .ok (.aload_n 0, 1) by decide +kernel) rfl) ?_
  refine Iff.trans (zw_iconst (x := 0) (show decode cX2_clear 16 = .ok (.iconst 0, 1) by decide +kernel) (by decide)) ?_
  refine Iff.trans (zw_putI (show decode cX2_clear 17 = .ok (.putfield 39, 3) by decide +kernel) (by decide +kernel : zfld 2 39 = some (2, 6)) ((hl.Rf (zrtN2_3 ha0) rfl).I.k2 ha0) ((hl.Rf (zrtN2_3 ha0) rfl).I.n2 ha0) rfl (Or.inl rfl) (σ' := (zsI (zsR σ a0 (va_up (zR σ a0) 3 (some a1))) a0 (upd (upd (upd (zI σ a0) 4 0) 5 0) 6 0))) (Eq.trans (congrArg (fun f => zsI (zsI (zsR σ a0 (va_up (zR σ a0) 3 (some a1))) a0 (upd (upd (zI σ a0) 4 0) 5 0)) a0 (upd f 6 0)) zI_self) zsI_s)) ?_
  refine Iff.trans (zw_aload_n (show decode cX2_clear 20 = .ok (.aload_n 0, 1) by decide +kernel) rfl) ?_
  refine Iff.trans (zw_iconst (x := 0) (show decode cX2_clear 21 = .ok (.iconst 0, 1) by decide +kernel) (by decide)) ?_
  refine Iff.trans (zw_putI (show decode cX2_clear 22 = .ok (.putfield 42, 3) by decide +kernel) (by decide +kernel : zfld 2 42 = some (2, 9)) ((hl.Rf (zrtN2_3 ha0) rfl).I.k2 ha0) ((hl.Rf (zrtN2_3 ha0) rfl).I.n2 ha0) rfl (Or.inr ⟨rfl, Or.inl rfl⟩) (σ' := (zsI (zsR σ a0 (va_up (zR σ a0) 3 (some a1))) a0 (upd (upd (upd (upd (zI σ a0) 4 0) 5 0) 6 0) 9 0))) (Eq.trans (congrArg (fun f => zsI (zsI (zsR σ a0 (va_up (zR σ a0) 3 (some a1))) a0 (upd (upd (upd (zI σ a0) 4 0) 5 0) 6 0)) a0 (upd f 9 0)) zI_self) zsI_s)) ?_
  exact zw_ret (show decode cX2_clear 25 = .ok (.return_, 1) by decide +kernel) rfl

theorem bX2_add_0 {d : Nat} {σ : zS} {Q : Option Value → zS → Prop} (hl : zLay σ) {a0 a1 : Nat} {x2 : Int32} (ha0 : zk a0 = 2) (ha1 : zk a1 = 6) : zCall (d + 1) kX2_add [.ref a0, .ref a1, .int x2] σ Q ↔ (if (zI σ a0 4) < (0 : Int32) then Q none σ else (if (zI σ a0 4) < 6 then (vp_in (zI σ a0 4) 6 ∧ zW (d + 1) kX2_add 26 [.ref a0, .ref a1, .int x2, .retAddr 0] (va_rf (zR σ (a0 + 1) (zI σ a0 4 : Int32).toNatClampNeg) :: []) σ Q) else Q none σ)) := by
  show zW (d + 1) kX2_add 0 [.ref a0, .ref a1, .int x2, .retAddr 0] [] σ Q ↔ _
  refine Iff.trans (zw_aload_n (show decode cX2_add 0 = .ok (.aload_n 0, 1) by decide +kernel) rfl) ?_
  refine Iff.trans (zw_getI (show decode cX2_add 1 = .ok (.getfield 32, 3) by decide +kernel) (by decide +kernel : zfld 2 32 = some (2, 4)) (hl.k2 ha0) (hl.n2 ha0) (Or.inl rfl) (w := zI σ a0 4) rfl) ?_
  refine Iff.trans (zw_if_lt (t := 16) (show decode cX2_add 4 = .ok (.ifCond .lt 12, 3) by decide +kernel) (by decide)) ?_
  refine zw_ite ?_ ?_
  · exact zw_ret (show decode cX2_add 16 = .ok (.return_, 1) by decide +kernel) rfl
  · refine Iff.trans (zw_aload_n (show decode cX2_add 7 = .ok (.aload_n 0, 1) by decide +kernel) rfl) ?_
    refine Iff.trans (zw_getI (show decode cX2_add 8 = .ok (.getfield 32, 3) by decide +kernel) (by decide +kernel : zfld 2 32 = some (2, 4)) (hl.k2 ha0) (hl.n2 ha0) (Or.inl rfl) (w := zI σ a0 4) rfl) ?_
    refine Iff.trans (zw_bipush (x := 6) (show decode cX2_add 11 = .ok (.bipush 6, 2) by decide +kernel) (by decide)) ?_
    refine Iff.trans (zw_icmp_lt (t := 17) (show decode cX2_add 13 = .ok (.if_icmp .lt 4, 3) by decide +kernel) (by decide)) ?_
    refine zw_ite ?_ ?_
    · refine Iff.trans (zw_aload_n (show decode cX2_add 17 = .ok (.aload_n 0, 1) by decide +kernel) rfl) ?_
      refine Iff.trans (zw_get (show decode cX2_add 18 = .ok (.getfield 11, 3) by decide +kernel) (by decide +kernel : zfld 2 11 = some (2, 0)) (hl.k2 ha0) (hl.n2 ha0) (zgetR (v := a0 + 1) (hl.r (zrt2_0 ha0)) rfl)) ?_
      refine Iff.trans (zw_aload_n (show decode cX2_add 21 = .ok (.aload_n 0, 1) by decide +kernel) rfl) ?_
      refine Iff.trans (zw_getI (show decode cX2_add 22 = .ok (.getfield 32, 3) by decide +kernel) (by decide +kernel : zfld 2 32 = some (2, 4)) (hl.k2 ha0) (hl.n2 ha0) (Or.inl rfl) (w := zI σ a0 4) rfl) ?_
      refine Iff.trans (zw_aald (show decode cX2_add 25 = .ok (.aaload, 1) by decide +kernel) (by rw [(hl.k2 (zf_race ha0).1.1)]; decide) (hl.n2 (zf_race ha0).1.1) (hl.l2 (zf_race ha0).1.1 (zf_race ha0).1.2)) ?_
      refine zw_and ?_
      exact Iff.rfl
    · exact zw_ret (show decode cX2_add 16 = .ok (.return_, 1) by decide +kernel) rfl

theorem bX2_add_26 {d : Nat} {σ : zS} {Q : Option Value → zS → Prop} (hl : zLay σ) {a0 a1 b0 : Nat} {x2 : Int32} (ha0 : zk a0 = 2) (ha1 : zk a1 = 6) (hb0 : zk b0 = 4) : zW (d + 1) kX2_add 26 [.ref a0, .ref a1, .int x2, .retAddr 0] [.ref b0] σ Q ↔ zCall d kX4_begin [.ref b0] (zsI (zsR σ b0 (va_up (zR σ b0) 0 (some a1))) b0 (upd (zI σ b0) 1 x2)) (fun r σ' => zisN r = true ∧ zW (d + 1) kX2_add 41 [.ref a0, .ref a1, .int x2, .ref b0] (zRstk r ++ []) σ' Q) := by
  refine Iff.trans (zw_astore_n (ls' := [.ref a0, .ref a1, .int x2, .ref b0]) (show decode cX2_add 26 = .ok (.astore_n 3, 1) by decide +kernel) (zset_s (Nat.le_of_ble_eq_true rfl) rfl)) ?_
  refine Iff.trans (zw_aload_n (show decode cX2_add 27 = .ok (.aload_n 3, 1) by decide +kernel) rfl) ?_
  refine Iff.trans (zw_aload_n (show decode cX2_add 28 = .ok (.aload_n 1, 1) by decide +kernel) rfl) ?_
  refine Iff.trans (zw_putR (show decode cX2_add 29 = .ok (.putfield 46, 3) by decide +kernel) (by decide +kernel : zfld 2 46 = some (4, 0)) (hl.k2 hb0) (hl.n2 hb0) rfl rfl (σ' := (zsR σ b0 (va_up (zR σ b0) 0 (some a1)))) rfl) ?_
  refine Iff.trans (zw_aload_n (show decode cX2_add 32 = .ok (.aload_n 3, 1) by decide +kernel) rfl) ?_
  refine Iff.trans (zw_iload_n (show decode cX2_add 33 = .ok (.iload_n 2, 1) by decide +kernel) rfl) ?_
  refine Iff.trans (zw_putI (show decode cX2_add 34 = .ok (.putfield 50, 3) by decide +kernel) (by decide +kernel : zfld 2 50 = some (4, 1)) ((hl.Rf (zrtN4_0 hb0) rfl).k2 hb0) ((hl.Rf (zrtN4_0 hb0) rfl).n2 hb0) rfl (Or.inl rfl) (σ' := (zsI (zsR σ b0 (va_up (zR σ b0) 0 (some a1))) b0 (upd (zI σ b0) 1 x2))) rfl) ?_
  refine Iff.trans (zw_aload_n (show decode cX2_add 37 = .ok (.aload_n 3, 1) by decide +kernel) rfl) ?_
  refine Iff.trans (zw_invV (K' := kX4_begin) (as' := []) (rest := []) (show decode cX2_add 38 = .ok (.invokevirtual 53, 3) by decide +kernel) (by rfl) rfl rfl rfl ((hl.Rf (zrtN4_0 hb0) rfl).I.k2 hb0) (by decide) ((hl.Rf (zrtN4_0 hb0) rfl).I.n2 hb0) ⟨Nat.le_of_ble_eq_true rfl, Nat.le_of_ble_eq_true rfl, Nat.le_of_ble_eq_true rfl⟩) ?_
  exact Iff.rfl

theorem bX2_add_41 {d : Nat} {σ : zS} {Q : Option Value → zS → Prop} (hl : zLay σ) {a0 a1 a3 : Nat} {x2 : Int32} (ha0 : zk a0 = 2) (ha1 : zk a1 = 6) (ha3 : zk a3 = 4) : zW (d + 1) kX2_add 41 [.ref a0, .ref a1, .int x2, .ref a3] [] σ Q ↔ Q none (zsI σ a0 (upd (zI σ a0) 4 ((zI σ a0 4) + 1))) := by
  refine Iff.trans (zw_aload_n (show decode cX2_add 41 = .ok (.aload_n 0, 1) by decide +kernel) rfl) ?_
  refine Iff.trans (zw_dup (show decode cX2_add 42 = .ok (.dup, 1) by decide +kernel) rfl) ?_
  refine Iff.trans (zw_getI (show decode cX2_add 43 = .ok (.getfield 32, 3) by decide +kernel) (by decide +kernel : zfld 2 32 = some (2, 4)) (hl.k2 ha0) (hl.n2 ha0) (Or.inl rfl) (w := zI σ a0 4) rfl) ?_
  refine Iff.trans (zw_iconst (x := 1) (show decode cX2_add 46 = .ok (.iconst 1, 1) by decide +kernel) (by decide)) ?_
  refine Iff.trans (zw_iadd (show decode cX2_add 47 = .ok (.iadd, 1) by decide +kernel)) ?_
  refine Iff.trans (zw_putI (show decode cX2_add 48 = .ok (.putfield 32, 3) by decide +kernel) (by decide +kernel : zfld 2 32 = some (2, 4)) (hl.k2 ha0) (hl.n2 ha0) rfl (Or.inl rfl) (σ' := (zsI σ a0 (upd (zI σ a0) 4 ((zI σ a0 4) + 1)))) rfl) ?_
  exact zw_ret (show decode cX2_add 51 = .ok (.return_, 1) by decide +kernel) rfl

theorem bX2_fits_0 {d : Nat} {σ : zS} {Q : Option Value → zS → Prop} (hl : zLay σ) {a0 : Nat} {x1 : Int32} (ha0 : zk a0 = 2) : zCall (d + 1) kX2_fits [.ref a0, .int x1] σ Q ↔ zW (d + 1) kX2_fits 4 [.ref a0, .int x1, .int 0, .int 0, .retAddr 0, .retAddr 0] [] σ Q := by
  show zW (d + 1) kX2_fits 0 [.ref a0, .int x1, .retAddr 0, .retAddr 0, .retAddr 0, .retAddr 0] [] σ Q ↔ _
  refine Iff.trans (zw_iconst (x := 0) (show decode cX2_fits 0 = .ok (.iconst 0, 1) by decide +kernel) (by decide)) ?_
  refine Iff.trans (zw_istore_n (ls' := [.ref a0, .int x1, .int 0, .retAddr 0, .retAddr 0, .retAddr 0]) (show decode cX2_fits 1 = .ok (.istore_n 2, 1) by decide +kernel) (zset_s (Nat.le_of_ble_eq_true rfl) rfl)) ?_
  refine Iff.trans (zw_iconst (x := 0) (show decode cX2_fits 2 = .ok (.iconst 0, 1) by decide +kernel) (by decide)) ?_
  refine Iff.trans (zw_istore_n (ls' := [.ref a0, .int x1, .int 0, .int 0, .retAddr 0, .retAddr 0]) (show decode cX2_fits 3 = .ok (.istore_n 3, 1) by decide +kernel) (zset_s (Nat.le_of_ble_eq_true rfl) rfl)) ?_
  exact Iff.rfl

theorem bX2_fits_4 {d : Nat} {σ : zS} {Q : Option Value → zS → Prop} (hl : zLay σ) {a0 : Nat} {x1 x2 x3 : Int32} {v4 v5 : Value} (ha0 : zk a0 = 2) (hv4 : v4.category = 1) (hv5 : v5.category = 1) : zW (d + 1) kX2_fits 4 [.ref a0, .int x1, .int x2, .int x3, v4, v5] [] σ Q ↔ (if (zI σ a0 4) ≤ x3 then Q (some (.int 1)) σ else (if 6 ≤ x3 then Q (some (.int 1)) σ else (vp_in x3 6 ∧ zW (d + 1) kX2_fits 24 [.ref a0, .int x1, .int x2, .int x3, v4, v5] (va_rf (zR σ (a0 + 1) (x3 : Int32).toNatClampNeg) :: []) σ Q))) := by
  refine Iff.trans (zw_iload_n (show decode cX2_fits 4 = .ok (.iload_n 3, 1) by decide +kernel) rfl) ?_
  refine Iff.trans (zw_aload_n (show decode cX2_fits 5 = .ok (.aload_n 0, 1) by decide +kernel) rfl) ?_
  refine Iff.trans (zw_getI (show decode cX2_fits 6 = .ok (.getfield 32, 3) by decide +kernel) (by decide +kernel : zfld 2 32 = some (2, 4)) (hl.k2 ha0) (hl.n2 ha0) (Or.inl rfl) (w := zI σ a0 4) rfl) ?_
  refine Iff.trans (zw_icmp_ge (t := 85) (show decode cX2_fits 9 = .ok (.if_icmp .ge 76, 3) by decide +kernel) (by decide)) ?_
  refine zw_ite ?_ ?_
  · refine Iff.trans (zw_iconst (x := 1) (show decode cX2_fits 85 = .ok (.iconst 1, 1) by decide +kernel) (by decide)) ?_
    exact zw_iret2c (show decode cX2_fits 86 = .ok (.ireturn, 1) by decide +kernel) rfl (Or.inr rfl)
  · refine Iff.trans (zw_iload_n (show decode cX2_fits 12 = .ok (.iload_n 3, 1) by decide +kernel) rfl) ?_
    refine Iff.trans (zw_bipush (x := 6) (show decode cX2_fits 13 = .ok (.bipush 6, 2) by decide +kernel) (by decide)) ?_
    refine Iff.trans (zw_icmp_ge (t := 85) (show decode cX2_fits 15 = .ok (.if_icmp .ge 70, 3) by decide +kernel) (by decide)) ?_
    refine zw_ite ?_ ?_
    · refine Iff.trans (zw_iconst (x := 1) (show decode cX2_fits 85 = .ok (.iconst 1, 1) by decide +kernel) (by decide)) ?_
      exact zw_iret2c (show decode cX2_fits 86 = .ok (.ireturn, 1) by decide +kernel) rfl (Or.inr rfl)
    · refine Iff.trans (zw_aload_n (show decode cX2_fits 18 = .ok (.aload_n 0, 1) by decide +kernel) rfl) ?_
      refine Iff.trans (zw_get (show decode cX2_fits 19 = .ok (.getfield 11, 3) by decide +kernel) (by decide +kernel : zfld 2 11 = some (2, 0)) (hl.k2 ha0) (hl.n2 ha0) (zgetR (v := a0 + 1) (hl.r (zrt2_0 ha0)) rfl)) ?_
      refine Iff.trans (zw_iload_n (show decode cX2_fits 22 = .ok (.iload_n 3, 1) by decide +kernel) rfl) ?_
      refine Iff.trans (zw_aald (show decode cX2_fits 23 = .ok (.aaload, 1) by decide +kernel) (by rw [(hl.k2 (zf_race ha0).1.1)]; decide) (hl.n2 (zf_race ha0).1.1) (hl.l2 (zf_race ha0).1.1 (zf_race ha0).1.2)) ?_
      refine zw_and ?_
      exact Iff.rfl

theorem bX2_fits_24 {d : Nat} {σ : zS} {Q : Option Value → zS → Prop} (hl : zLay σ) {a0 b0 : Nat} {x1 x2 x3 : Int32} {v4 v5 : Value} (ha0 : zk a0 = 2) (hv4 : v4.category = 1) (hv5 : v5.category = 1) (hb0 : zk b0 = 4) : zW (d + 1) kX2_fits 24 [.ref a0, .int x1, .int x2, .int x3, v4, v5] [.ref b0] σ Q ↔ zW (d + 1) kX2_fits 30 [.ref a0, .int x1, .int x2, .int x3, .ref b0, v5] (va_rf ((zR σ a0) 3) :: []) σ Q := by
  refine Iff.trans (zw_astore (ls' := [.ref a0, .int x1, .int x2, .int x3, .ref b0, v5]) (show decode cX2_fits 24 = .ok (.astore 4, 2) by decide +kernel) (zset_s (Nat.le_of_ble_eq_true rfl) rfl)) ?_
  refine Iff.trans (zw_aload_n (show decode cX2_fits 26 = .ok (.aload_n 0, 1) by decide +kernel) rfl) ?_
  refine Iff.trans (zw_getR (show decode cX2_fits 27 = .ok (.getfield 27, 3) by decide +kernel) (by decide +kernel : zfld 2 27 = some (2, 3)) (hl.k2 ha0) (hl.n2 ha0) rfl (w := (zR σ a0) 3) rfl) ?_
  exact Iff.rfl

theorem bX2_fits_30 {d : Nat} {σ : zS} {Q : Option Value → zS → Prop} (hl : zLay σ) {a0 a4 b0 : Nat} {x1 x2 x3 : Int32} {v5 : Value} (ha0 : zk a0 = 2) (ha4 : zk a4 = 4) (hv5 : v5.category = 1) (hb0 : zk b0 = 0) : zW (d + 1) kX2_fits 30 [.ref a0, .int x1, .int x2, .int x3, .ref a4, v5] [.ref b0] σ Q ↔ zW (d + 1) kX2_fits 35 [.ref a0, .int x1, .int x2, .int x3, .ref a4, v5] (va_rf ((zR σ a4) 0) :: [.ref b0]) σ Q := by
  refine Iff.trans (zw_aload (show decode cX2_fits 30 = .ok (.aload 4, 2) by decide +kernel) rfl) ?_
  refine Iff.trans (zw_getR (show decode cX2_fits 32 = .ok (.getfield 46, 3) by decide +kernel) (by decide +kernel : zfld 2 46 = some (4, 0)) (hl.k2 ha4) (hl.n2 ha4) rfl (w := (zR σ a4) 0) rfl) ?_
  exact Iff.rfl

theorem bX2_fits_35 {d : Nat} {σ : zS} {Q : Option Value → zS → Prop} (hl : zLay σ) {a0 a4 b0 b1 : Nat} {x1 x2 x3 : Int32} {v5 : Value} (ha0 : zk a0 = 2) (ha4 : zk a4 = 4) (hv5 : v5.category = 1) (hb0 : zk b0 = 6) (hb1 : zk b1 = 0) : zW (d + 1) kX2_fits 35 [.ref a0, .int x1, .int x2, .int x3, .ref a4, v5] [.ref b0, .ref b1] σ Q ↔ zCall d kX0_holds [.ref b1, .ref b0, .int 0, .int (zI σ a4 1), .int x1] σ (fun r σ' => zisN r = true ∧ zW (d + 1) kX2_fits 45 [.ref a0, .int x1, .int x2, .int x3, .ref a4, v5] (zRstk r ++ []) σ' Q) := by
  refine Iff.trans (zw_iconst (x := 0) (show decode cX2_fits 35 = .ok (.iconst 0, 1) by decide +kernel) (by decide)) ?_
  refine Iff.trans (zw_aload (show decode cX2_fits 36 = .ok (.aload 4, 2) by decide +kernel) rfl) ?_
  refine Iff.trans (zw_getI (show decode cX2_fits 38 = .ok (.getfield 50, 3) by decide +kernel) (by decide +kernel : zfld 2 50 = some (4, 1)) (hl.k2 ha4) (hl.n2 ha4) (Or.inl rfl) (w := zI σ a4 1) rfl) ?_
  refine Iff.trans (zw_iload_n (show decode cX2_fits 41 = .ok (.iload_n 1, 1) by decide +kernel) rfl) ?_
  refine Iff.trans (zw_invV (K' := kX0_holds) (as' := [.ref b0, .int 0, .int (zI σ a4 1), .int x1]) (rest := []) (show decode cX2_fits 42 = .ok (.invokevirtual 56, 3) by decide +kernel) (by rfl) rfl rfl rfl (hl.k2 hb1) (by decide) (hl.n2 hb1) ⟨Nat.le_of_ble_eq_true rfl, Nat.le_of_ble_eq_true rfl, Nat.le_of_ble_eq_true rfl⟩) ?_
  exact Iff.rfl

theorem bX2_fits_45 {d : Nat} {σ : zS} {Q : Option Value → zS → Prop} (hl : zLay σ) {a0 a4 : Nat} {x1 x2 x3 y0 : Int32} {v5 : Value} (ha0 : zk a0 = 2) (ha4 : zk a4 = 4) (hv5 : v5.category = 1) : zW (d + 1) kX2_fits 45 [.ref a0, .int x1, .int x2, .int x3, .ref a4, v5] [.int y0] σ Q ↔ (if y0 = (0 : Int32) then Q (some (.int 0)) σ else zW (d + 1) kX2_fits 55 [.ref a0, .int x1, .int x2, .int x3, .ref a4, v5] (va_rf ((zR σ a4) 0) :: []) σ Q) := by
  refine Iff.trans (zw_if_ne (t := 50) (show decode cX2_fits 45 = .ok (.ifCond .ne 5, 3) by decide +kernel) (by decide)) ?_
  refine zw_ite ?_ ?_
  · refine Iff.trans (zw_iconst (x := 0) (show decode cX2_fits 48 = .ok (.iconst 0, 1) by decide +kernel) (by decide)) ?_
    exact zw_iret2c (show decode cX2_fits 49 = .ok (.ireturn, 1) by decide +kernel) rfl (Or.inl rfl)
  · refine Iff.trans (zw_aload (show decode cX2_fits 50 = .ok (.aload 4, 2) by decide +kernel) rfl) ?_
    refine Iff.trans (zw_getR (show decode cX2_fits 52 = .ok (.getfield 46, 3) by decide +kernel) (by decide +kernel : zfld 2 46 = some (4, 0)) (hl.k2 ha4) (hl.n2 ha4) rfl (w := (zR σ a4) 0) rfl) ?_
    exact Iff.rfl

theorem bX2_fits_55 {d : Nat} {σ : zS} {Q : Option Value → zS → Prop} (hl : zLay σ) {a0 a4 b0 : Nat} {x1 x2 x3 : Int32} {v5 : Value} (ha0 : zk a0 = 2) (ha4 : zk a4 = 4) (hv5 : v5.category = 1) (hb0 : zk b0 = 6) : zW (d + 1) kX2_fits 55 [.ref a0, .int x1, .int x2, .int x3, .ref a4, v5] [.ref b0] σ Q ↔ zCall d kX6_lanesFrom [.ref b0, .int (zI σ a4 1)] σ (fun r σ' => zisN r = true ∧ zW (d + 1) kX2_fits 63 [.ref a0, .int x1, .int x2, .int x3, .ref a4, v5] (zRstk r ++ []) σ' Q) := by
  refine Iff.trans (zw_aload (show decode cX2_fits 55 = .ok (.aload 4, 2) by decide +kernel) rfl) ?_
  refine Iff.trans (zw_getI (show decode cX2_fits 57 = .ok (.getfield 50, 3) by decide +kernel) (by decide +kernel : zfld 2 50 = some (4, 1)) (hl.k2 ha4) (hl.n2 ha4) (Or.inl rfl) (w := zI σ a4 1) rfl) ?_
  refine Iff.trans (zw_invV (K' := kX6_lanesFrom) (as' := [.int (zI σ a4 1)]) (rest := []) (show decode cX2_fits 60 = .ok (.invokevirtual 60, 3) by decide +kernel) (by rfl) rfl rfl rfl (hl.k2 hb0) (by decide) (hl.n2 hb0) ⟨Nat.le_of_ble_eq_true rfl, Nat.le_of_ble_eq_true rfl, Nat.le_of_ble_eq_true rfl⟩) ?_
  exact Iff.rfl

theorem bX2_fits_63 {d : Nat} {σ : zS} {Q : Option Value → zS → Prop} (hl : zLay σ) {a0 a4 : Nat} {x1 x2 x3 y0 : Int32} {v5 : Value} (ha0 : zk a0 = 2) (ha4 : zk a4 = 4) (hv5 : v5.category = 1) : zW (d + 1) kX2_fits 63 [.ref a0, .int x1, .int x2, .int x3, .ref a4, v5] [.int y0] σ Q ↔ (if (x2 &&& y0) = (0 : Int32) then zW (d + 1) kX2_fits 4 [.ref a0, .int x1, .int (x2 ||| y0), .int (x3 + 1), .ref a4, .int y0] [] σ Q else Q (some (.int 0)) σ) := by
  refine Iff.trans (zw_istore (ls' := [.ref a0, .int x1, .int x2, .int x3, .ref a4, .int y0]) (show decode cX2_fits 63 = .ok (.istore 5, 2) by decide +kernel) (zset_s (Nat.le_of_ble_eq_true rfl) rfl)) ?_
  refine Iff.trans (zw_iload_n (show decode cX2_fits 65 = .ok (.iload_n 2, 1) by decide +kernel) rfl) ?_
  refine Iff.trans (zw_iload (show decode cX2_fits 66 = .ok (.iload 5, 2) by decide +kernel) rfl) ?_
  refine Iff.trans (zw_iand (show decode cX2_fits 68 = .ok (.iand, 1) by decide +kernel)) ?_
  refine Iff.trans (zw_if_eq (t := 74) (show decode cX2_fits 69 = .ok (.ifCond .eq 5, 3) by decide +kernel) (by decide)) ?_
  refine zw_ite ?_ ?_
  · refine Iff.trans (zw_iload_n (show decode cX2_fits 74 = .ok (.iload_n 2, 1) by decide +kernel) rfl) ?_
    refine Iff.trans (zw_iload (show decode cX2_fits 75 = .ok (.iload 5, 2) by decide +kernel) rfl) ?_
    refine Iff.trans (zw_ior (show decode cX2_fits 77 = .ok (.ior, 1) by decide +kernel)) ?_
    refine Iff.trans (zw_istore_n (ls' := [.ref a0, .int x1, .int (x2 ||| y0), .int x3, .ref a4, .int y0]) (show decode cX2_fits 78 = .ok (.istore_n 2, 1) by decide +kernel) (zset_s (Nat.le_of_ble_eq_true rfl) rfl)) ?_
    refine Iff.trans (zw_iinc (w := 1) (ls' := [.ref a0, .int x1, .int (x2 ||| y0), .int (x3 + 1), .ref a4, .int y0]) (show decode cX2_fits 79 = .ok (.iinc 3 1, 3) by decide +kernel) rfl (by decide) (zset_s (Nat.le_of_ble_eq_true rfl) rfl)) ?_
    refine Iff.trans (zw_goto (t := 4) (show decode cX2_fits 82 = .ok (.goto (-78), 3) by decide +kernel) (by decide)) ?_
    exact Iff.rfl
  · refine Iff.trans (zw_iconst (x := 0) (show decode cX2_fits 72 = .ok (.iconst 0, 1) by decide +kernel) (by decide)) ?_
    exact zw_iret2c (show decode cX2_fits 73 = .ok (.ireturn, 1) by decide +kernel) rfl (Or.inl rfl)

theorem bX2_begin_0 {d : Nat} {σ : zS} {Q : Option Value → zS → Prop} (hl : zLay σ) {a0 : Nat} {j1 : Int64} (ha0 : zk a0 = 2) : zCall (d + 1) kX2_begin [.ref a0, .long j1] σ Q ↔ zCall d kJ7_fill_53178 [.ref (a0 + 3), .int 0] (zsI (zsL (zsI σ a0 (upd (upd (zI σ a0) 5 0) 6 0)) a0 (vp_updL (zL σ a0) 7 j1)) a0 (upd (upd (upd (upd (zI σ a0) 5 0) 6 0) 8 0) 9 1)) (fun r σ' => zisN r = true ∧ zW (d + 1) kX2_begin 33 [.ref a0, .long j1, .retAddr 1, .retAddr 0] (zRstk r ++ []) σ' Q) := by
  show zW (d + 1) kX2_begin 0 [.ref a0, .long j1, .retAddr 1, .retAddr 0] [] σ Q ↔ _
  refine Iff.trans (zw_aload_n (show decode cX2_begin 0 = .ok (.aload_n 0, 1) by decide +kernel) rfl) ?_
  refine Iff.trans (zw_iconst (x := 0) (show decode cX2_begin 1 = .ok (.iconst 0, 1) by decide +kernel) (by decide)) ?_
  refine Iff.trans (zw_putI (show decode cX2_begin 2 = .ok (.putfield 36, 3) by decide +kernel) (by decide +kernel : zfld 2 36 = some (2, 5)) (hl.k2 ha0) (hl.n2 ha0) rfl (Or.inl rfl) (σ' := (zsI σ a0 (upd (zI σ a0) 5 0))) rfl) ?_
  refine Iff.trans (zw_aload_n (show decode cX2_begin 5 = .ok (.aload_n 0, 1) by decide +kernel) rfl) ?_
  refine Iff.trans (zw_iconst (x := 0) (show decode cX2_begin 6 = .ok (.iconst 0, 1) by decide +kernel) (by decide)) ?_
  refine Iff.trans (zw_putI (show decode cX2_begin 7 = .ok (.putfield 39, 3) by decide +kernel) (by decide +kernel : zfld 2 39 = some (2, 6)) (hl.I.k2 ha0) (hl.I.n2 ha0) rfl (Or.inl rfl) (σ' := (zsI σ a0 (upd (upd (zI σ a0) 5 0) 6 0))) (Eq.trans (congrArg (fun f => zsI (zsI σ a0 (upd (zI σ a0) 5 0)) a0 (upd f 6 0)) zI_self) zsI_s)) ?_
  refine Iff.trans (zw_aload_n (show decode cX2_begin 10 = .ok (.aload_n 0, 1) by decide +kernel) rfl) ?_
  refine Iff.trans (zw_lload_n (show decode cX2_begin 11 = .ok (.lload_n 1, 1) by decide +kernel) rfl) ?_
  refine Iff.trans (zw_putL (show decode cX2_begin 12 = .ok (.putfield 66, 3) by decide +kernel) (by decide +kernel : zfld 2 66 = some (2, 7)) (hl.I.k2 ha0) (hl.I.n2 ha0) rfl rfl (σ' := (zsL (zsI σ a0 (upd (upd (zI σ a0) 5 0) 6 0)) a0 (vp_updL (zL σ a0) 7 j1))) rfl) ?_
  refine Iff.trans (zw_aload_n (show decode cX2_begin 15 = .ok (.aload_n 0, 1) by decide +kernel) rfl) ?_
  refine Iff.trans (zw_iconst (x := 0) (show decode cX2_begin 16 = .ok (.iconst 0, 1) by decide +kernel) (by decide)) ?_
  refine Iff.trans (zw_putI (show decode cX2_begin 17 = .ok (.putfield 70, 3) by decide +kernel) (by decide +kernel : zfld 2 70 = some (2, 8)) (hl.I.L.k2 ha0) (hl.I.L.n2 ha0) rfl (Or.inr ⟨rfl, Or.inl rfl⟩) (σ' := (zsI (zsL (zsI σ a0 (upd (upd (zI σ a0) 5 0) 6 0)) a0 (vp_updL (zL σ a0) 7 j1)) a0 (upd (upd (upd (zI σ a0) 5 0) 6 0) 8 0))) (congrArg (fun f => zsI (zsL (zsI σ a0 (upd (upd (zI σ a0) 5 0) 6 0)) a0 (vp_updL (zL σ a0) 7 j1)) a0 (upd f 8 0)) (Eq.trans (zI_sL _ _ _ _) zI_self))) ?_
  refine Iff.trans (zw_aload_n (show decode cX2_begin 20 = .ok (.aload_n 0, 1) by decide +kernel) rfl) ?_
  refine Iff.trans (zw_iconst (x := 1) (show decode cX2_begin 21 = .ok (.iconst 1, 1) by decide +kernel) (by decide)) ?_
  refine Iff.trans (zw_putI (show decode cX2_begin 22 = .ok (.putfield 42, 3) by decide +kernel) (by decide +kernel : zfld 2 42 = some (2, 9)) (hl.I.L.I.k2 ha0) (hl.I.L.I.n2 ha0) rfl (Or.inr ⟨rfl, Or.inr rfl⟩) (σ' := (zsI (zsL (zsI σ a0 (upd (upd (zI σ a0) 5 0) 6 0)) a0 (vp_updL (zL σ a0) 7 j1)) a0 (upd (upd (upd (upd (zI σ a0) 5 0) 6 0) 8 0) 9 1))) (Eq.trans (congrArg (fun f => zsI (zsI (zsL (zsI σ a0 (upd (upd (zI σ a0) 5 0) 6 0)) a0 (vp_updL (zL σ a0) 7 j1)) a0 (upd (upd (upd (zI σ a0) 5 0) 6 0) 8 0)) a0 (upd f 9 1)) zI_self) zsI_s)) ?_
  refine Iff.trans (zw_aload_n (show decode cX2_begin 25 = .ok (.aload_n 0, 1) by decide +kernel) rfl) ?_
  refine Iff.trans (zw_get (show decode cX2_begin 26 = .ok (.getfield 21, 3) by decide +kernel) (by decide +kernel : zfld 2 21 = some (2, 2)) (hl.I.L.I.k2 ha0) (hl.I.L.I.n2 ha0) (zgetR (v := a0 + 3) (hl.I.L.I.r (zrt2_2 ha0)) rfl)) ?_
  refine Iff.trans (zw_iconst (x := 0) (show decode cX2_begin 29 = .ok (.iconst 0, 1) by decide +kernel) (by decide)) ?_
  refine Iff.trans (zw_invS (K' := kJ7_fill_53178) (as := [.ref (a0 + 3), .int 0]) (rest := []) (show decode cX2_begin 30 = .ok (.invokestatic 73, 3) by decide +kernel) (by rfl) rfl rfl rfl ⟨Nat.le_of_ble_eq_true rfl, Nat.le_of_ble_eq_true rfl, Nat.le_of_ble_eq_true rfl⟩) ?_
  exact Iff.rfl

theorem bX2_begin_33 {d : Nat} {σ : zS} {Q : Option Value → zS → Prop} (hl : zLay σ) {a0 : Nat} {j1 : Int64} (ha0 : zk a0 = 2) : zW (d + 1) kX2_begin 33 [.ref a0, .long j1, .retAddr 1, .retAddr 0] [] σ Q ↔ zW (d + 1) kX2_begin 35 [.ref a0, .long j1, .retAddr 1, .int 0] [] σ Q := by
  refine Iff.trans (zw_iconst (x := 0) (show decode cX2_begin 33 = .ok (.iconst 0, 1) by decide +kernel) (by decide)) ?_
  refine Iff.trans (zw_istore_n (ls' := [.ref a0, .long j1, .retAddr 1, .int 0]) (show decode cX2_begin 34 = .ok (.istore_n 3, 1) by decide +kernel) (zset_s (Nat.le_of_ble_eq_true rfl) rfl)) ?_
  exact Iff.rfl

theorem bX2_begin_35 {d : Nat} {σ : zS} {Q : Option Value → zS → Prop} (hl : zLay σ) {a0 : Nat} {j1 : Int64} {x3 : Int32} (ha0 : zk a0 = 2) : zW (d + 1) kX2_begin 35 [.ref a0, .long j1, .retAddr 1, .int x3] [] σ Q ↔ (if (zI σ a0 4) ≤ x3 then Q none σ else (if 6 ≤ x3 then Q none σ else (vp_in x3 6 ∧ zW (d + 1) kX2_begin 55 [.ref a0, .long j1, .retAddr 1, .int x3] (va_rf (zR σ (a0 + 1) (x3 : Int32).toNatClampNeg) :: []) σ Q))) := by
  refine Iff.trans (zw_iload_n (show decode cX2_begin 35 = .ok (.iload_n 3, 1) by decide +kernel) rfl) ?_
  refine Iff.trans (zw_aload_n (show decode cX2_begin 36 = .ok (.aload_n 0, 1) by decide +kernel) rfl) ?_
  refine Iff.trans (zw_getI (show decode cX2_begin 37 = .ok (.getfield 32, 3) by decide +kernel) (by decide +kernel : zfld 2 32 = some (2, 4)) (hl.k2 ha0) (hl.n2 ha0) (Or.inl rfl) (w := zI σ a0 4) rfl) ?_
  refine Iff.trans (zw_icmp_ge (t := 64) (show decode cX2_begin 40 = .ok (.if_icmp .ge 24, 3) by decide +kernel) (by decide)) ?_
  refine zw_ite ?_ ?_
  · exact zw_ret (show decode cX2_begin 64 = .ok (.return_, 1) by decide +kernel) rfl
  · refine Iff.trans (zw_iload_n (show decode cX2_begin 43 = .ok (.iload_n 3, 1) by decide +kernel) rfl) ?_
    refine Iff.trans (zw_bipush (x := 6) (show decode cX2_begin 44 = .ok (.bipush 6, 2) by decide +kernel) (by decide)) ?_
    refine Iff.trans (zw_icmp_ge (t := 64) (show decode cX2_begin 46 = .ok (.if_icmp .ge 18, 3) by decide +kernel) (by decide)) ?_
    refine zw_ite ?_ ?_
    · exact zw_ret (show decode cX2_begin 64 = .ok (.return_, 1) by decide +kernel) rfl
    · refine Iff.trans (zw_aload_n (show decode cX2_begin 49 = .ok (.aload_n 0, 1) by decide +kernel) rfl) ?_
      refine Iff.trans (zw_get (show decode cX2_begin 50 = .ok (.getfield 11, 3) by decide +kernel) (by decide +kernel : zfld 2 11 = some (2, 0)) (hl.k2 ha0) (hl.n2 ha0) (zgetR (v := a0 + 1) (hl.r (zrt2_0 ha0)) rfl)) ?_
      refine Iff.trans (zw_iload_n (show decode cX2_begin 53 = .ok (.iload_n 3, 1) by decide +kernel) rfl) ?_
      refine Iff.trans (zw_aald (show decode cX2_begin 54 = .ok (.aaload, 1) by decide +kernel) (by rw [(hl.k2 (zf_race ha0).1.1)]; decide) (hl.n2 (zf_race ha0).1.1) (hl.l2 (zf_race ha0).1.1 (zf_race ha0).1.2)) ?_
      refine zw_and ?_
      exact Iff.rfl

theorem bX2_begin_55 {d : Nat} {σ : zS} {Q : Option Value → zS → Prop} (hl : zLay σ) {a0 b0 : Nat} {j1 : Int64} {x3 : Int32} (ha0 : zk a0 = 2) (hb0 : zk b0 = 4) : zW (d + 1) kX2_begin 55 [.ref a0, .long j1, .retAddr 1, .int x3] [.ref b0] σ Q ↔ zCall d kX4_begin [.ref b0] σ (fun r σ' => zisN r = true ∧ zW (d + 1) kX2_begin 58 [.ref a0, .long j1, .retAddr 1, .int x3] (zRstk r ++ []) σ' Q) := by
  refine Iff.trans (zw_invV (K' := kX4_begin) (as' := []) (rest := []) (show decode cX2_begin 55 = .ok (.invokevirtual 53, 3) by decide +kernel) (by rfl) rfl rfl rfl (hl.k2 hb0) (by decide) (hl.n2 hb0) ⟨Nat.le_of_ble_eq_true rfl, Nat.le_of_ble_eq_true rfl, Nat.le_of_ble_eq_true rfl⟩) ?_
  exact Iff.rfl

theorem bX2_begin_58 {d : Nat} {σ : zS} {Q : Option Value → zS → Prop} (hl : zLay σ) {a0 : Nat} {j1 : Int64} {x3 : Int32} (ha0 : zk a0 = 2) : zW (d + 1) kX2_begin 58 [.ref a0, .long j1, .retAddr 1, .int x3] [] σ Q ↔ zW (d + 1) kX2_begin 35 [.ref a0, .long j1, .retAddr 1, .int (x3 + 1)] [] σ Q := by
  refine Iff.trans (zw_iinc (w := 1) (ls' := [.ref a0, .long j1, .retAddr 1, .int (x3 + 1)]) (show decode cX2_begin 58 = .ok (.iinc 3 1, 3) by decide +kernel) rfl (by decide) (zset_s (Nat.le_of_ble_eq_true rfl) rfl)) ?_
  refine Iff.trans (zw_goto (t := 35) (show decode cX2_begin 61 = .ok (.goto (-26), 3) by decide +kernel) (by decide)) ?_
  exact Iff.rfl

theorem bX2_goesOn_0 {d : Nat} {σ : zS} {Q : Option Value → zS → Prop} (hl : zLay σ) {a0 : Nat} (ha0 : zk a0 = 2) : zCall d kX2_goesOn [.ref a0] σ Q ↔ (if (60 : Int32) ≤ (zI σ a0 5) then Q (some (.int 0)) σ else (if (zI σ a0 4) ≤ (zI σ a0 6) then Q (some (.int 0)) σ else Q (some (.int 1)) σ)) := by
  show zW d kX2_goesOn 0 [.ref a0] [] σ Q ↔ _
  refine Iff.trans (zw_aload_n (show decode cX2_goesOn 0 = .ok (.aload_n 0, 1) by decide +kernel) rfl) ?_
  refine Iff.trans (zw_getI (show decode cX2_goesOn 1 = .ok (.getfield 36, 3) by decide +kernel) (by decide +kernel : zfld 2 36 = some (2, 5)) (hl.k2 ha0) (hl.n2 ha0) (Or.inl rfl) (w := zI σ a0 5) rfl) ?_
  refine Iff.trans (zw_bipush (x := 60) (show decode cX2_goesOn 4 = .ok (.bipush 60, 2) by decide +kernel) (by decide)) ?_
  refine Iff.trans (zw_icmp_ge (t := 24) (show decode cX2_goesOn 6 = .ok (.if_icmp .ge 18, 3) by decide +kernel) (by decide)) ?_
  refine zw_ite ?_ ?_
  · refine Iff.trans (zw_iconst (x := 0) (show decode cX2_goesOn 24 = .ok (.iconst 0, 1) by decide +kernel) (by decide)) ?_
    exact zw_iret2c (show decode cX2_goesOn 25 = .ok (.ireturn, 1) by decide +kernel) rfl (Or.inl rfl)
  · refine Iff.trans (zw_aload_n (show decode cX2_goesOn 9 = .ok (.aload_n 0, 1) by decide +kernel) rfl) ?_
    refine Iff.trans (zw_getI (show decode cX2_goesOn 10 = .ok (.getfield 39, 3) by decide +kernel) (by decide +kernel : zfld 2 39 = some (2, 6)) (hl.k2 ha0) (hl.n2 ha0) (Or.inl rfl) (w := zI σ a0 6) rfl) ?_
    refine Iff.trans (zw_aload_n (show decode cX2_goesOn 13 = .ok (.aload_n 0, 1) by decide +kernel) rfl) ?_
    refine Iff.trans (zw_getI (show decode cX2_goesOn 14 = .ok (.getfield 32, 3) by decide +kernel) (by decide +kernel : zfld 2 32 = some (2, 4)) (hl.k2 ha0) (hl.n2 ha0) (Or.inl rfl) (w := zI σ a0 4) rfl) ?_
    refine Iff.trans (zw_icmp_ge (t := 24) (show decode cX2_goesOn 17 = .ok (.if_icmp .ge 7, 3) by decide +kernel) (by decide)) ?_
    refine zw_ite ?_ ?_
    · refine Iff.trans (zw_iconst (x := 0) (show decode cX2_goesOn 24 = .ok (.iconst 0, 1) by decide +kernel) (by decide)) ?_
      exact zw_iret2c (show decode cX2_goesOn 25 = .ok (.ireturn, 1) by decide +kernel) rfl (Or.inl rfl)
    · refine Iff.trans (zw_iconst (x := 1) (show decode cX2_goesOn 20 = .ok (.iconst 1, 1) by decide +kernel) (by decide)) ?_
      refine Iff.trans (zw_goto (t := 25) (show decode cX2_goesOn 21 = .ok (.goto 4, 3) by decide +kernel) (by decide)) ?_
      exact zw_iret2c (show decode cX2_goesOn 25 = .ok (.ireturn, 1) by decide +kernel) rfl (Or.inr rfl)

theorem bX2_run_0 {d : Nat} {σ : zS} {Q : Option Value → zS → Prop} (hl : zLay σ) {a0 a2 : Nat} {x1 : Int32} (ha0 : zk a0 = 2) (ha2 : zk a2 = 10) : zCall (d + 1) kX2_run [.ref a0, .int x1, .ref a2] σ Q ↔ zW (d + 1) kX2_run 2 [.ref a0, .int x1, .ref a2, .int 0, .retAddr 0, .retAddr 0] [] σ Q := by
  show zW (d + 1) kX2_run 0 [.ref a0, .int x1, .ref a2, .retAddr 0, .retAddr 0, .retAddr 0] [] σ Q ↔ _
  refine Iff.trans (zw_iconst (x := 0) (show decode cX2_run 0 = .ok (.iconst 0, 1) by decide +kernel) (by decide)) ?_
  refine Iff.trans (zw_istore_n (ls' := [.ref a0, .int x1, .ref a2, .int 0, .retAddr 0, .retAddr 0]) (show decode cX2_run 1 = .ok (.istore_n 3, 1) by decide +kernel) (zset_s (Nat.le_of_ble_eq_true rfl) rfl)) ?_
  exact Iff.rfl

theorem bX2_run_2 {d : Nat} {σ : zS} {Q : Option Value → zS → Prop} (hl : zLay σ) {a0 a2 : Nat} {x1 x3 : Int32} {v4 v5 : Value} (ha0 : zk a0 = 2) (ha2 : zk a2 = 10) (hv4 : v4.category = 1) (hv5 : v5.category = 1) : zW (d + 1) kX2_run 2 [.ref a0, .int x1, .ref a2, .int x3, v4, v5] [] σ Q ↔ (if x1 ≤ x3 then Q none σ else zCall d kX2_goesOn [.ref a0] σ (fun r σ' => zisN r = true ∧ zW (d + 1) kX2_run 11 [.ref a0, .int x1, .ref a2, .int x3, v4, v5] (zRstk r ++ []) σ' Q)) := by
  refine Iff.trans (zw_iload_n (show decode cX2_run 2 = .ok (.iload_n 3, 1) by decide +kernel) rfl) ?_
  refine Iff.trans (zw_iload_n (show decode cX2_run 3 = .ok (.iload_n 1, 1) by decide +kernel) rfl) ?_
  refine Iff.trans (zw_icmp_ge (t := 105) (show decode cX2_run 4 = .ok (.if_icmp .ge 101, 3) by decide +kernel) (by decide)) ?_
  refine zw_ite ?_ ?_
  · exact zw_ret (show decode cX2_run 105 = .ok (.return_, 1) by decide +kernel) rfl
  · refine Iff.trans (zw_aload_n (show decode cX2_run 7 = .ok (.aload_n 0, 1) by decide +kernel) rfl) ?_
    refine Iff.trans (zw_invV (K' := kX2_goesOn) (as' := []) (rest := []) (show decode cX2_run 8 = .ok (.invokevirtual 79, 3) by decide +kernel) (by rfl) rfl rfl rfl (hl.k2 ha0) (by decide) (hl.n2 ha0) ⟨Nat.le_of_ble_eq_true rfl, Nat.le_of_ble_eq_true rfl, Nat.le_of_ble_eq_true rfl⟩) ?_
    exact Iff.rfl

theorem bX2_run_11 {d : Nat} {σ : zS} {Q : Option Value → zS → Prop} (hl : zLay σ) {a0 a2 : Nat} {x1 x3 y0 : Int32} {v4 v5 : Value} (ha0 : zk a0 = 2) (ha2 : zk a2 = 10) (hv4 : v4.category = 1) (hv5 : v5.category = 1) : zW (d + 1) kX2_run 11 [.ref a0, .int x1, .ref a2, .int x3, v4, v5] [.int y0] σ Q ↔ (if y0 = (0 : Int32) then Q none σ else zCall d kX2_sortByX [.ref a0] (zsI σ a0 (upd (zI σ a0) 5 ((zI σ a0 5) + 1))) (fun r σ' => zisN r = true ∧ zW (d + 1) kX2_run 28 [.ref a0, .int x1, .ref a2, .int x3, v4, v5] (zRstk r ++ []) σ' Q)) := by
  refine Iff.trans (zw_if_eq (t := 105) (show decode cX2_run 11 = .ok (.ifCond .eq 94, 3) by decide +kernel) (by decide)) ?_
  refine zw_ite ?_ ?_
  · exact zw_ret (show decode cX2_run 105 = .ok (.return_, 1) by decide +kernel) rfl
  · refine Iff.trans (zw_aload_n (show decode cX2_run 14 = .ok (.aload_n 0, 1) by decide +kernel) rfl) ?_
    refine Iff.trans (zw_dup (show decode cX2_run 15 = .ok (.dup, 1) by decide +kernel) rfl) ?_
    refine Iff.trans (zw_getI (show decode cX2_run 16 = .ok (.getfield 36, 3) by decide +kernel) (by decide +kernel : zfld 2 36 = some (2, 5)) (hl.k2 ha0) (hl.n2 ha0) (Or.inl rfl) (w := zI σ a0 5) rfl) ?_
    refine Iff.trans (zw_iconst (x := 1) (show decode cX2_run 19 = .ok (.iconst 1, 1) by decide +kernel) (by decide)) ?_
    refine Iff.trans (zw_iadd (show decode cX2_run 20 = .ok (.iadd, 1) by decide +kernel)) ?_
    refine Iff.trans (zw_putI (show decode cX2_run 21 = .ok (.putfield 36, 3) by decide +kernel) (by decide +kernel : zfld 2 36 = some (2, 5)) (hl.k2 ha0) (hl.n2 ha0) rfl (Or.inl rfl) (σ' := (zsI σ a0 (upd (zI σ a0) 5 ((zI σ a0 5) + 1)))) rfl) ?_
    refine Iff.trans (zw_aload_n (show decode cX2_run 24 = .ok (.aload_n 0, 1) by decide +kernel) rfl) ?_
    refine Iff.trans (zw_invV (K' := kX2_sortByX) (as' := []) (rest := []) (show decode cX2_run 25 = .ok (.invokevirtual 83, 3) by decide +kernel) (by rfl) rfl rfl rfl (hl.I.k2 ha0) (by decide) (hl.I.n2 ha0) ⟨Nat.le_of_ble_eq_true rfl, Nat.le_of_ble_eq_true rfl, Nat.le_of_ble_eq_true rfl⟩) ?_
    exact Iff.rfl

theorem bX2_run_28 {d : Nat} {σ : zS} {Q : Option Value → zS → Prop} (hl : zLay σ) {a0 a2 : Nat} {x1 x3 : Int32} {v4 v5 : Value} (ha0 : zk a0 = 2) (ha2 : zk a2 = 10) (hv4 : v4.category = 1) (hv5 : v5.category = 1) : zW (d + 1) kX2_run 28 [.ref a0, .int x1, .ref a2, .int x3, v4, v5] [] σ Q ↔ zW (d + 1) kX2_run 31 [.ref a0, .int x1, .ref a2, .int x3, .int 0, v5] [] σ Q := by
  refine Iff.trans (zw_iconst (x := 0) (show decode cX2_run 28 = .ok (.iconst 0, 1) by decide +kernel) (by decide)) ?_
  refine Iff.trans (zw_istore (ls' := [.ref a0, .int x1, .ref a2, .int x3, .int 0, v5]) (show decode cX2_run 29 = .ok (.istore 4, 2) by decide +kernel) (zset_s (Nat.le_of_ble_eq_true rfl) rfl)) ?_
  exact Iff.rfl

theorem bX2_run_31 {d : Nat} {σ : zS} {Q : Option Value → zS → Prop} (hl : zLay σ) {a0 a2 : Nat} {x1 x3 x4 : Int32} {v5 : Value} (ha0 : zk a0 = 2) (ha2 : zk a2 = 10) (hv5 : v5.category = 1) : zW (d + 1) kX2_run 31 [.ref a0, .int x1, .ref a2, .int x3, .int x4, v5] [] σ Q ↔ (if (zI σ a0 4) ≤ x4 then zW (d + 1) kX2_run 2 [.ref a0, .int x1, .ref a2, .int (x3 + 1), .int x4, v5] [] σ Q else (if 6 ≤ x4 then zW (d + 1) kX2_run 2 [.ref a0, .int x1, .ref a2, .int (x3 + 1), .int x4, v5] [] σ Q else (vp_in x4 6 ∧ (if (zI σ (a0 + 2) (x4 : Int32).toNatClampNeg) < (0 : Int32) then zW (d + 1) kX2_run 93 [.ref a0, .int x1, .ref a2, .int x3, .int x4, .int (zI σ (a0 + 2) (x4 : Int32).toNatClampNeg)] [] σ Q else (if 6 ≤ (zI σ (a0 + 2) (x4 : Int32).toNatClampNeg) then zW (d + 1) kX2_run 93 [.ref a0, .int x1, .ref a2, .int x3, .int x4, .int (zI σ (a0 + 2) (x4 : Int32).toNatClampNeg)] [] σ Q else (vp_in (zI σ (a0 + 2) (x4 : Int32).toNatClampNeg) 6 ∧ zW (d + 1) kX2_run 75 [.ref a0, .int x1, .ref a2, .int x3, .int x4, .int (zI σ (a0 + 2) (x4 : Int32).toNatClampNeg)] (va_rf (zR σ (a0 + 1) (zI σ (a0 + 2) (x4 : Int32).toNatClampNeg : Int32).toNatClampNeg) :: []) σ Q)))))) := by
  refine Iff.trans (zw_iload (show decode cX2_run 31 = .ok (.iload 4, 2) by decide +kernel) rfl) ?_
  refine Iff.trans (zw_aload_n (show decode cX2_run 33 = .ok (.aload_n 0, 1) by decide +kernel) rfl) ?_
  refine Iff.trans (zw_getI (show decode cX2_run 34 = .ok (.getfield 32, 3) by decide +kernel) (by decide +kernel : zfld 2 32 = some (2, 4)) (hl.k2 ha0) (hl.n2 ha0) (Or.inl rfl) (w := zI σ a0 4) rfl) ?_
  refine Iff.trans (zw_icmp_ge (t := 99) (show decode cX2_run 37 = .ok (.if_icmp .ge 62, 3) by decide +kernel) (by decide)) ?_
  refine zw_ite ?_ ?_
  · refine Iff.trans (zw_iinc (w := 1) (ls' := [.ref a0, .int x1, .ref a2, .int (x3 + 1), .int x4, v5]) (show decode cX2_run 99 = .ok (.iinc 3 1, 3) by decide +kernel) rfl (by decide) (zset_s (Nat.le_of_ble_eq_true rfl) rfl)) ?_
    refine Iff.trans (zw_goto (t := 2) (show decode cX2_run 102 = .ok (.goto (-100), 3) by decide +kernel) (by decide)) ?_
    exact Iff.rfl
  · refine Iff.trans (zw_iload (show decode cX2_run 40 = .ok (.iload 4, 2) by decide +kernel) rfl) ?_
    refine Iff.trans (zw_bipush (x := 6) (show decode cX2_run 42 = .ok (.bipush 6, 2) by decide +kernel) (by decide)) ?_
    refine Iff.trans (zw_icmp_ge (t := 99) (show decode cX2_run 44 = .ok (.if_icmp .ge 55, 3) by decide +kernel) (by decide)) ?_
    refine zw_ite ?_ ?_
    · refine Iff.trans (zw_iinc (w := 1) (ls' := [.ref a0, .int x1, .ref a2, .int (x3 + 1), .int x4, v5]) (show decode cX2_run 99 = .ok (.iinc 3 1, 3) by decide +kernel) rfl (by decide) (zset_s (Nat.le_of_ble_eq_true rfl) rfl)) ?_
      refine Iff.trans (zw_goto (t := 2) (show decode cX2_run 102 = .ok (.goto (-100), 3) by decide +kernel) (by decide)) ?_
      exact Iff.rfl
    · refine Iff.trans (zw_aload_n (show decode cX2_run 47 = .ok (.aload_n 0, 1) by decide +kernel) rfl) ?_
      refine Iff.trans (zw_get (show decode cX2_run 48 = .ok (.getfield 17, 3) by decide +kernel) (by decide +kernel : zfld 2 17 = some (2, 1)) (hl.k2 ha0) (hl.n2 ha0) (zgetR (v := a0 + 2) (hl.r (zrt2_1 ha0)) rfl)) ?_
      refine Iff.trans (zw_iload (show decode cX2_run 51 = .ok (.iload 4, 2) by decide +kernel) rfl) ?_
      refine Iff.trans (zw_iald2 (show decode cX2_run 53 = .ok (.iaload, 1) by decide +kernel) (hl.k2 (zf_race ha0).2.1.1) (hl.n2 (zf_race ha0).2.1.1) (hl.l2 (zf_race ha0).2.1.1 (zf_race ha0).2.1.2) (w := zI σ (a0 + 2) (x4 : Int32).toNatClampNeg) rfl) ?_
      refine zw_and ?_
      refine Iff.trans (zw_istore (ls' := [.ref a0, .int x1, .ref a2, .int x3, .int x4, .int (zI σ (a0 + 2) (x4 : Int32).toNatClampNeg)]) (show decode cX2_run 54 = .ok (.istore 5, 2) by decide +kernel) (zset_s (Nat.le_of_ble_eq_true rfl) rfl)) ?_
      refine Iff.trans (zw_iload (show decode cX2_run 56 = .ok (.iload 5, 2) by decide +kernel) rfl) ?_
      refine Iff.trans (zw_if_lt (t := 93) (show decode cX2_run 58 = .ok (.ifCond .lt 35, 3) by decide +kernel) (by decide)) ?_
      refine zw_ite ?_ ?_
      · exact Iff.rfl
      · refine Iff.trans (zw_iload (show decode cX2_run 61 = .ok (.iload 5, 2) by decide +kernel) rfl) ?_
        refine Iff.trans (zw_bipush (x := 6) (show decode cX2_run 63 = .ok (.bipush 6, 2) by decide +kernel) (by decide)) ?_
        refine Iff.trans (zw_icmp_ge (t := 93) (show decode cX2_run 65 = .ok (.if_icmp .ge 28, 3) by decide +kernel) (by decide)) ?_
        refine zw_ite ?_ ?_
        · exact Iff.rfl
        · refine Iff.trans (zw_aload_n (show decode cX2_run 68 = .ok (.aload_n 0, 1) by decide +kernel) rfl) ?_
          refine Iff.trans (zw_get (show decode cX2_run 69 = .ok (.getfield 11, 3) by decide +kernel) (by decide +kernel : zfld 2 11 = some (2, 0)) (hl.k2 ha0) (hl.n2 ha0) (zgetR (v := a0 + 1) (hl.r (zrt2_0 ha0)) rfl)) ?_
          refine Iff.trans (zw_iload (show decode cX2_run 72 = .ok (.iload 5, 2) by decide +kernel) rfl) ?_
          refine Iff.trans (zw_aald (show decode cX2_run 74 = .ok (.aaload, 1) by decide +kernel) (by rw [(hl.k2 (zf_race ha0).1.1)]; decide) (hl.n2 (zf_race ha0).1.1) (hl.l2 (zf_race ha0).1.1 (zf_race ha0).1.2)) ?_
          refine zw_and ?_
          exact Iff.rfl

theorem bX2_run_75 {d : Nat} {σ : zS} {Q : Option Value → zS → Prop} (hl : zLay σ) {a0 a2 b0 : Nat} {x1 x3 x4 x5 : Int32} (ha0 : zk a0 = 2) (ha2 : zk a2 = 10) (hb0 : zk b0 = 4) : zW (d + 1) kX2_run 75 [.ref a0, .int x1, .ref a2, .int x3, .int x4, .int x5] [.ref b0] σ Q ↔ zCall d kX4_isOut [.ref b0] σ (fun r σ' => zisN r = true ∧ zW (d + 1) kX2_run 78 [.ref a0, .int x1, .ref a2, .int x3, .int x4, .int x5] (zRstk r ++ []) σ' Q) := by
  refine Iff.trans (zw_invV (K' := kX4_isOut) (as' := []) (rest := []) (show decode cX2_run 75 = .ok (.invokevirtual 86, 3) by decide +kernel) (by rfl) rfl rfl rfl (hl.k2 hb0) (by decide) (hl.n2 hb0) ⟨Nat.le_of_ble_eq_true rfl, Nat.le_of_ble_eq_true rfl, Nat.le_of_ble_eq_true rfl⟩) ?_
  exact Iff.rfl

theorem bX2_run_78 {d : Nat} {σ : zS} {Q : Option Value → zS → Prop} (hl : zLay σ) {a0 a2 : Nat} {x1 x3 x4 x5 y0 : Int32} (ha0 : zk a0 = 2) (ha2 : zk a2 = 10) : zW (d + 1) kX2_run 78 [.ref a0, .int x1, .ref a2, .int x3, .int x4, .int x5] [.int y0] σ Q ↔ (if y0 = (0 : Int32) then (vp_in x5 6 ∧ zW (d + 1) kX2_run 89 [.ref a0, .int x1, .ref a2, .int x3, .int x4, .int x5] (va_rf (zR σ (a0 + 1) (x5 : Int32).toNatClampNeg) :: [.ref a0]) σ Q) else zW (d + 1) kX2_run 93 [.ref a0, .int x1, .ref a2, .int x3, .int x4, .int x5] [] σ Q) := by
  refine Iff.trans (zw_if_ne (t := 93) (show decode cX2_run 78 = .ok (.ifCond .ne 15, 3) by decide +kernel) (by decide)) ?_
  refine zw_ite ?_ ?_
  · refine Iff.trans (zw_aload_n (show decode cX2_run 81 = .ok (.aload_n 0, 1) by decide +kernel) rfl) ?_
    refine Iff.trans (zw_aload_n (show decode cX2_run 82 = .ok (.aload_n 0, 1) by decide +kernel) rfl) ?_
    refine Iff.trans (zw_get (show decode cX2_run 83 = .ok (.getfield 11, 3) by decide +kernel) (by decide +kernel : zfld 2 11 = some (2, 0)) (hl.k2 ha0) (hl.n2 ha0) (zgetR (v := a0 + 1) (hl.r (zrt2_0 ha0)) rfl)) ?_
    refine Iff.trans (zw_iload (show decode cX2_run 86 = .ok (.iload 5, 2) by decide +kernel) rfl) ?_
    refine Iff.trans (zw_aald (show decode cX2_run 88 = .ok (.aaload, 1) by decide +kernel) (by rw [(hl.k2 (zf_race ha0).1.1)]; decide) (hl.n2 (zf_race ha0).1.1) (hl.l2 (zf_race ha0).1.1 (zf_race ha0).1.2)) ?_
    refine zw_and ?_
    exact Iff.rfl
  · exact Iff.rfl

theorem bX2_run_89 {d : Nat} {σ : zS} {Q : Option Value → zS → Prop} (hl : zLay σ) {a0 a2 b0 : Nat} {x1 x3 x4 x5 : Int32} (ha0 : zk a0 = 2) (ha2 : zk a2 = 10) (hb0 : zk b0 = 4) : zW (d + 1) kX2_run 89 [.ref a0, .int x1, .ref a2, .int x3, .int x4, .int x5] [.ref b0, .ref a0] σ Q ↔ zCall d kX2_move [.ref a0, .ref b0, .ref a2] σ (fun r σ' => zisN r = true ∧ zW (d + 1) kX2_run 93 [.ref a0, .int x1, .ref a2, .int x3, .int x4, .int x5] (zRstk r ++ []) σ' Q) := by
  refine Iff.trans (zw_aload_n (show decode cX2_run 89 = .ok (.aload_n 2, 1) by decide +kernel) rfl) ?_
  refine Iff.trans (zw_invV (K' := kX2_move) (as' := [.ref b0, .ref a2]) (rest := []) (show decode cX2_run 90 = .ok (.invokevirtual 89, 3) by decide +kernel) (by rfl) rfl rfl rfl (hl.k2 ha0) (by decide) (hl.n2 ha0) ⟨Nat.le_of_ble_eq_true rfl, Nat.le_of_ble_eq_true rfl, Nat.le_of_ble_eq_true rfl⟩) ?_
  exact Iff.rfl

theorem bX2_run_93 {d : Nat} {σ : zS} {Q : Option Value → zS → Prop} (hl : zLay σ) {a0 a2 : Nat} {x1 x3 x4 x5 : Int32} (ha0 : zk a0 = 2) (ha2 : zk a2 = 10) : zW (d + 1) kX2_run 93 [.ref a0, .int x1, .ref a2, .int x3, .int x4, .int x5] [] σ Q ↔ zW (d + 1) kX2_run 31 [.ref a0, .int x1, .ref a2, .int x3, .int (x4 + 1), .int x5] [] σ Q := by
  refine Iff.trans (zw_iinc (w := 1) (ls' := [.ref a0, .int x1, .ref a2, .int x3, .int (x4 + 1), .int x5]) (show decode cX2_run 93 = .ok (.iinc 4 1, 3) by decide +kernel) rfl (by decide) (zset_s (Nat.le_of_ble_eq_true rfl) rfl)) ?_
  refine Iff.trans (zw_goto (t := 31) (show decode cX2_run 96 = .ok (.goto (-65), 3) by decide +kernel) (by decide)) ?_
  exact Iff.rfl

theorem bX2_sortByX_0 {d : Nat} {σ : zS} {Q : Option Value → zS → Prop} (hl : zLay σ) {a0 : Nat} (ha0 : zk a0 = 2) : zCall (d + 1) kX2_sortByX [.ref a0] σ Q ↔ zW (d + 1) kX2_sortByX 2 [.ref a0, .int 0, .retAddr 0] [] σ Q := by
  show zW (d + 1) kX2_sortByX 0 [.ref a0, .retAddr 0, .retAddr 0] [] σ Q ↔ _
  refine Iff.trans (zw_iconst (x := 0) (show decode cX2_sortByX 0 = .ok (.iconst 0, 1) by decide +kernel) (by decide)) ?_
  refine Iff.trans (zw_istore_n (ls' := [.ref a0, .int 0, .retAddr 0]) (show decode cX2_sortByX 1 = .ok (.istore_n 1, 1) by decide +kernel) (zset_s (Nat.le_of_ble_eq_true rfl) rfl)) ?_
  exact Iff.rfl

theorem bX2_sortByX_2 {d : Nat} {σ : zS} {Q : Option Value → zS → Prop} (hl : zLay σ) {a0 : Nat} {x1 : Int32} {v2 : Value} (ha0 : zk a0 = 2) (hv2 : v2.category = 1) : zW (d + 1) kX2_sortByX 2 [.ref a0, .int x1, v2] [] σ Q ↔ (if (zI σ a0 4) ≤ x1 then Q none σ else (if 6 ≤ x1 then Q none σ else zW (d + 1) kX2_sortByX 18 [.ref a0, .int x1, .int x1] [] σ Q)) := by
  refine Iff.trans (zw_iload_n (show decode cX2_sortByX 2 = .ok (.iload_n 1, 1) by decide +kernel) rfl) ?_
  refine Iff.trans (zw_aload_n (show decode cX2_sortByX 3 = .ok (.aload_n 0, 1) by decide +kernel) rfl) ?_
  refine Iff.trans (zw_getI (show decode cX2_sortByX 4 = .ok (.getfield 32, 3) by decide +kernel) (by decide +kernel : zfld 2 32 = some (2, 4)) (hl.k2 ha0) (hl.n2 ha0) (Or.inl rfl) (w := zI σ a0 4) rfl) ?_
  refine Iff.trans (zw_icmp_ge (t := 75) (show decode cX2_sortByX 7 = .ok (.if_icmp .ge 68, 3) by decide +kernel) (by decide)) ?_
  refine zw_ite ?_ ?_
  · exact zw_ret (show decode cX2_sortByX 75 = .ok (.return_, 1) by decide +kernel) rfl
  · refine Iff.trans (zw_iload_n (show decode cX2_sortByX 10 = .ok (.iload_n 1, 1) by decide +kernel) rfl) ?_
    refine Iff.trans (zw_bipush (x := 6) (show decode cX2_sortByX 11 = .ok (.bipush 6, 2) by decide +kernel) (by decide)) ?_
    refine Iff.trans (zw_icmp_ge (t := 75) (show decode cX2_sortByX 13 = .ok (.if_icmp .ge 62, 3) by decide +kernel) (by decide)) ?_
    refine zw_ite ?_ ?_
    · exact zw_ret (show decode cX2_sortByX 75 = .ok (.return_, 1) by decide +kernel) rfl
    · refine Iff.trans (zw_iload_n (show decode cX2_sortByX 16 = .ok (.iload_n 1, 1) by decide +kernel) rfl) ?_
      refine Iff.trans (zw_istore_n (ls' := [.ref a0, .int x1, .int x1]) (show decode cX2_sortByX 17 = .ok (.istore_n 2, 1) by decide +kernel) (zset_s (Nat.le_of_ble_eq_true rfl) rfl)) ?_
      exact Iff.rfl

theorem bX2_sortByX_18 {d : Nat} {σ : zS} {Q : Option Value → zS → Prop} (hl : zLay σ) {a0 : Nat} {x1 x2 : Int32} (ha0 : zk a0 = 2) : zW (d + 1) kX2_sortByX 18 [.ref a0, .int x1, .int x2] [] σ Q ↔ (if x2 ≤ (0 : Int32) then zW (d + 1) kX2_sortByX 62 [.ref a0, .int x1, .int x2] [] σ Q else (vp_in (x2 - 1) 6 ∧ zCall d kX2_xOf [.ref a0, .int (zI σ (a0 + 2) (x2 - 1 : Int32).toNatClampNeg)] σ (fun r σ' => zisN r = true ∧ zW (d + 1) kX2_sortByX 34 [.ref a0, .int x1, .int x2] (zRstk r ++ []) σ' Q))) := by
  refine Iff.trans (zw_iload_n (show decode cX2_sortByX 18 = .ok (.iload_n 2, 1) by decide +kernel) rfl) ?_
  refine Iff.trans (zw_if_le (t := 62) (show decode cX2_sortByX 19 = .ok (.ifCond .le 43, 3) by decide +kernel) (by decide)) ?_
  refine zw_ite ?_ ?_
  · exact Iff.rfl
  · refine Iff.trans (zw_aload_n (show decode cX2_sortByX 22 = .ok (.aload_n 0, 1) by decide +kernel) rfl) ?_
    refine Iff.trans (zw_aload_n (show decode cX2_sortByX 23 = .ok (.aload_n 0, 1) by decide +kernel) rfl) ?_
    refine Iff.trans (zw_get (show decode cX2_sortByX 24 = .ok (.getfield 17, 3) by decide +kernel) (by decide +kernel : zfld 2 17 = some (2, 1)) (hl.k2 ha0) (hl.n2 ha0) (zgetR (v := a0 + 2) (hl.r (zrt2_1 ha0)) rfl)) ?_
    refine Iff.trans (zw_iload_n (show decode cX2_sortByX 27 = .ok (.iload_n 2, 1) by decide +kernel) rfl) ?_
    refine Iff.trans (zw_iconst (x := 1) (show decode cX2_sortByX 28 = .ok (.iconst 1, 1) by decide +kernel) (by decide)) ?_
    refine Iff.trans (zw_isub (show decode cX2_sortByX 29 = .ok (.isub, 1) by decide +kernel)) ?_
    refine Iff.trans (zw_iald2 (show decode cX2_sortByX 30 = .ok (.iaload, 1) by decide +kernel) (hl.k2 (zf_race ha0).2.1.1) (hl.n2 (zf_race ha0).2.1.1) (hl.l2 (zf_race ha0).2.1.1 (zf_race ha0).2.1.2) (w := zI σ (a0 + 2) (x2 - 1 : Int32).toNatClampNeg) rfl) ?_
    refine zw_and ?_
    refine Iff.trans (zw_invV (K' := kX2_xOf) (as' := [.int (zI σ (a0 + 2) (x2 - 1 : Int32).toNatClampNeg)]) (rest := []) (show decode cX2_sortByX 31 = .ok (.invokevirtual 93, 3) by decide +kernel) (by rfl) rfl rfl rfl (hl.k2 ha0) (by decide) (hl.n2 ha0) ⟨Nat.le_of_ble_eq_true rfl, Nat.le_of_ble_eq_true rfl, Nat.le_of_ble_eq_true rfl⟩) ?_
    exact Iff.rfl

theorem bX2_sortByX_34 {d : Nat} {σ : zS} {Q : Option Value → zS → Prop} (hl : zLay σ) {a0 : Nat} {x1 x2 y0 : Int32} (ha0 : zk a0 = 2) : zW (d + 1) kX2_sortByX 34 [.ref a0, .int x1, .int x2] [.int y0] σ Q ↔ zCall d kX2_xOf [.ref a0, .int x1] σ (fun r σ' => zisN r = true ∧ zW (d + 1) kX2_sortByX 39 [.ref a0, .int x1, .int x2] (zRstk r ++ [.int y0]) σ' Q) := by
  refine Iff.trans (zw_aload_n (show decode cX2_sortByX 34 = .ok (.aload_n 0, 1) by decide +kernel) rfl) ?_
  refine Iff.trans (zw_iload_n (show decode cX2_sortByX 35 = .ok (.iload_n 1, 1) by decide +kernel) rfl) ?_
  refine Iff.trans (zw_invV (K' := kX2_xOf) (as' := [.int x1]) (rest := [.int y0]) (show decode cX2_sortByX 36 = .ok (.invokevirtual 93, 3) by decide +kernel) (by rfl) rfl rfl rfl (hl.k2 ha0) (by decide) (hl.n2 ha0) ⟨Nat.le_of_ble_eq_true rfl, Nat.le_of_ble_eq_true rfl, Nat.le_of_ble_eq_true rfl⟩) ?_
  exact Iff.rfl

theorem bX2_sortByX_39 {d : Nat} {σ : zS} {Q : Option Value → zS → Prop} (hl : zLay σ) {a0 : Nat} {x1 x2 y0 y1 : Int32} (ha0 : zk a0 = 2) : zW (d + 1) kX2_sortByX 39 [.ref a0, .int x1, .int x2] [.int y0, .int y1] σ Q ↔ (if y0 ≤ y1 then zW (d + 1) kX2_sortByX 62 [.ref a0, .int x1, .int x2] [] σ Q else (vp_in (x2 - 1) 6 ∧ (vp_in x2 6 ∧ zW (d + 1) kX2_sortByX 18 [.ref a0, .int x1, .int (x2 + (-1))] [] (zsI σ (a0 + 2) (upd (zI σ (a0 + 2)) (x2 : Int32).toNatClampNeg (zI σ (a0 + 2) (x2 - 1 : Int32).toNatClampNeg))) Q))) := by
  refine Iff.trans (zw_icmp_ge (t := 62) (show decode cX2_sortByX 39 = .ok (.if_icmp .ge 23, 3) by decide +kernel) (by decide)) ?_
  refine zw_ite ?_ ?_
  · exact Iff.rfl
  · refine Iff.trans (zw_aload_n (show decode cX2_sortByX 42 = .ok (.aload_n 0, 1) by decide +kernel) rfl) ?_
    refine Iff.trans (zw_get (show decode cX2_sortByX 43 = .ok (.getfield 17, 3) by decide +kernel) (by decide +kernel : zfld 2 17 = some (2, 1)) (hl.k2 ha0) (hl.n2 ha0) (zgetR (v := a0 + 2) (hl.r (zrt2_1 ha0)) rfl)) ?_
    refine Iff.trans (zw_iload_n (show decode cX2_sortByX 46 = .ok (.iload_n 2, 1) by decide +kernel) rfl) ?_
    refine Iff.trans (zw_aload_n (show decode cX2_sortByX 47 = .ok (.aload_n 0, 1) by decide +kernel) rfl) ?_
    refine Iff.trans (zw_get (show decode cX2_sortByX 48 = .ok (.getfield 17, 3) by decide +kernel) (by decide +kernel : zfld 2 17 = some (2, 1)) (hl.k2 ha0) (hl.n2 ha0) (zgetR (v := a0 + 2) (hl.r (zrt2_1 ha0)) rfl)) ?_
    refine Iff.trans (zw_iload_n (show decode cX2_sortByX 51 = .ok (.iload_n 2, 1) by decide +kernel) rfl) ?_
    refine Iff.trans (zw_iconst (x := 1) (show decode cX2_sortByX 52 = .ok (.iconst 1, 1) by decide +kernel) (by decide)) ?_
    refine Iff.trans (zw_isub (show decode cX2_sortByX 53 = .ok (.isub, 1) by decide +kernel)) ?_
    refine Iff.trans (zw_iald2 (show decode cX2_sortByX 54 = .ok (.iaload, 1) by decide +kernel) (hl.k2 (zf_race ha0).2.1.1) (hl.n2 (zf_race ha0).2.1.1) (hl.l2 (zf_race ha0).2.1.1 (zf_race ha0).2.1.2) (w := zI σ (a0 + 2) (x2 - 1 : Int32).toNatClampNeg) rfl) ?_
    refine zw_and ?_
    refine Iff.trans (zw_iast2 (show decode cX2_sortByX 55 = .ok (.iastore, 1) by decide +kernel) (hl.k2 (zf_race ha0).2.1.1) (hl.n2 (zf_race ha0).2.1.1) (hl.l2 (zf_race ha0).2.1.1 (zf_race ha0).2.1.2) (σ' := (zsI σ (a0 + 2) (upd (zI σ (a0 + 2)) (x2 : Int32).toNatClampNeg (zI σ (a0 + 2) (x2 - 1 : Int32).toNatClampNeg)))) rfl) ?_
    refine zw_and ?_
    refine Iff.trans (zw_iinc (w := (-1)) (ls' := [.ref a0, .int x1, .int (x2 + (-1))]) (show decode cX2_sortByX 56 = .ok (.iinc 2 (-1), 3) by decide +kernel) rfl (by decide) (zset_s (Nat.le_of_ble_eq_true rfl) rfl)) ?_
    refine Iff.trans (zw_goto (t := 18) (show decode cX2_sortByX 59 = .ok (.goto (-41), 3) by decide +kernel) (by decide)) ?_
    exact Iff.rfl

theorem bX2_sortByX_62 {d : Nat} {σ : zS} {Q : Option Value → zS → Prop} (hl : zLay σ) {a0 : Nat} {x1 x2 : Int32} (ha0 : zk a0 = 2) : zW (d + 1) kX2_sortByX 62 [.ref a0, .int x1, .int x2] [] σ Q ↔ (vp_in x2 6 ∧ zW (d + 1) kX2_sortByX 2 [.ref a0, .int (x1 + 1), .int x2] [] (zsI σ (a0 + 2) (upd (zI σ (a0 + 2)) (x2 : Int32).toNatClampNeg x1)) Q) := by
  refine Iff.trans (zw_aload_n (show decode cX2_sortByX 62 = .ok (.aload_n 0, 1) by decide +kernel) rfl) ?_
  refine Iff.trans (zw_get (show decode cX2_sortByX 63 = .ok (.getfield 17, 3) by decide +kernel) (by decide +kernel : zfld 2 17 = some (2, 1)) (hl.k2 ha0) (hl.n2 ha0) (zgetR (v := a0 + 2) (hl.r (zrt2_1 ha0)) rfl)) ?_
  refine Iff.trans (zw_iload_n (show decode cX2_sortByX 66 = .ok (.iload_n 2, 1) by decide +kernel) rfl) ?_
  refine Iff.trans (zw_iload_n (show decode cX2_sortByX 67 = .ok (.iload_n 1, 1) by decide +kernel) rfl) ?_
  refine Iff.trans (zw_iast2 (show decode cX2_sortByX 68 = .ok (.iastore, 1) by decide +kernel) (hl.k2 (zf_race ha0).2.1.1) (hl.n2 (zf_race ha0).2.1.1) (hl.l2 (zf_race ha0).2.1.1 (zf_race ha0).2.1.2) (σ' := (zsI σ (a0 + 2) (upd (zI σ (a0 + 2)) (x2 : Int32).toNatClampNeg x1))) rfl) ?_
  refine zw_and ?_
  refine Iff.trans (zw_iinc (w := 1) (ls' := [.ref a0, .int (x1 + 1), .int x2]) (show decode cX2_sortByX 69 = .ok (.iinc 1 1, 3) by decide +kernel) rfl (by decide) (zset_s (Nat.le_of_ble_eq_true rfl) rfl)) ?_
  refine Iff.trans (zw_goto (t := 2) (show decode cX2_sortByX 72 = .ok (.goto (-70), 3) by decide +kernel) (by decide)) ?_
  exact Iff.rfl

theorem bX2_xOf_0 {d : Nat} {σ : zS} {Q : Option Value → zS → Prop} (hl : zLay σ) {a0 : Nat} {x1 : Int32} (ha0 : zk a0 = 2) : zCall d kX2_xOf [.ref a0, .int x1] σ Q ↔ (if x1 < (0 : Int32) then Q (some (.int 0)) σ else (if x1 < 6 then (vp_in x1 6 ∧ zW d kX2_xOf 20 [.ref a0, .int x1] (va_rf (zR σ (a0 + 1) (x1 : Int32).toNatClampNeg) :: []) σ Q) else Q (some (.int 0)) σ)) := by
  show zW d kX2_xOf 0 [.ref a0, .int x1] [] σ Q ↔ _
  refine Iff.trans (zw_iload_n (show decode cX2_xOf 0 = .ok (.iload_n 1, 1) by decide +kernel) rfl) ?_
  refine Iff.trans (zw_if_lt (t := 10) (show decode cX2_xOf 1 = .ok (.ifCond .lt 9, 3) by decide +kernel) (by decide)) ?_
  refine zw_ite ?_ ?_
  · refine Iff.trans (zw_iconst (x := 0) (show decode cX2_xOf 10 = .ok (.iconst 0, 1) by decide +kernel) (by decide)) ?_
    refine Iff.trans (zw_goto (t := 23) (show decode cX2_xOf 11 = .ok (.goto 12, 3) by decide +kernel) (by decide)) ?_
    exact zw_iret1 (show decode cX2_xOf 23 = .ok (.ireturn, 1) by decide +kernel) rfl
  · refine Iff.trans (zw_iload_n (show decode cX2_xOf 4 = .ok (.iload_n 1, 1) by decide +kernel) rfl) ?_
    refine Iff.trans (zw_bipush (x := 6) (show decode cX2_xOf 5 = .ok (.bipush 6, 2) by decide +kernel) (by decide)) ?_
    refine Iff.trans (zw_icmp_lt (t := 14) (show decode cX2_xOf 7 = .ok (.if_icmp .lt 7, 3) by decide +kernel) (by decide)) ?_
    refine zw_ite ?_ ?_
    · refine Iff.trans (zw_aload_n (show decode cX2_xOf 14 = .ok (.aload_n 0, 1) by decide +kernel) rfl) ?_
      refine Iff.trans (zw_get (show decode cX2_xOf 15 = .ok (.getfield 11, 3) by decide +kernel) (by decide +kernel : zfld 2 11 = some (2, 0)) (hl.k2 ha0) (hl.n2 ha0) (zgetR (v := a0 + 1) (hl.r (zrt2_0 ha0)) rfl)) ?_
      refine Iff.trans (zw_iload_n (show decode cX2_xOf 18 = .ok (.iload_n 1, 1) by decide +kernel) rfl) ?_
      refine Iff.trans (zw_aald (show decode cX2_xOf 19 = .ok (.aaload, 1) by decide +kernel) (by rw [(hl.k2 (zf_race ha0).1.1)]; decide) (hl.n2 (zf_race ha0).1.1) (hl.l2 (zf_race ha0).1.1 (zf_race ha0).1.2)) ?_
      refine zw_and ?_
      exact Iff.rfl
    · refine Iff.trans (zw_iconst (x := 0) (show decode cX2_xOf 10 = .ok (.iconst 0, 1) by decide +kernel) (by decide)) ?_
      refine Iff.trans (zw_goto (t := 23) (show decode cX2_xOf 11 = .ok (.goto 12, 3) by decide +kernel) (by decide)) ?_
      exact zw_iret1 (show decode cX2_xOf 23 = .ok (.ireturn, 1) by decide +kernel) rfl

theorem bX2_xOf_20 {d : Nat} {σ : zS} {Q : Option Value → zS → Prop} (hl : zLay σ) {a0 b0 : Nat} {x1 : Int32} (ha0 : zk a0 = 2) (hb0 : zk b0 = 4) : zW d kX2_xOf 20 [.ref a0, .int x1] [.ref b0] σ Q ↔ Q (some (.int (zI σ b0 2))) σ := by
  refine Iff.trans (zw_getI (show decode cX2_xOf 20 = .ok (.getfield 96, 3) by decide +kernel) (by decide +kernel : zfld 2 96 = some (4, 2)) (hl.k2 hb0) (hl.n2 hb0) (Or.inl rfl) (w := zI σ b0 2) rfl) ?_
  exact zw_iret1 (show decode cX2_xOf 23 = .ok (.ireturn, 1) by decide +kernel) rfl

theorem bX2_drawOfTen_0 {d : Nat} {σ : zS} {Q : Option Value → zS → Prop} (hl : zLay σ) {a0 : Nat} (ha0 : zk a0 = 2) : zCall d kX2_drawOfTen [.ref a0] σ Q ↔ (¬ 10 = (0 : Int64) ∧ Q (some (.int ((((((((((zL σ a0) 7) * 6364136223846793005) + 1442695040888963407) : Int64).toUInt64 >>> ((33 : Int32).toInt64.toUInt64 &&& Int64.toUInt64 63)).toInt64) - (((((((zL σ a0) 7) * 6364136223846793005) + 1442695040888963407) : Int64).toUInt64 >>> ((33 : Int32).toInt64.toUInt64 &&& Int64.toUInt64 63)).toInt64) / 10 * 10) : Int64).toInt32))) (zsI (zsL σ a0 (vp_updL (zL σ a0) 7 ((((zL σ a0) 7) * 6364136223846793005) + 1442695040888963407))) a0 (upd (zI σ a0) 8 1))) := by
  show zW d kX2_drawOfTen 0 [.ref a0] [] σ Q ↔ _
  refine Iff.trans (zw_aload_n (show decode cX2_drawOfTen 0 = .ok (.aload_n 0, 1) by decide +kernel) rfl) ?_
  refine Iff.trans (zw_aload_n (show decode cX2_drawOfTen 1 = .ok (.aload_n 0, 1) by decide +kernel) rfl) ?_
  refine Iff.trans (zw_getL (show decode cX2_drawOfTen 2 = .ok (.getfield 66, 3) by decide +kernel) (by decide +kernel : zfld 2 66 = some (2, 7)) (hl.k2 ha0) (hl.n2 ha0) rfl (w := (zL σ a0) 7) rfl) ?_
  refine Iff.trans (zw_ldc2_w (x := 6364136223846793005) (show decode cX2_drawOfTen 5 = .ok (.ldc2_w 99, 3) by decide +kernel) (by decide +kernel)) ?_
  refine Iff.trans (zw_lmul (show decode cX2_drawOfTen 8 = .ok (.lmul, 1) by decide +kernel)) ?_
  refine Iff.trans (zw_ldc2_w (x := 1442695040888963407) (show decode cX2_drawOfTen 9 = .ok (.ldc2_w 101, 3) by decide +kernel) (by decide +kernel)) ?_
  refine Iff.trans (zw_ladd (show decode cX2_drawOfTen 12 = .ok (.ladd, 1) by decide +kernel)) ?_
  refine Iff.trans (zw_putL (show decode cX2_drawOfTen 13 = .ok (.putfield 66, 3) by decide +kernel) (by decide +kernel : zfld 2 66 = some (2, 7)) (hl.k2 ha0) (hl.n2 ha0) rfl rfl (σ' := (zsL σ a0 (vp_updL (zL σ a0) 7 ((((zL σ a0) 7) * 6364136223846793005) + 1442695040888963407)))) rfl) ?_
  refine Iff.trans (zw_aload_n (show decode cX2_drawOfTen 16 = .ok (.aload_n 0, 1) by decide +kernel) rfl) ?_
  refine Iff.trans (zw_iconst (x := 1) (show decode cX2_drawOfTen 17 = .ok (.iconst 1, 1) by decide +kernel) (by decide)) ?_
  refine Iff.trans (zw_putI (show decode cX2_drawOfTen 18 = .ok (.putfield 70, 3) by decide +kernel) (by decide +kernel : zfld 2 70 = some (2, 8)) (hl.L.k2 ha0) (hl.L.n2 ha0) rfl (Or.inr ⟨rfl, Or.inr rfl⟩) (σ' := (zsI (zsL σ a0 (vp_updL (zL σ a0) 7 ((((zL σ a0) 7) * 6364136223846793005) + 1442695040888963407))) a0 (upd (zI σ a0) 8 1))) rfl) ?_
  refine Iff.trans (zw_aload_n (show decode cX2_drawOfTen 21 = .ok (.aload_n 0, 1) by decide +kernel) rfl) ?_
  refine Iff.trans (zw_getL (show decode cX2_drawOfTen 22 = .ok (.getfield 66, 3) by decide +kernel) (by decide +kernel : zfld 2 66 = some (2, 7)) (hl.L.I.k2 ha0) (hl.L.I.n2 ha0) rfl (w := ((((zL σ a0) 7) * 6364136223846793005) + 1442695040888963407)) (congrFun (Eq.trans (zL_sI _ _ _ _) zL_self) 7)) ?_
  refine Iff.trans (zw_bipush (x := 33) (show decode cX2_drawOfTen 25 = .ok (.bipush 33, 2) by decide +kernel) (by decide)) ?_
  refine Iff.trans (zw_lushr (show decode cX2_drawOfTen 27 = .ok (.lushr, 1) by decide +kernel)) ?_
  refine Iff.trans (zw_ldc2_w (x := 10) (show decode cX2_drawOfTen 28 = .ok (.ldc2_w 103, 3) by decide +kernel) (by decide +kernel)) ?_
  refine Iff.trans (zw_lrem (show decode cX2_drawOfTen 31 = .ok (.lrem, 1) by decide +kernel)) ?_
  refine zw_and ?_
  refine Iff.trans (zw_l2i (show decode cX2_drawOfTen 32 = .ok (.l2i, 1) by decide +kernel)) ?_
  exact zw_iret1 (show decode cX2_drawOfTen 33 = .ok (.ireturn, 1) by decide +kernel) rfl

theorem bX2_move_0 {d : Nat} {σ : zS} {Q : Option Value → zS → Prop} (hl : zLay σ) {a0 a1 a2 : Nat} (ha0 : zk a0 = 2) (ha1 : zk a1 = 4) (ha2 : zk a2 = 10) : zCall (d + 1) kX2_move [.ref a0, .ref a1, .ref a2] σ Q ↔ zW (d + 1) kX2_move 4 [.ref a0, .ref a1, .ref a2, .retAddr 0, .retAddr 0] (va_rf ((zR σ a0) 3) :: []) σ Q := by
  show zW (d + 1) kX2_move 0 [.ref a0, .ref a1, .ref a2, .retAddr 0, .retAddr 0] [] σ Q ↔ _
  refine Iff.trans (zw_aload_n (show decode cX2_move 0 = .ok (.aload_n 0, 1) by decide +kernel) rfl) ?_
  refine Iff.trans (zw_getR (show decode cX2_move 1 = .ok (.getfield 27, 3) by decide +kernel) (by decide +kernel : zfld 2 27 = some (2, 3)) (hl.k2 ha0) (hl.n2 ha0) rfl (w := (zR σ a0) 3) rfl) ?_
  exact Iff.rfl

theorem bX2_move_4 {d : Nat} {σ : zS} {Q : Option Value → zS → Prop} (hl : zLay σ) {a0 a1 a2 b0 : Nat} (ha0 : zk a0 = 2) (ha1 : zk a1 = 4) (ha2 : zk a2 = 10) (hb0 : zk b0 = 0) : zW (d + 1) kX2_move 4 [.ref a0, .ref a1, .ref a2, .retAddr 0, .retAddr 0] [.ref b0] σ Q ↔ zCall d kX0_eddiesAt [.ref b0, .int (zI σ a1 2)] σ (fun r σ' => zisN r = true ∧ zW (d + 1) kX2_move 11 [.ref a0, .ref a1, .ref a2, .retAddr 0, .retAddr 0] (zRstk r ++ []) σ' Q) := by
  refine Iff.trans (zw_aload_n (show decode cX2_move 4 = .ok (.aload_n 1, 1) by decide +kernel) rfl) ?_
  refine Iff.trans (zw_getI (show decode cX2_move 5 = .ok (.getfield 96, 3) by decide +kernel) (by decide +kernel : zfld 2 96 = some (4, 2)) (hl.k2 ha1) (hl.n2 ha1) (Or.inl rfl) (w := zI σ a1 2) rfl) ?_
  refine Iff.trans (zw_invV (K' := kX0_eddiesAt) (as' := [.int (zI σ a1 2)]) (rest := []) (show decode cX2_move 8 = .ok (.invokevirtual 105, 3) by decide +kernel) (by rfl) rfl rfl rfl (hl.k2 hb0) (by decide) (hl.n2 hb0) ⟨Nat.le_of_ble_eq_true rfl, Nat.le_of_ble_eq_true rfl, Nat.le_of_ble_eq_true rfl⟩) ?_
  exact Iff.rfl

theorem bX2_move_11 {d : Nat} {σ : zS} {Q : Option Value → zS → Prop} (hl : zLay σ) {a0 a1 a2 : Nat} {y0 : Int32} (ha0 : zk a0 = 2) (ha1 : zk a1 = 4) (ha2 : zk a2 = 10) : zW (d + 1) kX2_move 11 [.ref a0, .ref a1, .ref a2, .retAddr 0, .retAddr 0] [.int y0] σ Q ↔ zCall d kX4_lanes [.ref a1] σ (fun r σ' => zisN r = true ∧ zW (d + 1) kX2_move 15 [.ref a0, .ref a1, .ref a2, .retAddr 0, .retAddr 0] (zRstk r ++ [.int y0]) σ' Q) := by
  refine Iff.trans (zw_aload_n (show decode cX2_move 11 = .ok (.aload_n 1, 1) by decide +kernel) rfl) ?_
  refine Iff.trans (zw_invV (K' := kX4_lanes) (as' := []) (rest := [.int y0]) (show decode cX2_move 12 = .ok (.invokevirtual 108, 3) by decide +kernel) (by rfl) rfl rfl rfl (hl.k2 ha1) (by decide) (hl.n2 ha1) ⟨Nat.le_of_ble_eq_true rfl, Nat.le_of_ble_eq_true rfl, Nat.le_of_ble_eq_true rfl⟩) ?_
  exact Iff.rfl

theorem bX2_move_15 {d : Nat} {σ : zS} {Q : Option Value → zS → Prop} (hl : zLay σ) {a0 a1 a2 : Nat} {y0 y1 : Int32} (ha0 : zk a0 = 2) (ha1 : zk a1 = 4) (ha2 : zk a2 = 10) : zW (d + 1) kX2_move 15 [.ref a0, .ref a1, .ref a2, .retAddr 0, .retAddr 0] [.int y0, .int y1] σ Q ↔ (if (y1 &&& y0) = (0 : Int32) then zW (d + 1) kX2_move 46 [.ref a0, .ref a1, .ref a2, .retAddr 0, .retAddr 0] [] σ Q else zCall d kX2_drawOfTen [.ref a0] σ (fun r σ' => zisN r = true ∧ zW (d + 1) kX2_move 23 [.ref a0, .ref a1, .ref a2, .retAddr 0, .retAddr 0] (zRstk r ++ []) σ' Q)) := by
  refine Iff.trans (zw_iand (show decode cX2_move 15 = .ok (.iand, 1) by decide +kernel)) ?_
  refine Iff.trans (zw_if_eq (t := 46) (show decode cX2_move 16 = .ok (.ifCond .eq 30, 3) by decide +kernel) (by decide)) ?_
  refine zw_ite ?_ ?_
  · exact Iff.rfl
  · refine Iff.trans (zw_aload_n (show decode cX2_move 19 = .ok (.aload_n 0, 1) by decide +kernel) rfl) ?_
    refine Iff.trans (zw_invV (K' := kX2_drawOfTen) (as' := []) (rest := []) (show decode cX2_move 20 = .ok (.invokevirtual 112, 3) by decide +kernel) (by rfl) rfl rfl rfl (hl.k2 ha0) (by decide) (hl.n2 ha0) ⟨Nat.le_of_ble_eq_true rfl, Nat.le_of_ble_eq_true rfl, Nat.le_of_ble_eq_true rfl⟩) ?_
    exact Iff.rfl

theorem bX2_move_23 {d : Nat} {σ : zS} {Q : Option Value → zS → Prop} (hl : zLay σ) {a0 a1 a2 : Nat} {y0 : Int32} (ha0 : zk a0 = 2) (ha1 : zk a1 = 4) (ha2 : zk a2 = 10) : zW (d + 1) kX2_move 23 [.ref a0, .ref a1, .ref a2, .retAddr 0, .retAddr 0] [.int y0] σ Q ↔ (if (zI σ a2 2) ≤ y0 then zW (d + 1) kX2_move 46 [.ref a0, .ref a1, .ref a2, .retAddr 0, .retAddr 0] [] σ Q else Q none (zsI σ a1 (upd (upd (zI σ a1) 4 0) 7 ((zI σ a1 7) + 1)))) := by
  refine Iff.trans (zw_aload_n (show decode cX2_move 23 = .ok (.aload_n 2, 1) by decide +kernel) rfl) ?_
  refine Iff.trans (zw_getI (show decode cX2_move 24 = .ok (.getfield 115, 3) by decide +kernel) (by decide +kernel : zfld 2 115 = some (10, 2)) (hl.k2 ha2) (hl.n2 ha2) (Or.inl rfl) (w := zI σ a2 2) rfl) ?_
  refine Iff.trans (zw_icmp_ge (t := 46) (show decode cX2_move 27 = .ok (.if_icmp .ge 19, 3) by decide +kernel) (by decide)) ?_
  refine zw_ite ?_ ?_
  · exact Iff.rfl
  · refine Iff.trans (zw_aload_n (show decode cX2_move 30 = .ok (.aload_n 1, 1) by decide +kernel) rfl) ?_
    refine Iff.trans (zw_iconst (x := 0) (show decode cX2_move 31 = .ok (.iconst 0, 1) by decide +kernel) (by decide)) ?_
    refine Iff.trans (zw_putI (show decode cX2_move 32 = .ok (.putfield 120, 3) by decide +kernel) (by decide +kernel : zfld 2 120 = some (4, 4)) (hl.k2 ha1) (hl.n2 ha1) rfl (Or.inl rfl) (σ' := (zsI σ a1 (upd (zI σ a1) 4 0))) rfl) ?_
    refine Iff.trans (zw_aload_n (show decode cX2_move 35 = .ok (.aload_n 1, 1) by decide +kernel) rfl) ?_
    refine Iff.trans (zw_dup (show decode cX2_move 36 = .ok (.dup, 1) by decide +kernel) rfl) ?_
    refine Iff.trans (zw_getI (show decode cX2_move 37 = .ok (.getfield 123, 3) by decide +kernel) (by decide +kernel : zfld 2 123 = some (4, 7)) (hl.I.k2 ha1) (hl.I.n2 ha1) (Or.inl rfl) (w := zI σ a1 7) (congrFun zI_self 7)) ?_
    refine Iff.trans (zw_iconst (x := 1) (show decode cX2_move 40 = .ok (.iconst 1, 1) by decide +kernel) (by decide)) ?_
    refine Iff.trans (zw_iadd (show decode cX2_move 41 = .ok (.iadd, 1) by decide +kernel)) ?_
    refine Iff.trans (zw_putI (show decode cX2_move 42 = .ok (.putfield 123, 3) by decide +kernel) (by decide +kernel : zfld 2 123 = some (4, 7)) (hl.I.k2 ha1) (hl.I.n2 ha1) rfl (Or.inl rfl) (σ' := (zsI σ a1 (upd (upd (zI σ a1) 4 0) 7 ((zI σ a1 7) + 1)))) (Eq.trans (congrArg (fun f => zsI (zsI σ a1 (upd (zI σ a1) 4 0)) a1 (upd f 7 ((zI σ a1 7) + 1))) zI_self) zsI_s)) ?_
    exact zw_ret (show decode cX2_move 45 = .ok (.return_, 1) by decide +kernel) rfl

theorem bX2_move_46 {d : Nat} {σ : zS} {Q : Option Value → zS → Prop} (hl : zLay σ) {a0 a1 a2 : Nat} (ha0 : zk a0 = 2) (ha1 : zk a1 = 4) (ha2 : zk a2 = 10) : zW (d + 1) kX2_move 46 [.ref a0, .ref a1, .ref a2, .retAddr 0, .retAddr 0] [] σ Q ↔ zCall d kX2_pullOf [.ref a0, .ref a1, .int (zI σ a2 1)] σ (fun r σ' => zisN r = true ∧ zW (d + 1) kX2_move 60 [.ref a0, .ref a1, .ref a2, .retAddr 0, .retAddr 0] (zRstk r ++ [.int (zI σ a1 4), .ref a1]) σ' Q) := by
  refine Iff.trans (zw_aload_n (show decode cX2_move 46 = .ok (.aload_n 1, 1) by decide +kernel) rfl) ?_
  refine Iff.trans (zw_dup (show decode cX2_move 47 = .ok (.dup, 1) by decide +kernel) rfl) ?_
  refine Iff.trans (zw_getI (show decode cX2_move 48 = .ok (.getfield 120, 3) by decide +kernel) (by decide +kernel : zfld 2 120 = some (4, 4)) (hl.k2 ha1) (hl.n2 ha1) (Or.inl rfl) (w := zI σ a1 4) rfl) ?_
  refine Iff.trans (zw_aload_n (show decode cX2_move 51 = .ok (.aload_n 0, 1) by decide +kernel) rfl) ?_
  refine Iff.trans (zw_aload_n (show decode cX2_move 52 = .ok (.aload_n 1, 1) by decide +kernel) rfl) ?_
  refine Iff.trans (zw_aload_n (show decode cX2_move 53 = .ok (.aload_n 2, 1) by decide +kernel) rfl) ?_
  refine Iff.trans (zw_getI (show decode cX2_move 54 = .ok (.getfield 126, 3) by decide +kernel) (by decide +kernel : zfld 2 126 = some (10, 1)) (hl.k2 ha2) (hl.n2 ha2) (Or.inl rfl) (w := zI σ a2 1) rfl) ?_
  refine Iff.trans (zw_invV (K' := kX2_pullOf) (as' := [.ref a1, .int (zI σ a2 1)]) (rest := [.int (zI σ a1 4), .ref a1]) (show decode cX2_move 57 = .ok (.invokevirtual 129, 3) by decide +kernel) (by rfl) rfl rfl rfl (hl.k2 ha0) (by decide) (hl.n2 ha0) ⟨Nat.le_of_ble_eq_true rfl, Nat.le_of_ble_eq_true rfl, Nat.le_of_ble_eq_true rfl⟩) ?_
  exact Iff.rfl

theorem bX2_move_60 {d : Nat} {σ : zS} {Q : Option Value → zS → Prop} (hl : zLay σ) {a0 a1 a2 : Nat} {y0 y1 : Int32} (ha0 : zk a0 = 2) (ha1 : zk a1 = 4) (ha2 : zk a2 = 10) : zW (d + 1) kX2_move 60 [.ref a0, .ref a1, .ref a2, .retAddr 0, .retAddr 0] [.int y0, .int y1, .ref a1] σ Q ↔ zCall d kX2_onWave [.ref a0, .ref a1] σ (fun r σ' => zisN r = true ∧ zW (d + 1) kX2_move 65 [.ref a0, .ref a1, .ref a2, .retAddr 0, .retAddr 0] (zRstk r ++ [.int y0, .int y1, .ref a1]) σ' Q) := by
  refine Iff.trans (zw_aload_n (show decode cX2_move 60 = .ok (.aload_n 0, 1) by decide +kernel) rfl) ?_
  refine Iff.trans (zw_aload_n (show decode cX2_move 61 = .ok (.aload_n 1, 1) by decide +kernel) rfl) ?_
  refine Iff.trans (zw_invV (K' := kX2_onWave) (as' := [.ref a1]) (rest := [.int y0, .int y1, .ref a1]) (show decode cX2_move 62 = .ok (.invokevirtual 133, 3) by decide +kernel) (by rfl) rfl rfl rfl (hl.k2 ha0) (by decide) (hl.n2 ha0) ⟨Nat.le_of_ble_eq_true rfl, Nat.le_of_ble_eq_true rfl, Nat.le_of_ble_eq_true rfl⟩) ?_
  exact Iff.rfl

theorem bX2_move_65 {d : Nat} {σ : zS} {Q : Option Value → zS → Prop} (hl : zLay σ) {a0 a1 a2 : Nat} {y0 y1 y2 : Int32} (ha0 : zk a0 = 2) (ha1 : zk a1 = 4) (ha2 : zk a2 = 10) : zW (d + 1) kX2_move 65 [.ref a0, .ref a1, .ref a2, .retAddr 0, .retAddr 0] [.int y0, .int y1, .int y2, .ref a1] σ Q ↔ (if y0 = (0 : Int32) then zW (d + 1) kX2_move 80 [.ref a0, .ref a1, .ref a2, .int 0, .retAddr 0] [] (zsI σ a1 (upd (zI σ a1) 4 (y2 + (y1 + 0)))) Q else zW (d + 1) kX2_move 80 [.ref a0, .ref a1, .ref a2, .int 0, .retAddr 0] [] (zsI σ a1 (upd (zI σ a1) 4 (y2 + (y1 + 1)))) Q) := by
  refine Iff.trans (zw_if_eq (t := 72) (show decode cX2_move 65 = .ok (.ifCond .eq 7, 3) by decide +kernel) (by decide)) ?_
  refine zw_ite ?_ ?_
  · refine Iff.trans (zw_iconst (x := 0) (show decode cX2_move 72 = .ok (.iconst 0, 1) by decide +kernel) (by decide)) ?_
    refine Iff.trans (zw_iadd (show decode cX2_move 73 = .ok (.iadd, 1) by decide +kernel)) ?_
    refine Iff.trans (zw_iadd (show decode cX2_move 74 = .ok (.iadd, 1) by decide +kernel)) ?_
    refine Iff.trans (zw_putI (show decode cX2_move 75 = .ok (.putfield 120, 3) by decide +kernel) (by decide +kernel : zfld 2 120 = some (4, 4)) (hl.k2 ha1) (hl.n2 ha1) rfl (Or.inl rfl) (σ' := (zsI σ a1 (upd (zI σ a1) 4 (y2 + (y1 + 0))))) rfl) ?_
    refine Iff.trans (zw_iconst (x := 0) (show decode cX2_move 78 = .ok (.iconst 0, 1) by decide +kernel) (by decide)) ?_
    refine Iff.trans (zw_istore_n (ls' := [.ref a0, .ref a1, .ref a2, .int 0, .retAddr 0]) (show decode cX2_move 79 = .ok (.istore_n 3, 1) by decide +kernel) (zset_s (Nat.le_of_ble_eq_true rfl) rfl)) ?_
    exact Iff.rfl
  · refine Iff.trans (zw_iconst (x := 1) (show decode cX2_move 68 = .ok (.iconst 1, 1) by decide +kernel) (by decide)) ?_
    refine Iff.trans (zw_goto (t := 73) (show decode cX2_move 69 = .ok (.goto 4, 3) by decide +kernel) (by decide)) ?_
    refine Iff.trans (zw_iadd (show decode cX2_move 73 = .ok (.iadd, 1) by decide +kernel)) ?_
    refine Iff.trans (zw_iadd (show decode cX2_move 74 = .ok (.iadd, 1) by decide +kernel)) ?_
    refine Iff.trans (zw_putI (show decode cX2_move 75 = .ok (.putfield 120, 3) by decide +kernel) (by decide +kernel : zfld 2 120 = some (4, 4)) (hl.k2 ha1) (hl.n2 ha1) rfl (Or.inl rfl) (σ' := (zsI σ a1 (upd (zI σ a1) 4 (y2 + (y1 + 1))))) rfl) ?_
    refine Iff.trans (zw_iconst (x := 0) (show decode cX2_move 78 = .ok (.iconst 0, 1) by decide +kernel) (by decide)) ?_
    refine Iff.trans (zw_istore_n (ls' := [.ref a0, .ref a1, .ref a2, .int 0, .retAddr 0]) (show decode cX2_move 79 = .ok (.istore_n 3, 1) by decide +kernel) (zset_s (Nat.le_of_ble_eq_true rfl) rfl)) ?_
    exact Iff.rfl

theorem bX2_move_80 {d : Nat} {σ : zS} {Q : Option Value → zS → Prop} (hl : zLay σ) {a0 a1 a2 : Nat} {x3 : Int32} {v4 : Value} (ha0 : zk a0 = 2) (ha1 : zk a1 = 4) (ha2 : zk a2 = 10) (hv4 : v4.category = 1) : zW (d + 1) kX2_move 80 [.ref a0, .ref a1, .ref a2, .int x3, v4] [] σ Q ↔ (if 16 ≤ x3 then zW (d + 1) kX2_move 194 [.ref a0, .ref a1, .ref a2, .int x3, v4] (va_rf ((zR σ a1) 0) :: []) σ Q else (if (zI σ a1 4) < 4 then zW (d + 1) kX2_move 194 [.ref a0, .ref a1, .ref a2, .int x3, v4] (va_rf ((zR σ a1) 0) :: []) σ Q else zW (d + 1) kX2_move 114 [.ref a0, .ref a1, .ref a2, .int x3, v4] (va_rf ((zR σ a0) 3) :: [.int ((zI σ a1 2) + 1)]) (zsI σ a1 (upd (zI σ a1) 4 ((zI σ a1 4) - 4))) Q)) := by
  refine Iff.trans (zw_iload_n (show decode cX2_move 80 = .ok (.iload_n 3, 1) by decide +kernel) rfl) ?_
  refine Iff.trans (zw_bipush (x := 16) (show decode cX2_move 81 = .ok (.bipush 16, 2) by decide +kernel) (by decide)) ?_
  refine Iff.trans (zw_icmp_ge (t := 190) (show decode cX2_move 83 = .ok (.if_icmp .ge 107, 3) by decide +kernel) (by decide)) ?_
  refine zw_ite ?_ ?_
  · refine Iff.trans (zw_aload_n (show decode cX2_move 190 = .ok (.aload_n 1, 1) by decide +kernel) rfl) ?_
    refine Iff.trans (zw_getR (show decode cX2_move 191 = .ok (.getfield 46, 3) by decide +kernel) (by decide +kernel : zfld 2 46 = some (4, 0)) (hl.k2 ha1) (hl.n2 ha1) rfl (w := (zR σ a1) 0) rfl) ?_
    exact Iff.rfl
  · refine Iff.trans (zw_aload_n (show decode cX2_move 86 = .ok (.aload_n 1, 1) by decide +kernel) rfl) ?_
    refine Iff.trans (zw_getI (show decode cX2_move 87 = .ok (.getfield 120, 3) by decide +kernel) (by decide +kernel : zfld 2 120 = some (4, 4)) (hl.k2 ha1) (hl.n2 ha1) (Or.inl rfl) (w := zI σ a1 4) rfl) ?_
    refine Iff.trans (zw_iconst (x := 4) (show decode cX2_move 90 = .ok (.iconst 4, 1) by decide +kernel) (by decide)) ?_
    refine Iff.trans (zw_icmp_lt (t := 190) (show decode cX2_move 91 = .ok (.if_icmp .lt 99, 3) by decide +kernel) (by decide)) ?_
    refine zw_ite ?_ ?_
    · refine Iff.trans (zw_aload_n (show decode cX2_move 190 = .ok (.aload_n 1, 1) by decide +kernel) rfl) ?_
      refine Iff.trans (zw_getR (show decode cX2_move 191 = .ok (.getfield 46, 3) by decide +kernel) (by decide +kernel : zfld 2 46 = some (4, 0)) (hl.k2 ha1) (hl.n2 ha1) rfl (w := (zR σ a1) 0) rfl) ?_
      exact Iff.rfl
    · refine Iff.trans (zw_aload_n (show decode cX2_move 94 = .ok (.aload_n 1, 1) by decide +kernel) rfl) ?_
      refine Iff.trans (zw_dup (show decode cX2_move 95 = .ok (.dup, 1) by decide +kernel) rfl) ?_
      refine Iff.trans (zw_getI (show decode cX2_move 96 = .ok (.getfield 120, 3) by decide +kernel) (by decide +kernel : zfld 2 120 = some (4, 4)) (hl.k2 ha1) (hl.n2 ha1) (Or.inl rfl) (w := zI σ a1 4) rfl) ?_
      refine Iff.trans (zw_iconst (x := 4) (show decode cX2_move 99 = .ok (.iconst 4, 1) by decide +kernel) (by decide)) ?_
      refine Iff.trans (zw_isub (show decode cX2_move 100 = .ok (.isub, 1) by decide +kernel)) ?_
      refine Iff.trans (zw_putI (show decode cX2_move 101 = .ok (.putfield 120, 3) by decide +kernel) (by decide +kernel : zfld 2 120 = some (4, 4)) (hl.k2 ha1) (hl.n2 ha1) rfl (Or.inl rfl) (σ' := (zsI σ a1 (upd (zI σ a1) 4 ((zI σ a1 4) - 4)))) rfl) ?_
      refine Iff.trans (zw_aload_n (show decode cX2_move 104 = .ok (.aload_n 1, 1) by decide +kernel) rfl) ?_
      refine Iff.trans (zw_getI (show decode cX2_move 105 = .ok (.getfield 96, 3) by decide +kernel) (by decide +kernel : zfld 2 96 = some (4, 2)) (hl.I.k2 ha1) (hl.I.n2 ha1) (Or.inl rfl) (w := zI σ a1 2) (congrFun zI_self 2)) ?_
      refine Iff.trans (zw_iconst (x := 1) (show decode cX2_move 108 = .ok (.iconst 1, 1) by decide +kernel) (by decide)) ?_
      refine Iff.trans (zw_iadd (show decode cX2_move 109 = .ok (.iadd, 1) by decide +kernel)) ?_
      refine Iff.trans (zw_aload_n (show decode cX2_move 110 = .ok (.aload_n 0, 1) by decide +kernel) rfl) ?_
      refine Iff.trans (zw_getR (show decode cX2_move 111 = .ok (.getfield 27, 3) by decide +kernel) (by decide +kernel : zfld 2 27 = some (2, 3)) (hl.I.k2 ha0) (hl.I.n2 ha0) rfl (w := (zR σ a0) 3) rfl) ?_
      exact Iff.rfl

theorem bX2_move_114 {d : Nat} {σ : zS} {Q : Option Value → zS → Prop} (hl : zLay σ) {a0 a1 a2 b0 : Nat} {x3 y1 : Int32} {v4 : Value} (ha0 : zk a0 = 2) (ha1 : zk a1 = 4) (ha2 : zk a2 = 10) (hv4 : v4.category = 1) (hb0 : zk b0 = 0) : zW (d + 1) kX2_move 114 [.ref a0, .ref a1, .ref a2, .int x3, v4] [.ref b0, .int y1] σ Q ↔ (if y1 < (zI σ b0 4) then zCall d kX2_barredAt [.ref a0, .int ((zI σ a1 2) + 1), .ref a1, .int (zI σ a2 1)] σ (fun r σ' => zisN r = true ∧ zW (d + 1) kX2_move 141 [.ref a0, .ref a1, .ref a2, .int x3, v4] (zRstk r ++ []) σ' Q) else zCall d kX2_leave [.ref a0, .ref a1] σ (fun r σ' => zisN r = true ∧ zW (d + 1) kX2_move 125 [.ref a0, .ref a1, .ref a2, .int x3, v4] (zRstk r ++ []) σ' Q)) := by
  refine Iff.trans (zw_getI (show decode cX2_move 114 = .ok (.getfield 137, 3) by decide +kernel) (by decide +kernel : zfld 2 137 = some (0, 4)) (hl.k2 hb0) (hl.n2 hb0) (Or.inl rfl) (w := zI σ b0 4) rfl) ?_
  refine Iff.trans (zw_icmp_lt (t := 126) (show decode cX2_move 117 = .ok (.if_icmp .lt 9, 3) by decide +kernel) (by decide)) ?_
  refine zw_ite ?_ ?_
  · refine Iff.trans (zw_aload_n (show decode cX2_move 126 = .ok (.aload_n 0, 1) by decide +kernel) rfl) ?_
    refine Iff.trans (zw_aload_n (show decode cX2_move 127 = .ok (.aload_n 1, 1) by decide +kernel) rfl) ?_
    refine Iff.trans (zw_getI (show decode cX2_move 128 = .ok (.getfield 96, 3) by decide +kernel) (by decide +kernel : zfld 2 96 = some (4, 2)) (hl.k2 ha1) (hl.n2 ha1) (Or.inl rfl) (w := zI σ a1 2) rfl) ?_
    refine Iff.trans (zw_iconst (x := 1) (show decode cX2_move 131 = .ok (.iconst 1, 1) by decide +kernel) (by decide)) ?_
    refine Iff.trans (zw_iadd (show decode cX2_move 132 = .ok (.iadd, 1) by decide +kernel)) ?_
    refine Iff.trans (zw_aload_n (show decode cX2_move 133 = .ok (.aload_n 1, 1) by decide +kernel) rfl) ?_
    refine Iff.trans (zw_aload_n (show decode cX2_move 134 = .ok (.aload_n 2, 1) by decide +kernel) rfl) ?_
    refine Iff.trans (zw_getI (show decode cX2_move 135 = .ok (.getfield 126, 3) by decide +kernel) (by decide +kernel : zfld 2 126 = some (10, 1)) (hl.k2 ha2) (hl.n2 ha2) (Or.inl rfl) (w := zI σ a2 1) rfl) ?_
    refine Iff.trans (zw_invV (K' := kX2_barredAt) (as' := [.int ((zI σ a1 2) + 1), .ref a1, .int (zI σ a2 1)]) (rest := []) (show decode cX2_move 138 = .ok (.invokevirtual 144, 3) by decide +kernel) (by rfl) rfl rfl rfl (hl.k2 ha0) (by decide) (hl.n2 ha0) ⟨Nat.le_of_ble_eq_true rfl, Nat.le_of_ble_eq_true rfl, Nat.le_of_ble_eq_true rfl⟩) ?_
    exact Iff.rfl
  · refine Iff.trans (zw_aload_n (show decode cX2_move 120 = .ok (.aload_n 0, 1) by decide +kernel) rfl) ?_
    refine Iff.trans (zw_aload_n (show decode cX2_move 121 = .ok (.aload_n 1, 1) by decide +kernel) rfl) ?_
    refine Iff.trans (zw_invV (K' := kX2_leave) (as' := [.ref a1]) (rest := []) (show decode cX2_move 122 = .ok (.invokevirtual 140, 3) by decide +kernel) (by rfl) rfl rfl rfl (hl.k2 ha0) (by decide) (hl.n2 ha0) ⟨Nat.le_of_ble_eq_true rfl, Nat.le_of_ble_eq_true rfl, Nat.le_of_ble_eq_true rfl⟩) ?_
    exact Iff.rfl

theorem bX2_move_125 {d : Nat} {σ : zS} {Q : Option Value → zS → Prop} (hl : zLay σ) {a0 a1 a2 : Nat} {x3 : Int32} {v4 : Value} (ha0 : zk a0 = 2) (ha1 : zk a1 = 4) (ha2 : zk a2 = 10) (hv4 : v4.category = 1) : zW (d + 1) kX2_move 125 [.ref a0, .ref a1, .ref a2, .int x3, v4] [] σ Q ↔ Q none σ := by
  exact zw_ret (show decode cX2_move 125 = .ok (.return_, 1) by decide +kernel) rfl

theorem bX2_move_141 {d : Nat} {σ : zS} {Q : Option Value → zS → Prop} (hl : zLay σ) {a0 a1 a2 : Nat} {x3 y0 : Int32} {v4 : Value} (ha0 : zk a0 = 2) (ha1 : zk a1 = 4) (ha2 : zk a2 = 10) (hv4 : v4.category = 1) : zW (d + 1) kX2_move 141 [.ref a0, .ref a1, .ref a2, .int x3, v4] [.int y0] σ Q ↔ zCall d kX4_lanes [.ref a1] σ (fun r σ' => zisN r = true ∧ zW (d + 1) kX2_move 145 [.ref a0, .ref a1, .ref a2, .int x3, v4] (zRstk r ++ [.int y0]) σ' Q) := by
  refine Iff.trans (zw_aload_n (show decode cX2_move 141 = .ok (.aload_n 1, 1) by decide +kernel) rfl) ?_
  refine Iff.trans (zw_invV (K' := kX4_lanes) (as' := []) (rest := [.int y0]) (show decode cX2_move 142 = .ok (.invokevirtual 108, 3) by decide +kernel) (by rfl) rfl rfl rfl (hl.k2 ha1) (by decide) (hl.n2 ha1) ⟨Nat.le_of_ble_eq_true rfl, Nat.le_of_ble_eq_true rfl, Nat.le_of_ble_eq_true rfl⟩) ?_
  exact Iff.rfl

theorem bX2_move_145 {d : Nat} {σ : zS} {Q : Option Value → zS → Prop} (hl : zLay σ) {a0 a1 a2 : Nat} {x3 y0 y1 : Int32} {v4 : Value} (ha0 : zk a0 = 2) (ha1 : zk a1 = 4) (ha2 : zk a2 = 10) (hv4 : v4.category = 1) : zW (d + 1) kX2_move 145 [.ref a0, .ref a1, .ref a2, .int x3, v4] [.int y0, .int y1] σ Q ↔ (if (y1 &&& y0) = (0 : Int32) then zW (d + 1) kX2_move 80 [.ref a0, .ref a1, .ref a2, .int (x3 + 1), .int (y1 &&& y0)] [] (zsI σ a1 (upd (zI σ a1) 2 ((zI σ a1 2) + 1))) Q else zCall d kX2_strike [.ref a0, .ref a1] σ (fun r σ' => zisN r = true ∧ zW (d + 1) kX2_move 158 [.ref a0, .ref a1, .ref a2, .int x3, .int (y1 &&& y0)] (zRstk r ++ []) σ' Q)) := by
  refine Iff.trans (zw_iand (show decode cX2_move 145 = .ok (.iand, 1) by decide +kernel)) ?_
  refine Iff.trans (zw_istore (ls' := [.ref a0, .ref a1, .ref a2, .int x3, .int (y1 &&& y0)]) (show decode cX2_move 146 = .ok (.istore 4, 2) by decide +kernel) (zset_s (Nat.le_of_ble_eq_true rfl) rfl)) ?_
  refine Iff.trans (zw_iload (show decode cX2_move 148 = .ok (.iload 4, 2) by decide +kernel) rfl) ?_
  refine Iff.trans (zw_if_eq (t := 174) (show decode cX2_move 150 = .ok (.ifCond .eq 24, 3) by decide +kernel) (by decide)) ?_
  refine zw_ite ?_ ?_
  · refine Iff.trans (zw_aload_n (show decode cX2_move 174 = .ok (.aload_n 1, 1) by decide +kernel) rfl) ?_
    refine Iff.trans (zw_dup (show decode cX2_move 175 = .ok (.dup, 1) by decide +kernel) rfl) ?_
    refine Iff.trans (zw_getI (show decode cX2_move 176 = .ok (.getfield 96, 3) by decide +kernel) (by decide +kernel : zfld 2 96 = some (4, 2)) (hl.k2 ha1) (hl.n2 ha1) (Or.inl rfl) (w := zI σ a1 2) rfl) ?_
    refine Iff.trans (zw_iconst (x := 1) (show decode cX2_move 179 = .ok (.iconst 1, 1) by decide +kernel) (by decide)) ?_
    refine Iff.trans (zw_iadd (show decode cX2_move 180 = .ok (.iadd, 1) by decide +kernel)) ?_
    refine Iff.trans (zw_putI (show decode cX2_move 181 = .ok (.putfield 96, 3) by decide +kernel) (by decide +kernel : zfld 2 96 = some (4, 2)) (hl.k2 ha1) (hl.n2 ha1) rfl (Or.inl rfl) (σ' := (zsI σ a1 (upd (zI σ a1) 2 ((zI σ a1 2) + 1)))) rfl) ?_
    refine Iff.trans (zw_iinc (w := 1) (ls' := [.ref a0, .ref a1, .ref a2, .int (x3 + 1), .int (y1 &&& y0)]) (show decode cX2_move 184 = .ok (.iinc 3 1, 3) by decide +kernel) rfl (by decide) (zset_s (Nat.le_of_ble_eq_true rfl) rfl)) ?_
    refine Iff.trans (zw_goto (t := 80) (show decode cX2_move 187 = .ok (.goto (-107), 3) by decide +kernel) (by decide)) ?_
    exact Iff.rfl
  · refine Iff.trans (zw_aload_n (show decode cX2_move 153 = .ok (.aload_n 0, 1) by decide +kernel) rfl) ?_
    refine Iff.trans (zw_aload_n (show decode cX2_move 154 = .ok (.aload_n 1, 1) by decide +kernel) rfl) ?_
    refine Iff.trans (zw_invV (K' := kX2_strike) (as' := [.ref a1]) (rest := []) (show decode cX2_move 155 = .ok (.invokevirtual 148, 3) by decide +kernel) (by rfl) rfl rfl rfl (hl.k2 ha0) (by decide) (hl.n2 ha0) ⟨Nat.le_of_ble_eq_true rfl, Nat.le_of_ble_eq_true rfl, Nat.le_of_ble_eq_true rfl⟩) ?_
    exact Iff.rfl

theorem bX2_move_158 {d : Nat} {σ : zS} {Q : Option Value → zS → Prop} (hl : zLay σ) {a0 a1 a2 : Nat} {x3 x4 : Int32} (ha0 : zk a0 = 2) (ha1 : zk a1 = 4) (ha2 : zk a2 = 10) : zW (d + 1) kX2_move 158 [.ref a0, .ref a1, .ref a2, .int x3, .int x4] [] σ Q ↔ zCall d kX2_awayFrom [.int x4, .ref a1] σ (fun r σ' => zisN r = true ∧ zW (d + 1) kX2_move 166 [.ref a0, .ref a1, .ref a2, .int x3, .int x4] (zRstk r ++ [.ref a1, .ref a0]) σ' Q) := by
  refine Iff.trans (zw_aload_n (show decode cX2_move 158 = .ok (.aload_n 0, 1) by decide +kernel) rfl) ?_
  refine Iff.trans (zw_aload_n (show decode cX2_move 159 = .ok (.aload_n 1, 1) by decide +kernel) rfl) ?_
  refine Iff.trans (zw_iload (show decode cX2_move 160 = .ok (.iload 4, 2) by decide +kernel) rfl) ?_
  refine Iff.trans (zw_aload_n (show decode cX2_move 162 = .ok (.aload_n 1, 1) by decide +kernel) rfl) ?_
  refine Iff.trans (zw_invS (K' := kX2_awayFrom) (as := [.int x4, .ref a1]) (rest := [.ref a1, .ref a0]) (show decode cX2_move 163 = .ok (.invokestatic 151, 3) by decide +kernel) (by rfl) rfl rfl rfl ⟨Nat.le_of_ble_eq_true rfl, Nat.le_of_ble_eq_true rfl, Nat.le_of_ble_eq_true rfl⟩) ?_
  exact Iff.rfl

theorem bX2_move_166 {d : Nat} {σ : zS} {Q : Option Value → zS → Prop} (hl : zLay σ) {a0 a1 a2 : Nat} {x3 x4 y0 : Int32} (ha0 : zk a0 = 2) (ha1 : zk a1 = 4) (ha2 : zk a2 = 10) : zW (d + 1) kX2_move 166 [.ref a0, .ref a1, .ref a2, .int x3, .int x4] [.int y0, .ref a1, .ref a0] σ Q ↔ zCall d kX2_goAside [.ref a0, .ref a1, .int y0, .int (zI σ a2 1)] σ (fun r σ' => zisN r = true ∧ zW (d + 1) kX2_move 173 [.ref a0, .ref a1, .ref a2, .int x3, .int x4] (zRstk r ++ []) σ' Q) := by
  refine Iff.trans (zw_aload_n (show decode cX2_move 166 = .ok (.aload_n 2, 1) by decide +kernel) rfl) ?_
  refine Iff.trans (zw_getI (show decode cX2_move 167 = .ok (.getfield 126, 3) by decide +kernel) (by decide +kernel : zfld 2 126 = some (10, 1)) (hl.k2 ha2) (hl.n2 ha2) (Or.inl rfl) (w := zI σ a2 1) rfl) ?_
  refine Iff.trans (zw_invV (K' := kX2_goAside) (as' := [.ref a1, .int y0, .int (zI σ a2 1)]) (rest := []) (show decode cX2_move 170 = .ok (.invokevirtual 155, 3) by decide +kernel) (by rfl) rfl rfl rfl (hl.k2 ha0) (by decide) (hl.n2 ha0) ⟨Nat.le_of_ble_eq_true rfl, Nat.le_of_ble_eq_true rfl, Nat.le_of_ble_eq_true rfl⟩) ?_
  exact Iff.rfl

theorem bX2_move_173 {d : Nat} {σ : zS} {Q : Option Value → zS → Prop} (hl : zLay σ) {a0 a1 a2 : Nat} {x3 x4 : Int32} (ha0 : zk a0 = 2) (ha1 : zk a1 = 4) (ha2 : zk a2 = 10) : zW (d + 1) kX2_move 173 [.ref a0, .ref a1, .ref a2, .int x3, .int x4] [] σ Q ↔ Q none σ := by
  exact zw_ret (show decode cX2_move 173 = .ok (.return_, 1) by decide +kernel) rfl

theorem bX2_move_194 {d : Nat} {σ : zS} {Q : Option Value → zS → Prop} (hl : zLay σ) {a0 a1 a2 b0 : Nat} {x3 : Int32} {v4 : Value} (ha0 : zk a0 = 2) (ha1 : zk a1 = 4) (ha2 : zk a2 = 10) (hv4 : v4.category = 1) (hb0 : zk b0 = 6) : zW (d + 1) kX2_move 194 [.ref a0, .ref a1, .ref a2, .int x3, v4] [.ref b0] σ Q ↔ (if ((0 : Int32) : Int32) ≤ (zI σ a2 0) then zW (d + 1) kX2_move 216 [.ref a0, .ref a1, .ref a2, .int x3, v4] [.int (zI σ a2 0), .int (zI σ b0 2)] σ Q else zW (d + 1) kX2_move 216 [.ref a0, .ref a1, .ref a2, .int x3, v4] [.int (-(zI σ a2 0)), .int (zI σ b0 2)] σ Q) := by
  refine Iff.trans (zw_getI (show decode cX2_move 194 = .ok (.getfield 159, 3) by decide +kernel) (by decide +kernel : zfld 2 159 = some (6, 2)) (hl.k2 hb0) (hl.n2 hb0) (Or.inl rfl) (w := zI σ b0 2) rfl) ?_
  refine Iff.trans (zw_aload_n (show decode cX2_move 197 = .ok (.aload_n 2, 1) by decide +kernel) rfl) ?_
  refine Iff.trans (zw_getI (show decode cX2_move 198 = .ok (.getfield 162, 3) by decide +kernel) (by decide +kernel : zfld 2 162 = some (10, 0)) (hl.k2 ha2) (hl.n2 ha2) (Or.inl rfl) (w := zI σ a2 0) rfl) ?_
  refine Iff.trans (zw_if_ge (t := 212) (show decode cX2_move 201 = .ok (.ifCond .ge 11, 3) by decide +kernel) (by decide)) ?_
  refine zw_ite ?_ ?_
  · refine Iff.trans (zw_aload_n (show decode cX2_move 212 = .ok (.aload_n 2, 1) by decide +kernel) rfl) ?_
    refine Iff.trans (zw_getI (show decode cX2_move 213 = .ok (.getfield 162, 3) by decide +kernel) (by decide +kernel : zfld 2 162 = some (10, 0)) (hl.k2 ha2) (hl.n2 ha2) (Or.inl rfl) (w := zI σ a2 0) rfl) ?_
    exact Iff.rfl
  · refine Iff.trans (zw_aload_n (show decode cX2_move 204 = .ok (.aload_n 2, 1) by decide +kernel) rfl) ?_
    refine Iff.trans (zw_getI (show decode cX2_move 205 = .ok (.getfield 162, 3) by decide +kernel) (by decide +kernel : zfld 2 162 = some (10, 0)) (hl.k2 ha2) (hl.n2 ha2) (Or.inl rfl) (w := zI σ a2 0) rfl) ?_
    refine Iff.trans (zw_ineg (show decode cX2_move 208 = .ok (.ineg, 1) by decide +kernel)) ?_
    refine Iff.trans (zw_goto (t := 216) (show decode cX2_move 209 = .ok (.goto 7, 3) by decide +kernel) (by decide)) ?_
    exact Iff.rfl

theorem bX2_move_216 {d : Nat} {σ : zS} {Q : Option Value → zS → Prop} (hl : zLay σ) {a0 a1 a2 : Nat} {x3 y0 y1 : Int32} {v4 : Value} (ha0 : zk a0 = 2) (ha1 : zk a1 = 4) (ha2 : zk a2 = 10) (hv4 : v4.category = 1) : zW (d + 1) kX2_move 216 [.ref a0, .ref a1, .ref a2, .int x3, v4] [.int y0, .int y1] σ Q ↔ (if (y1 * y0) < 9 then zW (d + 1) kX2_move 253 [.ref a0, .ref a1, .ref a2, .int x3, v4] [] σ Q else (if (zI σ a2 0) ≤ (0 : Int32) then zW (d + 1) kX2_move 246 [.ref a0, .ref a1, .ref a2, .int x3, v4] [.int ((zI σ a1 3) - 1), .ref a1, .ref a0] σ Q else zW (d + 1) kX2_move 246 [.ref a0, .ref a1, .ref a2, .int x3, v4] [.int ((zI σ a1 3) + 1), .ref a1, .ref a0] σ Q)) := by
  refine Iff.trans (zw_imul (show decode cX2_move 216 = .ok (.imul, 1) by decide +kernel)) ?_
  refine Iff.trans (zw_bipush (x := 9) (show decode cX2_move 217 = .ok (.bipush 9, 2) by decide +kernel) (by decide)) ?_
  refine Iff.trans (zw_icmp_lt (t := 253) (show decode cX2_move 219 = .ok (.if_icmp .lt 34, 3) by decide +kernel) (by decide)) ?_
  refine zw_ite ?_ ?_
  · exact Iff.rfl
  · refine Iff.trans (zw_aload_n (show decode cX2_move 222 = .ok (.aload_n 0, 1) by decide +kernel) rfl) ?_
    refine Iff.trans (zw_aload_n (show decode cX2_move 223 = .ok (.aload_n 1, 1) by decide +kernel) rfl) ?_
    refine Iff.trans (zw_aload_n (show decode cX2_move 224 = .ok (.aload_n 2, 1) by decide +kernel) rfl) ?_
    refine Iff.trans (zw_getI (show decode cX2_move 225 = .ok (.getfield 162, 3) by decide +kernel) (by decide +kernel : zfld 2 162 = some (10, 0)) (hl.k2 ha2) (hl.n2 ha2) (Or.inl rfl) (w := zI σ a2 0) rfl) ?_
    refine Iff.trans (zw_if_le (t := 240) (show decode cX2_move 228 = .ok (.ifCond .le 12, 3) by decide +kernel) (by decide)) ?_
    refine zw_ite ?_ ?_
    · refine Iff.trans (zw_aload_n (show decode cX2_move 240 = .ok (.aload_n 1, 1) by decide +kernel) rfl) ?_
      refine Iff.trans (zw_getI (show decode cX2_move 241 = .ok (.getfield 165, 3) by decide +kernel) (by decide +kernel : zfld 2 165 = some (4, 3)) (hl.k2 ha1) (hl.n2 ha1) (Or.inl rfl) (w := zI σ a1 3) rfl) ?_
      refine Iff.trans (zw_iconst (x := 1) (show decode cX2_move 244 = .ok (.iconst 1, 1) by decide +kernel) (by decide)) ?_
      refine Iff.trans (zw_isub (show decode cX2_move 245 = .ok (.isub, 1) by decide +kernel)) ?_
      exact Iff.rfl
    · refine Iff.trans (zw_aload_n (show decode cX2_move 231 = .ok (.aload_n 1, 1) by decide +kernel) rfl) ?_
      refine Iff.trans (zw_getI (show decode cX2_move 232 = .ok (.getfield 165, 3) by decide +kernel) (by decide +kernel : zfld 2 165 = some (4, 3)) (hl.k2 ha1) (hl.n2 ha1) (Or.inl rfl) (w := zI σ a1 3) rfl) ?_
      refine Iff.trans (zw_iconst (x := 1) (show decode cX2_move 235 = .ok (.iconst 1, 1) by decide +kernel) (by decide)) ?_
      refine Iff.trans (zw_iadd (show decode cX2_move 236 = .ok (.iadd, 1) by decide +kernel)) ?_
      refine Iff.trans (zw_goto (t := 246) (show decode cX2_move 237 = .ok (.goto 9, 3) by decide +kernel) (by decide)) ?_
      exact Iff.rfl

theorem bX2_move_246 {d : Nat} {σ : zS} {Q : Option Value → zS → Prop} (hl : zLay σ) {a0 a1 a2 : Nat} {x3 y0 : Int32} {v4 : Value} (ha0 : zk a0 = 2) (ha1 : zk a1 = 4) (ha2 : zk a2 = 10) (hv4 : v4.category = 1) : zW (d + 1) kX2_move 246 [.ref a0, .ref a1, .ref a2, .int x3, v4] [.int y0, .ref a1, .ref a0] σ Q ↔ zCall d kX2_goAside [.ref a0, .ref a1, .int y0, .int (zI σ a2 1)] σ (fun r σ' => zisN r = true ∧ zW (d + 1) kX2_move 253 [.ref a0, .ref a1, .ref a2, .int x3, v4] (zRstk r ++ []) σ' Q) := by
  refine Iff.trans (zw_aload_n (show decode cX2_move 246 = .ok (.aload_n 2, 1) by decide +kernel) rfl) ?_
  refine Iff.trans (zw_getI (show decode cX2_move 247 = .ok (.getfield 126, 3) by decide +kernel) (by decide +kernel : zfld 2 126 = some (10, 1)) (hl.k2 ha2) (hl.n2 ha2) (Or.inl rfl) (w := zI σ a2 1) rfl) ?_
  refine Iff.trans (zw_invV (K' := kX2_goAside) (as' := [.ref a1, .int y0, .int (zI σ a2 1)]) (rest := []) (show decode cX2_move 250 = .ok (.invokevirtual 155, 3) by decide +kernel) (by rfl) rfl rfl rfl (hl.k2 ha0) (by decide) (hl.n2 ha0) ⟨Nat.le_of_ble_eq_true rfl, Nat.le_of_ble_eq_true rfl, Nat.le_of_ble_eq_true rfl⟩) ?_
  exact Iff.rfl

theorem bX2_move_253 {d : Nat} {σ : zS} {Q : Option Value → zS → Prop} (hl : zLay σ) {a0 a1 a2 : Nat} {x3 : Int32} {v4 : Value} (ha0 : zk a0 = 2) (ha1 : zk a1 = 4) (ha2 : zk a2 = 10) (hv4 : v4.category = 1) : zW (d + 1) kX2_move 253 [.ref a0, .ref a1, .ref a2, .int x3, v4] [] σ Q ↔ Q none σ := by
  exact zw_ret (show decode cX2_move 253 = .ok (.return_, 1) by decide +kernel) rfl

theorem bX2_pullOf_0 {d : Nat} {σ : zS} {Q : Option Value → zS → Prop} (hl : zLay σ) {a0 a1 : Nat} {x2 : Int32} (ha0 : zk a0 = 2) (ha1 : zk a1 = 4) : zCall (d + 1) kX2_pullOf [.ref a0, .ref a1, .int x2] σ Q ↔ zW (d + 1) kX2_pullOf 9 [.ref a0, .ref a1, .int x2, .int 0, .int 0, .retAddr 0, .retAddr 0, .retAddr 0] (va_rf ((zR σ a1) 0) :: []) σ Q := by
  show zW (d + 1) kX2_pullOf 0 [.ref a0, .ref a1, .int x2, .retAddr 0, .retAddr 0, .retAddr 0, .retAddr 0, .retAddr 0] [] σ Q ↔ _
  refine Iff.trans (zw_iconst (x := 0) (show decode cX2_pullOf 0 = .ok (.iconst 0, 1) by decide +kernel) (by decide)) ?_
  refine Iff.trans (zw_istore_n (ls' := [.ref a0, .ref a1, .int x2, .int 0, .retAddr 0, .retAddr 0, .retAddr 0, .retAddr 0]) (show decode cX2_pullOf 1 = .ok (.istore_n 3, 1) by decide +kernel) (zset_s (Nat.le_of_ble_eq_true rfl) rfl)) ?_
  refine Iff.trans (zw_iconst (x := 0) (show decode cX2_pullOf 2 = .ok (.iconst 0, 1) by decide +kernel) (by decide)) ?_
  refine Iff.trans (zw_istore (ls' := [.ref a0, .ref a1, .int x2, .int 0, .int 0, .retAddr 0, .retAddr 0, .retAddr 0]) (show decode cX2_pullOf 3 = .ok (.istore 4, 2) by decide +kernel) (zset_s (Nat.le_of_ble_eq_true rfl) rfl)) ?_
  refine Iff.trans (zw_aload_n (show decode cX2_pullOf 5 = .ok (.aload_n 1, 1) by decide +kernel) rfl) ?_
  refine Iff.trans (zw_getR (show decode cX2_pullOf 6 = .ok (.getfield 46, 3) by decide +kernel) (by decide +kernel : zfld 2 46 = some (4, 0)) (hl.k2 ha1) (hl.n2 ha1) rfl (w := (zR σ a1) 0) rfl) ?_
  exact Iff.rfl

theorem bX2_pullOf_9 {d : Nat} {σ : zS} {Q : Option Value → zS → Prop} (hl : zLay σ) {a0 a1 b0 : Nat} {x2 x3 x4 : Int32} (ha0 : zk a0 = 2) (ha1 : zk a1 = 4) (hb0 : zk b0 = 6) : zW (d + 1) kX2_pullOf 9 [.ref a0, .ref a1, .int x2, .int x3, .int x4, .retAddr 0, .retAddr 0, .retAddr 0] [.ref b0] σ Q ↔ zW (d + 1) kX2_pullOf 17 [.ref a0, .ref a1, .int x2, .int x3, .int x4, .int (zI σ b0 0), .int 0, .retAddr 0] [] σ Q := by
  refine Iff.trans (zw_getI (show decode cX2_pullOf 9 = .ok (.getfield 168, 3) by decide +kernel) (by decide +kernel : zfld 2 168 = some (6, 0)) (hl.k2 hb0) (hl.n2 hb0) (Or.inl rfl) (w := zI σ b0 0) rfl) ?_
  refine Iff.trans (zw_istore (ls' := [.ref a0, .ref a1, .int x2, .int x3, .int x4, .int (zI σ b0 0), .retAddr 0, .retAddr 0]) (show decode cX2_pullOf 12 = .ok (.istore 5, 2) by decide +kernel) (zset_s (Nat.le_of_ble_eq_true rfl) rfl)) ?_
  refine Iff.trans (zw_iconst (x := 0) (show decode cX2_pullOf 14 = .ok (.iconst 0, 1) by decide +kernel) (by decide)) ?_
  refine Iff.trans (zw_istore (ls' := [.ref a0, .ref a1, .int x2, .int x3, .int x4, .int (zI σ b0 0), .int 0, .retAddr 0]) (show decode cX2_pullOf 15 = .ok (.istore 6, 2) by decide +kernel) (zset_s (Nat.le_of_ble_eq_true rfl) rfl)) ?_
  exact Iff.rfl

theorem bX2_pullOf_17 {d : Nat} {σ : zS} {Q : Option Value → zS → Prop} (hl : zLay σ) {a0 a1 : Nat} {x2 x3 x4 x5 x6 : Int32} {v7 : Value} (ha0 : zk a0 = 2) (ha1 : zk a1 = 4) (hv7 : v7.category = 1) : zW (d + 1) kX2_pullOf 17 [.ref a0, .ref a1, .int x2, .int x3, .int x4, .int x5, .int x6, v7] [] σ Q ↔ (if x5 ≤ x6 then (if 3 ≤ x5 then (¬ x5 = (0 : Int32) ∧ zW (d + 1) kX2_pullOf 92 [.ref a0, .ref a1, .int x2, .int x3, .int x4, .int x5, .int (x4 / x5), v7] (va_rf ((zR σ a1) 0) :: []) σ Q) else zW (d + 1) kX2_pullOf 92 [.ref a0, .ref a1, .int x2, .int x3, .int x4, .int x5, .int x3, v7] (va_rf ((zR σ a1) 0) :: []) σ Q) else zW (d + 1) kX2_pullOf 28 [.ref a0, .ref a1, .int x2, .int x3, .int x4, .int x5, .int x6, v7] (va_rf ((zR σ a0) 3) :: []) σ Q) := by
  refine Iff.trans (zw_iload (show decode cX2_pullOf 17 = .ok (.iload 6, 2) by decide +kernel) rfl) ?_
  refine Iff.trans (zw_iload (show decode cX2_pullOf 19 = .ok (.iload 5, 2) by decide +kernel) rfl) ?_
  refine Iff.trans (zw_icmp_ge (t := 71) (show decode cX2_pullOf 21 = .ok (.if_icmp .ge 50, 3) by decide +kernel) (by decide)) ?_
  refine zw_ite ?_ ?_
  · refine Iff.trans (zw_iload (show decode cX2_pullOf 71 = .ok (.iload 5, 2) by decide +kernel) rfl) ?_
    refine Iff.trans (zw_iconst (x := 3) (show decode cX2_pullOf 73 = .ok (.iconst 3, 1) by decide +kernel) (by decide)) ?_
    refine Iff.trans (zw_icmp_ge (t := 81) (show decode cX2_pullOf 74 = .ok (.if_icmp .ge 7, 3) by decide +kernel) (by decide)) ?_
    refine zw_ite ?_ ?_
    · refine Iff.trans (zw_iload (show decode cX2_pullOf 81 = .ok (.iload 4, 2) by decide +kernel) rfl) ?_
      refine Iff.trans (zw_iload (show decode cX2_pullOf 83 = .ok (.iload 5, 2) by decide +kernel) rfl) ?_
      refine Iff.trans (zw_idiv (show decode cX2_pullOf 85 = .ok (.idiv, 1) by decide +kernel)) ?_
      refine zw_and ?_
      refine Iff.trans (zw_istore (ls' := [.ref a0, .ref a1, .int x2, .int x3, .int x4, .int x5, .int (x4 / x5), v7]) (show decode cX2_pullOf 86 = .ok (.istore 6, 2) by decide +kernel) (zset_s (Nat.le_of_ble_eq_true rfl) rfl)) ?_
      refine Iff.trans (zw_aload_n (show decode cX2_pullOf 88 = .ok (.aload_n 1, 1) by decide +kernel) rfl) ?_
      refine Iff.trans (zw_getR (show decode cX2_pullOf 89 = .ok (.getfield 46, 3) by decide +kernel) (by decide +kernel : zfld 2 46 = some (4, 0)) (hl.k2 ha1) (hl.n2 ha1) rfl (w := (zR σ a1) 0) rfl) ?_
      exact Iff.rfl
    · refine Iff.trans (zw_iload_n (show decode cX2_pullOf 77 = .ok (.iload_n 3, 1) by decide +kernel) rfl) ?_
      refine Iff.trans (zw_goto (t := 86) (show decode cX2_pullOf 78 = .ok (.goto 8, 3) by decide +kernel) (by decide)) ?_
      refine Iff.trans (zw_istore (ls' := [.ref a0, .ref a1, .int x2, .int x3, .int x4, .int x5, .int x3, v7]) (show decode cX2_pullOf 86 = .ok (.istore 6, 2) by decide +kernel) (zset_s (Nat.le_of_ble_eq_true rfl) rfl)) ?_
      refine Iff.trans (zw_aload_n (show decode cX2_pullOf 88 = .ok (.aload_n 1, 1) by decide +kernel) rfl) ?_
      refine Iff.trans (zw_getR (show decode cX2_pullOf 89 = .ok (.getfield 46, 3) by decide +kernel) (by decide +kernel : zfld 2 46 = some (4, 0)) (hl.k2 ha1) (hl.n2 ha1) rfl (w := (zR σ a1) 0) rfl) ?_
      exact Iff.rfl
  · refine Iff.trans (zw_aload_n (show decode cX2_pullOf 24 = .ok (.aload_n 0, 1) by decide +kernel) rfl) ?_
    refine Iff.trans (zw_getR (show decode cX2_pullOf 25 = .ok (.getfield 27, 3) by decide +kernel) (by decide +kernel : zfld 2 27 = some (2, 3)) (hl.k2 ha0) (hl.n2 ha0) rfl (w := (zR σ a0) 3) rfl) ?_
    exact Iff.rfl

theorem bX2_pullOf_28 {d : Nat} {σ : zS} {Q : Option Value → zS → Prop} (hl : zLay σ) {a0 a1 b0 : Nat} {x2 x3 x4 x5 x6 : Int32} {v7 : Value} (ha0 : zk a0 = 2) (ha1 : zk a1 = 4) (hv7 : v7.category = 1) (hb0 : zk b0 = 0) : zW (d + 1) kX2_pullOf 28 [.ref a0, .ref a1, .int x2, .int x3, .int x4, .int x5, .int x6, v7] [.ref b0] σ Q ↔ zCall d kX0_paceAt [.ref b0, .int (zI σ a1 2), .int ((zI σ a1 3) + x6), .int x2] σ (fun r σ' => zisN r = true ∧ zW (d + 1) kX2_pullOf 43 [.ref a0, .ref a1, .int x2, .int x3, .int x4, .int x5, .int x6, v7] (zRstk r ++ []) σ' Q) := by
  refine Iff.trans (zw_aload_n (show decode cX2_pullOf 28 = .ok (.aload_n 1, 1) by decide +kernel) rfl) ?_
  refine Iff.trans (zw_getI (show decode cX2_pullOf 29 = .ok (.getfield 96, 3) by decide +kernel) (by decide +kernel : zfld 2 96 = some (4, 2)) (hl.k2 ha1) (hl.n2 ha1) (Or.inl rfl) (w := zI σ a1 2) rfl) ?_
  refine Iff.trans (zw_aload_n (show decode cX2_pullOf 32 = .ok (.aload_n 1, 1) by decide +kernel) rfl) ?_
  refine Iff.trans (zw_getI (show decode cX2_pullOf 33 = .ok (.getfield 165, 3) by decide +kernel) (by decide +kernel : zfld 2 165 = some (4, 3)) (hl.k2 ha1) (hl.n2 ha1) (Or.inl rfl) (w := zI σ a1 3) rfl) ?_
  refine Iff.trans (zw_iload (show decode cX2_pullOf 36 = .ok (.iload 6, 2) by decide +kernel) rfl) ?_
  refine Iff.trans (zw_iadd (show decode cX2_pullOf 38 = .ok (.iadd, 1) by decide +kernel)) ?_
  refine Iff.trans (zw_iload_n (show decode cX2_pullOf 39 = .ok (.iload_n 2, 1) by decide +kernel) rfl) ?_
  refine Iff.trans (zw_invV (K' := kX0_paceAt) (as' := [.int (zI σ a1 2), .int ((zI σ a1 3) + x6), .int x2]) (rest := []) (show decode cX2_pullOf 40 = .ok (.invokevirtual 171, 3) by decide +kernel) (by rfl) rfl rfl rfl (hl.k2 hb0) (by decide) (hl.n2 hb0) ⟨Nat.le_of_ble_eq_true rfl, Nat.le_of_ble_eq_true rfl, Nat.le_of_ble_eq_true rfl⟩) ?_
  exact Iff.rfl

theorem bX2_pullOf_43 {d : Nat} {σ : zS} {Q : Option Value → zS → Prop} (hl : zLay σ) {a0 a1 : Nat} {x2 x3 x4 x5 x6 y0 : Int32} {v7 : Value} (ha0 : zk a0 = 2) (ha1 : zk a1 = 4) (hv7 : v7.category = 1) : zW (d + 1) kX2_pullOf 43 [.ref a0, .ref a1, .int x2, .int x3, .int x4, .int x5, .int x6, v7] [.int y0] σ Q ↔ (if y0 ≤ x3 then zW (d + 1) kX2_pullOf 57 [.ref a0, .ref a1, .int x2, .int x3, .int x4, .int x5, .int x6, .int y0] [.int x3] σ Q else zW (d + 1) kX2_pullOf 57 [.ref a0, .ref a1, .int x2, .int x3, .int x4, .int x5, .int x6, .int y0] [.int y0] σ Q) := by
  refine Iff.trans (zw_istore (ls' := [.ref a0, .ref a1, .int x2, .int x3, .int x4, .int x5, .int x6, .int y0]) (show decode cX2_pullOf 43 = .ok (.istore 7, 2) by decide +kernel) (zset_s (Nat.le_of_ble_eq_true rfl) rfl)) ?_
  refine Iff.trans (zw_iload (show decode cX2_pullOf 45 = .ok (.iload 7, 2) by decide +kernel) rfl) ?_
  refine Iff.trans (zw_iload_n (show decode cX2_pullOf 47 = .ok (.iload_n 3, 1) by decide +kernel) rfl) ?_
  refine Iff.trans (zw_icmp_le (t := 56) (show decode cX2_pullOf 48 = .ok (.if_icmp .le 8, 3) by decide +kernel) (by decide)) ?_
  refine zw_ite ?_ ?_
  · refine Iff.trans (zw_iload_n (show decode cX2_pullOf 56 = .ok (.iload_n 3, 1) by decide +kernel) rfl) ?_
    exact Iff.rfl
  · refine Iff.trans (zw_iload (show decode cX2_pullOf 51 = .ok (.iload 7, 2) by decide +kernel) rfl) ?_
    refine Iff.trans (zw_goto (t := 57) (show decode cX2_pullOf 53 = .ok (.goto 4, 3) by decide +kernel) (by decide)) ?_
    exact Iff.rfl

theorem bX2_pullOf_57 {d : Nat} {σ : zS} {Q : Option Value → zS → Prop} (hl : zLay σ) {a0 a1 : Nat} {x2 x3 x4 x5 x6 x7 y0 : Int32} (ha0 : zk a0 = 2) (ha1 : zk a1 = 4) : zW (d + 1) kX2_pullOf 57 [.ref a0, .ref a1, .int x2, .int x3, .int x4, .int x5, .int x6, .int x7] [.int y0] σ Q ↔ zW (d + 1) kX2_pullOf 17 [.ref a0, .ref a1, .int x2, .int y0, .int (x4 + x7), .int x5, .int (x6 + 1), .int x7] [] σ Q := by
  refine Iff.trans (zw_istore_n (ls' := [.ref a0, .ref a1, .int x2, .int y0, .int x4, .int x5, .int x6, .int x7]) (show decode cX2_pullOf 57 = .ok (.istore_n 3, 1) by decide +kernel) (zset_s (Nat.le_of_ble_eq_true rfl) rfl)) ?_
  refine Iff.trans (zw_iload (show decode cX2_pullOf 58 = .ok (.iload 4, 2) by decide +kernel) rfl) ?_
  refine Iff.trans (zw_iload (show decode cX2_pullOf 60 = .ok (.iload 7, 2) by decide +kernel) rfl) ?_
  refine Iff.trans (zw_iadd (show decode cX2_pullOf 62 = .ok (.iadd, 1) by decide +kernel)) ?_
  refine Iff.trans (zw_istore (ls' := [.ref a0, .ref a1, .int x2, .int y0, .int (x4 + x7), .int x5, .int x6, .int x7]) (show decode cX2_pullOf 63 = .ok (.istore 4, 2) by decide +kernel) (zset_s (Nat.le_of_ble_eq_true rfl) rfl)) ?_
  refine Iff.trans (zw_iinc (w := 1) (ls' := [.ref a0, .ref a1, .int x2, .int y0, .int (x4 + x7), .int x5, .int (x6 + 1), .int x7]) (show decode cX2_pullOf 65 = .ok (.iinc 6 1, 3) by decide +kernel) rfl (by decide) (zset_s (Nat.le_of_ble_eq_true rfl) rfl)) ?_
  refine Iff.trans (zw_goto (t := 17) (show decode cX2_pullOf 68 = .ok (.goto (-51), 3) by decide +kernel) (by decide)) ?_
  exact Iff.rfl

theorem bX2_pullOf_92 {d : Nat} {σ : zS} {Q : Option Value → zS → Prop} (hl : zLay σ) {a0 a1 b0 : Nat} {x2 x3 x4 x5 x6 : Int32} {v7 : Value} (ha0 : zk a0 = 2) (ha1 : zk a1 = 4) (hv7 : v7.category = 1) (hb0 : zk b0 = 6) : zW (d + 1) kX2_pullOf 92 [.ref a0, .ref a1, .int x2, .int x3, .int x4, .int x5, .int x6, v7] [.ref b0] σ Q ↔ (if (zI σ b0 1) ≤ 5 then zW (d + 1) kX2_pullOf 115 [.ref a0, .ref a1, .int x2, .int x3, .int x4, .int x5, .int x6, v7] [] σ Q else zW (d + 1) kX2_pullOf 105 [.ref a0, .ref a1, .int x2, .int x3, .int x4, .int x5, .int x6, v7] (va_rf ((zR σ a1) 0) :: [.int x6]) σ Q) := by
  refine Iff.trans (zw_getI (show decode cX2_pullOf 92 = .ok (.getfield 175, 3) by decide +kernel) (by decide +kernel : zfld 2 175 = some (6, 1)) (hl.k2 hb0) (hl.n2 hb0) (Or.inl rfl) (w := zI σ b0 1) rfl) ?_
  refine Iff.trans (zw_iconst (x := 5) (show decode cX2_pullOf 95 = .ok (.iconst 5, 1) by decide +kernel) (by decide)) ?_
  refine Iff.trans (zw_icmp_le (t := 115) (show decode cX2_pullOf 96 = .ok (.if_icmp .le 19, 3) by decide +kernel) (by decide)) ?_
  refine zw_ite ?_ ?_
  · exact Iff.rfl
  · refine Iff.trans (zw_iload (show decode cX2_pullOf 99 = .ok (.iload 6, 2) by decide +kernel) rfl) ?_
    refine Iff.trans (zw_aload_n (show decode cX2_pullOf 101 = .ok (.aload_n 1, 1) by decide +kernel) rfl) ?_
    refine Iff.trans (zw_getR (show decode cX2_pullOf 102 = .ok (.getfield 46, 3) by decide +kernel) (by decide +kernel : zfld 2 46 = some (4, 0)) (hl.k2 ha1) (hl.n2 ha1) rfl (w := (zR σ a1) 0) rfl) ?_
    exact Iff.rfl

theorem bX2_pullOf_105 {d : Nat} {σ : zS} {Q : Option Value → zS → Prop} (hl : zLay σ) {a0 a1 b0 : Nat} {x2 x3 x4 x5 x6 y1 : Int32} {v7 : Value} (ha0 : zk a0 = 2) (ha1 : zk a1 = 4) (hv7 : v7.category = 1) (hb0 : zk b0 = 6) : zW (d + 1) kX2_pullOf 105 [.ref a0, .ref a1, .int x2, .int x3, .int x4, .int x5, .int x6, v7] [.ref b0, .int y1] σ Q ↔ (¬ 2 = (0 : Int32) ∧ zW (d + 1) kX2_pullOf 115 [.ref a0, .ref a1, .int x2, .int x3, .int x4, .int x5, .int (y1 - (((zI σ b0 1) - 5) / 2)), v7] [] σ Q) := by
  refine Iff.trans (zw_getI (show decode cX2_pullOf 105 = .ok (.getfield 175, 3) by decide +kernel) (by decide +kernel : zfld 2 175 = some (6, 1)) (hl.k2 hb0) (hl.n2 hb0) (Or.inl rfl) (w := zI σ b0 1) rfl) ?_
  refine Iff.trans (zw_iconst (x := 5) (show decode cX2_pullOf 108 = .ok (.iconst 5, 1) by decide +kernel) (by decide)) ?_
  refine Iff.trans (zw_isub (show decode cX2_pullOf 109 = .ok (.isub, 1) by decide +kernel)) ?_
  refine Iff.trans (zw_iconst (x := 2) (show decode cX2_pullOf 110 = .ok (.iconst 2, 1) by decide +kernel) (by decide)) ?_
  refine Iff.trans (zw_idiv (show decode cX2_pullOf 111 = .ok (.idiv, 1) by decide +kernel)) ?_
  refine zw_and ?_
  refine Iff.trans (zw_isub (show decode cX2_pullOf 112 = .ok (.isub, 1) by decide +kernel)) ?_
  refine Iff.trans (zw_istore (ls' := [.ref a0, .ref a1, .int x2, .int x3, .int x4, .int x5, .int (y1 - (((zI σ b0 1) - 5) / 2)), v7]) (show decode cX2_pullOf 113 = .ok (.istore 6, 2) by decide +kernel) (zset_s (Nat.le_of_ble_eq_true rfl) rfl)) ?_
  exact Iff.rfl

theorem bX2_pullOf_115 {d : Nat} {σ : zS} {Q : Option Value → zS → Prop} (hl : zLay σ) {a0 a1 : Nat} {x2 x3 x4 x5 x6 : Int32} {v7 : Value} (ha0 : zk a0 = 2) (ha1 : zk a1 = 4) (hv7 : v7.category = 1) : zW (d + 1) kX2_pullOf 115 [.ref a0, .ref a1, .int x2, .int x3, .int x4, .int x5, .int x6, v7] [] σ Q ↔ (if (0 : Int32) ≤ x6 then Q (some (.int x6)) σ else Q (some (.int 0)) σ) := by
  refine Iff.trans (zw_iload (show decode cX2_pullOf 115 = .ok (.iload 6, 2) by decide +kernel) rfl) ?_
  refine Iff.trans (zw_if_ge (t := 124) (show decode cX2_pullOf 117 = .ok (.ifCond .ge 7, 3) by decide +kernel) (by decide)) ?_
  refine zw_ite ?_ ?_
  · refine Iff.trans (zw_iload (show decode cX2_pullOf 124 = .ok (.iload 6, 2) by decide +kernel) rfl) ?_
    exact zw_iret1 (show decode cX2_pullOf 126 = .ok (.ireturn, 1) by decide +kernel) rfl
  · refine Iff.trans (zw_iconst (x := 0) (show decode cX2_pullOf 120 = .ok (.iconst 0, 1) by decide +kernel) (by decide)) ?_
    refine Iff.trans (zw_goto (t := 126) (show decode cX2_pullOf 121 = .ok (.goto 5, 3) by decide +kernel) (by decide)) ?_
    exact zw_iret1 (show decode cX2_pullOf 126 = .ok (.ireturn, 1) by decide +kernel) rfl

theorem bX2_onWave_0 {d : Nat} {σ : zS} {Q : Option Value → zS → Prop} (hl : zLay σ) {a0 a1 : Nat} (ha0 : zk a0 = 2) (ha1 : zk a1 = 4) : zCall (d + 1) kX2_onWave [.ref a0, .ref a1] σ Q ↔ zW (d + 1) kX2_onWave 2 [.ref a0, .ref a1, .int 0, .retAddr 0, .retAddr 0] [] σ Q := by
  show zW (d + 1) kX2_onWave 0 [.ref a0, .ref a1, .retAddr 0, .retAddr 0, .retAddr 0] [] σ Q ↔ _
  refine Iff.trans (zw_iconst (x := 0) (show decode cX2_onWave 0 = .ok (.iconst 0, 1) by decide +kernel) (by decide)) ?_
  refine Iff.trans (zw_istore_n (ls' := [.ref a0, .ref a1, .int 0, .retAddr 0, .retAddr 0]) (show decode cX2_onWave 1 = .ok (.istore_n 2, 1) by decide +kernel) (zset_s (Nat.le_of_ble_eq_true rfl) rfl)) ?_
  exact Iff.rfl

theorem bX2_onWave_2 {d : Nat} {σ : zS} {Q : Option Value → zS → Prop} (hl : zLay σ) {a0 a1 : Nat} {x2 : Int32} {v3 v4 : Value} (ha0 : zk a0 = 2) (ha1 : zk a1 = 4) (hv3 : v3.category = 1) (hv4 : v4.category = 1) : zW (d + 1) kX2_onWave 2 [.ref a0, .ref a1, .int x2, v3, v4] [] σ Q ↔ (if (zI σ a0 4) ≤ x2 then Q (some (.int 0)) σ else (if 6 ≤ x2 then Q (some (.int 0)) σ else (vp_in x2 6 ∧ zW (d + 1) kX2_onWave 22 [.ref a0, .ref a1, .int x2, v3, v4] (va_rf (zR σ (a0 + 1) (x2 : Int32).toNatClampNeg) :: []) σ Q))) := by
  refine Iff.trans (zw_iload_n (show decode cX2_onWave 2 = .ok (.iload_n 2, 1) by decide +kernel) rfl) ?_
  refine Iff.trans (zw_aload_n (show decode cX2_onWave 3 = .ok (.aload_n 0, 1) by decide +kernel) rfl) ?_
  refine Iff.trans (zw_getI (show decode cX2_onWave 4 = .ok (.getfield 32, 3) by decide +kernel) (by decide +kernel : zfld 2 32 = some (2, 4)) (hl.k2 ha0) (hl.n2 ha0) (Or.inl rfl) (w := zI σ a0 4) rfl) ?_
  refine Iff.trans (zw_icmp_ge (t := 73) (show decode cX2_onWave 7 = .ok (.if_icmp .ge 66, 3) by decide +kernel) (by decide)) ?_
  refine zw_ite ?_ ?_
  · refine Iff.trans (zw_iconst (x := 0) (show decode cX2_onWave 73 = .ok (.iconst 0, 1) by decide +kernel) (by decide)) ?_
    exact zw_iret2c (show decode cX2_onWave 74 = .ok (.ireturn, 1) by decide +kernel) rfl (Or.inl rfl)
  · refine Iff.trans (zw_iload_n (show decode cX2_onWave 10 = .ok (.iload_n 2, 1) by decide +kernel) rfl) ?_
    refine Iff.trans (zw_bipush (x := 6) (show decode cX2_onWave 11 = .ok (.bipush 6, 2) by decide +kernel) (by decide)) ?_
    refine Iff.trans (zw_icmp_ge (t := 73) (show decode cX2_onWave 13 = .ok (.if_icmp .ge 60, 3) by decide +kernel) (by decide)) ?_
    refine zw_ite ?_ ?_
    · refine Iff.trans (zw_iconst (x := 0) (show decode cX2_onWave 73 = .ok (.iconst 0, 1) by decide +kernel) (by decide)) ?_
      exact zw_iret2c (show decode cX2_onWave 74 = .ok (.ireturn, 1) by decide +kernel) rfl (Or.inl rfl)
    · refine Iff.trans (zw_aload_n (show decode cX2_onWave 16 = .ok (.aload_n 0, 1) by decide +kernel) rfl) ?_
      refine Iff.trans (zw_get (show decode cX2_onWave 17 = .ok (.getfield 11, 3) by decide +kernel) (by decide +kernel : zfld 2 11 = some (2, 0)) (hl.k2 ha0) (hl.n2 ha0) (zgetR (v := a0 + 1) (hl.r (zrt2_0 ha0)) rfl)) ?_
      refine Iff.trans (zw_iload_n (show decode cX2_onWave 20 = .ok (.iload_n 2, 1) by decide +kernel) rfl) ?_
      refine Iff.trans (zw_aald (show decode cX2_onWave 21 = .ok (.aaload, 1) by decide +kernel) (by rw [(hl.k2 (zf_race ha0).1.1)]; decide) (hl.n2 (zf_race ha0).1.1) (hl.l2 (zf_race ha0).1.1 (zf_race ha0).1.2)) ?_
      refine zw_and ?_
      exact Iff.rfl

theorem bX2_onWave_22 {d : Nat} {σ : zS} {Q : Option Value → zS → Prop} (hl : zLay σ) {a0 a1 b0 : Nat} {x2 : Int32} {v3 v4 : Value} (ha0 : zk a0 = 2) (ha1 : zk a1 = 4) (hv3 : v3.category = 1) (hv4 : v4.category = 1) (hb0 : zk b0 = 4) : zW (d + 1) kX2_onWave 22 [.ref a0, .ref a1, .int x2, v3, v4] [.ref b0] σ Q ↔ zCall d kX4_isOut [.ref b0] σ (fun r σ' => zisN r = true ∧ zW (d + 1) kX2_onWave 38 [.ref a0, .ref a1, .int x2, .ref b0, .int ((zI σ b0 2) - (zI σ a1 2))] (zRstk r ++ []) σ' Q) := by
  refine Iff.trans (zw_astore_n (ls' := [.ref a0, .ref a1, .int x2, .ref b0, v4]) (show decode cX2_onWave 22 = .ok (.astore_n 3, 1) by decide +kernel) (zset_s (Nat.le_of_ble_eq_true rfl) rfl)) ?_
  refine Iff.trans (zw_aload_n (show decode cX2_onWave 23 = .ok (.aload_n 3, 1) by decide +kernel) rfl) ?_
  refine Iff.trans (zw_getI (show decode cX2_onWave 24 = .ok (.getfield 96, 3) by decide +kernel) (by decide +kernel : zfld 2 96 = some (4, 2)) (hl.k2 hb0) (hl.n2 hb0) (Or.inl rfl) (w := zI σ b0 2) rfl) ?_
  refine Iff.trans (zw_aload_n (show decode cX2_onWave 27 = .ok (.aload_n 1, 1) by decide +kernel) rfl) ?_
  refine Iff.trans (zw_getI (show decode cX2_onWave 28 = .ok (.getfield 96, 3) by decide +kernel) (by decide +kernel : zfld 2 96 = some (4, 2)) (hl.k2 ha1) (hl.n2 ha1) (Or.inl rfl) (w := zI σ a1 2) rfl) ?_
  refine Iff.trans (zw_isub (show decode cX2_onWave 31 = .ok (.isub, 1) by decide +kernel)) ?_
  refine Iff.trans (zw_istore (ls' := [.ref a0, .ref a1, .int x2, .ref b0, .int ((zI σ b0 2) - (zI σ a1 2))]) (show decode cX2_onWave 32 = .ok (.istore 4, 2) by decide +kernel) (zset_s (Nat.le_of_ble_eq_true rfl) rfl)) ?_
  refine Iff.trans (zw_aload_n (show decode cX2_onWave 34 = .ok (.aload_n 3, 1) by decide +kernel) rfl) ?_
  refine Iff.trans (zw_invV (K' := kX4_isOut) (as' := []) (rest := []) (show decode cX2_onWave 35 = .ok (.invokevirtual 86, 3) by decide +kernel) (by rfl) rfl rfl rfl (hl.k2 hb0) (by decide) (hl.n2 hb0) ⟨Nat.le_of_ble_eq_true rfl, Nat.le_of_ble_eq_true rfl, Nat.le_of_ble_eq_true rfl⟩) ?_
  exact Iff.rfl

theorem bX2_onWave_38 {d : Nat} {σ : zS} {Q : Option Value → zS → Prop} (hl : zLay σ) {a0 a1 a3 : Nat} {x2 x4 y0 : Int32} (ha0 : zk a0 = 2) (ha1 : zk a1 = 4) (ha3 : zk a3 = 4) : zW (d + 1) kX2_onWave 38 [.ref a0, .ref a1, .int x2, .ref a3, .int x4] [.int y0] σ Q ↔ (if y0 = (0 : Int32) then (if x4 = 1 then zW (d + 1) kX2_onWave 53 [.ref a0, .ref a1, .int x2, .ref a3, .int x4] [] σ Q else (if x4 = 2 then zW (d + 1) kX2_onWave 53 [.ref a0, .ref a1, .int x2, .ref a3, .int x4] [] σ Q else zW (d + 1) kX2_onWave 2 [.ref a0, .ref a1, .int (x2 + 1), .ref a3, .int x4] [] σ Q)) else zW (d + 1) kX2_onWave 2 [.ref a0, .ref a1, .int (x2 + 1), .ref a3, .int x4] [] σ Q) := by
  refine Iff.trans (zw_if_ne (t := 67) (show decode cX2_onWave 38 = .ok (.ifCond .ne 29, 3) by decide +kernel) (by decide)) ?_
  refine zw_ite ?_ ?_
  · refine Iff.trans (zw_iload (show decode cX2_onWave 41 = .ok (.iload 4, 2) by decide +kernel) rfl) ?_
    refine Iff.trans (zw_iconst (x := 1) (show decode cX2_onWave 43 = .ok (.iconst 1, 1) by decide +kernel) (by decide)) ?_
    refine Iff.trans (zw_icmp_eq (t := 53) (show decode cX2_onWave 44 = .ok (.if_icmp .eq 9, 3) by decide +kernel) (by decide)) ?_
    refine zw_ite ?_ ?_
    · exact Iff.rfl
    · refine Iff.trans (zw_iload (show decode cX2_onWave 47 = .ok (.iload 4, 2) by decide +kernel) rfl) ?_
      refine Iff.trans (zw_iconst (x := 2) (show decode cX2_onWave 49 = .ok (.iconst 2, 1) by decide +kernel) (by decide)) ?_
      refine Iff.trans (zw_icmp_ne (t := 67) (show decode cX2_onWave 50 = .ok (.if_icmp .ne 17, 3) by decide +kernel) (by decide)) ?_
      refine zw_ite ?_ ?_
      · exact Iff.rfl
      · refine Iff.trans (zw_iinc (w := 1) (ls' := [.ref a0, .ref a1, .int (x2 + 1), .ref a3, .int x4]) (show decode cX2_onWave 67 = .ok (.iinc 2 1, 3) by decide +kernel) rfl (by decide) (zset_s (Nat.le_of_ble_eq_true rfl) rfl)) ?_
        refine Iff.trans (zw_goto (t := 2) (show decode cX2_onWave 70 = .ok (.goto (-68), 3) by decide +kernel) (by decide)) ?_
        exact Iff.rfl
  · refine Iff.trans (zw_iinc (w := 1) (ls' := [.ref a0, .ref a1, .int (x2 + 1), .ref a3, .int x4]) (show decode cX2_onWave 67 = .ok (.iinc 2 1, 3) by decide +kernel) rfl (by decide) (zset_s (Nat.le_of_ble_eq_true rfl) rfl)) ?_
    refine Iff.trans (zw_goto (t := 2) (show decode cX2_onWave 70 = .ok (.goto (-68), 3) by decide +kernel) (by decide)) ?_
    exact Iff.rfl

theorem bX2_onWave_53 {d : Nat} {σ : zS} {Q : Option Value → zS → Prop} (hl : zLay σ) {a0 a1 a3 : Nat} {x2 x4 : Int32} (ha0 : zk a0 = 2) (ha1 : zk a1 = 4) (ha3 : zk a3 = 4) : zW (d + 1) kX2_onWave 53 [.ref a0, .ref a1, .int x2, .ref a3, .int x4] [] σ Q ↔ zCall d kX4_lanes [.ref a3] σ (fun r σ' => zisN r = true ∧ zW (d + 1) kX2_onWave 57 [.ref a0, .ref a1, .int x2, .ref a3, .int x4] (zRstk r ++ []) σ' Q) := by
  refine Iff.trans (zw_aload_n (show decode cX2_onWave 53 = .ok (.aload_n 3, 1) by decide +kernel) rfl) ?_
  refine Iff.trans (zw_invV (K' := kX4_lanes) (as' := []) (rest := []) (show decode cX2_onWave 54 = .ok (.invokevirtual 108, 3) by decide +kernel) (by rfl) rfl rfl rfl (hl.k2 ha3) (by decide) (hl.n2 ha3) ⟨Nat.le_of_ble_eq_true rfl, Nat.le_of_ble_eq_true rfl, Nat.le_of_ble_eq_true rfl⟩) ?_
  exact Iff.rfl

theorem bX2_onWave_57 {d : Nat} {σ : zS} {Q : Option Value → zS → Prop} (hl : zLay σ) {a0 a1 a3 : Nat} {x2 x4 y0 : Int32} (ha0 : zk a0 = 2) (ha1 : zk a1 = 4) (ha3 : zk a3 = 4) : zW (d + 1) kX2_onWave 57 [.ref a0, .ref a1, .int x2, .ref a3, .int x4] [.int y0] σ Q ↔ zCall d kX4_lanes [.ref a1] σ (fun r σ' => zisN r = true ∧ zW (d + 1) kX2_onWave 61 [.ref a0, .ref a1, .int x2, .ref a3, .int x4] (zRstk r ++ [.int y0]) σ' Q) := by
  refine Iff.trans (zw_aload_n (show decode cX2_onWave 57 = .ok (.aload_n 1, 1) by decide +kernel) rfl) ?_
  refine Iff.trans (zw_invV (K' := kX4_lanes) (as' := []) (rest := [.int y0]) (show decode cX2_onWave 58 = .ok (.invokevirtual 108, 3) by decide +kernel) (by rfl) rfl rfl rfl (hl.k2 ha1) (by decide) (hl.n2 ha1) ⟨Nat.le_of_ble_eq_true rfl, Nat.le_of_ble_eq_true rfl, Nat.le_of_ble_eq_true rfl⟩) ?_
  exact Iff.rfl

theorem bX2_onWave_61 {d : Nat} {σ : zS} {Q : Option Value → zS → Prop} (hl : zLay σ) {a0 a1 a3 : Nat} {x2 x4 y0 y1 : Int32} (ha0 : zk a0 = 2) (ha1 : zk a1 = 4) (ha3 : zk a3 = 4) : zW (d + 1) kX2_onWave 61 [.ref a0, .ref a1, .int x2, .ref a3, .int x4] [.int y0, .int y1] σ Q ↔ (if (y1 &&& y0) = (0 : Int32) then zW (d + 1) kX2_onWave 2 [.ref a0, .ref a1, .int (x2 + 1), .ref a3, .int x4] [] σ Q else Q (some (.int 1)) σ) := by
  refine Iff.trans (zw_iand (show decode cX2_onWave 61 = .ok (.iand, 1) by decide +kernel)) ?_
  refine Iff.trans (zw_if_eq (t := 67) (show decode cX2_onWave 62 = .ok (.ifCond .eq 5, 3) by decide +kernel) (by decide)) ?_
  refine zw_ite ?_ ?_
  · refine Iff.trans (zw_iinc (w := 1) (ls' := [.ref a0, .ref a1, .int (x2 + 1), .ref a3, .int x4]) (show decode cX2_onWave 67 = .ok (.iinc 2 1, 3) by decide +kernel) rfl (by decide) (zset_s (Nat.le_of_ble_eq_true rfl) rfl)) ?_
    refine Iff.trans (zw_goto (t := 2) (show decode cX2_onWave 70 = .ok (.goto (-68), 3) by decide +kernel) (by decide)) ?_
    exact Iff.rfl
  · refine Iff.trans (zw_iconst (x := 1) (show decode cX2_onWave 65 = .ok (.iconst 1, 1) by decide +kernel) (by decide)) ?_
    exact zw_iret2c (show decode cX2_onWave 66 = .ok (.ireturn, 1) by decide +kernel) rfl (Or.inr rfl)

theorem bX2_leave_0 {d : Nat} {σ : zS} {Q : Option Value → zS → Prop} (hl : zLay σ) {a0 a1 : Nat} (ha0 : zk a0 = 2) (ha1 : zk a1 = 4) : zCall d kX2_leave [.ref a0, .ref a1] σ Q ↔ zW d kX2_leave 5 [.ref a0, .ref a1] (va_rf ((zR σ a0) 3) :: [.ref a1]) σ Q := by
  show zW d kX2_leave 0 [.ref a0, .ref a1] [] σ Q ↔ _
  refine Iff.trans (zw_aload_n (show decode cX2_leave 0 = .ok (.aload_n 1, 1) by decide +kernel) rfl) ?_
  refine Iff.trans (zw_aload_n (show decode cX2_leave 1 = .ok (.aload_n 0, 1) by decide +kernel) rfl) ?_
  refine Iff.trans (zw_getR (show decode cX2_leave 2 = .ok (.getfield 27, 3) by decide +kernel) (by decide +kernel : zfld 2 27 = some (2, 3)) (hl.k2 ha0) (hl.n2 ha0) rfl (w := (zR σ a0) 3) rfl) ?_
  exact Iff.rfl

theorem bX2_leave_5 {d : Nat} {σ : zS} {Q : Option Value → zS → Prop} (hl : zLay σ) {a0 a1 b0 : Nat} (ha0 : zk a0 = 2) (ha1 : zk a1 = 4) (hb0 : zk b0 = 0) : zW d kX2_leave 5 [.ref a0, .ref a1] [.ref b0, .ref a1] σ Q ↔ Q none (zsI (zsI σ a1 (upd (upd (upd (zI σ a1) 2 (zI σ b0 4)) 5 (zI σ a0 5)) 6 (zI σ a0 6))) a0 (upd (zI σ a0) 6 ((zI σ a0 6) + 1))) := by
  refine Iff.trans (zw_getI (show decode cX2_leave 5 = .ok (.getfield 137, 3) by decide +kernel) (by decide +kernel : zfld 2 137 = some (0, 4)) (hl.k2 hb0) (hl.n2 hb0) (Or.inl rfl) (w := zI σ b0 4) rfl) ?_
  refine Iff.trans (zw_putI (show decode cX2_leave 8 = .ok (.putfield 96, 3) by decide +kernel) (by decide +kernel : zfld 2 96 = some (4, 2)) (hl.k2 ha1) (hl.n2 ha1) rfl (Or.inl rfl) (σ' := (zsI σ a1 (upd (zI σ a1) 2 (zI σ b0 4)))) rfl) ?_
  refine Iff.trans (zw_aload_n (show decode cX2_leave 11 = .ok (.aload_n 1, 1) by decide +kernel) rfl) ?_
  refine Iff.trans (zw_aload_n (show decode cX2_leave 12 = .ok (.aload_n 0, 1) by decide +kernel) rfl) ?_
  refine Iff.trans (zw_getI (show decode cX2_leave 13 = .ok (.getfield 36, 3) by decide +kernel) (by decide +kernel : zfld 2 36 = some (2, 5)) (hl.I.k2 ha0) (hl.I.n2 ha0) (Or.inl rfl) (w := zI σ a0 5) (congrFun (zI_ne (zk_ne ha0 ha1 (by decide))) 5)) ?_
  refine Iff.trans (zw_putI (show decode cX2_leave 16 = .ok (.putfield 178, 3) by decide +kernel) (by decide +kernel : zfld 2 178 = some (4, 5)) (hl.I.k2 ha1) (hl.I.n2 ha1) rfl (Or.inl rfl) (σ' := (zsI σ a1 (upd (upd (zI σ a1) 2 (zI σ b0 4)) 5 (zI σ a0 5)))) (Eq.trans (congrArg (fun f => zsI (zsI σ a1 (upd (zI σ a1) 2 (zI σ b0 4))) a1 (upd f 5 (zI σ a0 5))) zI_self) zsI_s)) ?_
  refine Iff.trans (zw_aload_n (show decode cX2_leave 19 = .ok (.aload_n 1, 1) by decide +kernel) rfl) ?_
  refine Iff.trans (zw_aload_n (show decode cX2_leave 20 = .ok (.aload_n 0, 1) by decide +kernel) rfl) ?_
  refine Iff.trans (zw_getI (show decode cX2_leave 21 = .ok (.getfield 39, 3) by decide +kernel) (by decide +kernel : zfld 2 39 = some (2, 6)) (hl.I.k2 ha0) (hl.I.n2 ha0) (Or.inl rfl) (w := zI σ a0 6) (congrFun (zI_ne (zk_ne ha0 ha1 (by decide))) 6)) ?_
  refine Iff.trans (zw_putI (show decode cX2_leave 24 = .ok (.putfield 181, 3) by decide +kernel) (by decide +kernel : zfld 2 181 = some (4, 6)) (hl.I.k2 ha1) (hl.I.n2 ha1) rfl (Or.inl rfl) (σ' := (zsI σ a1 (upd (upd (upd (zI σ a1) 2 (zI σ b0 4)) 5 (zI σ a0 5)) 6 (zI σ a0 6)))) (Eq.trans (congrArg (fun f => zsI (zsI σ a1 (upd (upd (zI σ a1) 2 (zI σ b0 4)) 5 (zI σ a0 5))) a1 (upd f 6 (zI σ a0 6))) zI_self) zsI_s)) ?_
  refine Iff.trans (zw_aload_n (show decode cX2_leave 27 = .ok (.aload_n 0, 1) by decide +kernel) rfl) ?_
  refine Iff.trans (zw_dup (show decode cX2_leave 28 = .ok (.dup, 1) by decide +kernel) rfl) ?_
  refine Iff.trans (zw_getI (show decode cX2_leave 29 = .ok (.getfield 39, 3) by decide +kernel) (by decide +kernel : zfld 2 39 = some (2, 6)) (hl.I.k2 ha0) (hl.I.n2 ha0) (Or.inl rfl) (w := zI σ a0 6) (congrFun (zI_ne (zk_ne ha0 ha1 (by decide))) 6)) ?_
  refine Iff.trans (zw_iconst (x := 1) (show decode cX2_leave 32 = .ok (.iconst 1, 1) by decide +kernel) (by decide)) ?_
  refine Iff.trans (zw_iadd (show decode cX2_leave 33 = .ok (.iadd, 1) by decide +kernel)) ?_
  refine Iff.trans (zw_putI (show decode cX2_leave 34 = .ok (.putfield 39, 3) by decide +kernel) (by decide +kernel : zfld 2 39 = some (2, 6)) (hl.I.k2 ha0) (hl.I.n2 ha0) rfl (Or.inl rfl) (σ' := (zsI (zsI σ a1 (upd (upd (upd (zI σ a1) 2 (zI σ b0 4)) 5 (zI σ a0 5)) 6 (zI σ a0 6))) a0 (upd (zI σ a0) 6 ((zI σ a0 6) + 1)))) (congrArg (fun f => zsI (zsI σ a1 (upd (upd (upd (zI σ a1) 2 (zI σ b0 4)) 5 (zI σ a0 5)) 6 (zI σ a0 6))) a0 (upd f 6 ((zI σ a0 6) + 1))) (zI_ne (zk_ne ha0 ha1 (by decide))))) ?_
  exact zw_ret (show decode cX2_leave 37 = .ok (.return_, 1) by decide +kernel) rfl

theorem bX2_strike_0 {d : Nat} {σ : zS} {Q : Option Value → zS → Prop} (hl : zLay σ) {a0 a1 : Nat} (ha0 : zk a0 = 2) (ha1 : zk a1 = 4) : zCall d kX2_strike [.ref a0, .ref a1] σ Q ↔ (if (zI σ a1 2) < (0 : Int32) then Q none (zsI σ a1 (upd (upd (zI σ a1) 4 0) 8 ((zI σ a1 8) + 1))) else (if (16 : Int32) ≤ (zI σ a1 2) then Q none (zsI σ a1 (upd (upd (zI σ a1) 4 0) 8 ((zI σ a1 8) + 1))) else (vp_in (zI σ a1 2) 16 ∧ (vp_in (zI σ a1 2) 16 ∧ Q none (zsI (zsI σ a1 (upd (upd (zI σ a1) 4 0) 8 ((zI σ a1 8) + 1))) (a0 + 3) (upd (zI σ (a0 + 3)) (zI σ a1 2 : Int32).toNatClampNeg ((zI σ (a0 + 3) (zI σ a1 2 : Int32).toNatClampNeg) + 1))))))) := by
  show zW d kX2_strike 0 [.ref a0, .ref a1] [] σ Q ↔ _
  refine Iff.trans (zw_aload_n (show decode cX2_strike 0 = .ok (.aload_n 1, 1) by decide +kernel) rfl) ?_
  refine Iff.trans (zw_iconst (x := 0) (show decode cX2_strike 1 = .ok (.iconst 0, 1) by decide +kernel) (by decide)) ?_
  refine Iff.trans (zw_putI (show decode cX2_strike 2 = .ok (.putfield 120, 3) by decide +kernel) (by decide +kernel : zfld 2 120 = some (4, 4)) (hl.k2 ha1) (hl.n2 ha1) rfl (Or.inl rfl) (σ' := (zsI σ a1 (upd (zI σ a1) 4 0))) rfl) ?_
  refine Iff.trans (zw_aload_n (show decode cX2_strike 5 = .ok (.aload_n 1, 1) by decide +kernel) rfl) ?_
  refine Iff.trans (zw_dup (show decode cX2_strike 6 = .ok (.dup, 1) by decide +kernel) rfl) ?_
  refine Iff.trans (zw_getI (show decode cX2_strike 7 = .ok (.getfield 184, 3) by decide +kernel) (by decide +kernel : zfld 2 184 = some (4, 8)) (hl.I.k2 ha1) (hl.I.n2 ha1) (Or.inl rfl) (w := zI σ a1 8) (congrFun zI_self 8)) ?_
  refine Iff.trans (zw_iconst (x := 1) (show decode cX2_strike 10 = .ok (.iconst 1, 1) by decide +kernel) (by decide)) ?_
  refine Iff.trans (zw_iadd (show decode cX2_strike 11 = .ok (.iadd, 1) by decide +kernel)) ?_
  refine Iff.trans (zw_putI (show decode cX2_strike 12 = .ok (.putfield 184, 3) by decide +kernel) (by decide +kernel : zfld 2 184 = some (4, 8)) (hl.I.k2 ha1) (hl.I.n2 ha1) rfl (Or.inl rfl) (σ' := (zsI σ a1 (upd (upd (zI σ a1) 4 0) 8 ((zI σ a1 8) + 1)))) (Eq.trans (congrArg (fun f => zsI (zsI σ a1 (upd (zI σ a1) 4 0)) a1 (upd f 8 ((zI σ a1 8) + 1))) zI_self) zsI_s)) ?_
  refine Iff.trans (zw_aload_n (show decode cX2_strike 15 = .ok (.aload_n 1, 1) by decide +kernel) rfl) ?_
  refine Iff.trans (zw_getI (show decode cX2_strike 16 = .ok (.getfield 96, 3) by decide +kernel) (by decide +kernel : zfld 2 96 = some (4, 2)) (hl.I.k2 ha1) (hl.I.n2 ha1) (Or.inl rfl) (w := zI σ a1 2) (congrFun zI_self 2)) ?_
  refine Iff.trans (zw_if_lt (t := 44) (show decode cX2_strike 19 = .ok (.ifCond .lt 25, 3) by decide +kernel) (by decide)) ?_
  refine zw_ite ?_ ?_
  · exact zw_ret (show decode cX2_strike 44 = .ok (.return_, 1) by decide +kernel) rfl
  · refine Iff.trans (zw_aload_n (show decode cX2_strike 22 = .ok (.aload_n 1, 1) by decide +kernel) rfl) ?_
    refine Iff.trans (zw_getI (show decode cX2_strike 23 = .ok (.getfield 96, 3) by decide +kernel) (by decide +kernel : zfld 2 96 = some (4, 2)) (hl.I.k2 ha1) (hl.I.n2 ha1) (Or.inl rfl) (w := zI σ a1 2) (congrFun zI_self 2)) ?_
    refine Iff.trans (zw_bipush (x := 16) (show decode cX2_strike 26 = .ok (.bipush 16, 2) by decide +kernel) (by decide)) ?_
    refine Iff.trans (zw_icmp_ge (t := 44) (show decode cX2_strike 28 = .ok (.if_icmp .ge 16, 3) by decide +kernel) (by decide)) ?_
    refine zw_ite ?_ ?_
    · exact zw_ret (show decode cX2_strike 44 = .ok (.return_, 1) by decide +kernel) rfl
    · refine Iff.trans (zw_aload_n (show decode cX2_strike 31 = .ok (.aload_n 0, 1) by decide +kernel) rfl) ?_
      refine Iff.trans (zw_get (show decode cX2_strike 32 = .ok (.getfield 21, 3) by decide +kernel) (by decide +kernel : zfld 2 21 = some (2, 2)) (hl.I.k2 ha0) (hl.I.n2 ha0) (zgetR (v := a0 + 3) (hl.I.r (zrt2_2 ha0)) rfl)) ?_
      refine Iff.trans (zw_aload_n (show decode cX2_strike 35 = .ok (.aload_n 1, 1) by decide +kernel) rfl) ?_
      refine Iff.trans (zw_getI (show decode cX2_strike 36 = .ok (.getfield 96, 3) by decide +kernel) (by decide +kernel : zfld 2 96 = some (4, 2)) (hl.I.k2 ha1) (hl.I.n2 ha1) (Or.inl rfl) (w := zI σ a1 2) (congrFun zI_self 2)) ?_
      refine Iff.trans (zw_dup2 (show decode cX2_strike 39 = .ok (.dup2, 1) by decide +kernel) ⟨rfl, rfl⟩) ?_
      refine Iff.trans (zw_iald2 (show decode cX2_strike 40 = .ok (.iaload, 1) by decide +kernel) (hl.I.k2 (zf_race ha0).2.2.1.1) (hl.I.n2 (zf_race ha0).2.2.1.1) (hl.I.l2 (zf_race ha0).2.2.1.1 (zf_race ha0).2.2.1.2) (w := zI σ (a0 + 3) (zI σ a1 2 : Int32).toNatClampNeg) (congrFun (zI_ne (zk_ne (zf_race ha0).2.2.1.1 ha1 (by decide))) _)) ?_
      refine zw_and ?_
      refine Iff.trans (zw_iconst (x := 1) (show decode cX2_strike 41 = .ok (.iconst 1, 1) by decide +kernel) (by decide)) ?_
      refine Iff.trans (zw_iadd (show decode cX2_strike 42 = .ok (.iadd, 1) by decide +kernel)) ?_
      refine Iff.trans (zw_iast2 (show decode cX2_strike 43 = .ok (.iastore, 1) by decide +kernel) (hl.I.k2 (zf_race ha0).2.2.1.1) (hl.I.n2 (zf_race ha0).2.2.1.1) (hl.I.l2 (zf_race ha0).2.2.1.1 (zf_race ha0).2.2.1.2) (σ' := (zsI (zsI σ a1 (upd (upd (zI σ a1) 4 0) 8 ((zI σ a1 8) + 1))) (a0 + 3) (upd (zI σ (a0 + 3)) (zI σ a1 2 : Int32).toNatClampNeg ((zI σ (a0 + 3) (zI σ a1 2 : Int32).toNatClampNeg) + 1)))) (congrArg (fun f => zsI (zsI σ a1 (upd (upd (zI σ a1) 4 0) 8 ((zI σ a1 8) + 1))) (a0 + 3) (upd f (zI σ a1 2 : Int32).toNatClampNeg ((zI σ (a0 + 3) (zI σ a1 2 : Int32).toNatClampNeg) + 1))) (zI_ne (zk_ne (zf_race ha0).2.2.1.1 ha1 (by decide))))) ?_
      refine zw_and ?_
      exact zw_ret (show decode cX2_strike 44 = .ok (.return_, 1) by decide +kernel) rfl

theorem bX2_awayFrom_0 {d : Nat} {σ : zS} {Q : Option Value → zS → Prop} (hl : zLay σ) {x0 : Int32} {a1 : Nat} (ha1 : zk a1 = 4) : zCall d kX2_awayFrom [.int x0, .ref a1] σ Q ↔ zW d kX2_awayFrom 2 [.int x0, .ref a1, .int 0] [] σ Q := by
  show zW d kX2_awayFrom 0 [.int x0, .ref a1, .retAddr 0] [] σ Q ↔ _
  refine Iff.trans (zw_iconst (x := 0) (show decode cX2_awayFrom 0 = .ok (.iconst 0, 1) by decide +kernel) (by decide)) ?_
  refine Iff.trans (zw_istore_n (ls' := [.int x0, .ref a1, .int 0]) (show decode cX2_awayFrom 1 = .ok (.istore_n 2, 1) by decide +kernel) (zset_s (Nat.le_of_ble_eq_true rfl) rfl)) ?_
  exact Iff.rfl

theorem bX2_awayFrom_2 {d : Nat} {σ : zS} {Q : Option Value → zS → Prop} (hl : zLay σ) {x0 x2 : Int32} {a1 : Nat} (ha1 : zk a1 = 4) : zW d kX2_awayFrom 2 [.int x0, .ref a1, .int x2] [] σ Q ↔ (if 6 ≤ x2 then zW d kX2_awayFrom 22 [.int x0, .ref a1, .int x2] [] σ Q else (if ((x0 >>> (x2 &&& 31)) &&& 1) = (0 : Int32) then zW d kX2_awayFrom 2 [.int x0, .ref a1, .int (x2 + 1)] [] σ Q else zW d kX2_awayFrom 22 [.int x0, .ref a1, .int x2] [] σ Q)) := by
  refine Iff.trans (zw_iload_n (show decode cX2_awayFrom 2 = .ok (.iload_n 2, 1) by decide +kernel) rfl) ?_
  refine Iff.trans (zw_bipush (x := 6) (show decode cX2_awayFrom 3 = .ok (.bipush 6, 2) by decide +kernel) (by decide)) ?_
  refine Iff.trans (zw_icmp_ge (t := 22) (show decode cX2_awayFrom 5 = .ok (.if_icmp .ge 17, 3) by decide +kernel) (by decide)) ?_
  refine zw_ite ?_ ?_
  · exact Iff.rfl
  · refine Iff.trans (zw_iload_n (show decode cX2_awayFrom 8 = .ok (.iload_n 0, 1) by decide +kernel) rfl) ?_
    refine Iff.trans (zw_iload_n (show decode cX2_awayFrom 9 = .ok (.iload_n 2, 1) by decide +kernel) rfl) ?_
    refine Iff.trans (zw_ishr (show decode cX2_awayFrom 10 = .ok (.ishr, 1) by decide +kernel)) ?_
    refine Iff.trans (zw_iconst (x := 1) (show decode cX2_awayFrom 11 = .ok (.iconst 1, 1) by decide +kernel) (by decide)) ?_
    refine Iff.trans (zw_iand (show decode cX2_awayFrom 12 = .ok (.iand, 1) by decide +kernel)) ?_
    refine Iff.trans (zw_if_ne (t := 22) (show decode cX2_awayFrom 13 = .ok (.ifCond .ne 9, 3) by decide +kernel) (by decide)) ?_
    refine zw_ite ?_ ?_
    · refine Iff.trans (zw_iinc (w := 1) (ls' := [.int x0, .ref a1, .int (x2 + 1)]) (show decode cX2_awayFrom 16 = .ok (.iinc 2 1, 3) by decide +kernel) rfl (by decide) (zset_s (Nat.le_of_ble_eq_true rfl) rfl)) ?_
      refine Iff.trans (zw_goto (t := 2) (show decode cX2_awayFrom 19 = .ok (.goto (-17), 3) by decide +kernel) (by decide)) ?_
      exact Iff.rfl
    · exact Iff.rfl

theorem bX2_awayFrom_22 {d : Nat} {σ : zS} {Q : Option Value → zS → Prop} (hl : zLay σ) {x0 x2 : Int32} {a1 : Nat} (ha1 : zk a1 = 4) : zW d kX2_awayFrom 22 [.int x0, .ref a1, .int x2] [] σ Q ↔ zW d kX2_awayFrom 34 [.int x0, .ref a1, .int x2] (va_rf ((zR σ a1) 0) :: [.int (2 * (x2 - (zI σ a1 3)))]) σ Q := by
  refine Iff.trans (zw_iconst (x := 2) (show decode cX2_awayFrom 22 = .ok (.iconst 2, 1) by decide +kernel) (by decide)) ?_
  refine Iff.trans (zw_iload_n (show decode cX2_awayFrom 23 = .ok (.iload_n 2, 1) by decide +kernel) rfl) ?_
  refine Iff.trans (zw_aload_n (show decode cX2_awayFrom 24 = .ok (.aload_n 1, 1) by decide +kernel) rfl) ?_
  refine Iff.trans (zw_getI (show decode cX2_awayFrom 25 = .ok (.getfield 165, 3) by decide +kernel) (by decide +kernel : zfld 2 165 = some (4, 3)) (hl.k2 ha1) (hl.n2 ha1) (Or.inl rfl) (w := zI σ a1 3) rfl) ?_
  refine Iff.trans (zw_isub (show decode cX2_awayFrom 28 = .ok (.isub, 1) by decide +kernel)) ?_
  refine Iff.trans (zw_imul (show decode cX2_awayFrom 29 = .ok (.imul, 1) by decide +kernel)) ?_
  refine Iff.trans (zw_aload_n (show decode cX2_awayFrom 30 = .ok (.aload_n 1, 1) by decide +kernel) rfl) ?_
  refine Iff.trans (zw_getR (show decode cX2_awayFrom 31 = .ok (.getfield 46, 3) by decide +kernel) (by decide +kernel : zfld 2 46 = some (4, 0)) (hl.k2 ha1) (hl.n2 ha1) rfl (w := (zR σ a1) 0) rfl) ?_
  exact Iff.rfl

theorem bX2_awayFrom_34 {d : Nat} {σ : zS} {Q : Option Value → zS → Prop} (hl : zLay σ) {x0 x2 y1 : Int32} {a1 b0 : Nat} (ha1 : zk a1 = 4) (hb0 : zk b0 = 6) : zW d kX2_awayFrom 34 [.int x0, .ref a1, .int x2] [.ref b0, .int y1] σ Q ↔ (if (zI σ b0 0) ≤ y1 then Q (some (.int ((zI σ a1 3) - 1))) σ else Q (some (.int ((zI σ a1 3) + 1))) σ) := by
  refine Iff.trans (zw_getI (show decode cX2_awayFrom 34 = .ok (.getfield 168, 3) by decide +kernel) (by decide +kernel : zfld 2 168 = some (6, 0)) (hl.k2 hb0) (hl.n2 hb0) (Or.inl rfl) (w := zI σ b0 0) rfl) ?_
  refine Iff.trans (zw_icmp_ge (t := 49) (show decode cX2_awayFrom 37 = .ok (.if_icmp .ge 12, 3) by decide +kernel) (by decide)) ?_
  refine zw_ite ?_ ?_
  · refine Iff.trans (zw_aload_n (show decode cX2_awayFrom 49 = .ok (.aload_n 1, 1) by decide +kernel) rfl) ?_
    refine Iff.trans (zw_getI (show decode cX2_awayFrom 50 = .ok (.getfield 165, 3) by decide +kernel) (by decide +kernel : zfld 2 165 = some (4, 3)) (hl.k2 ha1) (hl.n2 ha1) (Or.inl rfl) (w := zI σ a1 3) rfl) ?_
    refine Iff.trans (zw_iconst (x := 1) (show decode cX2_awayFrom 53 = .ok (.iconst 1, 1) by decide +kernel) (by decide)) ?_
    refine Iff.trans (zw_isub (show decode cX2_awayFrom 54 = .ok (.isub, 1) by decide +kernel)) ?_
    exact zw_iret1 (show decode cX2_awayFrom 55 = .ok (.ireturn, 1) by decide +kernel) rfl
  · refine Iff.trans (zw_aload_n (show decode cX2_awayFrom 40 = .ok (.aload_n 1, 1) by decide +kernel) rfl) ?_
    refine Iff.trans (zw_getI (show decode cX2_awayFrom 41 = .ok (.getfield 165, 3) by decide +kernel) (by decide +kernel : zfld 2 165 = some (4, 3)) (hl.k2 ha1) (hl.n2 ha1) (Or.inl rfl) (w := zI σ a1 3) rfl) ?_
    refine Iff.trans (zw_iconst (x := 1) (show decode cX2_awayFrom 44 = .ok (.iconst 1, 1) by decide +kernel) (by decide)) ?_
    refine Iff.trans (zw_iadd (show decode cX2_awayFrom 45 = .ok (.iadd, 1) by decide +kernel)) ?_
    refine Iff.trans (zw_goto (t := 55) (show decode cX2_awayFrom 46 = .ok (.goto 9, 3) by decide +kernel) (by decide)) ?_
    exact zw_iret1 (show decode cX2_awayFrom 55 = .ok (.ireturn, 1) by decide +kernel) rfl

theorem bX2_goAside_0 {d : Nat} {σ : zS} {Q : Option Value → zS → Prop} (hl : zLay σ) {a0 a1 : Nat} {x2 x3 : Int32} (ha0 : zk a0 = 2) (ha1 : zk a1 = 4) : zCall (d + 1) kX2_goAside [.ref a0, .ref a1, .int x2, .int x3] σ Q ↔ (if x2 < (0 : Int32) then Q none σ else zW (d + 1) kX2_goAside 9 [.ref a0, .ref a1, .int x2, .int x3] (va_rf ((zR σ a0) 3) :: [.int x2]) σ Q) := by
  show zW (d + 1) kX2_goAside 0 [.ref a0, .ref a1, .int x2, .int x3] [] σ Q ↔ _
  refine Iff.trans (zw_iload_n (show decode cX2_goAside 0 = .ok (.iload_n 2, 1) by decide +kernel) rfl) ?_
  refine Iff.trans (zw_if_lt (t := 23) (show decode cX2_goAside 1 = .ok (.ifCond .lt 22, 3) by decide +kernel) (by decide)) ?_
  refine zw_ite ?_ ?_
  · exact zw_ret (show decode cX2_goAside 23 = .ok (.return_, 1) by decide +kernel) rfl
  · refine Iff.trans (zw_iload_n (show decode cX2_goAside 4 = .ok (.iload_n 2, 1) by decide +kernel) rfl) ?_
    refine Iff.trans (zw_aload_n (show decode cX2_goAside 5 = .ok (.aload_n 0, 1) by decide +kernel) rfl) ?_
    refine Iff.trans (zw_getR (show decode cX2_goAside 6 = .ok (.getfield 27, 3) by decide +kernel) (by decide +kernel : zfld 2 27 = some (2, 3)) (hl.k2 ha0) (hl.n2 ha0) rfl (w := (zR σ a0) 3) rfl) ?_
    exact Iff.rfl

theorem bX2_goAside_9 {d : Nat} {σ : zS} {Q : Option Value → zS → Prop} (hl : zLay σ) {a0 a1 b0 : Nat} {x2 x3 y1 : Int32} (ha0 : zk a0 = 2) (ha1 : zk a1 = 4) (hb0 : zk b0 = 0) : zW (d + 1) kX2_goAside 9 [.ref a0, .ref a1, .int x2, .int x3] [.ref b0, .int y1] σ Q ↔ zW (d + 1) kX2_goAside 16 [.ref a0, .ref a1, .int x2, .int x3] (va_rf ((zR σ a1) 0) :: [.int (zI σ b0 3), .int y1]) σ Q := by
  refine Iff.trans (zw_getI (show decode cX2_goAside 9 = .ok (.getfield 187, 3) by decide +kernel) (by decide +kernel : zfld 2 187 = some (0, 3)) (hl.k2 hb0) (hl.n2 hb0) (Or.inl rfl) (w := zI σ b0 3) rfl) ?_
  refine Iff.trans (zw_aload_n (show decode cX2_goAside 12 = .ok (.aload_n 1, 1) by decide +kernel) rfl) ?_
  refine Iff.trans (zw_getR (show decode cX2_goAside 13 = .ok (.getfield 46, 3) by decide +kernel) (by decide +kernel : zfld 2 46 = some (4, 0)) (hl.k2 ha1) (hl.n2 ha1) rfl (w := (zR σ a1) 0) rfl) ?_
  exact Iff.rfl

theorem bX2_goAside_16 {d : Nat} {σ : zS} {Q : Option Value → zS → Prop} (hl : zLay σ) {a0 a1 b0 : Nat} {x2 x3 y1 y2 : Int32} (ha0 : zk a0 = 2) (ha1 : zk a1 = 4) (hb0 : zk b0 = 6) : zW (d + 1) kX2_goAside 16 [.ref a0, .ref a1, .int x2, .int x3] [.ref b0, .int y1, .int y2] σ Q ↔ (if y2 ≤ (y1 - (zI σ b0 0)) then zCall d kX2_barredAt [.ref a0, .int (zI σ a1 2), .ref a1, .int x3] σ (fun r σ' => zisN r = true ∧ zW (d + 1) kX2_goAside 34 [.ref a0, .ref a1, .int x2, .int x3] (zRstk r ++ []) σ' Q) else Q none σ) := by
  refine Iff.trans (zw_getI (show decode cX2_goAside 16 = .ok (.getfield 168, 3) by decide +kernel) (by decide +kernel : zfld 2 168 = some (6, 0)) (hl.k2 hb0) (hl.n2 hb0) (Or.inl rfl) (w := zI σ b0 0) rfl) ?_
  refine Iff.trans (zw_isub (show decode cX2_goAside 19 = .ok (.isub, 1) by decide +kernel)) ?_
  refine Iff.trans (zw_icmp_le (t := 24) (show decode cX2_goAside 20 = .ok (.if_icmp .le 4, 3) by decide +kernel) (by decide)) ?_
  refine zw_ite ?_ ?_
  · refine Iff.trans (zw_aload_n (show decode cX2_goAside 24 = .ok (.aload_n 0, 1) by decide +kernel) rfl) ?_
    refine Iff.trans (zw_aload_n (show decode cX2_goAside 25 = .ok (.aload_n 1, 1) by decide +kernel) rfl) ?_
    refine Iff.trans (zw_getI (show decode cX2_goAside 26 = .ok (.getfield 96, 3) by decide +kernel) (by decide +kernel : zfld 2 96 = some (4, 2)) (hl.k2 ha1) (hl.n2 ha1) (Or.inl rfl) (w := zI σ a1 2) rfl) ?_
    refine Iff.trans (zw_aload_n (show decode cX2_goAside 29 = .ok (.aload_n 1, 1) by decide +kernel) rfl) ?_
    refine Iff.trans (zw_iload_n (show decode cX2_goAside 30 = .ok (.iload_n 3, 1) by decide +kernel) rfl) ?_
    refine Iff.trans (zw_invV (K' := kX2_barredAt) (as' := [.int (zI σ a1 2), .ref a1, .int x3]) (rest := []) (show decode cX2_goAside 31 = .ok (.invokevirtual 144, 3) by decide +kernel) (by rfl) rfl rfl rfl (hl.k2 ha0) (by decide) (hl.n2 ha0) ⟨Nat.le_of_ble_eq_true rfl, Nat.le_of_ble_eq_true rfl, Nat.le_of_ble_eq_true rfl⟩) ?_
    exact Iff.rfl
  · exact zw_ret (show decode cX2_goAside 23 = .ok (.return_, 1) by decide +kernel) rfl

theorem bX2_goAside_34 {d : Nat} {σ : zS} {Q : Option Value → zS → Prop} (hl : zLay σ) {a0 a1 : Nat} {x2 x3 y0 : Int32} (ha0 : zk a0 = 2) (ha1 : zk a1 = 4) : zW (d + 1) kX2_goAside 34 [.ref a0, .ref a1, .int x2, .int x3] [.int y0] σ Q ↔ zW (d + 1) kX2_goAside 38 [.ref a0, .ref a1, .int x2, .int x3] (va_rf ((zR σ a1) 0) :: [.int y0]) σ Q := by
  refine Iff.trans (zw_aload_n (show decode cX2_goAside 34 = .ok (.aload_n 1, 1) by decide +kernel) rfl) ?_
  refine Iff.trans (zw_getR (show decode cX2_goAside 35 = .ok (.getfield 46, 3) by decide +kernel) (by decide +kernel : zfld 2 46 = some (4, 0)) (hl.k2 ha1) (hl.n2 ha1) rfl (w := (zR σ a1) 0) rfl) ?_
  exact Iff.rfl

theorem bX2_goAside_38 {d : Nat} {σ : zS} {Q : Option Value → zS → Prop} (hl : zLay σ) {a0 a1 b0 : Nat} {x2 x3 y1 : Int32} (ha0 : zk a0 = 2) (ha1 : zk a1 = 4) (hb0 : zk b0 = 6) : zW (d + 1) kX2_goAside 38 [.ref a0, .ref a1, .int x2, .int x3] [.ref b0, .int y1] σ Q ↔ zCall d kX6_lanesFrom [.ref b0, .int x2] σ (fun r σ' => zisN r = true ∧ zW (d + 1) kX2_goAside 42 [.ref a0, .ref a1, .int x2, .int x3] (zRstk r ++ [.int y1]) σ' Q) := by
  refine Iff.trans (zw_iload_n (show decode cX2_goAside 38 = .ok (.iload_n 2, 1) by decide +kernel) rfl) ?_
  refine Iff.trans (zw_invV (K' := kX6_lanesFrom) (as' := [.int x2]) (rest := [.int y1]) (show decode cX2_goAside 39 = .ok (.invokevirtual 60, 3) by decide +kernel) (by rfl) rfl rfl rfl (hl.k2 hb0) (by decide) (hl.n2 hb0) ⟨Nat.le_of_ble_eq_true rfl, Nat.le_of_ble_eq_true rfl, Nat.le_of_ble_eq_true rfl⟩) ?_
  exact Iff.rfl

theorem bX2_goAside_42 {d : Nat} {σ : zS} {Q : Option Value → zS → Prop} (hl : zLay σ) {a0 a1 : Nat} {x2 x3 y0 y1 : Int32} (ha0 : zk a0 = 2) (ha1 : zk a1 = 4) : zW (d + 1) kX2_goAside 42 [.ref a0, .ref a1, .int x2, .int x3] [.int y0, .int y1] σ Q ↔ (if (y1 &&& y0) = (0 : Int32) then Q none (zsI σ a1 (upd (zI σ a1) 3 x2)) else Q none σ) := by
  refine Iff.trans (zw_iand (show decode cX2_goAside 42 = .ok (.iand, 1) by decide +kernel)) ?_
  refine Iff.trans (zw_if_ne (t := 51) (show decode cX2_goAside 43 = .ok (.ifCond .ne 8, 3) by decide +kernel) (by decide)) ?_
  refine zw_ite ?_ ?_
  · refine Iff.trans (zw_aload_n (show decode cX2_goAside 46 = .ok (.aload_n 1, 1) by decide +kernel) rfl) ?_
    refine Iff.trans (zw_iload_n (show decode cX2_goAside 47 = .ok (.iload_n 2, 1) by decide +kernel) rfl) ?_
    refine Iff.trans (zw_putI (show decode cX2_goAside 48 = .ok (.putfield 165, 3) by decide +kernel) (by decide +kernel : zfld 2 165 = some (4, 3)) (hl.k2 ha1) (hl.n2 ha1) rfl (Or.inl rfl) (σ' := (zsI σ a1 (upd (zI σ a1) 3 x2))) rfl) ?_
    exact zw_ret (show decode cX2_goAside 51 = .ok (.return_, 1) by decide +kernel) rfl
  · exact zw_ret (show decode cX2_goAside 51 = .ok (.return_, 1) by decide +kernel) rfl

theorem bX2_barredAt_0 {d : Nat} {σ : zS} {Q : Option Value → zS → Prop} (hl : zLay σ) {a0 a2 : Nat} {x1 x3 : Int32} (ha0 : zk a0 = 2) (ha2 : zk a2 = 4) : zCall (d + 1) kX2_barredAt [.ref a0, .int x1, .ref a2, .int x3] σ Q ↔ zCall d kX0_stonesBar [.int x3] σ (fun r σ' => zisN r = true ∧ zW (d + 1) kX2_barredAt 4 [.ref a0, .int x1, .ref a2, .int x3, .retAddr 0, .retAddr 0, .retAddr 0] (zRstk r ++ []) σ' Q) := by
  show zW (d + 1) kX2_barredAt 0 [.ref a0, .int x1, .ref a2, .int x3, .retAddr 0, .retAddr 0, .retAddr 0] [] σ Q ↔ _
  refine Iff.trans (zw_iload_n (show decode cX2_barredAt 0 = .ok (.iload_n 3, 1) by decide +kernel) rfl) ?_
  refine Iff.trans (zw_invS (K' := kX0_stonesBar) (as := [.int x3]) (rest := []) (show decode cX2_barredAt 1 = .ok (.invokestatic 189, 3) by decide +kernel) (by rfl) rfl rfl rfl ⟨Nat.le_of_ble_eq_true rfl, Nat.le_of_ble_eq_true rfl, Nat.le_of_ble_eq_true rfl⟩) ?_
  exact Iff.rfl

theorem bX2_barredAt_4 {d : Nat} {σ : zS} {Q : Option Value → zS → Prop} (hl : zLay σ) {a0 a2 : Nat} {x1 x3 y0 : Int32} (ha0 : zk a0 = 2) (ha2 : zk a2 = 4) : zW (d + 1) kX2_barredAt 4 [.ref a0, .int x1, .ref a2, .int x3, .retAddr 0, .retAddr 0, .retAddr 0] [.int y0] σ Q ↔ (if y0 = (0 : Int32) then zW (d + 1) kX2_barredAt 24 [.ref a0, .int x1, .ref a2, .int x3, .int 0, .int 0, .retAddr 0] [] σ Q else zW (d + 1) kX2_barredAt 11 [.ref a0, .int x1, .ref a2, .int x3, .retAddr 0, .retAddr 0, .retAddr 0] (va_rf ((zR σ a0) 3) :: []) σ Q) := by
  refine Iff.trans (zw_if_eq (t := 18) (show decode cX2_barredAt 4 = .ok (.ifCond .eq 14, 3) by decide +kernel) (by decide)) ?_
  refine zw_ite ?_ ?_
  · refine Iff.trans (zw_iconst (x := 0) (show decode cX2_barredAt 18 = .ok (.iconst 0, 1) by decide +kernel) (by decide)) ?_
    refine Iff.trans (zw_istore (ls' := [.ref a0, .int x1, .ref a2, .int x3, .int 0, .retAddr 0, .retAddr 0]) (show decode cX2_barredAt 19 = .ok (.istore 4, 2) by decide +kernel) (zset_s (Nat.le_of_ble_eq_true rfl) rfl)) ?_
    refine Iff.trans (zw_iconst (x := 0) (show decode cX2_barredAt 21 = .ok (.iconst 0, 1) by decide +kernel) (by decide)) ?_
    refine Iff.trans (zw_istore (ls' := [.ref a0, .int x1, .ref a2, .int x3, .int 0, .int 0, .retAddr 0]) (show decode cX2_barredAt 22 = .ok (.istore 5, 2) by decide +kernel) (zset_s (Nat.le_of_ble_eq_true rfl) rfl)) ?_
    exact Iff.rfl
  · refine Iff.trans (zw_aload_n (show decode cX2_barredAt 7 = .ok (.aload_n 0, 1) by decide +kernel) rfl) ?_
    refine Iff.trans (zw_getR (show decode cX2_barredAt 8 = .ok (.getfield 27, 3) by decide +kernel) (by decide +kernel : zfld 2 27 = some (2, 3)) (hl.k2 ha0) (hl.n2 ha0) rfl (w := (zR σ a0) 3) rfl) ?_
    exact Iff.rfl

theorem bX2_barredAt_11 {d : Nat} {σ : zS} {Q : Option Value → zS → Prop} (hl : zLay σ) {a0 a2 b0 : Nat} {x1 x3 : Int32} (ha0 : zk a0 = 2) (ha2 : zk a2 = 4) (hb0 : zk b0 = 0) : zW (d + 1) kX2_barredAt 11 [.ref a0, .int x1, .ref a2, .int x3, .retAddr 0, .retAddr 0, .retAddr 0] [.ref b0] σ Q ↔ zCall d kX0_stonesAt [.ref b0, .int x1] σ (fun r σ' => zisN r = true ∧ zW (d + 1) kX2_barredAt 15 [.ref a0, .int x1, .ref a2, .int x3, .retAddr 0, .retAddr 0, .retAddr 0] (zRstk r ++ []) σ' Q) := by
  refine Iff.trans (zw_iload_n (show decode cX2_barredAt 11 = .ok (.iload_n 1, 1) by decide +kernel) rfl) ?_
  refine Iff.trans (zw_invV (K' := kX0_stonesAt) (as' := [.int x1]) (rest := []) (show decode cX2_barredAt 12 = .ok (.invokevirtual 193, 3) by decide +kernel) (by rfl) rfl rfl rfl (hl.k2 hb0) (by decide) (hl.n2 hb0) ⟨Nat.le_of_ble_eq_true rfl, Nat.le_of_ble_eq_true rfl, Nat.le_of_ble_eq_true rfl⟩) ?_
  exact Iff.rfl

theorem bX2_barredAt_15 {d : Nat} {σ : zS} {Q : Option Value → zS → Prop} (hl : zLay σ) {a0 a2 : Nat} {x1 x3 y0 : Int32} (ha0 : zk a0 = 2) (ha2 : zk a2 = 4) : zW (d + 1) kX2_barredAt 15 [.ref a0, .int x1, .ref a2, .int x3, .retAddr 0, .retAddr 0, .retAddr 0] [.int y0] σ Q ↔ zW (d + 1) kX2_barredAt 24 [.ref a0, .int x1, .ref a2, .int x3, .int y0, .int 0, .retAddr 0] [] σ Q := by
  refine Iff.trans (zw_goto (t := 19) (show decode cX2_barredAt 15 = .ok (.goto 4, 3) by decide +kernel) (by decide)) ?_
  refine Iff.trans (zw_istore (ls' := [.ref a0, .int x1, .ref a2, .int x3, .int y0, .retAddr 0, .retAddr 0]) (show decode cX2_barredAt 19 = .ok (.istore 4, 2) by decide +kernel) (zset_s (Nat.le_of_ble_eq_true rfl) rfl)) ?_
  refine Iff.trans (zw_iconst (x := 0) (show decode cX2_barredAt 21 = .ok (.iconst 0, 1) by decide +kernel) (by decide)) ?_
  refine Iff.trans (zw_istore (ls' := [.ref a0, .int x1, .ref a2, .int x3, .int y0, .int 0, .retAddr 0]) (show decode cX2_barredAt 22 = .ok (.istore 5, 2) by decide +kernel) (zset_s (Nat.le_of_ble_eq_true rfl) rfl)) ?_
  exact Iff.rfl

theorem bX2_barredAt_24 {d : Nat} {σ : zS} {Q : Option Value → zS → Prop} (hl : zLay σ) {a0 a2 : Nat} {x1 x3 x4 x5 : Int32} {v6 : Value} (ha0 : zk a0 = 2) (ha2 : zk a2 = 4) (hv6 : v6.category = 1) : zW (d + 1) kX2_barredAt 24 [.ref a0, .int x1, .ref a2, .int x3, .int x4, .int x5, v6] [] σ Q ↔ (if (zI σ a0 4) ≤ x5 then Q (some (.int x4)) σ else (if 6 ≤ x5 then Q (some (.int x4)) σ else (vp_in x5 6 ∧ zW (d + 1) kX2_barredAt 47 [.ref a0, .int x1, .ref a2, .int x3, .int x4, .int x5, v6] (va_rf (zR σ (a0 + 1) (x5 : Int32).toNatClampNeg) :: []) σ Q))) := by
  refine Iff.trans (zw_iload (show decode cX2_barredAt 24 = .ok (.iload 5, 2) by decide +kernel) rfl) ?_
  refine Iff.trans (zw_aload_n (show decode cX2_barredAt 26 = .ok (.aload_n 0, 1) by decide +kernel) rfl) ?_
  refine Iff.trans (zw_getI (show decode cX2_barredAt 27 = .ok (.getfield 32, 3) by decide +kernel) (by decide +kernel : zfld 2 32 = some (2, 4)) (hl.k2 ha0) (hl.n2 ha0) (Or.inl rfl) (w := zI σ a0 4) rfl) ?_
  refine Iff.trans (zw_icmp_ge (t := 88) (show decode cX2_barredAt 30 = .ok (.if_icmp .ge 58, 3) by decide +kernel) (by decide)) ?_
  refine zw_ite ?_ ?_
  · refine Iff.trans (zw_iload (show decode cX2_barredAt 88 = .ok (.iload 4, 2) by decide +kernel) rfl) ?_
    exact zw_iret1 (show decode cX2_barredAt 90 = .ok (.ireturn, 1) by decide +kernel) rfl
  · refine Iff.trans (zw_iload (show decode cX2_barredAt 33 = .ok (.iload 5, 2) by decide +kernel) rfl) ?_
    refine Iff.trans (zw_bipush (x := 6) (show decode cX2_barredAt 35 = .ok (.bipush 6, 2) by decide +kernel) (by decide)) ?_
    refine Iff.trans (zw_icmp_ge (t := 88) (show decode cX2_barredAt 37 = .ok (.if_icmp .ge 51, 3) by decide +kernel) (by decide)) ?_
    refine zw_ite ?_ ?_
    · refine Iff.trans (zw_iload (show decode cX2_barredAt 88 = .ok (.iload 4, 2) by decide +kernel) rfl) ?_
      exact zw_iret1 (show decode cX2_barredAt 90 = .ok (.ireturn, 1) by decide +kernel) rfl
    · refine Iff.trans (zw_aload_n (show decode cX2_barredAt 40 = .ok (.aload_n 0, 1) by decide +kernel) rfl) ?_
      refine Iff.trans (zw_get (show decode cX2_barredAt 41 = .ok (.getfield 11, 3) by decide +kernel) (by decide +kernel : zfld 2 11 = some (2, 0)) (hl.k2 ha0) (hl.n2 ha0) (zgetR (v := a0 + 1) (hl.r (zrt2_0 ha0)) rfl)) ?_
      refine Iff.trans (zw_iload (show decode cX2_barredAt 44 = .ok (.iload 5, 2) by decide +kernel) rfl) ?_
      refine Iff.trans (zw_aald (show decode cX2_barredAt 46 = .ok (.aaload, 1) by decide +kernel) (by rw [(hl.k2 (zf_race ha0).1.1)]; decide) (hl.n2 (zf_race ha0).1.1) (hl.l2 (zf_race ha0).1.1 (zf_race ha0).1.2)) ?_
      refine zw_and ?_
      exact Iff.rfl

theorem bX2_barredAt_47 {d : Nat} {σ : zS} {Q : Option Value → zS → Prop} (hl : zLay σ) {a0 a2 b0 : Nat} {x1 x3 x4 x5 : Int32} {v6 : Value} (ha0 : zk a0 = 2) (ha2 : zk a2 = 4) (hv6 : v6.category = 1) (hb0 : zk b0 = 4) : zW (d + 1) kX2_barredAt 47 [.ref a0, .int x1, .ref a2, .int x3, .int x4, .int x5, v6] [.ref b0] σ Q ↔ (if b0 = a2 then zW (d + 1) kX2_barredAt 24 [.ref a0, .int x1, .ref a2, .int x3, .int x4, .int (x5 + 1), .ref b0] [] σ Q else zCall d kX4_isOut [.ref b0] σ (fun r σ' => zisN r = true ∧ zW (d + 1) kX2_barredAt 60 [.ref a0, .int x1, .ref a2, .int x3, .int x4, .int x5, .ref b0] (zRstk r ++ []) σ' Q)) := by
  refine Iff.trans (zw_astore (ls' := [.ref a0, .int x1, .ref a2, .int x3, .int x4, .int x5, .ref b0]) (show decode cX2_barredAt 47 = .ok (.astore 6, 2) by decide +kernel) (zset_s (Nat.le_of_ble_eq_true rfl) rfl)) ?_
  refine Iff.trans (zw_aload (show decode cX2_barredAt 49 = .ok (.aload 6, 2) by decide +kernel) rfl) ?_
  refine Iff.trans (zw_aload_n (show decode cX2_barredAt 51 = .ok (.aload_n 2, 1) by decide +kernel) rfl) ?_
  refine Iff.trans (zw_acmp_eq (t := 82) (show decode cX2_barredAt 52 = .ok (.if_acmp .eq 30, 3) by decide +kernel) (by decide) ⟨by rw [(hl.k2 hb0)]; decide, (hl.n2 hb0), by rw [(hl.k2 ha2)]; decide, (hl.n2 ha2)⟩) ?_
  refine zw_ite ?_ ?_
  · refine Iff.trans (zw_iinc (w := 1) (ls' := [.ref a0, .int x1, .ref a2, .int x3, .int x4, .int (x5 + 1), .ref b0]) (show decode cX2_barredAt 82 = .ok (.iinc 5 1, 3) by decide +kernel) rfl (by decide) (zset_s (Nat.le_of_ble_eq_true rfl) rfl)) ?_
    refine Iff.trans (zw_goto (t := 24) (show decode cX2_barredAt 85 = .ok (.goto (-61), 3) by decide +kernel) (by decide)) ?_
    exact Iff.rfl
  · refine Iff.trans (zw_aload (show decode cX2_barredAt 55 = .ok (.aload 6, 2) by decide +kernel) rfl) ?_
    refine Iff.trans (zw_invV (K' := kX4_isOut) (as' := []) (rest := []) (show decode cX2_barredAt 57 = .ok (.invokevirtual 86, 3) by decide +kernel) (by rfl) rfl rfl rfl (hl.k2 hb0) (by decide) (hl.n2 hb0) ⟨Nat.le_of_ble_eq_true rfl, Nat.le_of_ble_eq_true rfl, Nat.le_of_ble_eq_true rfl⟩) ?_
    exact Iff.rfl

theorem bX2_barredAt_60 {d : Nat} {σ : zS} {Q : Option Value → zS → Prop} (hl : zLay σ) {a0 a2 a6 : Nat} {x1 x3 x4 x5 y0 : Int32} (ha0 : zk a0 = 2) (ha2 : zk a2 = 4) (ha6 : zk a6 = 4) : zW (d + 1) kX2_barredAt 60 [.ref a0, .int x1, .ref a2, .int x3, .int x4, .int x5, .ref a6] [.int y0] σ Q ↔ (if y0 = (0 : Int32) then (if (zI σ a6 2) = x1 then zCall d kX4_lanes [.ref a6] σ (fun r σ' => zisN r = true ∧ zW (d + 1) kX2_barredAt 79 [.ref a0, .int x1, .ref a2, .int x3, .int x4, .int x5, .ref a6] (zRstk r ++ [.int x4]) σ' Q) else zW (d + 1) kX2_barredAt 24 [.ref a0, .int x1, .ref a2, .int x3, .int x4, .int (x5 + 1), .ref a6] [] σ Q) else zW (d + 1) kX2_barredAt 24 [.ref a0, .int x1, .ref a2, .int x3, .int x4, .int (x5 + 1), .ref a6] [] σ Q) := by
  refine Iff.trans (zw_if_ne (t := 82) (show decode cX2_barredAt 60 = .ok (.ifCond .ne 22, 3) by decide +kernel) (by decide)) ?_
  refine zw_ite ?_ ?_
  · refine Iff.trans (zw_aload (show decode cX2_barredAt 63 = .ok (.aload 6, 2) by decide +kernel) rfl) ?_
    refine Iff.trans (zw_getI (show decode cX2_barredAt 65 = .ok (.getfield 96, 3) by decide +kernel) (by decide +kernel : zfld 2 96 = some (4, 2)) (hl.k2 ha6) (hl.n2 ha6) (Or.inl rfl) (w := zI σ a6 2) rfl) ?_
    refine Iff.trans (zw_iload_n (show decode cX2_barredAt 68 = .ok (.iload_n 1, 1) by decide +kernel) rfl) ?_
    refine Iff.trans (zw_icmp_ne (t := 82) (show decode cX2_barredAt 69 = .ok (.if_icmp .ne 13, 3) by decide +kernel) (by decide)) ?_
    refine zw_ite ?_ ?_
    · refine Iff.trans (zw_iload (show decode cX2_barredAt 72 = .ok (.iload 4, 2) by decide +kernel) rfl) ?_
      refine Iff.trans (zw_aload (show decode cX2_barredAt 74 = .ok (.aload 6, 2) by decide +kernel) rfl) ?_
      refine Iff.trans (zw_invV (K' := kX4_lanes) (as' := []) (rest := [.int x4]) (show decode cX2_barredAt 76 = .ok (.invokevirtual 108, 3) by decide +kernel) (by rfl) rfl rfl rfl (hl.k2 ha6) (by decide) (hl.n2 ha6) ⟨Nat.le_of_ble_eq_true rfl, Nat.le_of_ble_eq_true rfl, Nat.le_of_ble_eq_true rfl⟩) ?_
      exact Iff.rfl
    · refine Iff.trans (zw_iinc (w := 1) (ls' := [.ref a0, .int x1, .ref a2, .int x3, .int x4, .int (x5 + 1), .ref a6]) (show decode cX2_barredAt 82 = .ok (.iinc 5 1, 3) by decide +kernel) rfl (by decide) (zset_s (Nat.le_of_ble_eq_true rfl) rfl)) ?_
      refine Iff.trans (zw_goto (t := 24) (show decode cX2_barredAt 85 = .ok (.goto (-61), 3) by decide +kernel) (by decide)) ?_
      exact Iff.rfl
  · refine Iff.trans (zw_iinc (w := 1) (ls' := [.ref a0, .int x1, .ref a2, .int x3, .int x4, .int (x5 + 1), .ref a6]) (show decode cX2_barredAt 82 = .ok (.iinc 5 1, 3) by decide +kernel) rfl (by decide) (zset_s (Nat.le_of_ble_eq_true rfl) rfl)) ?_
    refine Iff.trans (zw_goto (t := 24) (show decode cX2_barredAt 85 = .ok (.goto (-61), 3) by decide +kernel) (by decide)) ?_
    exact Iff.rfl

theorem bX2_barredAt_79 {d : Nat} {σ : zS} {Q : Option Value → zS → Prop} (hl : zLay σ) {a0 a2 a6 : Nat} {x1 x3 x4 x5 y0 y1 : Int32} (ha0 : zk a0 = 2) (ha2 : zk a2 = 4) (ha6 : zk a6 = 4) : zW (d + 1) kX2_barredAt 79 [.ref a0, .int x1, .ref a2, .int x3, .int x4, .int x5, .ref a6] [.int y0, .int y1] σ Q ↔ zW (d + 1) kX2_barredAt 24 [.ref a0, .int x1, .ref a2, .int x3, .int (y1 ||| y0), .int (x5 + 1), .ref a6] [] σ Q := by
  refine Iff.trans (zw_ior (show decode cX2_barredAt 79 = .ok (.ior, 1) by decide +kernel)) ?_
  refine Iff.trans (zw_istore (ls' := [.ref a0, .int x1, .ref a2, .int x3, .int (y1 ||| y0), .int x5, .ref a6]) (show decode cX2_barredAt 80 = .ok (.istore 4, 2) by decide +kernel) (zset_s (Nat.le_of_ble_eq_true rfl) rfl)) ?_
  refine Iff.trans (zw_iinc (w := 1) (ls' := [.ref a0, .int x1, .ref a2, .int x3, .int (y1 ||| y0), .int (x5 + 1), .ref a6]) (show decode cX2_barredAt 82 = .ok (.iinc 5 1, 3) by decide +kernel) rfl (by decide) (zset_s (Nat.le_of_ble_eq_true rfl) rfl)) ?_
  refine Iff.trans (zw_goto (t := 24) (show decode cX2_barredAt 85 = .ok (.goto (-61), 3) by decide +kernel) (by decide)) ?_
  exact Iff.rfl

theorem bX2_placeOf_0 {d : Nat} {σ : zS} {Q : Option Value → zS → Prop} (hl : zLay σ) {a0 : Nat} {x1 : Int32} (ha0 : zk a0 = 2) : zCall (d + 1) kX2_placeOf [.ref a0, .int x1] σ Q ↔ (if x1 < (0 : Int32) then Q (some (.int (zI σ a0 4))) σ else (if 6 ≤ x1 then Q (some (.int (zI σ a0 4))) σ else (vp_in x1 6 ∧ zW (d + 1) kX2_placeOf 16 [.ref a0, .int x1] (va_rf (zR σ (a0 + 1) (x1 : Int32).toNatClampNeg) :: []) σ Q))) := by
  show zW (d + 1) kX2_placeOf 0 [.ref a0, .int x1] [] σ Q ↔ _
  refine Iff.trans (zw_iload_n (show decode cX2_placeOf 0 = .ok (.iload_n 1, 1) by decide +kernel) rfl) ?_
  refine Iff.trans (zw_if_lt (t := 22) (show decode cX2_placeOf 1 = .ok (.ifCond .lt 21, 3) by decide +kernel) (by decide)) ?_
  refine zw_ite ?_ ?_
  · refine Iff.trans (zw_aload_n (show decode cX2_placeOf 22 = .ok (.aload_n 0, 1) by decide +kernel) rfl) ?_
    refine Iff.trans (zw_getI (show decode cX2_placeOf 23 = .ok (.getfield 32, 3) by decide +kernel) (by decide +kernel : zfld 2 32 = some (2, 4)) (hl.k2 ha0) (hl.n2 ha0) (Or.inl rfl) (w := zI σ a0 4) rfl) ?_
    refine Iff.trans (zw_goto (t := 38) (show decode cX2_placeOf 26 = .ok (.goto 12, 3) by decide +kernel) (by decide)) ?_
    exact zw_iret1 (show decode cX2_placeOf 38 = .ok (.ireturn, 1) by decide +kernel) rfl
  · refine Iff.trans (zw_iload_n (show decode cX2_placeOf 4 = .ok (.iload_n 1, 1) by decide +kernel) rfl) ?_
    refine Iff.trans (zw_bipush (x := 6) (show decode cX2_placeOf 5 = .ok (.bipush 6, 2) by decide +kernel) (by decide)) ?_
    refine Iff.trans (zw_icmp_ge (t := 22) (show decode cX2_placeOf 7 = .ok (.if_icmp .ge 15, 3) by decide +kernel) (by decide)) ?_
    refine zw_ite ?_ ?_
    · refine Iff.trans (zw_aload_n (show decode cX2_placeOf 22 = .ok (.aload_n 0, 1) by decide +kernel) rfl) ?_
      refine Iff.trans (zw_getI (show decode cX2_placeOf 23 = .ok (.getfield 32, 3) by decide +kernel) (by decide +kernel : zfld 2 32 = some (2, 4)) (hl.k2 ha0) (hl.n2 ha0) (Or.inl rfl) (w := zI σ a0 4) rfl) ?_
      refine Iff.trans (zw_goto (t := 38) (show decode cX2_placeOf 26 = .ok (.goto 12, 3) by decide +kernel) (by decide)) ?_
      exact zw_iret1 (show decode cX2_placeOf 38 = .ok (.ireturn, 1) by decide +kernel) rfl
    · refine Iff.trans (zw_aload_n (show decode cX2_placeOf 10 = .ok (.aload_n 0, 1) by decide +kernel) rfl) ?_
      refine Iff.trans (zw_get (show decode cX2_placeOf 11 = .ok (.getfield 11, 3) by decide +kernel) (by decide +kernel : zfld 2 11 = some (2, 0)) (hl.k2 ha0) (hl.n2 ha0) (zgetR (v := a0 + 1) (hl.r (zrt2_0 ha0)) rfl)) ?_
      refine Iff.trans (zw_iload_n (show decode cX2_placeOf 14 = .ok (.iload_n 1, 1) by decide +kernel) rfl) ?_
      refine Iff.trans (zw_aald (show decode cX2_placeOf 15 = .ok (.aaload, 1) by decide +kernel) (by rw [(hl.k2 (zf_race ha0).1.1)]; decide) (hl.n2 (zf_race ha0).1.1) (hl.l2 (zf_race ha0).1.1 (zf_race ha0).1.2)) ?_
      refine zw_and ?_
      exact Iff.rfl

theorem bX2_placeOf_16 {d : Nat} {σ : zS} {Q : Option Value → zS → Prop} (hl : zLay σ) {a0 b0 : Nat} {x1 : Int32} (ha0 : zk a0 = 2) (hb0 : zk b0 = 4) : zW (d + 1) kX2_placeOf 16 [.ref a0, .int x1] [.ref b0] σ Q ↔ zCall d kX4_isOut [.ref b0] σ (fun r σ' => zisN r = true ∧ zW (d + 1) kX2_placeOf 19 [.ref a0, .int x1] (zRstk r ++ []) σ' Q) := by
  refine Iff.trans (zw_invV (K' := kX4_isOut) (as' := []) (rest := []) (show decode cX2_placeOf 16 = .ok (.invokevirtual 86, 3) by decide +kernel) (by rfl) rfl rfl rfl (hl.k2 hb0) (by decide) (hl.n2 hb0) ⟨Nat.le_of_ble_eq_true rfl, Nat.le_of_ble_eq_true rfl, Nat.le_of_ble_eq_true rfl⟩) ?_
  exact Iff.rfl

theorem bX2_placeOf_19 {d : Nat} {σ : zS} {Q : Option Value → zS → Prop} (hl : zLay σ) {a0 : Nat} {x1 y0 : Int32} (ha0 : zk a0 = 2) : zW (d + 1) kX2_placeOf 19 [.ref a0, .int x1] [.int y0] σ Q ↔ (if y0 = (0 : Int32) then Q (some (.int (zI σ a0 4))) σ else (vp_in x1 6 ∧ zW (d + 1) kX2_placeOf 35 [.ref a0, .int x1] (va_rf (zR σ (a0 + 1) (x1 : Int32).toNatClampNeg) :: []) σ Q)) := by
  refine Iff.trans (zw_if_ne (t := 29) (show decode cX2_placeOf 19 = .ok (.ifCond .ne 10, 3) by decide +kernel) (by decide)) ?_
  refine zw_ite ?_ ?_
  · refine Iff.trans (zw_aload_n (show decode cX2_placeOf 22 = .ok (.aload_n 0, 1) by decide +kernel) rfl) ?_
    refine Iff.trans (zw_getI (show decode cX2_placeOf 23 = .ok (.getfield 32, 3) by decide +kernel) (by decide +kernel : zfld 2 32 = some (2, 4)) (hl.k2 ha0) (hl.n2 ha0) (Or.inl rfl) (w := zI σ a0 4) rfl) ?_
    refine Iff.trans (zw_goto (t := 38) (show decode cX2_placeOf 26 = .ok (.goto 12, 3) by decide +kernel) (by decide)) ?_
    exact zw_iret1 (show decode cX2_placeOf 38 = .ok (.ireturn, 1) by decide +kernel) rfl
  · refine Iff.trans (zw_aload_n (show decode cX2_placeOf 29 = .ok (.aload_n 0, 1) by decide +kernel) rfl) ?_
    refine Iff.trans (zw_get (show decode cX2_placeOf 30 = .ok (.getfield 11, 3) by decide +kernel) (by decide +kernel : zfld 2 11 = some (2, 0)) (hl.k2 ha0) (hl.n2 ha0) (zgetR (v := a0 + 1) (hl.r (zrt2_0 ha0)) rfl)) ?_
    refine Iff.trans (zw_iload_n (show decode cX2_placeOf 33 = .ok (.iload_n 1, 1) by decide +kernel) rfl) ?_
    refine Iff.trans (zw_aald (show decode cX2_placeOf 34 = .ok (.aaload, 1) by decide +kernel) (by rw [(hl.k2 (zf_race ha0).1.1)]; decide) (hl.n2 (zf_race ha0).1.1) (hl.l2 (zf_race ha0).1.1 (zf_race ha0).1.2)) ?_
    refine zw_and ?_
    exact Iff.rfl

theorem bX2_placeOf_35 {d : Nat} {σ : zS} {Q : Option Value → zS → Prop} (hl : zLay σ) {a0 b0 : Nat} {x1 : Int32} (ha0 : zk a0 = 2) (hb0 : zk b0 = 4) : zW (d + 1) kX2_placeOf 35 [.ref a0, .int x1] [.ref b0] σ Q ↔ Q (some (.int (zI σ b0 6))) σ := by
  refine Iff.trans (zw_getI (show decode cX2_placeOf 35 = .ok (.getfield 181, 3) by decide +kernel) (by decide +kernel : zfld 2 181 = some (4, 6)) (hl.k2 hb0) (hl.n2 hb0) (Or.inl rfl) (w := zI σ b0 6) rfl) ?_
  exact zw_iret1 (show decode cX2_placeOf 38 = .ok (.ireturn, 1) by decide +kernel) rfl

theorem bX2_ticksOfFirst_0 {d : Nat} {σ : zS} {Q : Option Value → zS → Prop} (hl : zLay σ) {a0 : Nat} (ha0 : zk a0 = 2) : zCall (d + 1) kX2_ticksOfFirst [.ref a0] σ Q ↔ (vp_in 0 6 ∧ zW (d + 1) kX2_ticksOfFirst 6 [.ref a0] (va_rf (zR σ (a0 + 1) (0 : Int32).toNatClampNeg) :: []) σ Q) := by
  show zW (d + 1) kX2_ticksOfFirst 0 [.ref a0] [] σ Q ↔ _
  refine Iff.trans (zw_aload_n (show decode cX2_ticksOfFirst 0 = .ok (.aload_n 0, 1) by decide +kernel) rfl) ?_
  refine Iff.trans (zw_get (show decode cX2_ticksOfFirst 1 = .ok (.getfield 11, 3) by decide +kernel) (by decide +kernel : zfld 2 11 = some (2, 0)) (hl.k2 ha0) (hl.n2 ha0) (zgetR (v := a0 + 1) (hl.r (zrt2_0 ha0)) rfl)) ?_
  refine Iff.trans (zw_iconst (x := 0) (show decode cX2_ticksOfFirst 4 = .ok (.iconst 0, 1) by decide +kernel) (by decide)) ?_
  refine Iff.trans (zw_aald (show decode cX2_ticksOfFirst 5 = .ok (.aaload, 1) by decide +kernel) (by rw [(hl.k2 (zf_race ha0).1.1)]; decide) (hl.n2 (zf_race ha0).1.1) (hl.l2 (zf_race ha0).1.1 (zf_race ha0).1.2)) ?_
  refine zw_and ?_
  exact Iff.rfl

theorem bX2_ticksOfFirst_6 {d : Nat} {σ : zS} {Q : Option Value → zS → Prop} (hl : zLay σ) {a0 b0 : Nat} (ha0 : zk a0 = 2) (hb0 : zk b0 = 4) : zW (d + 1) kX2_ticksOfFirst 6 [.ref a0] [.ref b0] σ Q ↔ zCall d kX4_isOut [.ref b0] σ (fun r σ' => zisN r = true ∧ zW (d + 1) kX2_ticksOfFirst 9 [.ref a0] (zRstk r ++ []) σ' Q) := by
  refine Iff.trans (zw_invV (K' := kX4_isOut) (as' := []) (rest := []) (show decode cX2_ticksOfFirst 6 = .ok (.invokevirtual 86, 3) by decide +kernel) (by rfl) rfl rfl rfl (hl.k2 hb0) (by decide) (hl.n2 hb0) ⟨Nat.le_of_ble_eq_true rfl, Nat.le_of_ble_eq_true rfl, Nat.le_of_ble_eq_true rfl⟩) ?_
  exact Iff.rfl

theorem bX2_ticksOfFirst_9 {d : Nat} {σ : zS} {Q : Option Value → zS → Prop} (hl : zLay σ) {a0 : Nat} {y0 : Int32} (ha0 : zk a0 = 2) : zW (d + 1) kX2_ticksOfFirst 9 [.ref a0] [.int y0] σ Q ↔ (if y0 = (0 : Int32) then Q (some (.int 99)) σ else (vp_in 0 6 ∧ zW (d + 1) kX2_ticksOfFirst 18 [.ref a0] (va_rf (zR σ (a0 + 1) (0 : Int32).toNatClampNeg) :: []) σ Q)) := by
  refine Iff.trans (zw_if_eq (t := 24) (show decode cX2_ticksOfFirst 9 = .ok (.ifCond .eq 15, 3) by decide +kernel) (by decide)) ?_
  refine zw_ite ?_ ?_
  · refine Iff.trans (zw_bipush (x := 99) (show decode cX2_ticksOfFirst 24 = .ok (.bipush 99, 2) by decide +kernel) (by decide)) ?_
    exact zw_iret1 (show decode cX2_ticksOfFirst 26 = .ok (.ireturn, 1) by decide +kernel) rfl
  · refine Iff.trans (zw_aload_n (show decode cX2_ticksOfFirst 12 = .ok (.aload_n 0, 1) by decide +kernel) rfl) ?_
    refine Iff.trans (zw_get (show decode cX2_ticksOfFirst 13 = .ok (.getfield 11, 3) by decide +kernel) (by decide +kernel : zfld 2 11 = some (2, 0)) (hl.k2 ha0) (hl.n2 ha0) (zgetR (v := a0 + 1) (hl.r (zrt2_0 ha0)) rfl)) ?_
    refine Iff.trans (zw_iconst (x := 0) (show decode cX2_ticksOfFirst 16 = .ok (.iconst 0, 1) by decide +kernel) (by decide)) ?_
    refine Iff.trans (zw_aald (show decode cX2_ticksOfFirst 17 = .ok (.aaload, 1) by decide +kernel) (by rw [(hl.k2 (zf_race ha0).1.1)]; decide) (hl.n2 (zf_race ha0).1.1) (hl.l2 (zf_race ha0).1.1 (zf_race ha0).1.2)) ?_
    refine zw_and ?_
    exact Iff.rfl

theorem bX2_ticksOfFirst_18 {d : Nat} {σ : zS} {Q : Option Value → zS → Prop} (hl : zLay σ) {a0 b0 : Nat} (ha0 : zk a0 = 2) (hb0 : zk b0 = 4) : zW (d + 1) kX2_ticksOfFirst 18 [.ref a0] [.ref b0] σ Q ↔ Q (some (.int (zI σ b0 5))) σ := by
  refine Iff.trans (zw_getI (show decode cX2_ticksOfFirst 18 = .ok (.getfield 178, 3) by decide +kernel) (by decide +kernel : zfld 2 178 = some (4, 5)) (hl.k2 hb0) (hl.n2 hb0) (Or.inl rfl) (w := zI σ b0 5) rfl) ?_
  refine Iff.trans (zw_goto (t := 26) (show decode cX2_ticksOfFirst 21 = .ok (.goto 5, 3) by decide +kernel) (by decide)) ?_
  exact zw_iret1 (show decode cX2_ticksOfFirst 26 = .ok (.ireturn, 1) by decide +kernel) rfl

theorem bX2_foremost_0 {d : Nat} {σ : zS} {Q : Option Value → zS → Prop} (hl : zLay σ) {a0 : Nat} (ha0 : zk a0 = 2) : zCall (d + 1) kX2_foremost [.ref a0] σ Q ↔ zW (d + 1) kX2_foremost 4 [.ref a0, .int 0, .int 0] [] σ Q := by
  show zW (d + 1) kX2_foremost 0 [.ref a0, .retAddr 0, .retAddr 0] [] σ Q ↔ _
  refine Iff.trans (zw_iconst (x := 0) (show decode cX2_foremost 0 = .ok (.iconst 0, 1) by decide +kernel) (by decide)) ?_
  refine Iff.trans (zw_istore_n (ls' := [.ref a0, .int 0, .retAddr 0]) (show decode cX2_foremost 1 = .ok (.istore_n 1, 1) by decide +kernel) (zset_s (Nat.le_of_ble_eq_true rfl) rfl)) ?_
  refine Iff.trans (zw_iconst (x := 0) (show decode cX2_foremost 2 = .ok (.iconst 0, 1) by decide +kernel) (by decide)) ?_
  refine Iff.trans (zw_istore_n (ls' := [.ref a0, .int 0, .int 0]) (show decode cX2_foremost 3 = .ok (.istore_n 2, 1) by decide +kernel) (zset_s (Nat.le_of_ble_eq_true rfl) rfl)) ?_
  exact Iff.rfl

theorem bX2_foremost_4 {d : Nat} {σ : zS} {Q : Option Value → zS → Prop} (hl : zLay σ) {a0 : Nat} {x1 x2 : Int32} (ha0 : zk a0 = 2) : zW (d + 1) kX2_foremost 4 [.ref a0, .int x1, .int x2] [] σ Q ↔ (if (zI σ a0 4) ≤ x2 then Q (some (.int x1)) σ else (if 6 ≤ x2 then Q (some (.int x1)) σ else (vp_in x2 6 ∧ zW (d + 1) kX2_foremost 24 [.ref a0, .int x1, .int x2] (va_rf (zR σ (a0 + 1) (x2 : Int32).toNatClampNeg) :: []) σ Q))) := by
  refine Iff.trans (zw_iload_n (show decode cX2_foremost 4 = .ok (.iload_n 2, 1) by decide +kernel) rfl) ?_
  refine Iff.trans (zw_aload_n (show decode cX2_foremost 5 = .ok (.aload_n 0, 1) by decide +kernel) rfl) ?_
  refine Iff.trans (zw_getI (show decode cX2_foremost 6 = .ok (.getfield 32, 3) by decide +kernel) (by decide +kernel : zfld 2 32 = some (2, 4)) (hl.k2 ha0) (hl.n2 ha0) (Or.inl rfl) (w := zI σ a0 4) rfl) ?_
  refine Iff.trans (zw_icmp_ge (t := 57) (show decode cX2_foremost 9 = .ok (.if_icmp .ge 48, 3) by decide +kernel) (by decide)) ?_
  refine zw_ite ?_ ?_
  · refine Iff.trans (zw_iload_n (show decode cX2_foremost 57 = .ok (.iload_n 1, 1) by decide +kernel) rfl) ?_
    exact zw_iret1 (show decode cX2_foremost 58 = .ok (.ireturn, 1) by decide +kernel) rfl
  · refine Iff.trans (zw_iload_n (show decode cX2_foremost 12 = .ok (.iload_n 2, 1) by decide +kernel) rfl) ?_
    refine Iff.trans (zw_bipush (x := 6) (show decode cX2_foremost 13 = .ok (.bipush 6, 2) by decide +kernel) (by decide)) ?_
    refine Iff.trans (zw_icmp_ge (t := 57) (show decode cX2_foremost 15 = .ok (.if_icmp .ge 42, 3) by decide +kernel) (by decide)) ?_
    refine zw_ite ?_ ?_
    · refine Iff.trans (zw_iload_n (show decode cX2_foremost 57 = .ok (.iload_n 1, 1) by decide +kernel) rfl) ?_
      exact zw_iret1 (show decode cX2_foremost 58 = .ok (.ireturn, 1) by decide +kernel) rfl
    · refine Iff.trans (zw_aload_n (show decode cX2_foremost 18 = .ok (.aload_n 0, 1) by decide +kernel) rfl) ?_
      refine Iff.trans (zw_get (show decode cX2_foremost 19 = .ok (.getfield 11, 3) by decide +kernel) (by decide +kernel : zfld 2 11 = some (2, 0)) (hl.k2 ha0) (hl.n2 ha0) (zgetR (v := a0 + 1) (hl.r (zrt2_0 ha0)) rfl)) ?_
      refine Iff.trans (zw_iload_n (show decode cX2_foremost 22 = .ok (.iload_n 2, 1) by decide +kernel) rfl) ?_
      refine Iff.trans (zw_aald (show decode cX2_foremost 23 = .ok (.aaload, 1) by decide +kernel) (by rw [(hl.k2 (zf_race ha0).1.1)]; decide) (hl.n2 (zf_race ha0).1.1) (hl.l2 (zf_race ha0).1.1 (zf_race ha0).1.2)) ?_
      refine zw_and ?_
      exact Iff.rfl

theorem bX2_foremost_24 {d : Nat} {σ : zS} {Q : Option Value → zS → Prop} (hl : zLay σ) {a0 b0 : Nat} {x1 x2 : Int32} (ha0 : zk a0 = 2) (hb0 : zk b0 = 4) : zW (d + 1) kX2_foremost 24 [.ref a0, .int x1, .int x2] [.ref b0] σ Q ↔ (if (zI σ b0 6) = (0 : Int32) then Q (some (.int x2)) σ else (vp_in x2 6 ∧ zW (d + 1) kX2_foremost 38 [.ref a0, .int x1, .int x2] (va_rf (zR σ (a0 + 1) (x2 : Int32).toNatClampNeg) :: []) σ Q)) := by
  refine Iff.trans (zw_getI (show decode cX2_foremost 24 = .ok (.getfield 181, 3) by decide +kernel) (by decide +kernel : zfld 2 181 = some (4, 6)) (hl.k2 hb0) (hl.n2 hb0) (Or.inl rfl) (w := zI σ b0 6) rfl) ?_
  refine Iff.trans (zw_if_ne (t := 32) (show decode cX2_foremost 27 = .ok (.ifCond .ne 5, 3) by decide +kernel) (by decide)) ?_
  refine zw_ite ?_ ?_
  · refine Iff.trans (zw_iload_n (show decode cX2_foremost 30 = .ok (.iload_n 2, 1) by decide +kernel) rfl) ?_
    exact zw_iret1 (show decode cX2_foremost 31 = .ok (.ireturn, 1) by decide +kernel) rfl
  · refine Iff.trans (zw_aload_n (show decode cX2_foremost 32 = .ok (.aload_n 0, 1) by decide +kernel) rfl) ?_
    refine Iff.trans (zw_get (show decode cX2_foremost 33 = .ok (.getfield 11, 3) by decide +kernel) (by decide +kernel : zfld 2 11 = some (2, 0)) (hl.k2 ha0) (hl.n2 ha0) (zgetR (v := a0 + 1) (hl.r (zrt2_0 ha0)) rfl)) ?_
    refine Iff.trans (zw_iload_n (show decode cX2_foremost 36 = .ok (.iload_n 2, 1) by decide +kernel) rfl) ?_
    refine Iff.trans (zw_aald (show decode cX2_foremost 37 = .ok (.aaload, 1) by decide +kernel) (by rw [(hl.k2 (zf_race ha0).1.1)]; decide) (hl.n2 (zf_race ha0).1.1) (hl.l2 (zf_race ha0).1.1 (zf_race ha0).1.2)) ?_
    refine zw_and ?_
    exact Iff.rfl

theorem bX2_foremost_38 {d : Nat} {σ : zS} {Q : Option Value → zS → Prop} (hl : zLay σ) {a0 b0 : Nat} {x1 x2 : Int32} (ha0 : zk a0 = 2) (hb0 : zk b0 = 4) : zW (d + 1) kX2_foremost 38 [.ref a0, .int x1, .int x2] [.ref b0] σ Q ↔ zCall d kX2_xOf [.ref a0, .int x1] σ (fun r σ' => zisN r = true ∧ zW (d + 1) kX2_foremost 46 [.ref a0, .int x1, .int x2] (zRstk r ++ [.int (zI σ b0 2)]) σ' Q) := by
  refine Iff.trans (zw_getI (show decode cX2_foremost 38 = .ok (.getfield 96, 3) by decide +kernel) (by decide +kernel : zfld 2 96 = some (4, 2)) (hl.k2 hb0) (hl.n2 hb0) (Or.inl rfl) (w := zI σ b0 2) rfl) ?_
  refine Iff.trans (zw_aload_n (show decode cX2_foremost 41 = .ok (.aload_n 0, 1) by decide +kernel) rfl) ?_
  refine Iff.trans (zw_iload_n (show decode cX2_foremost 42 = .ok (.iload_n 1, 1) by decide +kernel) rfl) ?_
  refine Iff.trans (zw_invV (K' := kX2_xOf) (as' := [.int x1]) (rest := [.int (zI σ b0 2)]) (show decode cX2_foremost 43 = .ok (.invokevirtual 93, 3) by decide +kernel) (by rfl) rfl rfl rfl (hl.k2 ha0) (by decide) (hl.n2 ha0) ⟨Nat.le_of_ble_eq_true rfl, Nat.le_of_ble_eq_true rfl, Nat.le_of_ble_eq_true rfl⟩) ?_
  exact Iff.rfl

theorem bX2_foremost_46 {d : Nat} {σ : zS} {Q : Option Value → zS → Prop} (hl : zLay σ) {a0 : Nat} {x1 x2 y0 y1 : Int32} (ha0 : zk a0 = 2) : zW (d + 1) kX2_foremost 46 [.ref a0, .int x1, .int x2] [.int y0, .int y1] σ Q ↔ (if y1 ≤ y0 then zW (d + 1) kX2_foremost 4 [.ref a0, .int x1, .int (x2 + 1)] [] σ Q else zW (d + 1) kX2_foremost 4 [.ref a0, .int x2, .int (x2 + 1)] [] σ Q) := by
  refine Iff.trans (zw_icmp_le (t := 51) (show decode cX2_foremost 46 = .ok (.if_icmp .le 5, 3) by decide +kernel) (by decide)) ?_
  refine zw_ite ?_ ?_
  · refine Iff.trans (zw_iinc (w := 1) (ls' := [.ref a0, .int x1, .int (x2 + 1)]) (show decode cX2_foremost 51 = .ok (.iinc 2 1, 3) by decide +kernel) rfl (by decide) (zset_s (Nat.le_of_ble_eq_true rfl) rfl)) ?_
    refine Iff.trans (zw_goto (t := 4) (show decode cX2_foremost 54 = .ok (.goto (-50), 3) by decide +kernel) (by decide)) ?_
    exact Iff.rfl
  · refine Iff.trans (zw_iload_n (show decode cX2_foremost 49 = .ok (.iload_n 2, 1) by decide +kernel) rfl) ?_
    refine Iff.trans (zw_istore_n (ls' := [.ref a0, .int x2, .int x2]) (show decode cX2_foremost 50 = .ok (.istore_n 1, 1) by decide +kernel) (zset_s (Nat.le_of_ble_eq_true rfl) rfl)) ?_
    refine Iff.trans (zw_iinc (w := 1) (ls' := [.ref a0, .int x2, .int (x2 + 1)]) (show decode cX2_foremost 51 = .ok (.iinc 2 1, 3) by decide +kernel) rfl (by decide) (zset_s (Nat.le_of_ble_eq_true rfl) rfl)) ?_
    refine Iff.trans (zw_goto (t := 4) (show decode cX2_foremost 54 = .ok (.goto (-50), 3) by decide +kernel) (by decide)) ?_
    exact Iff.rfl

theorem bX2_narrow_0 {d : Nat} {σ : zS} {Q : Option Value → zS → Prop} (hl : zLay σ) {a0 : Nat} (ha0 : zk a0 = 2) : zCall d kX2_narrow [.ref a0] σ Q ↔ zW d kX2_narrow 6 [.ref a0, .int 0, .int (-1), .int 0] [] σ Q := by
  show zW d kX2_narrow 0 [.ref a0, .retAddr 0, .retAddr 0, .retAddr 0] [] σ Q ↔ _
  refine Iff.trans (zw_iconst (x := 0) (show decode cX2_narrow 0 = .ok (.iconst 0, 1) by decide +kernel) (by decide)) ?_
  refine Iff.trans (zw_istore_n (ls' := [.ref a0, .int 0, .retAddr 0, .retAddr 0]) (show decode cX2_narrow 1 = .ok (.istore_n 1, 1) by decide +kernel) (zset_s (Nat.le_of_ble_eq_true rfl) rfl)) ?_
  refine Iff.trans (zw_iconst (x := (-1)) (show decode cX2_narrow 2 = .ok (.iconst (-1), 1) by decide +kernel) (by decide)) ?_
  refine Iff.trans (zw_istore_n (ls' := [.ref a0, .int 0, .int (-1), .retAddr 0]) (show decode cX2_narrow 3 = .ok (.istore_n 2, 1) by decide +kernel) (zset_s (Nat.le_of_ble_eq_true rfl) rfl)) ?_
  refine Iff.trans (zw_iconst (x := 0) (show decode cX2_narrow 4 = .ok (.iconst 0, 1) by decide +kernel) (by decide)) ?_
  refine Iff.trans (zw_istore_n (ls' := [.ref a0, .int 0, .int (-1), .int 0]) (show decode cX2_narrow 5 = .ok (.istore_n 3, 1) by decide +kernel) (zset_s (Nat.le_of_ble_eq_true rfl) rfl)) ?_
  exact Iff.rfl

theorem bX2_narrow_6 {d : Nat} {σ : zS} {Q : Option Value → zS → Prop} (hl : zLay σ) {a0 : Nat} {x1 x2 x3 : Int32} (ha0 : zk a0 = 2) : zW d kX2_narrow 6 [.ref a0, .int x1, .int x2, .int x3] [] σ Q ↔ (if 16 ≤ x3 then Q (some (.int x2)) σ else (vp_in x3 16 ∧ (if (zI σ (a0 + 3) (x3 : Int32).toNatClampNeg) ≤ x1 then zW d kX2_narrow 6 [.ref a0, .int x1, .int x2, .int (x3 + 1)] [] σ Q else (vp_in x3 16 ∧ zW d kX2_narrow 6 [.ref a0, .int (zI σ (a0 + 3) (x3 : Int32).toNatClampNeg), .int x3, .int (x3 + 1)] [] σ Q)))) := by
  refine Iff.trans (zw_iload_n (show decode cX2_narrow 6 = .ok (.iload_n 3, 1) by decide +kernel) rfl) ?_
  refine Iff.trans (zw_bipush (x := 16) (show decode cX2_narrow 7 = .ok (.bipush 16, 2) by decide +kernel) (by decide)) ?_
  refine Iff.trans (zw_icmp_ge (t := 37) (show decode cX2_narrow 9 = .ok (.if_icmp .ge 28, 3) by decide +kernel) (by decide)) ?_
  refine zw_ite ?_ ?_
  · refine Iff.trans (zw_iload_n (show decode cX2_narrow 37 = .ok (.iload_n 2, 1) by decide +kernel) rfl) ?_
    exact zw_iret1 (show decode cX2_narrow 38 = .ok (.ireturn, 1) by decide +kernel) rfl
  · refine Iff.trans (zw_aload_n (show decode cX2_narrow 12 = .ok (.aload_n 0, 1) by decide +kernel) rfl) ?_
    refine Iff.trans (zw_get (show decode cX2_narrow 13 = .ok (.getfield 21, 3) by decide +kernel) (by decide +kernel : zfld 2 21 = some (2, 2)) (hl.k2 ha0) (hl.n2 ha0) (zgetR (v := a0 + 3) (hl.r (zrt2_2 ha0)) rfl)) ?_
    refine Iff.trans (zw_iload_n (show decode cX2_narrow 16 = .ok (.iload_n 3, 1) by decide +kernel) rfl) ?_
    refine Iff.trans (zw_iald2 (show decode cX2_narrow 17 = .ok (.iaload, 1) by decide +kernel) (hl.k2 (zf_race ha0).2.2.1.1) (hl.n2 (zf_race ha0).2.2.1.1) (hl.l2 (zf_race ha0).2.2.1.1 (zf_race ha0).2.2.1.2) (w := zI σ (a0 + 3) (x3 : Int32).toNatClampNeg) rfl) ?_
    refine zw_and ?_
    refine Iff.trans (zw_iload_n (show decode cX2_narrow 18 = .ok (.iload_n 1, 1) by decide +kernel) rfl) ?_
    refine Iff.trans (zw_icmp_le (t := 31) (show decode cX2_narrow 19 = .ok (.if_icmp .le 12, 3) by decide +kernel) (by decide)) ?_
    refine zw_ite ?_ ?_
    · refine Iff.trans (zw_iinc (w := 1) (ls' := [.ref a0, .int x1, .int x2, .int (x3 + 1)]) (show decode cX2_narrow 31 = .ok (.iinc 3 1, 3) by decide +kernel) rfl (by decide) (zset_s (Nat.le_of_ble_eq_true rfl) rfl)) ?_
      refine Iff.trans (zw_goto (t := 6) (show decode cX2_narrow 34 = .ok (.goto (-28), 3) by decide +kernel) (by decide)) ?_
      exact Iff.rfl
    · refine Iff.trans (zw_aload_n (show decode cX2_narrow 22 = .ok (.aload_n 0, 1) by decide +kernel) rfl) ?_
      refine Iff.trans (zw_get (show decode cX2_narrow 23 = .ok (.getfield 21, 3) by decide +kernel) (by decide +kernel : zfld 2 21 = some (2, 2)) (hl.k2 ha0) (hl.n2 ha0) (zgetR (v := a0 + 3) (hl.r (zrt2_2 ha0)) rfl)) ?_
      refine Iff.trans (zw_iload_n (show decode cX2_narrow 26 = .ok (.iload_n 3, 1) by decide +kernel) rfl) ?_
      refine Iff.trans (zw_iald2 (show decode cX2_narrow 27 = .ok (.iaload, 1) by decide +kernel) (hl.k2 (zf_race ha0).2.2.1.1) (hl.n2 (zf_race ha0).2.2.1.1) (hl.l2 (zf_race ha0).2.2.1.1 (zf_race ha0).2.2.1.2) (w := zI σ (a0 + 3) (x3 : Int32).toNatClampNeg) rfl) ?_
      refine zw_and ?_
      refine Iff.trans (zw_istore_n (ls' := [.ref a0, .int (zI σ (a0 + 3) (x3 : Int32).toNatClampNeg), .int x2, .int x3]) (show decode cX2_narrow 28 = .ok (.istore_n 1, 1) by decide +kernel) (zset_s (Nat.le_of_ble_eq_true rfl) rfl)) ?_
      refine Iff.trans (zw_iload_n (show decode cX2_narrow 29 = .ok (.iload_n 3, 1) by decide +kernel) rfl) ?_
      refine Iff.trans (zw_istore_n (ls' := [.ref a0, .int (zI σ (a0 + 3) (x3 : Int32).toNatClampNeg), .int x3, .int x3]) (show decode cX2_narrow 30 = .ok (.istore_n 2, 1) by decide +kernel) (zset_s (Nat.le_of_ble_eq_true rfl) rfl)) ?_
      refine Iff.trans (zw_iinc (w := 1) (ls' := [.ref a0, .int (zI σ (a0 + 3) (x3 : Int32).toNatClampNeg), .int x3, .int (x3 + 1)]) (show decode cX2_narrow 31 = .ok (.iinc 3 1, 3) by decide +kernel) rfl (by decide) (zset_s (Nat.le_of_ble_eq_true rfl) rfl)) ?_
      refine Iff.trans (zw_goto (t := 6) (show decode cX2_narrow 34 = .ok (.goto (-28), 3) by decide +kernel) (by decide)) ?_
      exact Iff.rfl

theorem bX2_copyFrom_0 {d : Nat} {σ : zS} {Q : Option Value → zS → Prop} (hl : zLay σ) {a0 a1 : Nat} (ha0 : zk a0 = 2) (ha1 : zk a1 = 2) (hne : a0 + 4 ≤ a1 ∨ a1 + 4 ≤ a0) : zCall (d + 1) kX2_copyFrom [.ref a0, .ref a1] σ Q ↔ zW (d + 1) kX2_copyFrom 5 [.ref a0, .ref a1, .retAddr 0] (va_rf ((zR σ a1) 3) :: [.ref a0]) σ Q := by
  show zW (d + 1) kX2_copyFrom 0 [.ref a0, .ref a1, .retAddr 0] [] σ Q ↔ _
  refine Iff.trans (zw_aload_n (show decode cX2_copyFrom 0 = .ok (.aload_n 0, 1) by decide +kernel) rfl) ?_
  refine Iff.trans (zw_aload_n (show decode cX2_copyFrom 1 = .ok (.aload_n 1, 1) by decide +kernel) rfl) ?_
  refine Iff.trans (zw_getR (show decode cX2_copyFrom 2 = .ok (.getfield 27, 3) by decide +kernel) (by decide +kernel : zfld 2 27 = some (2, 3)) (hl.k2 ha1) (hl.n2 ha1) rfl (w := (zR σ a1) 3) rfl) ?_
  exact Iff.rfl

theorem bX2_copyFrom_5 {d : Nat} {σ : zS} {Q : Option Value → zS → Prop} (hl : zLay σ) {a0 a1 b0 : Nat} (ha0 : zk a0 = 2) (ha1 : zk a1 = 2) (hb0 : zk b0 = 0) (hne : a0 + 4 ≤ a1 ∨ a1 + 4 ≤ a0) : zW (d + 1) kX2_copyFrom 5 [.ref a0, .ref a1, .retAddr 0] [.ref b0, .ref a0] σ Q ↔ (((zI σ a1 8) = (0 : Int32) ∨ (zI σ a1 8) = 1) ∧ (((zI σ a1 9) = (0 : Int32) ∨ (zI σ a1 9) = 1) ∧ zW (d + 1) kX2_copyFrom 73 [.ref a0, .ref a1, .int 0] [] (zsI (zsI (zsL (zsI (zsR σ a0 (va_up (zR σ a0) 3 (some b0))) a0 (upd (upd (upd (zI σ a0) 4 (zI σ a1 4)) 5 (zI σ a1 5)) 6 (zI σ a1 6))) a0 (vp_updL (zL σ a0) 7 ((zL σ a1) 7))) a0 (upd (upd (upd (upd (upd (zI σ a0) 4 (zI σ a1 4)) 5 (zI σ a1 5)) 6 (zI σ a1 6)) 8 (zI σ a1 8)) 9 (zI σ a1 9))) (a0 + 3) (va_cpy (zI σ (a1 + 3)) (zI σ (a0 + 3)) (0 : Int32).toNatClampNeg (0 : Int32).toNatClampNeg (16 : Int32).toNatClampNeg)) Q)) := by
  refine Iff.trans (zw_putR (show decode cX2_copyFrom 5 = .ok (.putfield 27, 3) by decide +kernel) (by decide +kernel : zfld 2 27 = some (2, 3)) (hl.k2 ha0) (hl.n2 ha0) rfl rfl (σ' := (zsR σ a0 (va_up (zR σ a0) 3 (some b0)))) rfl) ?_
  refine Iff.trans (zw_aload_n (show decode cX2_copyFrom 8 = .ok (.aload_n 0, 1) by decide +kernel) rfl) ?_
  refine Iff.trans (zw_aload_n (show decode cX2_copyFrom 9 = .ok (.aload_n 1, 1) by decide +kernel) rfl) ?_
  refine Iff.trans (zw_getI (show decode cX2_copyFrom 10 = .ok (.getfield 32, 3) by decide +kernel) (by decide +kernel : zfld 2 32 = some (2, 4)) ((hl.Rf (zrtN2_3 ha0) rfl).k2 ha1) ((hl.Rf (zrtN2_3 ha0) rfl).n2 ha1) (Or.inl rfl) (w := zI σ a1 4) rfl) ?_
  refine Iff.trans (zw_putI (show decode cX2_copyFrom 13 = .ok (.putfield 32, 3) by decide +kernel) (by decide +kernel : zfld 2 32 = some (2, 4)) ((hl.Rf (zrtN2_3 ha0) rfl).k2 ha0) ((hl.Rf (zrtN2_3 ha0) rfl).n2 ha0) rfl (Or.inl rfl) (σ' := (zsI (zsR σ a0 (va_up (zR σ a0) 3 (some b0))) a0 (upd (zI σ a0) 4 (zI σ a1 4)))) rfl) ?_
  refine Iff.trans (zw_aload_n (show decode cX2_copyFrom 16 = .ok (.aload_n 0, 1) by decide +kernel) rfl) ?_
  refine Iff.trans (zw_aload_n (show decode cX2_copyFrom 17 = .ok (.aload_n 1, 1) by decide +kernel) rfl) ?_
  refine Iff.trans (zw_getI (show decode cX2_copyFrom 18 = .ok (.getfield 36, 3) by decide +kernel) (by decide +kernel : zfld 2 36 = some (2, 5)) ((hl.Rf (zrtN2_3 ha0) rfl).I.k2 ha1) ((hl.Rf (zrtN2_3 ha0) rfl).I.n2 ha1) (Or.inl rfl) (w := zI σ a1 5) (congrFun (Eq.trans (zI_ne (by omega)) (zI_sR _ _ _ _)) 5)) ?_
  refine Iff.trans (zw_putI (show decode cX2_copyFrom 21 = .ok (.putfield 36, 3) by decide +kernel) (by decide +kernel : zfld 2 36 = some (2, 5)) ((hl.Rf (zrtN2_3 ha0) rfl).I.k2 ha0) ((hl.Rf (zrtN2_3 ha0) rfl).I.n2 ha0) rfl (Or.inl rfl) (σ' := (zsI (zsR σ a0 (va_up (zR σ a0) 3 (some b0))) a0 (upd (upd (zI σ a0) 4 (zI σ a1 4)) 5 (zI σ a1 5)))) (Eq.trans (congrArg (fun f => zsI (zsI (zsR σ a0 (va_up (zR σ a0) 3 (some b0))) a0 (upd (zI σ a0) 4 (zI σ a1 4))) a0 (upd f 5 (zI σ a1 5))) zI_self) zsI_s)) ?_
  refine Iff.trans (zw_aload_n (show decode cX2_copyFrom 24 = .ok (.aload_n 0, 1) by decide +kernel) rfl) ?_
  refine Iff.trans (zw_aload_n (show decode cX2_copyFrom 25 = .ok (.aload_n 1, 1) by decide +kernel) rfl) ?_
  refine Iff.trans (zw_getI (show decode cX2_copyFrom 26 = .ok (.getfield 39, 3) by decide +kernel) (by decide +kernel : zfld 2 39 = some (2, 6)) ((hl.Rf (zrtN2_3 ha0) rfl).I.k2 ha1) ((hl.Rf (zrtN2_3 ha0) rfl).I.n2 ha1) (Or.inl rfl) (w := zI σ a1 6) (congrFun (Eq.trans (zI_ne (by omega)) (zI_sR _ _ _ _)) 6)) ?_
  refine Iff.trans (zw_putI (show decode cX2_copyFrom 29 = .ok (.putfield 39, 3) by decide +kernel) (by decide +kernel : zfld 2 39 = some (2, 6)) ((hl.Rf (zrtN2_3 ha0) rfl).I.k2 ha0) ((hl.Rf (zrtN2_3 ha0) rfl).I.n2 ha0) rfl (Or.inl rfl) (σ' := (zsI (zsR σ a0 (va_up (zR σ a0) 3 (some b0))) a0 (upd (upd (upd (zI σ a0) 4 (zI σ a1 4)) 5 (zI σ a1 5)) 6 (zI σ a1 6)))) (Eq.trans (congrArg (fun f => zsI (zsI (zsR σ a0 (va_up (zR σ a0) 3 (some b0))) a0 (upd (upd (zI σ a0) 4 (zI σ a1 4)) 5 (zI σ a1 5))) a0 (upd f 6 (zI σ a1 6))) zI_self) zsI_s)) ?_
  refine Iff.trans (zw_aload_n (show decode cX2_copyFrom 32 = .ok (.aload_n 0, 1) by decide +kernel) rfl) ?_
  refine Iff.trans (zw_aload_n (show decode cX2_copyFrom 33 = .ok (.aload_n 1, 1) by decide +kernel) rfl) ?_
  refine Iff.trans (zw_getL (show decode cX2_copyFrom 34 = .ok (.getfield 66, 3) by decide +kernel) (by decide +kernel : zfld 2 66 = some (2, 7)) ((hl.Rf (zrtN2_3 ha0) rfl).I.k2 ha1) ((hl.Rf (zrtN2_3 ha0) rfl).I.n2 ha1) rfl (w := (zL σ a1) 7) rfl) ?_
  refine Iff.trans (zw_putL (show decode cX2_copyFrom 37 = .ok (.putfield 66, 3) by decide +kernel) (by decide +kernel : zfld 2 66 = some (2, 7)) ((hl.Rf (zrtN2_3 ha0) rfl).I.k2 ha0) ((hl.Rf (zrtN2_3 ha0) rfl).I.n2 ha0) rfl rfl (σ' := (zsL (zsI (zsR σ a0 (va_up (zR σ a0) 3 (some b0))) a0 (upd (upd (upd (zI σ a0) 4 (zI σ a1 4)) 5 (zI σ a1 5)) 6 (zI σ a1 6))) a0 (vp_updL (zL σ a0) 7 ((zL σ a1) 7)))) rfl) ?_
  refine Iff.trans (zw_aload_n (show decode cX2_copyFrom 40 = .ok (.aload_n 0, 1) by decide +kernel) rfl) ?_
  refine Iff.trans (zw_aload_n (show decode cX2_copyFrom 41 = .ok (.aload_n 1, 1) by decide +kernel) rfl) ?_
  refine Iff.trans (zw_getI (show decode cX2_copyFrom 42 = .ok (.getfield 70, 3) by decide +kernel) (by decide +kernel : zfld 2 70 = some (2, 8)) ((hl.Rf (zrtN2_3 ha0) rfl).I.L.k2 ha1) ((hl.Rf (zrtN2_3 ha0) rfl).I.L.n2 ha1) (Or.inr rfl) (w := zI σ a1 8) (congrFun (Eq.trans (zI_sL _ _ _ _) (Eq.trans (zI_ne (by omega)) (zI_sR _ _ _ _))) 8)) ?_
  refine Iff.trans (zw_putZ2 (show decode cX2_copyFrom 45 = .ok (.putfield 70, 3) by decide +kernel) (by decide +kernel : zfld 2 70 = some (2, 8)) ((hl.Rf (zrtN2_3 ha0) rfl).I.L.k2 ha0) ((hl.Rf (zrtN2_3 ha0) rfl).I.L.n2 ha0) rfl rfl (σ' := (zsI (zsL (zsI (zsR σ a0 (va_up (zR σ a0) 3 (some b0))) a0 (upd (upd (upd (zI σ a0) 4 (zI σ a1 4)) 5 (zI σ a1 5)) 6 (zI σ a1 6))) a0 (vp_updL (zL σ a0) 7 ((zL σ a1) 7))) a0 (upd (upd (upd (upd (zI σ a0) 4 (zI σ a1 4)) 5 (zI σ a1 5)) 6 (zI σ a1 6)) 8 (zI σ a1 8)))) (congrArg (fun f => zsI (zsL (zsI (zsR σ a0 (va_up (zR σ a0) 3 (some b0))) a0 (upd (upd (upd (zI σ a0) 4 (zI σ a1 4)) 5 (zI σ a1 5)) 6 (zI σ a1 6))) a0 (vp_updL (zL σ a0) 7 ((zL σ a1) 7))) a0 (upd f 8 (zI σ a1 8))) (Eq.trans (zI_sL _ _ _ _) zI_self))) ?_
  refine zw_and ?_
  refine Iff.trans (zw_aload_n (show decode cX2_copyFrom 48 = .ok (.aload_n 0, 1) by decide +kernel) rfl) ?_
  refine Iff.trans (zw_aload_n (show decode cX2_copyFrom 49 = .ok (.aload_n 1, 1) by decide +kernel) rfl) ?_
  refine Iff.trans (zw_getI (show decode cX2_copyFrom 50 = .ok (.getfield 42, 3) by decide +kernel) (by decide +kernel : zfld 2 42 = some (2, 9)) ((hl.Rf (zrtN2_3 ha0) rfl).I.L.I.k2 ha1) ((hl.Rf (zrtN2_3 ha0) rfl).I.L.I.n2 ha1) (Or.inr rfl) (w := zI σ a1 9) (congrFun (Eq.trans (zI_ne (by omega)) (Eq.trans (zI_sL _ _ _ _) (Eq.trans (zI_ne (by omega)) (zI_sR _ _ _ _)))) 9)) ?_
  refine Iff.trans (zw_putZ2 (show decode cX2_copyFrom 53 = .ok (.putfield 42, 3) by decide +kernel) (by decide +kernel : zfld 2 42 = some (2, 9)) ((hl.Rf (zrtN2_3 ha0) rfl).I.L.I.k2 ha0) ((hl.Rf (zrtN2_3 ha0) rfl).I.L.I.n2 ha0) rfl rfl (σ' := (zsI (zsL (zsI (zsR σ a0 (va_up (zR σ a0) 3 (some b0))) a0 (upd (upd (upd (zI σ a0) 4 (zI σ a1 4)) 5 (zI σ a1 5)) 6 (zI σ a1 6))) a0 (vp_updL (zL σ a0) 7 ((zL σ a1) 7))) a0 (upd (upd (upd (upd (upd (zI σ a0) 4 (zI σ a1 4)) 5 (zI σ a1 5)) 6 (zI σ a1 6)) 8 (zI σ a1 8)) 9 (zI σ a1 9)))) (Eq.trans (congrArg (fun f => zsI (zsI (zsL (zsI (zsR σ a0 (va_up (zR σ a0) 3 (some b0))) a0 (upd (upd (upd (zI σ a0) 4 (zI σ a1 4)) 5 (zI σ a1 5)) 6 (zI σ a1 6))) a0 (vp_updL (zL σ a0) 7 ((zL σ a1) 7))) a0 (upd (upd (upd (upd (zI σ a0) 4 (zI σ a1 4)) 5 (zI σ a1 5)) 6 (zI σ a1 6)) 8 (zI σ a1 8))) a0 (upd f 9 (zI σ a1 9))) zI_self) zsI_s)) ?_
  refine zw_and ?_
  refine Iff.trans (zw_aload_n (show decode cX2_copyFrom 56 = .ok (.aload_n 1, 1) by decide +kernel) rfl) ?_
  refine Iff.trans (zw_get (show decode cX2_copyFrom 57 = .ok (.getfield 21, 3) by decide +kernel) (by decide +kernel : zfld 2 21 = some (2, 2)) ((hl.Rf (zrtN2_3 ha0) rfl).I.L.I.k2 ha1) ((hl.Rf (zrtN2_3 ha0) rfl).I.L.I.n2 ha1) (zgetR (v := a1 + 3) ((hl.Rf (zrtN2_3 ha0) rfl).I.L.I.r (zrt2_2 ha1)) rfl)) ?_
  refine Iff.trans (zw_iconst (x := 0) (show decode cX2_copyFrom 60 = .ok (.iconst 0, 1) by decide +kernel) (by decide)) ?_
  refine Iff.trans (zw_aload_n (show decode cX2_copyFrom 61 = .ok (.aload_n 0, 1) by decide +kernel) rfl) ?_
  refine Iff.trans (zw_get (show decode cX2_copyFrom 62 = .ok (.getfield 21, 3) by decide +kernel) (by decide +kernel : zfld 2 21 = some (2, 2)) ((hl.Rf (zrtN2_3 ha0) rfl).I.L.I.k2 ha0) ((hl.Rf (zrtN2_3 ha0) rfl).I.L.I.n2 ha0) (zgetR (v := a0 + 3) ((hl.Rf (zrtN2_3 ha0) rfl).I.L.I.r (zrt2_2 ha0)) rfl)) ?_
  refine Iff.trans (zw_iconst (x := 0) (show decode cX2_copyFrom 65 = .ok (.iconst 0, 1) by decide +kernel) (by decide)) ?_
  refine Iff.trans (zw_bipush (x := 16) (show decode cX2_copyFrom 66 = .ok (.bipush 16, 2) by decide +kernel) (by decide)) ?_
  refine Iff.trans (zw_ncopy2 (show decode cX2_copyFrom 68 = .ok (.invokestatic 196, 3) by decide +kernel) (by rfl) (Nat.le_of_ble_eq_true rfl) ((hl.Rf (zrtN2_3 ha0) rfl).I.L.I.k2 (zf_race ha1).2.2.1.1) ((hl.Rf (zrtN2_3 ha0) rfl).I.L.I.k2 (zf_race ha0).2.2.1.1) ((hl.Rf (zrtN2_3 ha0) rfl).I.L.I.l2 (zf_race ha1).2.2.1.1 (zf_race ha1).2.2.1.2) ((hl.Rf (zrtN2_3 ha0) rfl).I.L.I.l2 (zf_race ha0).2.2.1.1 (zf_race ha0).2.2.1.2) (by decide) (σ' := (zsI (zsI (zsL (zsI (zsR σ a0 (va_up (zR σ a0) 3 (some b0))) a0 (upd (upd (upd (zI σ a0) 4 (zI σ a1 4)) 5 (zI σ a1 5)) 6 (zI σ a1 6))) a0 (vp_updL (zL σ a0) 7 ((zL σ a1) 7))) a0 (upd (upd (upd (upd (upd (zI σ a0) 4 (zI σ a1 4)) 5 (zI σ a1 5)) 6 (zI σ a1 6)) 8 (zI σ a1 8)) 9 (zI σ a1 9))) (a0 + 3) (va_cpy (zI σ (a1 + 3)) (zI σ (a0 + 3)) (0 : Int32).toNatClampNeg (0 : Int32).toNatClampNeg (16 : Int32).toNatClampNeg))) (zcong2 (fun f g => zsI (zsI (zsL (zsI (zsR σ a0 (va_up (zR σ a0) 3 (some b0))) a0 (upd (upd (upd (zI σ a0) 4 (zI σ a1 4)) 5 (zI σ a1 5)) 6 (zI σ a1 6))) a0 (vp_updL (zL σ a0) 7 ((zL σ a1) 7))) a0 (upd (upd (upd (upd (upd (zI σ a0) 4 (zI σ a1 4)) 5 (zI σ a1 5)) 6 (zI σ a1 6)) 8 (zI σ a1 8)) 9 (zI σ a1 9))) (a0 + 3) (va_cpy f g (0 : Int32).toNatClampNeg (0 : Int32).toNatClampNeg (16 : Int32).toNatClampNeg)) (Eq.trans (zI_ne (by omega)) (Eq.trans (zI_sL _ _ _ _) (Eq.trans (zI_ne (by omega)) (zI_sR _ _ _ _)))) (Eq.trans (zI_ne (by omega)) (Eq.trans (zI_sL _ _ _ _) (Eq.trans (zI_ne (by omega)) (zI_sR _ _ _ _)))))) ?_
  refine Iff.trans (zw_iconst (x := 0) (show decode cX2_copyFrom 71 = .ok (.iconst 0, 1) by decide +kernel) (by decide)) ?_
  refine Iff.trans (zw_istore_n (ls' := [.ref a0, .ref a1, .int 0]) (show decode cX2_copyFrom 72 = .ok (.istore_n 2, 1) by decide +kernel) (zset_s (Nat.le_of_ble_eq_true rfl) rfl)) ?_
  exact Iff.rfl

theorem bX2_copyFrom_73 {d : Nat} {σ : zS} {Q : Option Value → zS → Prop} (hl : zLay σ) {a0 a1 : Nat} {x2 : Int32} (ha0 : zk a0 = 2) (ha1 : zk a1 = 2) (hne : a0 + 4 ≤ a1 ∨ a1 + 4 ≤ a0) : zW (d + 1) kX2_copyFrom 73 [.ref a0, .ref a1, .int x2] [] σ Q ↔ (if 6 ≤ x2 then Q none σ else (vp_in x2 6 ∧ zW (d + 1) kX2_copyFrom 85 [.ref a0, .ref a1, .int x2] (va_rf (zR σ (a0 + 1) (x2 : Int32).toNatClampNeg) :: []) σ Q)) := by
  refine Iff.trans (zw_iload_n (show decode cX2_copyFrom 73 = .ok (.iload_n 2, 1) by decide +kernel) rfl) ?_
  refine Iff.trans (zw_bipush (x := 6) (show decode cX2_copyFrom 74 = .ok (.bipush 6, 2) by decide +kernel) (by decide)) ?_
  refine Iff.trans (zw_icmp_ge (t := 100) (show decode cX2_copyFrom 76 = .ok (.if_icmp .ge 24, 3) by decide +kernel) (by decide)) ?_
  refine zw_ite ?_ ?_
  · exact zw_ret (show decode cX2_copyFrom 100 = .ok (.return_, 1) by decide +kernel) rfl
  · refine Iff.trans (zw_aload_n (show decode cX2_copyFrom 79 = .ok (.aload_n 0, 1) by decide +kernel) rfl) ?_
    refine Iff.trans (zw_get (show decode cX2_copyFrom 80 = .ok (.getfield 11, 3) by decide +kernel) (by decide +kernel : zfld 2 11 = some (2, 0)) (hl.k2 ha0) (hl.n2 ha0) (zgetR (v := a0 + 1) (hl.r (zrt2_0 ha0)) rfl)) ?_
    refine Iff.trans (zw_iload_n (show decode cX2_copyFrom 83 = .ok (.iload_n 2, 1) by decide +kernel) rfl) ?_
    refine Iff.trans (zw_aald (show decode cX2_copyFrom 84 = .ok (.aaload, 1) by decide +kernel) (by rw [(hl.k2 (zf_race ha0).1.1)]; decide) (hl.n2 (zf_race ha0).1.1) (hl.l2 (zf_race ha0).1.1 (zf_race ha0).1.2)) ?_
    refine zw_and ?_
    exact Iff.rfl

theorem bX2_copyFrom_85 {d : Nat} {σ : zS} {Q : Option Value → zS → Prop} (hl : zLay σ) {a0 a1 b0 : Nat} {x2 : Int32} (ha0 : zk a0 = 2) (ha1 : zk a1 = 2) (hb0 : zk b0 = 4) (hne : a0 + 4 ≤ a1 ∨ a1 + 4 ≤ a0) : zW (d + 1) kX2_copyFrom 85 [.ref a0, .ref a1, .int x2] [.ref b0] σ Q ↔ (vp_in x2 6 ∧ zW (d + 1) kX2_copyFrom 91 [.ref a0, .ref a1, .int x2] (va_rf (zR σ (a1 + 1) (x2 : Int32).toNatClampNeg) :: [.ref b0]) σ Q) := by
  refine Iff.trans (zw_aload_n (show decode cX2_copyFrom 85 = .ok (.aload_n 1, 1) by decide +kernel) rfl) ?_
  refine Iff.trans (zw_get (show decode cX2_copyFrom 86 = .ok (.getfield 11, 3) by decide +kernel) (by decide +kernel : zfld 2 11 = some (2, 0)) (hl.k2 ha1) (hl.n2 ha1) (zgetR (v := a1 + 1) (hl.r (zrt2_0 ha1)) rfl)) ?_
  refine Iff.trans (zw_iload_n (show decode cX2_copyFrom 89 = .ok (.iload_n 2, 1) by decide +kernel) rfl) ?_
  refine Iff.trans (zw_aald (show decode cX2_copyFrom 90 = .ok (.aaload, 1) by decide +kernel) (by rw [(hl.k2 (zf_race ha1).1.1)]; decide) (hl.n2 (zf_race ha1).1.1) (hl.l2 (zf_race ha1).1.1 (zf_race ha1).1.2)) ?_
  refine zw_and ?_
  exact Iff.rfl

theorem bX2_copyFrom_91 {d : Nat} {σ : zS} {Q : Option Value → zS → Prop} (hl : zLay σ) {a0 a1 b0 b1 : Nat} {x2 : Int32} (ha0 : zk a0 = 2) (ha1 : zk a1 = 2) (hb0 : zk b0 = 4) (hb1 : zk b1 = 4) (hne : a0 + 4 ≤ a1 ∨ a1 + 4 ≤ a0) : zW (d + 1) kX2_copyFrom 91 [.ref a0, .ref a1, .int x2] [.ref b0, .ref b1] σ Q ↔ zCall d kX4_copyFrom [.ref b1, .ref b0] σ (fun r σ' => zisN r = true ∧ zW (d + 1) kX2_copyFrom 94 [.ref a0, .ref a1, .int x2] (zRstk r ++ []) σ' Q) := by
  refine Iff.trans (zw_invV (K' := kX4_copyFrom) (as' := [.ref b0]) (rest := []) (show decode cX2_copyFrom 91 = .ok (.invokevirtual 202, 3) by decide +kernel) (by rfl) rfl rfl rfl (hl.k2 hb1) (by decide) (hl.n2 hb1) ⟨Nat.le_of_ble_eq_true rfl, Nat.le_of_ble_eq_true rfl, Nat.le_of_ble_eq_true rfl⟩) ?_
  exact Iff.rfl

theorem bX2_copyFrom_94 {d : Nat} {σ : zS} {Q : Option Value → zS → Prop} (hl : zLay σ) {a0 a1 : Nat} {x2 : Int32} (ha0 : zk a0 = 2) (ha1 : zk a1 = 2) (hne : a0 + 4 ≤ a1 ∨ a1 + 4 ≤ a0) : zW (d + 1) kX2_copyFrom 94 [.ref a0, .ref a1, .int x2] [] σ Q ↔ zW (d + 1) kX2_copyFrom 73 [.ref a0, .ref a1, .int (x2 + 1)] [] σ Q := by
  refine Iff.trans (zw_iinc (w := 1) (ls' := [.ref a0, .ref a1, .int (x2 + 1)]) (show decode cX2_copyFrom 94 = .ok (.iinc 2 1, 3) by decide +kernel) rfl (by decide) (zset_s (Nat.le_of_ble_eq_true rfl) rfl)) ?_
  refine Iff.trans (zw_goto (t := 73) (show decode cX2_copyFrom 97 = .ok (.goto (-24), 3) by decide +kernel) (by decide)) ?_
  exact Iff.rfl

theorem bX3_clear_0 {d : Nat} {σ : zS} {Q : Option Value → zS → Prop} (hl : zLay σ) {a0 : Nat} (ha0 : zk a0 = 3) : zCall d kX3_clear [.ref a0] σ Q ↔ Q none (zsI σ a0 (upd (upd (zI σ a0) 1 0) 2 0)) := by
  show zW d kX3_clear 0 [.ref a0] [] σ Q ↔ _
  refine Iff.trans (zw_aload_n (show decode cX3_clear 0 = .ok (.aload_n 0, 1) by decide +kernel) rfl) ?_
  refine Iff.trans (zw_iconst (x := 0) (show decode cX3_clear 1 = .ok (.iconst 0, 1) by decide +kernel) (by decide)) ?_
  refine Iff.trans (zw_putI (show decode cX3_clear 2 = .ok (.putfield 15, 3) by decide +kernel) (by decide +kernel : zfld 3 15 = some (3, 1)) (hl.k2 ha0) (hl.n2 ha0) rfl (Or.inl rfl) (σ' := (zsI σ a0 (upd (zI σ a0) 1 0))) rfl) ?_
  refine Iff.trans (zw_aload_n (show decode cX3_clear 5 = .ok (.aload_n 0, 1) by decide +kernel) rfl) ?_
  refine Iff.trans (zw_iconst (x := 0) (show decode cX3_clear 6 = .ok (.iconst 0, 1) by decide +kernel) (by decide)) ?_
  refine Iff.trans (zw_putI (show decode cX3_clear 7 = .ok (.putfield 19, 3) by decide +kernel) (by decide +kernel : zfld 3 19 = some (3, 2)) (hl.I.k2 ha0) (hl.I.n2 ha0) rfl (Or.inl rfl) (σ' := (zsI σ a0 (upd (upd (zI σ a0) 1 0) 2 0))) (Eq.trans (congrArg (fun f => zsI (zsI σ a0 (upd (zI σ a0) 1 0)) a0 (upd f 2 0)) zI_self) zsI_s)) ?_
  exact zw_ret (show decode cX3_clear 10 = .ok (.return_, 1) by decide +kernel) rfl

theorem bX3_add_0 {d : Nat} {σ : zS} {Q : Option Value → zS → Prop} (hl : zLay σ) {a0 : Nat} {x1 : Int32} (ha0 : zk a0 = 3) : zCall d kX3_add [.ref a0, .int x1] σ Q ↔ (if (zI σ a0 1) < (0 : Int32) then Q none σ else (if (zI σ a0 1) < 40 then zW d kX3_add 22 [.ref a0, .int x1, .int (zI σ a0 1)] [] σ Q else Q none σ)) := by
  show zW d kX3_add 0 [.ref a0, .int x1, .retAddr 0] [] σ Q ↔ _
  refine Iff.trans (zw_aload_n (show decode cX3_add 0 = .ok (.aload_n 0, 1) by decide +kernel) rfl) ?_
  refine Iff.trans (zw_getI (show decode cX3_add 1 = .ok (.getfield 15, 3) by decide +kernel) (by decide +kernel : zfld 3 15 = some (3, 1)) (hl.k2 ha0) (hl.n2 ha0) (Or.inl rfl) (w := zI σ a0 1) rfl) ?_
  refine Iff.trans (zw_if_lt (t := 16) (show decode cX3_add 4 = .ok (.ifCond .lt 12, 3) by decide +kernel) (by decide)) ?_
  refine zw_ite ?_ ?_
  · exact zw_ret (show decode cX3_add 16 = .ok (.return_, 1) by decide +kernel) rfl
  · refine Iff.trans (zw_aload_n (show decode cX3_add 7 = .ok (.aload_n 0, 1) by decide +kernel) rfl) ?_
    refine Iff.trans (zw_getI (show decode cX3_add 8 = .ok (.getfield 15, 3) by decide +kernel) (by decide +kernel : zfld 3 15 = some (3, 1)) (hl.k2 ha0) (hl.n2 ha0) (Or.inl rfl) (w := zI σ a0 1) rfl) ?_
    refine Iff.trans (zw_bipush (x := 40) (show decode cX3_add 11 = .ok (.bipush 40, 2) by decide +kernel) (by decide)) ?_
    refine Iff.trans (zw_icmp_lt (t := 17) (show decode cX3_add 13 = .ok (.if_icmp .lt 4, 3) by decide +kernel) (by decide)) ?_
    refine zw_ite ?_ ?_
    · refine Iff.trans (zw_aload_n (show decode cX3_add 17 = .ok (.aload_n 0, 1) by decide +kernel) rfl) ?_
      refine Iff.trans (zw_getI (show decode cX3_add 18 = .ok (.getfield 15, 3) by decide +kernel) (by decide +kernel : zfld 3 15 = some (3, 1)) (hl.k2 ha0) (hl.n2 ha0) (Or.inl rfl) (w := zI σ a0 1) rfl) ?_
      refine Iff.trans (zw_istore_n (ls' := [.ref a0, .int x1, .int (zI σ a0 1)]) (show decode cX3_add 21 = .ok (.istore_n 2, 1) by decide +kernel) (zset_s (Nat.le_of_ble_eq_true rfl) rfl)) ?_
      exact Iff.rfl
    · exact zw_ret (show decode cX3_add 16 = .ok (.return_, 1) by decide +kernel) rfl

theorem bX3_add_22 {d : Nat} {σ : zS} {Q : Option Value → zS → Prop} (hl : zLay σ) {a0 : Nat} {x1 x2 : Int32} (ha0 : zk a0 = 3) : zW d kX3_add 22 [.ref a0, .int x1, .int x2] [] σ Q ↔ (if x2 ≤ (0 : Int32) then zW d kX3_add 58 [.ref a0, .int x1, .int x2] [] σ Q else (vp_in (x2 - 1) 40 ∧ (if (zI σ (a0 + 1) (x2 - 1 : Int32).toNatClampNeg) ≤ x1 then zW d kX3_add 58 [.ref a0, .int x1, .int x2] [] σ Q else (vp_in (x2 - 1) 40 ∧ (vp_in x2 40 ∧ zW d kX3_add 22 [.ref a0, .int x1, .int (x2 + (-1))] [] (zsI σ (a0 + 1) (upd (zI σ (a0 + 1)) (x2 : Int32).toNatClampNeg (zI σ (a0 + 1) (x2 - 1 : Int32).toNatClampNeg))) Q))))) := by
  refine Iff.trans (zw_iload_n (show decode cX3_add 22 = .ok (.iload_n 2, 1) by decide +kernel) rfl) ?_
  refine Iff.trans (zw_if_le (t := 58) (show decode cX3_add 23 = .ok (.ifCond .le 35, 3) by decide +kernel) (by decide)) ?_
  refine zw_ite ?_ ?_
  · exact Iff.rfl
  · refine Iff.trans (zw_aload_n (show decode cX3_add 26 = .ok (.aload_n 0, 1) by decide +kernel) rfl) ?_
    refine Iff.trans (zw_get (show decode cX3_add 27 = .ok (.getfield 9, 3) by decide +kernel) (by decide +kernel : zfld 3 9 = some (3, 0)) (hl.k2 ha0) (hl.n2 ha0) (zgetR (v := a0 + 1) (hl.r (zrt3_0 ha0)) rfl)) ?_
    refine Iff.trans (zw_iload_n (show decode cX3_add 30 = .ok (.iload_n 2, 1) by decide +kernel) rfl) ?_
    refine Iff.trans (zw_iconst (x := 1) (show decode cX3_add 31 = .ok (.iconst 1, 1) by decide +kernel) (by decide)) ?_
    refine Iff.trans (zw_isub (show decode cX3_add 32 = .ok (.isub, 1) by decide +kernel)) ?_
    refine Iff.trans (zw_iald2 (show decode cX3_add 33 = .ok (.iaload, 1) by decide +kernel) (hl.k2 (zf_row ha0).1) (hl.n2 (zf_row ha0).1) (hl.l2 (zf_row ha0).1 (zf_row ha0).2) (w := zI σ (a0 + 1) (x2 - 1 : Int32).toNatClampNeg) rfl) ?_
    refine zw_and ?_
    refine Iff.trans (zw_iload_n (show decode cX3_add 34 = .ok (.iload_n 1, 1) by decide +kernel) rfl) ?_
    refine Iff.trans (zw_icmp_le (t := 58) (show decode cX3_add 35 = .ok (.if_icmp .le 23, 3) by decide +kernel) (by decide)) ?_
    refine zw_ite ?_ ?_
    · exact Iff.rfl
    · refine Iff.trans (zw_aload_n (show decode cX3_add 38 = .ok (.aload_n 0, 1) by decide +kernel) rfl) ?_
      refine Iff.trans (zw_get (show decode cX3_add 39 = .ok (.getfield 9, 3) by decide +kernel) (by decide +kernel : zfld 3 9 = some (3, 0)) (hl.k2 ha0) (hl.n2 ha0) (zgetR (v := a0 + 1) (hl.r (zrt3_0 ha0)) rfl)) ?_
      refine Iff.trans (zw_iload_n (show decode cX3_add 42 = .ok (.iload_n 2, 1) by decide +kernel) rfl) ?_
      refine Iff.trans (zw_aload_n (show decode cX3_add 43 = .ok (.aload_n 0, 1) by decide +kernel) rfl) ?_
      refine Iff.trans (zw_get (show decode cX3_add 44 = .ok (.getfield 9, 3) by decide +kernel) (by decide +kernel : zfld 3 9 = some (3, 0)) (hl.k2 ha0) (hl.n2 ha0) (zgetR (v := a0 + 1) (hl.r (zrt3_0 ha0)) rfl)) ?_
      refine Iff.trans (zw_iload_n (show decode cX3_add 47 = .ok (.iload_n 2, 1) by decide +kernel) rfl) ?_
      refine Iff.trans (zw_iconst (x := 1) (show decode cX3_add 48 = .ok (.iconst 1, 1) by decide +kernel) (by decide)) ?_
      refine Iff.trans (zw_isub (show decode cX3_add 49 = .ok (.isub, 1) by decide +kernel)) ?_
      refine Iff.trans (zw_iald2 (show decode cX3_add 50 = .ok (.iaload, 1) by decide +kernel) (hl.k2 (zf_row ha0).1) (hl.n2 (zf_row ha0).1) (hl.l2 (zf_row ha0).1 (zf_row ha0).2) (w := zI σ (a0 + 1) (x2 - 1 : Int32).toNatClampNeg) rfl) ?_
      refine zw_and ?_
      refine Iff.trans (zw_iast2 (show decode cX3_add 51 = .ok (.iastore, 1) by decide +kernel) (hl.k2 (zf_row ha0).1) (hl.n2 (zf_row ha0).1) (hl.l2 (zf_row ha0).1 (zf_row ha0).2) (σ' := (zsI σ (a0 + 1) (upd (zI σ (a0 + 1)) (x2 : Int32).toNatClampNeg (zI σ (a0 + 1) (x2 - 1 : Int32).toNatClampNeg)))) rfl) ?_
      refine zw_and ?_
      refine Iff.trans (zw_iinc (w := (-1)) (ls' := [.ref a0, .int x1, .int (x2 + (-1))]) (show decode cX3_add 52 = .ok (.iinc 2 (-1), 3) by decide +kernel) rfl (by decide) (zset_s (Nat.le_of_ble_eq_true rfl) rfl)) ?_
      refine Iff.trans (zw_goto (t := 22) (show decode cX3_add 55 = .ok (.goto (-33), 3) by decide +kernel) (by decide)) ?_
      exact Iff.rfl

theorem bX3_add_58 {d : Nat} {σ : zS} {Q : Option Value → zS → Prop} (hl : zLay σ) {a0 : Nat} {x1 x2 : Int32} (ha0 : zk a0 = 3) : zW d kX3_add 58 [.ref a0, .int x1, .int x2] [] σ Q ↔ (vp_in x2 40 ∧ Q none (zsI (zsI σ (a0 + 1) (upd (zI σ (a0 + 1)) (x2 : Int32).toNatClampNeg x1)) a0 (upd (upd (zI σ a0) 1 ((zI σ a0 1) + 1)) 2 ((zI σ a0 2) + x1)))) := by
  refine Iff.trans (zw_aload_n (show decode cX3_add 58 = .ok (.aload_n 0, 1) by decide +kernel) rfl) ?_
  refine Iff.trans (zw_get (show decode cX3_add 59 = .ok (.getfield 9, 3) by decide +kernel) (by decide +kernel : zfld 3 9 = some (3, 0)) (hl.k2 ha0) (hl.n2 ha0) (zgetR (v := a0 + 1) (hl.r (zrt3_0 ha0)) rfl)) ?_
  refine Iff.trans (zw_iload_n (show decode cX3_add 62 = .ok (.iload_n 2, 1) by decide +kernel) rfl) ?_
  refine Iff.trans (zw_iload_n (show decode cX3_add 63 = .ok (.iload_n 1, 1) by decide +kernel) rfl) ?_
  refine Iff.trans (zw_iast2 (show decode cX3_add 64 = .ok (.iastore, 1) by decide +kernel) (hl.k2 (zf_row ha0).1) (hl.n2 (zf_row ha0).1) (hl.l2 (zf_row ha0).1 (zf_row ha0).2) (σ' := (zsI σ (a0 + 1) (upd (zI σ (a0 + 1)) (x2 : Int32).toNatClampNeg x1))) rfl) ?_
  refine zw_and ?_
  refine Iff.trans (zw_aload_n (show decode cX3_add 65 = .ok (.aload_n 0, 1) by decide +kernel) rfl) ?_
  refine Iff.trans (zw_dup (show decode cX3_add 66 = .ok (.dup, 1) by decide +kernel) rfl) ?_
  refine Iff.trans (zw_getI (show decode cX3_add 67 = .ok (.getfield 15, 3) by decide +kernel) (by decide +kernel : zfld 3 15 = some (3, 1)) (hl.I.k2 ha0) (hl.I.n2 ha0) (Or.inl rfl) (w := zI σ a0 1) (congrFun (zI_ne (by omega)) 1)) ?_
  refine Iff.trans (zw_iconst (x := 1) (show decode cX3_add 70 = .ok (.iconst 1, 1) by decide +kernel) (by decide)) ?_
  refine Iff.trans (zw_iadd (show decode cX3_add 71 = .ok (.iadd, 1) by decide +kernel)) ?_
  refine Iff.trans (zw_putI (show decode cX3_add 72 = .ok (.putfield 15, 3) by decide +kernel) (by decide +kernel : zfld 3 15 = some (3, 1)) (hl.I.k2 ha0) (hl.I.n2 ha0) rfl (Or.inl rfl) (σ' := (zsI (zsI σ (a0 + 1) (upd (zI σ (a0 + 1)) (x2 : Int32).toNatClampNeg x1)) a0 (upd (zI σ a0) 1 ((zI σ a0 1) + 1)))) (congrArg (fun f => zsI (zsI σ (a0 + 1) (upd (zI σ (a0 + 1)) (x2 : Int32).toNatClampNeg x1)) a0 (upd f 1 ((zI σ a0 1) + 1))) (zI_ne (by omega)))) ?_
  refine Iff.trans (zw_aload_n (show decode cX3_add 75 = .ok (.aload_n 0, 1) by decide +kernel) rfl) ?_
  refine Iff.trans (zw_dup (show decode cX3_add 76 = .ok (.dup, 1) by decide +kernel) rfl) ?_
  refine Iff.trans (zw_getI (show decode cX3_add 77 = .ok (.getfield 19, 3) by decide +kernel) (by decide +kernel : zfld 3 19 = some (3, 2)) (hl.I.I.k2 ha0) (hl.I.I.n2 ha0) (Or.inl rfl) (w := zI σ a0 2) (congrFun zI_self 2)) ?_
  refine Iff.trans (zw_iload_n (show decode cX3_add 80 = .ok (.iload_n 1, 1) by decide +kernel) rfl) ?_
  refine Iff.trans (zw_iadd (show decode cX3_add 81 = .ok (.iadd, 1) by decide +kernel)) ?_
  refine Iff.trans (zw_putI (show decode cX3_add 82 = .ok (.putfield 19, 3) by decide +kernel) (by decide +kernel : zfld 3 19 = some (3, 2)) (hl.I.I.k2 ha0) (hl.I.I.n2 ha0) rfl (Or.inl rfl) (σ' := (zsI (zsI σ (a0 + 1) (upd (zI σ (a0 + 1)) (x2 : Int32).toNatClampNeg x1)) a0 (upd (upd (zI σ a0) 1 ((zI σ a0 1) + 1)) 2 ((zI σ a0 2) + x1)))) (Eq.trans (congrArg (fun f => zsI (zsI (zsI σ (a0 + 1) (upd (zI σ (a0 + 1)) (x2 : Int32).toNatClampNeg x1)) a0 (upd (zI σ a0) 1 ((zI σ a0 1) + 1))) a0 (upd f 2 ((zI σ a0 2) + x1))) zI_self) zsI_s)) ?_
  exact zw_ret (show decode cX3_add 85 = .ok (.return_, 1) by decide +kernel) rfl

theorem bX3_at_0 {d : Nat} {σ : zS} {Q : Option Value → zS → Prop} (hl : zLay σ) {a0 : Nat} {x1 : Int32} (ha0 : zk a0 = 3) : zCall d kX3_at [.ref a0, .int x1] σ Q ↔ (if x1 < (0 : Int32) then Q (some (.int (-1))) σ else (if (zI σ a0 1) ≤ x1 then Q (some (.int (-1))) σ else (if x1 < 40 then (vp_in x1 40 ∧ Q (some (.int (zI σ (a0 + 1) (x1 : Int32).toNatClampNeg))) σ) else Q (some (.int (-1))) σ))) := by
  show zW d kX3_at 0 [.ref a0, .int x1] [] σ Q ↔ _
  refine Iff.trans (zw_iload_n (show decode cX3_at 0 = .ok (.iload_n 1, 1) by decide +kernel) rfl) ?_
  refine Iff.trans (zw_if_lt (t := 18) (show decode cX3_at 1 = .ok (.ifCond .lt 17, 3) by decide +kernel) (by decide)) ?_
  refine zw_ite ?_ ?_
  · refine Iff.trans (zw_iconst (x := (-1)) (show decode cX3_at 18 = .ok (.iconst (-1), 1) by decide +kernel) (by decide)) ?_
    refine Iff.trans (zw_goto (t := 28) (show decode cX3_at 19 = .ok (.goto 9, 3) by decide +kernel) (by decide)) ?_
    exact zw_iret1 (show decode cX3_at 28 = .ok (.ireturn, 1) by decide +kernel) rfl
  · refine Iff.trans (zw_iload_n (show decode cX3_at 4 = .ok (.iload_n 1, 1) by decide +kernel) rfl) ?_
    refine Iff.trans (zw_aload_n (show decode cX3_at 5 = .ok (.aload_n 0, 1) by decide +kernel) rfl) ?_
    refine Iff.trans (zw_getI (show decode cX3_at 6 = .ok (.getfield 15, 3) by decide +kernel) (by decide +kernel : zfld 3 15 = some (3, 1)) (hl.k2 ha0) (hl.n2 ha0) (Or.inl rfl) (w := zI σ a0 1) rfl) ?_
    refine Iff.trans (zw_icmp_ge (t := 18) (show decode cX3_at 9 = .ok (.if_icmp .ge 9, 3) by decide +kernel) (by decide)) ?_
    refine zw_ite ?_ ?_
    · refine Iff.trans (zw_iconst (x := (-1)) (show decode cX3_at 18 = .ok (.iconst (-1), 1) by decide +kernel) (by decide)) ?_
      refine Iff.trans (zw_goto (t := 28) (show decode cX3_at 19 = .ok (.goto 9, 3) by decide +kernel) (by decide)) ?_
      exact zw_iret1 (show decode cX3_at 28 = .ok (.ireturn, 1) by decide +kernel) rfl
    · refine Iff.trans (zw_iload_n (show decode cX3_at 12 = .ok (.iload_n 1, 1) by decide +kernel) rfl) ?_
      refine Iff.trans (zw_bipush (x := 40) (show decode cX3_at 13 = .ok (.bipush 40, 2) by decide +kernel) (by decide)) ?_
      refine Iff.trans (zw_icmp_lt (t := 22) (show decode cX3_at 15 = .ok (.if_icmp .lt 7, 3) by decide +kernel) (by decide)) ?_
      refine zw_ite ?_ ?_
      · refine Iff.trans (zw_aload_n (show decode cX3_at 22 = .ok (.aload_n 0, 1) by decide +kernel) rfl) ?_
        refine Iff.trans (zw_get (show decode cX3_at 23 = .ok (.getfield 9, 3) by decide +kernel) (by decide +kernel : zfld 3 9 = some (3, 0)) (hl.k2 ha0) (hl.n2 ha0) (zgetR (v := a0 + 1) (hl.r (zrt3_0 ha0)) rfl)) ?_
        refine Iff.trans (zw_iload_n (show decode cX3_at 26 = .ok (.iload_n 1, 1) by decide +kernel) rfl) ?_
        refine Iff.trans (zw_iald2 (show decode cX3_at 27 = .ok (.iaload, 1) by decide +kernel) (hl.k2 (zf_row ha0).1) (hl.n2 (zf_row ha0).1) (hl.l2 (zf_row ha0).1 (zf_row ha0).2) (w := zI σ (a0 + 1) (x1 : Int32).toNatClampNeg) rfl) ?_
        refine zw_and ?_
        exact zw_iret1 (show decode cX3_at 28 = .ok (.ireturn, 1) by decide +kernel) rfl
      · refine Iff.trans (zw_iconst (x := (-1)) (show decode cX3_at 18 = .ok (.iconst (-1), 1) by decide +kernel) (by decide)) ?_
        refine Iff.trans (zw_goto (t := 28) (show decode cX3_at 19 = .ok (.goto 9, 3) by decide +kernel) (by decide)) ?_
        exact zw_iret1 (show decode cX3_at 28 = .ok (.ireturn, 1) by decide +kernel) rfl

theorem bX4_begin_0 {d : Nat} {σ : zS} {Q : Option Value → zS → Prop} (hl : zLay σ) {a0 : Nat} (ha0 : zk a0 = 4) : zCall d kX4_begin [.ref a0] σ Q ↔ Q none (zsI σ a0 (upd (upd (upd (upd (upd (upd (upd (zI σ a0) 2 0) 3 (zI σ a0 1)) 4 0) 5 (-1)) 6 (-1)) 7 0) 8 0)) := by
  show zW d kX4_begin 0 [.ref a0] [] σ Q ↔ _
  refine Iff.trans (zw_aload_n (show decode cX4_begin 0 = .ok (.aload_n 0, 1) by decide +kernel) rfl) ?_
  refine Iff.trans (zw_iconst (x := 0) (show decode cX4_begin 1 = .ok (.iconst 0, 1) by decide +kernel) (by decide)) ?_
  refine Iff.trans (zw_putI (show decode cX4_begin 2 = .ok (.putfield 25, 3) by decide +kernel) (by decide +kernel : zfld 4 25 = some (4, 2)) (hl.k2 ha0) (hl.n2 ha0) rfl (Or.inl rfl) (σ' := (zsI σ a0 (upd (zI σ a0) 2 0))) rfl) ?_
  refine Iff.trans (zw_aload_n (show decode cX4_begin 5 = .ok (.aload_n 0, 1) by decide +kernel) rfl) ?_
  refine Iff.trans (zw_aload_n (show decode cX4_begin 6 = .ok (.aload_n 0, 1) by decide +kernel) rfl) ?_
  refine Iff.trans (zw_getI (show decode cX4_begin 7 = .ok (.getfield 28, 3) by decide +kernel) (by decide +kernel : zfld 4 28 = some (4, 1)) (hl.I.k2 ha0) (hl.I.n2 ha0) (Or.inl rfl) (w := zI σ a0 1) (congrFun zI_self 1)) ?_
  refine Iff.trans (zw_putI (show decode cX4_begin 10 = .ok (.putfield 31, 3) by decide +kernel) (by decide +kernel : zfld 4 31 = some (4, 3)) (hl.I.k2 ha0) (hl.I.n2 ha0) rfl (Or.inl rfl) (σ' := (zsI σ a0 (upd (upd (zI σ a0) 2 0) 3 (zI σ a0 1)))) (Eq.trans (congrArg (fun f => zsI (zsI σ a0 (upd (zI σ a0) 2 0)) a0 (upd f 3 (zI σ a0 1))) zI_self) zsI_s)) ?_
  refine Iff.trans (zw_aload_n (show decode cX4_begin 13 = .ok (.aload_n 0, 1) by decide +kernel) rfl) ?_
  refine Iff.trans (zw_iconst (x := 0) (show decode cX4_begin 14 = .ok (.iconst 0, 1) by decide +kernel) (by decide)) ?_
  refine Iff.trans (zw_putI (show decode cX4_begin 15 = .ok (.putfield 34, 3) by decide +kernel) (by decide +kernel : zfld 4 34 = some (4, 4)) (hl.I.k2 ha0) (hl.I.n2 ha0) rfl (Or.inl rfl) (σ' := (zsI σ a0 (upd (upd (upd (zI σ a0) 2 0) 3 (zI σ a0 1)) 4 0))) (Eq.trans (congrArg (fun f => zsI (zsI σ a0 (upd (upd (zI σ a0) 2 0) 3 (zI σ a0 1))) a0 (upd f 4 0)) zI_self) zsI_s)) ?_
  refine Iff.trans (zw_aload_n (show decode cX4_begin 18 = .ok (.aload_n 0, 1) by decide +kernel) rfl) ?_
  refine Iff.trans (zw_iconst (x := (-1)) (show decode cX4_begin 19 = .ok (.iconst (-1), 1) by decide +kernel) (by decide)) ?_
  refine Iff.trans (zw_putI (show decode cX4_begin 20 = .ok (.putfield 18, 3) by decide +kernel) (by decide +kernel : zfld 4 18 = some (4, 5)) (hl.I.k2 ha0) (hl.I.n2 ha0) rfl (Or.inl rfl) (σ' := (zsI σ a0 (upd (upd (upd (upd (zI σ a0) 2 0) 3 (zI σ a0 1)) 4 0) 5 (-1)))) (Eq.trans (congrArg (fun f => zsI (zsI σ a0 (upd (upd (upd (zI σ a0) 2 0) 3 (zI σ a0 1)) 4 0)) a0 (upd f 5 (-1))) zI_self) zsI_s)) ?_
  refine Iff.trans (zw_aload_n (show decode cX4_begin 23 = .ok (.aload_n 0, 1) by decide +kernel) rfl) ?_
  refine Iff.trans (zw_iconst (x := (-1)) (show decode cX4_begin 24 = .ok (.iconst (-1), 1) by decide +kernel) (by decide)) ?_
  refine Iff.trans (zw_putI (show decode cX4_begin 25 = .ok (.putfield 22, 3) by decide +kernel) (by decide +kernel : zfld 4 22 = some (4, 6)) (hl.I.k2 ha0) (hl.I.n2 ha0) rfl (Or.inl rfl) (σ' := (zsI σ a0 (upd (upd (upd (upd (upd (zI σ a0) 2 0) 3 (zI σ a0 1)) 4 0) 5 (-1)) 6 (-1)))) (Eq.trans (congrArg (fun f => zsI (zsI σ a0 (upd (upd (upd (upd (zI σ a0) 2 0) 3 (zI σ a0 1)) 4 0) 5 (-1))) a0 (upd f 6 (-1))) zI_self) zsI_s)) ?_
  refine Iff.trans (zw_aload_n (show decode cX4_begin 28 = .ok (.aload_n 0, 1) by decide +kernel) rfl) ?_
  refine Iff.trans (zw_iconst (x := 0) (show decode cX4_begin 29 = .ok (.iconst 0, 1) by decide +kernel) (by decide)) ?_
  refine Iff.trans (zw_putI (show decode cX4_begin 30 = .ok (.putfield 37, 3) by decide +kernel) (by decide +kernel : zfld 4 37 = some (4, 7)) (hl.I.k2 ha0) (hl.I.n2 ha0) rfl (Or.inl rfl) (σ' := (zsI σ a0 (upd (upd (upd (upd (upd (upd (zI σ a0) 2 0) 3 (zI σ a0 1)) 4 0) 5 (-1)) 6 (-1)) 7 0))) (Eq.trans (congrArg (fun f => zsI (zsI σ a0 (upd (upd (upd (upd (upd (zI σ a0) 2 0) 3 (zI σ a0 1)) 4 0) 5 (-1)) 6 (-1))) a0 (upd f 7 0)) zI_self) zsI_s)) ?_
  refine Iff.trans (zw_aload_n (show decode cX4_begin 33 = .ok (.aload_n 0, 1) by decide +kernel) rfl) ?_
  refine Iff.trans (zw_iconst (x := 0) (show decode cX4_begin 34 = .ok (.iconst 0, 1) by decide +kernel) (by decide)) ?_
  refine Iff.trans (zw_putI (show decode cX4_begin 35 = .ok (.putfield 40, 3) by decide +kernel) (by decide +kernel : zfld 4 40 = some (4, 8)) (hl.I.k2 ha0) (hl.I.n2 ha0) rfl (Or.inl rfl) (σ' := (zsI σ a0 (upd (upd (upd (upd (upd (upd (upd (zI σ a0) 2 0) 3 (zI σ a0 1)) 4 0) 5 (-1)) 6 (-1)) 7 0) 8 0))) (Eq.trans (congrArg (fun f => zsI (zsI σ a0 (upd (upd (upd (upd (upd (upd (zI σ a0) 2 0) 3 (zI σ a0 1)) 4 0) 5 (-1)) 6 (-1)) 7 0)) a0 (upd f 8 0)) zI_self) zsI_s)) ?_
  exact zw_ret (show decode cX4_begin 38 = .ok (.return_, 1) by decide +kernel) rfl

theorem bX4_isOut_0 {d : Nat} {σ : zS} {Q : Option Value → zS → Prop} (hl : zLay σ) {a0 : Nat} (ha0 : zk a0 = 4) : zCall d kX4_isOut [.ref a0] σ Q ↔ (if (zI σ a0 6) = (-1) then Q (some (.int 0)) σ else Q (some (.int 1)) σ) := by
  show zW d kX4_isOut 0 [.ref a0] [] σ Q ↔ _
  refine Iff.trans (zw_aload_n (show decode cX4_isOut 0 = .ok (.aload_n 0, 1) by decide +kernel) rfl) ?_
  refine Iff.trans (zw_getI (show decode cX4_isOut 1 = .ok (.getfield 22, 3) by decide +kernel) (by decide +kernel : zfld 4 22 = some (4, 6)) (hl.k2 ha0) (hl.n2 ha0) (Or.inl rfl) (w := zI σ a0 6) rfl) ?_
  refine Iff.trans (zw_iconst (x := (-1)) (show decode cX4_isOut 4 = .ok (.iconst (-1), 1) by decide +kernel) (by decide)) ?_
  refine Iff.trans (zw_icmp_eq (t := 12) (show decode cX4_isOut 5 = .ok (.if_icmp .eq 7, 3) by decide +kernel) (by decide)) ?_
  refine zw_ite ?_ ?_
  · refine Iff.trans (zw_iconst (x := 0) (show decode cX4_isOut 12 = .ok (.iconst 0, 1) by decide +kernel) (by decide)) ?_
    exact zw_iret2c (show decode cX4_isOut 13 = .ok (.ireturn, 1) by decide +kernel) rfl (Or.inl rfl)
  · refine Iff.trans (zw_iconst (x := 1) (show decode cX4_isOut 8 = .ok (.iconst 1, 1) by decide +kernel) (by decide)) ?_
    refine Iff.trans (zw_goto (t := 13) (show decode cX4_isOut 9 = .ok (.goto 4, 3) by decide +kernel) (by decide)) ?_
    exact zw_iret2c (show decode cX4_isOut 13 = .ok (.ireturn, 1) by decide +kernel) rfl (Or.inr rfl)

theorem bX4_lanes_0 {d : Nat} {σ : zS} {Q : Option Value → zS → Prop} (hl : zLay σ) {a0 : Nat} (ha0 : zk a0 = 4) : zCall d kX4_lanes [.ref a0] σ Q ↔ zW d kX4_lanes 5 [.ref a0] (va_rf ((zR σ a0) 0) :: [.int 1]) σ Q := by
  show zW d kX4_lanes 0 [.ref a0] [] σ Q ↔ _
  refine Iff.trans (zw_iconst (x := 1) (show decode cX4_lanes 0 = .ok (.iconst 1, 1) by decide +kernel) (by decide)) ?_
  refine Iff.trans (zw_aload_n (show decode cX4_lanes 1 = .ok (.aload_n 0, 1) by decide +kernel) rfl) ?_
  refine Iff.trans (zw_getR (show decode cX4_lanes 2 = .ok (.getfield 12, 3) by decide +kernel) (by decide +kernel : zfld 4 12 = some (4, 0)) (hl.k2 ha0) (hl.n2 ha0) rfl (w := (zR σ a0) 0) rfl) ?_
  exact Iff.rfl

theorem bX4_lanes_5 {d : Nat} {σ : zS} {Q : Option Value → zS → Prop} (hl : zLay σ) {a0 b0 : Nat} {y1 : Int32} (ha0 : zk a0 = 4) (hb0 : zk b0 = 6) : zW d kX4_lanes 5 [.ref a0] [.ref b0, .int y1] σ Q ↔ Q (some (.int (((y1 <<< ((zI σ b0 0) &&& 31)) - 1) <<< ((zI σ a0 3) &&& 31)))) σ := by
  refine Iff.trans (zw_getI (show decode cX4_lanes 5 = .ok (.getfield 43, 3) by decide +kernel) (by decide +kernel : zfld 4 43 = some (6, 0)) (hl.k2 hb0) (hl.n2 hb0) (Or.inl rfl) (w := zI σ b0 0) rfl) ?_
  refine Iff.trans (zw_ishl (show decode cX4_lanes 8 = .ok (.ishl, 1) by decide +kernel)) ?_
  refine Iff.trans (zw_iconst (x := 1) (show decode cX4_lanes 9 = .ok (.iconst 1, 1) by decide +kernel) (by decide)) ?_
  refine Iff.trans (zw_isub (show decode cX4_lanes 10 = .ok (.isub, 1) by decide +kernel)) ?_
  refine Iff.trans (zw_aload_n (show decode cX4_lanes 11 = .ok (.aload_n 0, 1) by decide +kernel) rfl) ?_
  refine Iff.trans (zw_getI (show decode cX4_lanes 12 = .ok (.getfield 31, 3) by decide +kernel) (by decide +kernel : zfld 4 31 = some (4, 3)) (hl.k2 ha0) (hl.n2 ha0) (Or.inl rfl) (w := zI σ a0 3) rfl) ?_
  refine Iff.trans (zw_ishl (show decode cX4_lanes 15 = .ok (.ishl, 1) by decide +kernel)) ?_
  exact zw_iret1 (show decode cX4_lanes 16 = .ok (.ireturn, 1) by decide +kernel) rfl

theorem bX4_copyFrom_0 {d : Nat} {σ : zS} {Q : Option Value → zS → Prop} (hl : zLay σ) {a0 a1 : Nat} (ha0 : zk a0 = 4) (ha1 : zk a1 = 4) (hne : a0 ≠ a1) : zCall d kX4_copyFrom [.ref a0, .ref a1] σ Q ↔ zW d kX4_copyFrom 5 [.ref a0, .ref a1] (va_rf ((zR σ a1) 0) :: [.ref a0]) σ Q := by
  show zW d kX4_copyFrom 0 [.ref a0, .ref a1] [] σ Q ↔ _
  refine Iff.trans (zw_aload_n (show decode cX4_copyFrom 0 = .ok (.aload_n 0, 1) by decide +kernel) rfl) ?_
  refine Iff.trans (zw_aload_n (show decode cX4_copyFrom 1 = .ok (.aload_n 1, 1) by decide +kernel) rfl) ?_
  refine Iff.trans (zw_getR (show decode cX4_copyFrom 2 = .ok (.getfield 12, 3) by decide +kernel) (by decide +kernel : zfld 4 12 = some (4, 0)) (hl.k2 ha1) (hl.n2 ha1) rfl (w := (zR σ a1) 0) rfl) ?_
  exact Iff.rfl

theorem bX4_copyFrom_5 {d : Nat} {σ : zS} {Q : Option Value → zS → Prop} (hl : zLay σ) {a0 a1 b0 : Nat} (ha0 : zk a0 = 4) (ha1 : zk a1 = 4) (hb0 : zk b0 = 6) (hne : a0 ≠ a1) : zW d kX4_copyFrom 5 [.ref a0, .ref a1] [.ref b0, .ref a0] σ Q ↔ Q none (zsI (zsR σ a0 (va_up (zR σ a0) 0 (some b0))) a0 (upd (upd (upd (upd (upd (upd (upd (upd (zI σ a0) 1 (zI σ a1 1)) 2 (zI σ a1 2)) 3 (zI σ a1 3)) 4 (zI σ a1 4)) 5 (zI σ a1 5)) 6 (zI σ a1 6)) 7 (zI σ a1 7)) 8 (zI σ a1 8))) := by
  refine Iff.trans (zw_putR (show decode cX4_copyFrom 5 = .ok (.putfield 12, 3) by decide +kernel) (by decide +kernel : zfld 4 12 = some (4, 0)) (hl.k2 ha0) (hl.n2 ha0) rfl rfl (σ' := (zsR σ a0 (va_up (zR σ a0) 0 (some b0)))) rfl) ?_
  refine Iff.trans (zw_aload_n (show decode cX4_copyFrom 8 = .ok (.aload_n 0, 1) by decide +kernel) rfl) ?_
  refine Iff.trans (zw_aload_n (show decode cX4_copyFrom 9 = .ok (.aload_n 1, 1) by decide +kernel) rfl) ?_
  refine Iff.trans (zw_getI (show decode cX4_copyFrom 10 = .ok (.getfield 28, 3) by decide +kernel) (by decide +kernel : zfld 4 28 = some (4, 1)) ((hl.Rf (zrtN4_0 ha0) rfl).k2 ha1) ((hl.Rf (zrtN4_0 ha0) rfl).n2 ha1) (Or.inl rfl) (w := zI σ a1 1) rfl) ?_
  refine Iff.trans (zw_putI (show decode cX4_copyFrom 13 = .ok (.putfield 28, 3) by decide +kernel) (by decide +kernel : zfld 4 28 = some (4, 1)) ((hl.Rf (zrtN4_0 ha0) rfl).k2 ha0) ((hl.Rf (zrtN4_0 ha0) rfl).n2 ha0) rfl (Or.inl rfl) (σ' := (zsI (zsR σ a0 (va_up (zR σ a0) 0 (some b0))) a0 (upd (zI σ a0) 1 (zI σ a1 1)))) rfl) ?_
  refine Iff.trans (zw_aload_n (show decode cX4_copyFrom 16 = .ok (.aload_n 0, 1) by decide +kernel) rfl) ?_
  refine Iff.trans (zw_aload_n (show decode cX4_copyFrom 17 = .ok (.aload_n 1, 1) by decide +kernel) rfl) ?_
  refine Iff.trans (zw_getI (show decode cX4_copyFrom 18 = .ok (.getfield 25, 3) by decide +kernel) (by decide +kernel : zfld 4 25 = some (4, 2)) ((hl.Rf (zrtN4_0 ha0) rfl).I.k2 ha1) ((hl.Rf (zrtN4_0 ha0) rfl).I.n2 ha1) (Or.inl rfl) (w := zI σ a1 2) (congrFun (Eq.trans (zI_ne (by omega)) (zI_sR _ _ _ _)) 2)) ?_
  refine Iff.trans (zw_putI (show decode cX4_copyFrom 21 = .ok (.putfield 25, 3) by decide +kernel) (by decide +kernel : zfld 4 25 = some (4, 2)) ((hl.Rf (zrtN4_0 ha0) rfl).I.k2 ha0) ((hl.Rf (zrtN4_0 ha0) rfl).I.n2 ha0) rfl (Or.inl rfl) (σ' := (zsI (zsR σ a0 (va_up (zR σ a0) 0 (some b0))) a0 (upd (upd (zI σ a0) 1 (zI σ a1 1)) 2 (zI σ a1 2)))) (Eq.trans (congrArg (fun f => zsI (zsI (zsR σ a0 (va_up (zR σ a0) 0 (some b0))) a0 (upd (zI σ a0) 1 (zI σ a1 1))) a0 (upd f 2 (zI σ a1 2))) zI_self) zsI_s)) ?_
  refine Iff.trans (zw_aload_n (show decode cX4_copyFrom 24 = .ok (.aload_n 0, 1) by decide +kernel) rfl) ?_
  refine Iff.trans (zw_aload_n (show decode cX4_copyFrom 25 = .ok (.aload_n 1, 1) by decide +kernel) rfl) ?_
  refine Iff.trans (zw_getI (show decode cX4_copyFrom 26 = .ok (.getfield 31, 3) by decide +kernel) (by decide +kernel : zfld 4 31 = some (4, 3)) ((hl.Rf (zrtN4_0 ha0) rfl).I.k2 ha1) ((hl.Rf (zrtN4_0 ha0) rfl).I.n2 ha1) (Or.inl rfl) (w := zI σ a1 3) (congrFun (Eq.trans (zI_ne (by omega)) (zI_sR _ _ _ _)) 3)) ?_
  refine Iff.trans (zw_putI (show decode cX4_copyFrom 29 = .ok (.putfield 31, 3) by decide +kernel) (by decide +kernel : zfld 4 31 = some (4, 3)) ((hl.Rf (zrtN4_0 ha0) rfl).I.k2 ha0) ((hl.Rf (zrtN4_0 ha0) rfl).I.n2 ha0) rfl (Or.inl rfl) (σ' := (zsI (zsR σ a0 (va_up (zR σ a0) 0 (some b0))) a0 (upd (upd (upd (zI σ a0) 1 (zI σ a1 1)) 2 (zI σ a1 2)) 3 (zI σ a1 3)))) (Eq.trans (congrArg (fun f => zsI (zsI (zsR σ a0 (va_up (zR σ a0) 0 (some b0))) a0 (upd (upd (zI σ a0) 1 (zI σ a1 1)) 2 (zI σ a1 2))) a0 (upd f 3 (zI σ a1 3))) zI_self) zsI_s)) ?_
  refine Iff.trans (zw_aload_n (show decode cX4_copyFrom 32 = .ok (.aload_n 0, 1) by decide +kernel) rfl) ?_
  refine Iff.trans (zw_aload_n (show decode cX4_copyFrom 33 = .ok (.aload_n 1, 1) by decide +kernel) rfl) ?_
  refine Iff.trans (zw_getI (show decode cX4_copyFrom 34 = .ok (.getfield 34, 3) by decide +kernel) (by decide +kernel : zfld 4 34 = some (4, 4)) ((hl.Rf (zrtN4_0 ha0) rfl).I.k2 ha1) ((hl.Rf (zrtN4_0 ha0) rfl).I.n2 ha1) (Or.inl rfl) (w := zI σ a1 4) (congrFun (Eq.trans (zI_ne (by omega)) (zI_sR _ _ _ _)) 4)) ?_
  refine Iff.trans (zw_putI (show decode cX4_copyFrom 37 = .ok (.putfield 34, 3) by decide +kernel) (by decide +kernel : zfld 4 34 = some (4, 4)) ((hl.Rf (zrtN4_0 ha0) rfl).I.k2 ha0) ((hl.Rf (zrtN4_0 ha0) rfl).I.n2 ha0) rfl (Or.inl rfl) (σ' := (zsI (zsR σ a0 (va_up (zR σ a0) 0 (some b0))) a0 (upd (upd (upd (upd (zI σ a0) 1 (zI σ a1 1)) 2 (zI σ a1 2)) 3 (zI σ a1 3)) 4 (zI σ a1 4)))) (Eq.trans (congrArg (fun f => zsI (zsI (zsR σ a0 (va_up (zR σ a0) 0 (some b0))) a0 (upd (upd (upd (zI σ a0) 1 (zI σ a1 1)) 2 (zI σ a1 2)) 3 (zI σ a1 3))) a0 (upd f 4 (zI σ a1 4))) zI_self) zsI_s)) ?_
  refine Iff.trans (zw_aload_n (show decode cX4_copyFrom 40 = .ok (.aload_n 0, 1) by decide +kernel) rfl) ?_
  refine Iff.trans (zw_aload_n (show decode cX4_copyFrom 41 = .ok (.aload_n 1, 1) by decide +kernel) rfl) ?_
  refine Iff.trans (zw_getI (show decode cX4_copyFrom 42 = .ok (.getfield 18, 3) by decide +kernel) (by decide +kernel : zfld 4 18 = some (4, 5)) ((hl.Rf (zrtN4_0 ha0) rfl).I.k2 ha1) ((hl.Rf (zrtN4_0 ha0) rfl).I.n2 ha1) (Or.inl rfl) (w := zI σ a1 5) (congrFun (Eq.trans (zI_ne (by omega)) (zI_sR _ _ _ _)) 5)) ?_
  refine Iff.trans (zw_putI (show decode cX4_copyFrom 45 = .ok (.putfield 18, 3) by decide +kernel) (by decide +kernel : zfld 4 18 = some (4, 5)) ((hl.Rf (zrtN4_0 ha0) rfl).I.k2 ha0) ((hl.Rf (zrtN4_0 ha0) rfl).I.n2 ha0) rfl (Or.inl rfl) (σ' := (zsI (zsR σ a0 (va_up (zR σ a0) 0 (some b0))) a0 (upd (upd (upd (upd (upd (zI σ a0) 1 (zI σ a1 1)) 2 (zI σ a1 2)) 3 (zI σ a1 3)) 4 (zI σ a1 4)) 5 (zI σ a1 5)))) (Eq.trans (congrArg (fun f => zsI (zsI (zsR σ a0 (va_up (zR σ a0) 0 (some b0))) a0 (upd (upd (upd (upd (zI σ a0) 1 (zI σ a1 1)) 2 (zI σ a1 2)) 3 (zI σ a1 3)) 4 (zI σ a1 4))) a0 (upd f 5 (zI σ a1 5))) zI_self) zsI_s)) ?_
  refine Iff.trans (zw_aload_n (show decode cX4_copyFrom 48 = .ok (.aload_n 0, 1) by decide +kernel) rfl) ?_
  refine Iff.trans (zw_aload_n (show decode cX4_copyFrom 49 = .ok (.aload_n 1, 1) by decide +kernel) rfl) ?_
  refine Iff.trans (zw_getI (show decode cX4_copyFrom 50 = .ok (.getfield 22, 3) by decide +kernel) (by decide +kernel : zfld 4 22 = some (4, 6)) ((hl.Rf (zrtN4_0 ha0) rfl).I.k2 ha1) ((hl.Rf (zrtN4_0 ha0) rfl).I.n2 ha1) (Or.inl rfl) (w := zI σ a1 6) (congrFun (Eq.trans (zI_ne (by omega)) (zI_sR _ _ _ _)) 6)) ?_
  refine Iff.trans (zw_putI (show decode cX4_copyFrom 53 = .ok (.putfield 22, 3) by decide +kernel) (by decide +kernel : zfld 4 22 = some (4, 6)) ((hl.Rf (zrtN4_0 ha0) rfl).I.k2 ha0) ((hl.Rf (zrtN4_0 ha0) rfl).I.n2 ha0) rfl (Or.inl rfl) (σ' := (zsI (zsR σ a0 (va_up (zR σ a0) 0 (some b0))) a0 (upd (upd (upd (upd (upd (upd (zI σ a0) 1 (zI σ a1 1)) 2 (zI σ a1 2)) 3 (zI σ a1 3)) 4 (zI σ a1 4)) 5 (zI σ a1 5)) 6 (zI σ a1 6)))) (Eq.trans (congrArg (fun f => zsI (zsI (zsR σ a0 (va_up (zR σ a0) 0 (some b0))) a0 (upd (upd (upd (upd (upd (zI σ a0) 1 (zI σ a1 1)) 2 (zI σ a1 2)) 3 (zI σ a1 3)) 4 (zI σ a1 4)) 5 (zI σ a1 5))) a0 (upd f 6 (zI σ a1 6))) zI_self) zsI_s)) ?_
  refine Iff.trans (zw_aload_n (show decode cX4_copyFrom 56 = .ok (.aload_n 0, 1) by decide +kernel) rfl) ?_
  refine Iff.trans (zw_aload_n (show decode cX4_copyFrom 57 = .ok (.aload_n 1, 1) by decide +kernel) rfl) ?_
  refine Iff.trans (zw_getI (show decode cX4_copyFrom 58 = .ok (.getfield 37, 3) by decide +kernel) (by decide +kernel : zfld 4 37 = some (4, 7)) ((hl.Rf (zrtN4_0 ha0) rfl).I.k2 ha1) ((hl.Rf (zrtN4_0 ha0) rfl).I.n2 ha1) (Or.inl rfl) (w := zI σ a1 7) (congrFun (Eq.trans (zI_ne (by omega)) (zI_sR _ _ _ _)) 7)) ?_
  refine Iff.trans (zw_putI (show decode cX4_copyFrom 61 = .ok (.putfield 37, 3) by decide +kernel) (by decide +kernel : zfld 4 37 = some (4, 7)) ((hl.Rf (zrtN4_0 ha0) rfl).I.k2 ha0) ((hl.Rf (zrtN4_0 ha0) rfl).I.n2 ha0) rfl (Or.inl rfl) (σ' := (zsI (zsR σ a0 (va_up (zR σ a0) 0 (some b0))) a0 (upd (upd (upd (upd (upd (upd (upd (zI σ a0) 1 (zI σ a1 1)) 2 (zI σ a1 2)) 3 (zI σ a1 3)) 4 (zI σ a1 4)) 5 (zI σ a1 5)) 6 (zI σ a1 6)) 7 (zI σ a1 7)))) (Eq.trans (congrArg (fun f => zsI (zsI (zsR σ a0 (va_up (zR σ a0) 0 (some b0))) a0 (upd (upd (upd (upd (upd (upd (zI σ a0) 1 (zI σ a1 1)) 2 (zI σ a1 2)) 3 (zI σ a1 3)) 4 (zI σ a1 4)) 5 (zI σ a1 5)) 6 (zI σ a1 6))) a0 (upd f 7 (zI σ a1 7))) zI_self) zsI_s)) ?_
  refine Iff.trans (zw_aload_n (show decode cX4_copyFrom 64 = .ok (.aload_n 0, 1) by decide +kernel) rfl) ?_
  refine Iff.trans (zw_aload_n (show decode cX4_copyFrom 65 = .ok (.aload_n 1, 1) by decide +kernel) rfl) ?_
  refine Iff.trans (zw_getI (show decode cX4_copyFrom 66 = .ok (.getfield 40, 3) by decide +kernel) (by decide +kernel : zfld 4 40 = some (4, 8)) ((hl.Rf (zrtN4_0 ha0) rfl).I.k2 ha1) ((hl.Rf (zrtN4_0 ha0) rfl).I.n2 ha1) (Or.inl rfl) (w := zI σ a1 8) (congrFun (Eq.trans (zI_ne (by omega)) (zI_sR _ _ _ _)) 8)) ?_
  refine Iff.trans (zw_putI (show decode cX4_copyFrom 69 = .ok (.putfield 40, 3) by decide +kernel) (by decide +kernel : zfld 4 40 = some (4, 8)) ((hl.Rf (zrtN4_0 ha0) rfl).I.k2 ha0) ((hl.Rf (zrtN4_0 ha0) rfl).I.n2 ha0) rfl (Or.inl rfl) (σ' := (zsI (zsR σ a0 (va_up (zR σ a0) 0 (some b0))) a0 (upd (upd (upd (upd (upd (upd (upd (upd (zI σ a0) 1 (zI σ a1 1)) 2 (zI σ a1 2)) 3 (zI σ a1 3)) 4 (zI σ a1 4)) 5 (zI σ a1 5)) 6 (zI σ a1 6)) 7 (zI σ a1 7)) 8 (zI σ a1 8)))) (Eq.trans (congrArg (fun f => zsI (zsI (zsR σ a0 (va_up (zR σ a0) 0 (some b0))) a0 (upd (upd (upd (upd (upd (upd (upd (zI σ a0) 1 (zI σ a1 1)) 2 (zI σ a1 2)) 3 (zI σ a1 3)) 4 (zI σ a1 4)) 5 (zI σ a1 5)) 6 (zI σ a1 6)) 7 (zI σ a1 7))) a0 (upd f 8 (zI σ a1 8))) zI_self) zsI_s)) ?_
  exact zw_ret (show decode cX4_copyFrom 72 = .ok (.return_, 1) by decide +kernel) rfl

theorem bX5_add_0 {d : Nat} {σ : zS} {Q : Option Value → zS → Prop} (hl : zLay σ) {a0 : Nat} {x1 x2 x3 : Int32} (ha0 : zk a0 = 5) : zCall d kX5_add [.ref a0, .int x1, .int x2, .int x3] σ Q ↔ (if (zI σ a0 3) < (0 : Int32) then Q (some (.int (-1))) σ else (if (zI σ a0 3) < 10 then (vp_in (zI σ a0 3) 10 ∧ (vp_in (zI σ a0 3) 10 ∧ (vp_in (zI σ a0 3) 10 ∧ Q (some (.int ((zI σ a0 3) + 1))) (zsI (zsI (zsI (zsI σ (a0 + 1) (upd (zI σ (a0 + 1)) (zI σ a0 3 : Int32).toNatClampNeg x1)) (a0 + 2) (upd (zI σ (a0 + 2)) (zI σ a0 3 : Int32).toNatClampNeg x2)) (a0 + 3) (upd (zI σ (a0 + 3)) (zI σ a0 3 : Int32).toNatClampNeg x3)) a0 (upd (zI σ a0) 3 ((zI σ a0 3) + 1)))))) else Q (some (.int (-1))) σ)) := by
  show zW d kX5_add 0 [.ref a0, .int x1, .int x2, .int x3] [] σ Q ↔ _
  refine Iff.trans (zw_aload_n (show decode cX5_add 0 = .ok (.aload_n 0, 1) by decide +kernel) rfl) ?_
  refine Iff.trans (zw_getI (show decode cX5_add 1 = .ok (.getfield 21, 3) by decide +kernel) (by decide +kernel : zfld 5 21 = some (5, 3)) (hl.k2 ha0) (hl.n2 ha0) (Or.inl rfl) (w := zI σ a0 3) rfl) ?_
  refine Iff.trans (zw_if_lt (t := 16) (show decode cX5_add 4 = .ok (.ifCond .lt 12, 3) by decide +kernel) (by decide)) ?_
  refine zw_ite ?_ ?_
  · refine Iff.trans (zw_iconst (x := (-1)) (show decode cX5_add 16 = .ok (.iconst (-1), 1) by decide +kernel) (by decide)) ?_
    exact zw_iret1 (show decode cX5_add 17 = .ok (.ireturn, 1) by decide +kernel) rfl
  · refine Iff.trans (zw_aload_n (show decode cX5_add 7 = .ok (.aload_n 0, 1) by decide +kernel) rfl) ?_
    refine Iff.trans (zw_getI (show decode cX5_add 8 = .ok (.getfield 21, 3) by decide +kernel) (by decide +kernel : zfld 5 21 = some (5, 3)) (hl.k2 ha0) (hl.n2 ha0) (Or.inl rfl) (w := zI σ a0 3) rfl) ?_
    refine Iff.trans (zw_bipush (x := 10) (show decode cX5_add 11 = .ok (.bipush 10, 2) by decide +kernel) (by decide)) ?_
    refine Iff.trans (zw_icmp_lt (t := 18) (show decode cX5_add 13 = .ok (.if_icmp .lt 5, 3) by decide +kernel) (by decide)) ?_
    refine zw_ite ?_ ?_
    · refine Iff.trans (zw_aload_n (show decode cX5_add 18 = .ok (.aload_n 0, 1) by decide +kernel) rfl) ?_
      refine Iff.trans (zw_get (show decode cX5_add 19 = .ok (.getfield 9, 3) by decide +kernel) (by decide +kernel : zfld 5 9 = some (5, 0)) (hl.k2 ha0) (hl.n2 ha0) (zgetR (v := a0 + 1) (hl.r (zrt5_0 ha0)) rfl)) ?_
      refine Iff.trans (zw_aload_n (show decode cX5_add 22 = .ok (.aload_n 0, 1) by decide +kernel) rfl) ?_
      refine Iff.trans (zw_getI (show decode cX5_add 23 = .ok (.getfield 21, 3) by decide +kernel) (by decide +kernel : zfld 5 21 = some (5, 3)) (hl.k2 ha0) (hl.n2 ha0) (Or.inl rfl) (w := zI σ a0 3) rfl) ?_
      refine Iff.trans (zw_iload_n (show decode cX5_add 26 = .ok (.iload_n 1, 1) by decide +kernel) rfl) ?_
      refine Iff.trans (zw_iast2 (show decode cX5_add 27 = .ok (.iastore, 1) by decide +kernel) (hl.k2 (zf_sights ha0).1.1) (hl.n2 (zf_sights ha0).1.1) (hl.l2 (zf_sights ha0).1.1 (zf_sights ha0).1.2) (σ' := (zsI σ (a0 + 1) (upd (zI σ (a0 + 1)) (zI σ a0 3 : Int32).toNatClampNeg x1))) rfl) ?_
      refine zw_and ?_
      refine Iff.trans (zw_aload_n (show decode cX5_add 28 = .ok (.aload_n 0, 1) by decide +kernel) rfl) ?_
      refine Iff.trans (zw_get (show decode cX5_add 29 = .ok (.getfield 15, 3) by decide +kernel) (by decide +kernel : zfld 5 15 = some (5, 1)) (hl.I.k2 ha0) (hl.I.n2 ha0) (zgetR (v := a0 + 2) (hl.I.r (zrt5_1 ha0)) rfl)) ?_
      refine Iff.trans (zw_aload_n (show decode cX5_add 32 = .ok (.aload_n 0, 1) by decide +kernel) rfl) ?_
      refine Iff.trans (zw_getI (show decode cX5_add 33 = .ok (.getfield 21, 3) by decide +kernel) (by decide +kernel : zfld 5 21 = some (5, 3)) (hl.I.k2 ha0) (hl.I.n2 ha0) (Or.inl rfl) (w := zI σ a0 3) (congrFun (zI_ne (by omega)) 3)) ?_
      refine Iff.trans (zw_iload_n (show decode cX5_add 36 = .ok (.iload_n 2, 1) by decide +kernel) rfl) ?_
      refine Iff.trans (zw_iast2 (show decode cX5_add 37 = .ok (.iastore, 1) by decide +kernel) (hl.I.k2 (zf_sights ha0).2.1.1) (hl.I.n2 (zf_sights ha0).2.1.1) (hl.I.l2 (zf_sights ha0).2.1.1 (zf_sights ha0).2.1.2) (σ' := (zsI (zsI σ (a0 + 1) (upd (zI σ (a0 + 1)) (zI σ a0 3 : Int32).toNatClampNeg x1)) (a0 + 2) (upd (zI σ (a0 + 2)) (zI σ a0 3 : Int32).toNatClampNeg x2))) (congrArg (fun f => zsI (zsI σ (a0 + 1) (upd (zI σ (a0 + 1)) (zI σ a0 3 : Int32).toNatClampNeg x1)) (a0 + 2) (upd f (zI σ a0 3 : Int32).toNatClampNeg x2)) (zI_ne (by omega)))) ?_
      refine zw_and ?_
      refine Iff.trans (zw_aload_n (show decode cX5_add 38 = .ok (.aload_n 0, 1) by decide +kernel) rfl) ?_
      refine Iff.trans (zw_get (show decode cX5_add 39 = .ok (.getfield 18, 3) by decide +kernel) (by decide +kernel : zfld 5 18 = some (5, 2)) (hl.I.I.k2 ha0) (hl.I.I.n2 ha0) (zgetR (v := a0 + 3) (hl.I.I.r (zrt5_2 ha0)) rfl)) ?_
      refine Iff.trans (zw_aload_n (show decode cX5_add 42 = .ok (.aload_n 0, 1) by decide +kernel) rfl) ?_
      refine Iff.trans (zw_getI (show decode cX5_add 43 = .ok (.getfield 21, 3) by decide +kernel) (by decide +kernel : zfld 5 21 = some (5, 3)) (hl.I.I.k2 ha0) (hl.I.I.n2 ha0) (Or.inl rfl) (w := zI σ a0 3) (congrFun (Eq.trans (zI_ne (by omega)) (zI_ne (by omega))) 3)) ?_
      refine Iff.trans (zw_iload_n (show decode cX5_add 46 = .ok (.iload_n 3, 1) by decide +kernel) rfl) ?_
      refine Iff.trans (zw_iast2 (show decode cX5_add 47 = .ok (.iastore, 1) by decide +kernel) (hl.I.I.k2 (zf_sights ha0).2.2.1) (hl.I.I.n2 (zf_sights ha0).2.2.1) (hl.I.I.l2 (zf_sights ha0).2.2.1 (zf_sights ha0).2.2.2) (σ' := (zsI (zsI (zsI σ (a0 + 1) (upd (zI σ (a0 + 1)) (zI σ a0 3 : Int32).toNatClampNeg x1)) (a0 + 2) (upd (zI σ (a0 + 2)) (zI σ a0 3 : Int32).toNatClampNeg x2)) (a0 + 3) (upd (zI σ (a0 + 3)) (zI σ a0 3 : Int32).toNatClampNeg x3))) (congrArg (fun f => zsI (zsI (zsI σ (a0 + 1) (upd (zI σ (a0 + 1)) (zI σ a0 3 : Int32).toNatClampNeg x1)) (a0 + 2) (upd (zI σ (a0 + 2)) (zI σ a0 3 : Int32).toNatClampNeg x2)) (a0 + 3) (upd f (zI σ a0 3 : Int32).toNatClampNeg x3)) (Eq.trans (zI_ne (by omega)) (zI_ne (by omega))))) ?_
      refine zw_and ?_
      refine Iff.trans (zw_aload_n (show decode cX5_add 48 = .ok (.aload_n 0, 1) by decide +kernel) rfl) ?_
      refine Iff.trans (zw_dup (show decode cX5_add 49 = .ok (.dup, 1) by decide +kernel) rfl) ?_
      refine Iff.trans (zw_getI (show decode cX5_add 50 = .ok (.getfield 21, 3) by decide +kernel) (by decide +kernel : zfld 5 21 = some (5, 3)) (hl.I.I.I.k2 ha0) (hl.I.I.I.n2 ha0) (Or.inl rfl) (w := zI σ a0 3) (congrFun (Eq.trans (zI_ne (by omega)) (Eq.trans (zI_ne (by omega)) (zI_ne (by omega)))) 3)) ?_
      refine Iff.trans (zw_iconst (x := 1) (show decode cX5_add 53 = .ok (.iconst 1, 1) by decide +kernel) (by decide)) ?_
      refine Iff.trans (zw_iadd (show decode cX5_add 54 = .ok (.iadd, 1) by decide +kernel)) ?_
      refine Iff.trans (zw_putI (show decode cX5_add 55 = .ok (.putfield 21, 3) by decide +kernel) (by decide +kernel : zfld 5 21 = some (5, 3)) (hl.I.I.I.k2 ha0) (hl.I.I.I.n2 ha0) rfl (Or.inl rfl) (σ' := (zsI (zsI (zsI (zsI σ (a0 + 1) (upd (zI σ (a0 + 1)) (zI σ a0 3 : Int32).toNatClampNeg x1)) (a0 + 2) (upd (zI σ (a0 + 2)) (zI σ a0 3 : Int32).toNatClampNeg x2)) (a0 + 3) (upd (zI σ (a0 + 3)) (zI σ a0 3 : Int32).toNatClampNeg x3)) a0 (upd (zI σ a0) 3 ((zI σ a0 3) + 1)))) (congrArg (fun f => zsI (zsI (zsI (zsI σ (a0 + 1) (upd (zI σ (a0 + 1)) (zI σ a0 3 : Int32).toNatClampNeg x1)) (a0 + 2) (upd (zI σ (a0 + 2)) (zI σ a0 3 : Int32).toNatClampNeg x2)) (a0 + 3) (upd (zI σ (a0 + 3)) (zI σ a0 3 : Int32).toNatClampNeg x3)) a0 (upd f 3 ((zI σ a0 3) + 1))) (Eq.trans (zI_ne (by omega)) (Eq.trans (zI_ne (by omega)) (zI_ne (by omega)))))) ?_
      refine Iff.trans (zw_aload_n (show decode cX5_add 58 = .ok (.aload_n 0, 1) by decide +kernel) rfl) ?_
      refine Iff.trans (zw_getI (show decode cX5_add 59 = .ok (.getfield 21, 3) by decide +kernel) (by decide +kernel : zfld 5 21 = some (5, 3)) (hl.I.I.I.I.k2 ha0) (hl.I.I.I.I.n2 ha0) (Or.inl rfl) (w := ((zI σ a0 3) + 1)) (congrFun zI_self 3)) ?_
      exact zw_iret1 (show decode cX5_add 62 = .ok (.ireturn, 1) by decide +kernel) rfl
    · refine Iff.trans (zw_iconst (x := (-1)) (show decode cX5_add 16 = .ok (.iconst (-1), 1) by decide +kernel) (by decide)) ?_
      exact zw_iret1 (show decode cX5_add 17 = .ok (.ireturn, 1) by decide +kernel) rfl

theorem bX6_shape_0 {d : Nat} {σ : zS} {Q : Option Value → zS → Prop} (hl : zLay σ) {a0 : Nat} {x1 x2 x3 : Int32} (ha0 : zk a0 = 6) : zCall d kX6_shape [.ref a0, .int x1, .int x2, .int x3] σ Q ↔ Q none (zsI σ a0 (upd (upd (upd (zI σ a0) 0 x1) 1 x2) 2 x3)) := by
  show zW d kX6_shape 0 [.ref a0, .int x1, .int x2, .int x3] [] σ Q ↔ _
  refine Iff.trans (zw_aload_n (show decode cX6_shape 0 = .ok (.aload_n 0, 1) by decide +kernel) rfl) ?_
  refine Iff.trans (zw_iload_n (show decode cX6_shape 1 = .ok (.iload_n 1, 1) by decide +kernel) rfl) ?_
  refine Iff.trans (zw_putI (show decode cX6_shape 2 = .ok (.putfield 9, 3) by decide +kernel) (by decide +kernel : zfld 6 9 = some (6, 0)) (hl.k2 ha0) (hl.n2 ha0) rfl (Or.inl rfl) (σ' := (zsI σ a0 (upd (zI σ a0) 0 x1))) rfl) ?_
  refine Iff.trans (zw_aload_n (show decode cX6_shape 5 = .ok (.aload_n 0, 1) by decide +kernel) rfl) ?_
  refine Iff.trans (zw_iload_n (show decode cX6_shape 6 = .ok (.iload_n 2, 1) by decide +kernel) rfl) ?_
  refine Iff.trans (zw_putI (show decode cX6_shape 7 = .ok (.putfield 15, 3) by decide +kernel) (by decide +kernel : zfld 6 15 = some (6, 1)) (hl.I.k2 ha0) (hl.I.n2 ha0) rfl (Or.inl rfl) (σ' := (zsI σ a0 (upd (upd (zI σ a0) 0 x1) 1 x2))) (Eq.trans (congrArg (fun f => zsI (zsI σ a0 (upd (zI σ a0) 0 x1)) a0 (upd f 1 x2)) zI_self) zsI_s)) ?_
  refine Iff.trans (zw_aload_n (show decode cX6_shape 10 = .ok (.aload_n 0, 1) by decide +kernel) rfl) ?_
  refine Iff.trans (zw_iload_n (show decode cX6_shape 11 = .ok (.iload_n 3, 1) by decide +kernel) rfl) ?_
  refine Iff.trans (zw_putI (show decode cX6_shape 12 = .ok (.putfield 18, 3) by decide +kernel) (by decide +kernel : zfld 6 18 = some (6, 2)) (hl.I.k2 ha0) (hl.I.n2 ha0) rfl (Or.inl rfl) (σ' := (zsI σ a0 (upd (upd (upd (zI σ a0) 0 x1) 1 x2) 2 x3))) (Eq.trans (congrArg (fun f => zsI (zsI σ a0 (upd (upd (zI σ a0) 0 x1) 1 x2)) a0 (upd f 2 x3)) zI_self) zsI_s)) ?_
  exact zw_ret (show decode cX6_shape 15 = .ok (.return_, 1) by decide +kernel) rfl

theorem bX6_put_0 {d : Nat} {σ : zS} {Q : Option Value → zS → Prop} (hl : zLay σ) {a0 : Nat} {x1 x2 : Int32} (ha0 : zk a0 = 6) : zCall d kX6_put [.ref a0, .int x1, .int x2] σ Q ↔ (if x1 = (0 : Int32) then zW d kX6_put 11 [.ref a0, .int x1, .int x2] [.int 5, .int x2] σ Q else zW d kX6_put 11 [.ref a0, .int x1, .int x2] [.int 9, .int x2] σ Q) := by
  show zW d kX6_put 0 [.ref a0, .int x1, .int x2] [] σ Q ↔ _
  refine Iff.trans (zw_iload_n (show decode cX6_put 0 = .ok (.iload_n 2, 1) by decide +kernel) rfl) ?_
  refine Iff.trans (zw_iload_n (show decode cX6_put 1 = .ok (.iload_n 1, 1) by decide +kernel) rfl) ?_
  refine Iff.trans (zw_if_ne (t := 9) (show decode cX6_put 2 = .ok (.ifCond .ne 7, 3) by decide +kernel) (by decide)) ?_
  refine zw_ite ?_ ?_
  · refine Iff.trans (zw_iconst (x := 5) (show decode cX6_put 5 = .ok (.iconst 5, 1) by decide +kernel) (by decide)) ?_
    refine Iff.trans (zw_goto (t := 11) (show decode cX6_put 6 = .ok (.goto 5, 3) by decide +kernel) (by decide)) ?_
    exact Iff.rfl
  · refine Iff.trans (zw_bipush (x := 9) (show decode cX6_put 9 = .ok (.bipush 9, 2) by decide +kernel) (by decide)) ?_
    exact Iff.rfl

theorem bX6_put_11 {d : Nat} {σ : zS} {Q : Option Value → zS → Prop} (hl : zLay σ) {a0 : Nat} {x1 x2 y0 y1 : Int32} (ha0 : zk a0 = 6) : zW d kX6_put 11 [.ref a0, .int x1, .int x2] [.int y0, .int y1] σ Q ↔ (if y0 < y1 then Q (some (.int 0)) σ else (if x1 = (0 : Int32) then zW d kX6_put 24 [.ref a0, .int x1, .int x2] [.int 1, .int x2] σ Q else zW d kX6_put 24 [.ref a0, .int x1, .int x2] [.int 0, .int x2] σ Q)) := by
  refine Iff.trans (zw_icmp_gt (t := 27) (show decode cX6_put 11 = .ok (.if_icmp .gt 16, 3) by decide +kernel) (by decide)) ?_
  refine zw_ite ?_ ?_
  · refine Iff.trans (zw_iconst (x := 0) (show decode cX6_put 27 = .ok (.iconst 0, 1) by decide +kernel) (by decide)) ?_
    exact zw_iret2c (show decode cX6_put 28 = .ok (.ireturn, 1) by decide +kernel) rfl (Or.inl rfl)
  · refine Iff.trans (zw_iload_n (show decode cX6_put 14 = .ok (.iload_n 2, 1) by decide +kernel) rfl) ?_
    refine Iff.trans (zw_iload_n (show decode cX6_put 15 = .ok (.iload_n 1, 1) by decide +kernel) rfl) ?_
    refine Iff.trans (zw_if_ne (t := 23) (show decode cX6_put 16 = .ok (.ifCond .ne 7, 3) by decide +kernel) (by decide)) ?_
    refine zw_ite ?_ ?_
    · refine Iff.trans (zw_iconst (x := 1) (show decode cX6_put 19 = .ok (.iconst 1, 1) by decide +kernel) (by decide)) ?_
      refine Iff.trans (zw_goto (t := 24) (show decode cX6_put 20 = .ok (.goto 4, 3) by decide +kernel) (by decide)) ?_
      exact Iff.rfl
    · refine Iff.trans (zw_iconst (x := 0) (show decode cX6_put 23 = .ok (.iconst 0, 1) by decide +kernel) (by decide)) ?_
      exact Iff.rfl

theorem bX6_put_24 {d : Nat} {σ : zS} {Q : Option Value → zS → Prop} (hl : zLay σ) {a0 : Nat} {x1 x2 y0 y1 : Int32} (ha0 : zk a0 = 6) : zW d kX6_put 24 [.ref a0, .int x1, .int x2] [.int y0, .int y1] σ Q ↔ (if y0 ≤ y1 then (if x1 = (0 : Int32) then Q (some (.int 1)) (zsI σ a0 (upd (zI σ a0) 0 x2)) else (if x1 = 1 then Q (some (.int 1)) (zsI σ a0 (upd (zI σ a0) 1 x2)) else Q (some (.int 1)) (zsI σ a0 (upd (zI σ a0) 2 x2)))) else Q (some (.int 0)) σ) := by
  refine Iff.trans (zw_icmp_ge (t := 29) (show decode cX6_put 24 = .ok (.if_icmp .ge 5, 3) by decide +kernel) (by decide)) ?_
  refine zw_ite ?_ ?_
  · refine Iff.trans (zw_iload_n (show decode cX6_put 29 = .ok (.iload_n 1, 1) by decide +kernel) rfl) ?_
    refine Iff.trans (zw_if_ne (t := 41) (show decode cX6_put 30 = .ok (.ifCond .ne 11, 3) by decide +kernel) (by decide)) ?_
    refine zw_ite ?_ ?_
    · refine Iff.trans (zw_aload_n (show decode cX6_put 33 = .ok (.aload_n 0, 1) by decide +kernel) rfl) ?_
      refine Iff.trans (zw_iload_n (show decode cX6_put 34 = .ok (.iload_n 2, 1) by decide +kernel) rfl) ?_
      refine Iff.trans (zw_putI (show decode cX6_put 35 = .ok (.putfield 9, 3) by decide +kernel) (by decide +kernel : zfld 6 9 = some (6, 0)) (hl.k2 ha0) (hl.n2 ha0) rfl (Or.inl rfl) (σ' := (zsI σ a0 (upd (zI σ a0) 0 x2))) rfl) ?_
      refine Iff.trans (zw_goto (t := 59) (show decode cX6_put 38 = .ok (.goto 21, 3) by decide +kernel) (by decide)) ?_
      refine Iff.trans (zw_iconst (x := 1) (show decode cX6_put 59 = .ok (.iconst 1, 1) by decide +kernel) (by decide)) ?_
      exact zw_iret2c (show decode cX6_put 60 = .ok (.ireturn, 1) by decide +kernel) rfl (Or.inr rfl)
    · refine Iff.trans (zw_iload_n (show decode cX6_put 41 = .ok (.iload_n 1, 1) by decide +kernel) rfl) ?_
      refine Iff.trans (zw_iconst (x := 1) (show decode cX6_put 42 = .ok (.iconst 1, 1) by decide +kernel) (by decide)) ?_
      refine Iff.trans (zw_icmp_ne (t := 54) (show decode cX6_put 43 = .ok (.if_icmp .ne 11, 3) by decide +kernel) (by decide)) ?_
      refine zw_ite ?_ ?_
      · refine Iff.trans (zw_aload_n (show decode cX6_put 46 = .ok (.aload_n 0, 1) by decide +kernel) rfl) ?_
        refine Iff.trans (zw_iload_n (show decode cX6_put 47 = .ok (.iload_n 2, 1) by decide +kernel) rfl) ?_
        refine Iff.trans (zw_putI (show decode cX6_put 48 = .ok (.putfield 15, 3) by decide +kernel) (by decide +kernel : zfld 6 15 = some (6, 1)) (hl.k2 ha0) (hl.n2 ha0) rfl (Or.inl rfl) (σ' := (zsI σ a0 (upd (zI σ a0) 1 x2))) rfl) ?_
        refine Iff.trans (zw_goto (t := 59) (show decode cX6_put 51 = .ok (.goto 8, 3) by decide +kernel) (by decide)) ?_
        refine Iff.trans (zw_iconst (x := 1) (show decode cX6_put 59 = .ok (.iconst 1, 1) by decide +kernel) (by decide)) ?_
        exact zw_iret2c (show decode cX6_put 60 = .ok (.ireturn, 1) by decide +kernel) rfl (Or.inr rfl)
      · refine Iff.trans (zw_aload_n (show decode cX6_put 54 = .ok (.aload_n 0, 1) by decide +kernel) rfl) ?_
        refine Iff.trans (zw_iload_n (show decode cX6_put 55 = .ok (.iload_n 2, 1) by decide +kernel) rfl) ?_
        refine Iff.trans (zw_putI (show decode cX6_put 56 = .ok (.putfield 18, 3) by decide +kernel) (by decide +kernel : zfld 6 18 = some (6, 2)) (hl.k2 ha0) (hl.n2 ha0) rfl (Or.inl rfl) (σ' := (zsI σ a0 (upd (zI σ a0) 2 x2))) rfl) ?_
        refine Iff.trans (zw_iconst (x := 1) (show decode cX6_put 59 = .ok (.iconst 1, 1) by decide +kernel) (by decide)) ?_
        exact zw_iret2c (show decode cX6_put 60 = .ok (.ireturn, 1) by decide +kernel) rfl (Or.inr rfl)
  · refine Iff.trans (zw_iconst (x := 0) (show decode cX6_put 27 = .ok (.iconst 0, 1) by decide +kernel) (by decide)) ?_
    exact zw_iret2c (show decode cX6_put 28 = .ok (.ireturn, 1) by decide +kernel) rfl (Or.inl rfl)

theorem bX6_lanesFrom_0 {d : Nat} {σ : zS} {Q : Option Value → zS → Prop} (hl : zLay σ) {a0 : Nat} {x1 : Int32} (ha0 : zk a0 = 6) : zCall d kX6_lanesFrom [.ref a0, .int x1] σ Q ↔ Q (some (.int (((1 <<< ((zI σ a0 0) &&& 31)) - 1) <<< (x1 &&& 31)))) σ := by
  show zW d kX6_lanesFrom 0 [.ref a0, .int x1] [] σ Q ↔ _
  refine Iff.trans (zw_iconst (x := 1) (show decode cX6_lanesFrom 0 = .ok (.iconst 1, 1) by decide +kernel) (by decide)) ?_
  refine Iff.trans (zw_aload_n (show decode cX6_lanesFrom 1 = .ok (.aload_n 0, 1) by decide +kernel) rfl) ?_
  refine Iff.trans (zw_getI (show decode cX6_lanesFrom 2 = .ok (.getfield 9, 3) by decide +kernel) (by decide +kernel : zfld 6 9 = some (6, 0)) (hl.k2 ha0) (hl.n2 ha0) (Or.inl rfl) (w := zI σ a0 0) rfl) ?_
  refine Iff.trans (zw_ishl (show decode cX6_lanesFrom 5 = .ok (.ishl, 1) by decide +kernel)) ?_
  refine Iff.trans (zw_iconst (x := 1) (show decode cX6_lanesFrom 6 = .ok (.iconst 1, 1) by decide +kernel) (by decide)) ?_
  refine Iff.trans (zw_isub (show decode cX6_lanesFrom 7 = .ok (.isub, 1) by decide +kernel)) ?_
  refine Iff.trans (zw_iload_n (show decode cX6_lanesFrom 8 = .ok (.iload_n 1, 1) by decide +kernel) rfl) ?_
  refine Iff.trans (zw_ishl (show decode cX6_lanesFrom 9 = .ok (.ishl, 1) by decide +kernel)) ?_
  exact zw_iret1 (show decode cX6_lanesFrom 10 = .ok (.ireturn, 1) by decide +kernel) rfl

theorem bX7_clear_0 {d : Nat} {σ : zS} {Q : Option Value → zS → Prop} (hl : zLay σ) {a0 : Nat} (ha0 : zk a0 = 7) : zCall (d + 1) kX7_clear [.ref a0] σ Q ↔ zCall d kJ7_fill_53178 [.ref (a0 + 1), .int 0] (zsI σ a0 (upd (zI σ a0) 2 0)) (fun r σ' => zisN r = true ∧ zW (d + 1) kX7_clear 13 [.ref a0] (zRstk r ++ []) σ' Q) := by
  show zW (d + 1) kX7_clear 0 [.ref a0] [] σ Q ↔ _
  refine Iff.trans (zw_aload_n (show decode cX7_clear 0 = .ok (.aload_n 0, 1) by decide +kernel) rfl) ?_
  refine Iff.trans (zw_iconst (x := 0) (show decode cX7_clear 1 = .ok (.iconst 0, 1) by decide +kernel) (by decide)) ?_
  refine Iff.trans (zw_putI (show decode cX7_clear 2 = .ok (.putfield 18, 3) by decide +kernel) (by decide +kernel : zfld 7 18 = some (7, 2)) (hl.k2 ha0) (hl.n2 ha0) rfl (Or.inl rfl) (σ' := (zsI σ a0 (upd (zI σ a0) 2 0))) rfl) ?_
  refine Iff.trans (zw_aload_n (show decode cX7_clear 5 = .ok (.aload_n 0, 1) by decide +kernel) rfl) ?_
  refine Iff.trans (zw_get (show decode cX7_clear 6 = .ok (.getfield 9, 3) by decide +kernel) (by decide +kernel : zfld 7 9 = some (7, 0)) (hl.I.k2 ha0) (hl.I.n2 ha0) (zgetR (v := a0 + 1) (hl.I.r (zrt7_0 ha0)) rfl)) ?_
  refine Iff.trans (zw_iconst (x := 0) (show decode cX7_clear 9 = .ok (.iconst 0, 1) by decide +kernel) (by decide)) ?_
  refine Iff.trans (zw_invS (K' := kJ7_fill_53178) (as := [.ref (a0 + 1), .int 0]) (rest := []) (show decode cX7_clear 10 = .ok (.invokestatic 22, 3) by decide +kernel) (by rfl) rfl rfl rfl ⟨Nat.le_of_ble_eq_true rfl, Nat.le_of_ble_eq_true rfl, Nat.le_of_ble_eq_true rfl⟩) ?_
  exact Iff.rfl

theorem bX7_clear_13 {d : Nat} {σ : zS} {Q : Option Value → zS → Prop} (hl : zLay σ) {a0 : Nat} (ha0 : zk a0 = 7) : zW (d + 1) kX7_clear 13 [.ref a0] [] σ Q ↔ zCall d kJ7_fill_53178 [.ref (a0 + 2), .int 0] σ (fun r σ' => zisN r = true ∧ zW (d + 1) kX7_clear 21 [.ref a0] (zRstk r ++ []) σ' Q) := by
  refine Iff.trans (zw_aload_n (show decode cX7_clear 13 = .ok (.aload_n 0, 1) by decide +kernel) rfl) ?_
  refine Iff.trans (zw_get (show decode cX7_clear 14 = .ok (.getfield 15, 3) by decide +kernel) (by decide +kernel : zfld 7 15 = some (7, 1)) (hl.k2 ha0) (hl.n2 ha0) (zgetR (v := a0 + 2) (hl.r (zrt7_1 ha0)) rfl)) ?_
  refine Iff.trans (zw_iconst (x := 0) (show decode cX7_clear 17 = .ok (.iconst 0, 1) by decide +kernel) (by decide)) ?_
  refine Iff.trans (zw_invS (K' := kJ7_fill_53178) (as := [.ref (a0 + 2), .int 0]) (rest := []) (show decode cX7_clear 18 = .ok (.invokestatic 22, 3) by decide +kernel) (by rfl) rfl rfl rfl ⟨Nat.le_of_ble_eq_true rfl, Nat.le_of_ble_eq_true rfl, Nat.le_of_ble_eq_true rfl⟩) ?_
  exact Iff.rfl

theorem bX7_clear_21 {d : Nat} {σ : zS} {Q : Option Value → zS → Prop} (hl : zLay σ) {a0 : Nat} (ha0 : zk a0 = 7) : zW (d + 1) kX7_clear 21 [.ref a0] [] σ Q ↔ Q none σ := by
  exact zw_ret (show decode cX7_clear 21 = .ok (.return_, 1) by decide +kernel) rfl

theorem bX7_add_0 {d : Nat} {σ : zS} {Q : Option Value → zS → Prop} (hl : zLay σ) {a0 a1 : Nat} (ha0 : zk a0 = 7) (ha1 : zk a1 = 2) : zCall (d + 1) kX7_add [.ref a0, .ref a1] σ Q ↔ zW (d + 1) kX7_add 7 [.ref a0, .ref a1, .int (-1), .int (-1), .int 0, .retAddr 0] [] σ Q := by
  show zW (d + 1) kX7_add 0 [.ref a0, .ref a1, .retAddr 0, .retAddr 0, .retAddr 0, .retAddr 0] [] σ Q ↔ _
  refine Iff.trans (zw_iconst (x := (-1)) (show decode cX7_add 0 = .ok (.iconst (-1), 1) by decide +kernel) (by decide)) ?_
  refine Iff.trans (zw_istore_n (ls' := [.ref a0, .ref a1, .int (-1), .retAddr 0, .retAddr 0, .retAddr 0]) (show decode cX7_add 1 = .ok (.istore_n 2, 1) by decide +kernel) (zset_s (Nat.le_of_ble_eq_true rfl) rfl)) ?_
  refine Iff.trans (zw_iconst (x := (-1)) (show decode cX7_add 2 = .ok (.iconst (-1), 1) by decide +kernel) (by decide)) ?_
  refine Iff.trans (zw_istore_n (ls' := [.ref a0, .ref a1, .int (-1), .int (-1), .retAddr 0, .retAddr 0]) (show decode cX7_add 3 = .ok (.istore_n 3, 1) by decide +kernel) (zset_s (Nat.le_of_ble_eq_true rfl) rfl)) ?_
  refine Iff.trans (zw_iconst (x := 0) (show decode cX7_add 4 = .ok (.iconst 0, 1) by decide +kernel) (by decide)) ?_
  refine Iff.trans (zw_istore (ls' := [.ref a0, .ref a1, .int (-1), .int (-1), .int 0, .retAddr 0]) (show decode cX7_add 5 = .ok (.istore 4, 2) by decide +kernel) (zset_s (Nat.le_of_ble_eq_true rfl) rfl)) ?_
  exact Iff.rfl

theorem bX7_add_7 {d : Nat} {σ : zS} {Q : Option Value → zS → Prop} (hl : zLay σ) {a0 a1 : Nat} {x2 x3 x4 : Int32} {v5 : Value} (ha0 : zk a0 = 7) (ha1 : zk a1 = 2) (hv5 : v5.category = 1) : zW (d + 1) kX7_add 7 [.ref a0, .ref a1, .int x2, .int x3, .int x4, v5] [] σ Q ↔ (if (zI σ a1 4) ≤ x4 then zW (d + 1) kX7_add 96 [.ref a0, .ref a1, .int x2, .int x3, .int x4, v5] [] σ Q else (if 6 ≤ x4 then zW (d + 1) kX7_add 96 [.ref a0, .ref a1, .int x2, .int x3, .int x4, v5] [] σ Q else zCall d kX2_placeOf [.ref a1, .int x4] σ (fun r σ' => zisN r = true ∧ zW (d + 1) kX7_add 29 [.ref a0, .ref a1, .int x2, .int x3, .int x4, v5] (zRstk r ++ []) σ' Q))) := by
  refine Iff.trans (zw_iload (show decode cX7_add 7 = .ok (.iload 4, 2) by decide +kernel) rfl) ?_
  refine Iff.trans (zw_aload_n (show decode cX7_add 9 = .ok (.aload_n 1, 1) by decide +kernel) rfl) ?_
  refine Iff.trans (zw_getI (show decode cX7_add 10 = .ok (.getfield 28, 3) by decide +kernel) (by decide +kernel : zfld 7 28 = some (2, 4)) (hl.k2 ha1) (hl.n2 ha1) (Or.inl rfl) (w := zI σ a1 4) rfl) ?_
  refine Iff.trans (zw_icmp_ge (t := 96) (show decode cX7_add 13 = .ok (.if_icmp .ge 83, 3) by decide +kernel) (by decide)) ?_
  refine zw_ite ?_ ?_
  · exact Iff.rfl
  · refine Iff.trans (zw_iload (show decode cX7_add 16 = .ok (.iload 4, 2) by decide +kernel) rfl) ?_
    refine Iff.trans (zw_bipush (x := 6) (show decode cX7_add 18 = .ok (.bipush 6, 2) by decide +kernel) (by decide)) ?_
    refine Iff.trans (zw_icmp_ge (t := 96) (show decode cX7_add 20 = .ok (.if_icmp .ge 76, 3) by decide +kernel) (by decide)) ?_
    refine zw_ite ?_ ?_
    · exact Iff.rfl
    · refine Iff.trans (zw_aload_n (show decode cX7_add 23 = .ok (.aload_n 1, 1) by decide +kernel) rfl) ?_
      refine Iff.trans (zw_iload (show decode cX7_add 24 = .ok (.iload 4, 2) by decide +kernel) rfl) ?_
      refine Iff.trans (zw_invV (K' := kX2_placeOf) (as' := [.int x4]) (rest := []) (show decode cX7_add 26 = .ok (.invokevirtual 33, 3) by decide +kernel) (by rfl) rfl rfl rfl (hl.k2 ha1) (by decide) (hl.n2 ha1) ⟨Nat.le_of_ble_eq_true rfl, Nat.le_of_ble_eq_true rfl, Nat.le_of_ble_eq_true rfl⟩) ?_
      exact Iff.rfl

theorem bX7_add_29 {d : Nat} {σ : zS} {Q : Option Value → zS → Prop} (hl : zLay σ) {a0 a1 : Nat} {x2 x3 x4 y0 : Int32} {v5 : Value} (ha0 : zk a0 = 7) (ha1 : zk a1 = 2) (hv5 : v5.category = 1) : zW (d + 1) kX7_add 29 [.ref a0, .ref a1, .int x2, .int x3, .int x4, v5] [.int y0] σ Q ↔ (vp_in x4 6 ∧ (vp_in x4 6 ∧ (if y0 = (0 : Int32) then (vp_in x4 6 ∧ (vp_in x4 6 ∧ (vp_in x4 6 ∧ zW (d + 1) kX7_add 66 [.ref a0, .ref a1, .int x2, .int x3, .int x4, .int y0] (va_rf (zR (zsI (zsI σ (a0 + 2) (upd (zI σ (a0 + 2)) (x4 : Int32).toNatClampNeg ((zI σ (a0 + 2) (x4 : Int32).toNatClampNeg) + y0))) (a0 + 1) (upd (zI σ (a0 + 1)) (x4 : Int32).toNatClampNeg ((zI σ (a0 + 1) (x4 : Int32).toNatClampNeg) + 1))) (a1 + 1) (x4 : Int32).toNatClampNeg) :: []) (zsI (zsI σ (a0 + 2) (upd (zI σ (a0 + 2)) (x4 : Int32).toNatClampNeg ((zI σ (a0 + 2) (x4 : Int32).toNatClampNeg) + y0))) (a0 + 1) (upd (zI σ (a0 + 1)) (x4 : Int32).toNatClampNeg ((zI σ (a0 + 1) (x4 : Int32).toNatClampNeg) + 1))) Q))) else (if y0 = 1 then (vp_in x4 6 ∧ zW (d + 1) kX7_add 86 [.ref a0, .ref a1, .int x2, .int x3, .int x4, .int y0] (va_rf (zR (zsI σ (a0 + 2) (upd (zI σ (a0 + 2)) (x4 : Int32).toNatClampNeg ((zI σ (a0 + 2) (x4 : Int32).toNatClampNeg) + y0))) (a1 + 1) (x4 : Int32).toNatClampNeg) :: []) (zsI σ (a0 + 2) (upd (zI σ (a0 + 2)) (x4 : Int32).toNatClampNeg ((zI σ (a0 + 2) (x4 : Int32).toNatClampNeg) + y0))) Q) else zW (d + 1) kX7_add 7 [.ref a0, .ref a1, .int x2, .int x3, .int (x4 + 1), .int y0] [] (zsI σ (a0 + 2) (upd (zI σ (a0 + 2)) (x4 : Int32).toNatClampNeg ((zI σ (a0 + 2) (x4 : Int32).toNatClampNeg) + y0))) Q)))) := by
  refine Iff.trans (zw_istore (ls' := [.ref a0, .ref a1, .int x2, .int x3, .int x4, .int y0]) (show decode cX7_add 29 = .ok (.istore 5, 2) by decide +kernel) (zset_s (Nat.le_of_ble_eq_true rfl) rfl)) ?_
  refine Iff.trans (zw_aload_n (show decode cX7_add 31 = .ok (.aload_n 0, 1) by decide +kernel) rfl) ?_
  refine Iff.trans (zw_get (show decode cX7_add 32 = .ok (.getfield 15, 3) by decide +kernel) (by decide +kernel : zfld 7 15 = some (7, 1)) (hl.k2 ha0) (hl.n2 ha0) (zgetR (v := a0 + 2) (hl.r (zrt7_1 ha0)) rfl)) ?_
  refine Iff.trans (zw_iload (show decode cX7_add 35 = .ok (.iload 4, 2) by decide +kernel) rfl) ?_
  refine Iff.trans (zw_dup2 (show decode cX7_add 37 = .ok (.dup2, 1) by decide +kernel) ⟨rfl, rfl⟩) ?_
  refine Iff.trans (zw_iald2 (show decode cX7_add 38 = .ok (.iaload, 1) by decide +kernel) (hl.k2 (zf_tally ha0).2.1) (hl.n2 (zf_tally ha0).2.1) (hl.l2 (zf_tally ha0).2.1 (zf_tally ha0).2.2) (w := zI σ (a0 + 2) (x4 : Int32).toNatClampNeg) rfl) ?_
  refine zw_and ?_
  refine Iff.trans (zw_iload (show decode cX7_add 39 = .ok (.iload 5, 2) by decide +kernel) rfl) ?_
  refine Iff.trans (zw_iadd (show decode cX7_add 41 = .ok (.iadd, 1) by decide +kernel)) ?_
  refine Iff.trans (zw_iast2 (show decode cX7_add 42 = .ok (.iastore, 1) by decide +kernel) (hl.k2 (zf_tally ha0).2.1) (hl.n2 (zf_tally ha0).2.1) (hl.l2 (zf_tally ha0).2.1 (zf_tally ha0).2.2) (σ' := (zsI σ (a0 + 2) (upd (zI σ (a0 + 2)) (x4 : Int32).toNatClampNeg ((zI σ (a0 + 2) (x4 : Int32).toNatClampNeg) + y0)))) rfl) ?_
  refine zw_and ?_
  refine Iff.trans (zw_iload (show decode cX7_add 43 = .ok (.iload 5, 2) by decide +kernel) rfl) ?_
  refine Iff.trans (zw_if_ne (t := 73) (show decode cX7_add 45 = .ok (.ifCond .ne 28, 3) by decide +kernel) (by decide)) ?_
  refine zw_ite ?_ ?_
  · refine Iff.trans (zw_aload_n (show decode cX7_add 48 = .ok (.aload_n 0, 1) by decide +kernel) rfl) ?_
    refine Iff.trans (zw_get (show decode cX7_add 49 = .ok (.getfield 9, 3) by decide +kernel) (by decide +kernel : zfld 7 9 = some (7, 0)) (hl.I.k2 ha0) (hl.I.n2 ha0) (zgetR (v := a0 + 1) (hl.I.r (zrt7_0 ha0)) rfl)) ?_
    refine Iff.trans (zw_iload (show decode cX7_add 52 = .ok (.iload 4, 2) by decide +kernel) rfl) ?_
    refine Iff.trans (zw_dup2 (show decode cX7_add 54 = .ok (.dup2, 1) by decide +kernel) ⟨rfl, rfl⟩) ?_
    refine Iff.trans (zw_iald2 (show decode cX7_add 55 = .ok (.iaload, 1) by decide +kernel) (hl.I.k2 (zf_tally ha0).1.1) (hl.I.n2 (zf_tally ha0).1.1) (hl.I.l2 (zf_tally ha0).1.1 (zf_tally ha0).1.2) (w := zI σ (a0 + 1) (x4 : Int32).toNatClampNeg) (congrFun (zI_ne (by omega)) _)) ?_
    refine zw_and ?_
    refine Iff.trans (zw_iconst (x := 1) (show decode cX7_add 56 = .ok (.iconst 1, 1) by decide +kernel) (by decide)) ?_
    refine Iff.trans (zw_iadd (show decode cX7_add 57 = .ok (.iadd, 1) by decide +kernel)) ?_
    refine Iff.trans (zw_iast2 (show decode cX7_add 58 = .ok (.iastore, 1) by decide +kernel) (hl.I.k2 (zf_tally ha0).1.1) (hl.I.n2 (zf_tally ha0).1.1) (hl.I.l2 (zf_tally ha0).1.1 (zf_tally ha0).1.2) (σ' := (zsI (zsI σ (a0 + 2) (upd (zI σ (a0 + 2)) (x4 : Int32).toNatClampNeg ((zI σ (a0 + 2) (x4 : Int32).toNatClampNeg) + y0))) (a0 + 1) (upd (zI σ (a0 + 1)) (x4 : Int32).toNatClampNeg ((zI σ (a0 + 1) (x4 : Int32).toNatClampNeg) + 1)))) (congrArg (fun f => zsI (zsI σ (a0 + 2) (upd (zI σ (a0 + 2)) (x4 : Int32).toNatClampNeg ((zI σ (a0 + 2) (x4 : Int32).toNatClampNeg) + y0))) (a0 + 1) (upd f (x4 : Int32).toNatClampNeg ((zI σ (a0 + 1) (x4 : Int32).toNatClampNeg) + 1))) (zI_ne (by omega)))) ?_
    refine zw_and ?_
    refine Iff.trans (zw_aload_n (show decode cX7_add 59 = .ok (.aload_n 1, 1) by decide +kernel) rfl) ?_
    refine Iff.trans (zw_get (show decode cX7_add 60 = .ok (.getfield 37, 3) by decide +kernel) (by decide +kernel : zfld 7 37 = some (2, 0)) (hl.I.I.k2 ha1) (hl.I.I.n2 ha1) (zgetR (v := a1 + 1) (hl.I.I.r (zrt2_0 ha1)) rfl)) ?_
    refine Iff.trans (zw_iload (show decode cX7_add 63 = .ok (.iload 4, 2) by decide +kernel) rfl) ?_
    refine Iff.trans (zw_aald (show decode cX7_add 65 = .ok (.aaload, 1) by decide +kernel) (by rw [(hl.I.I.k2 (zf_race ha1).1.1)]; decide) (hl.I.I.n2 (zf_race ha1).1.1) (hl.I.I.l2 (zf_race ha1).1.1 (zf_race ha1).1.2)) ?_
    refine zw_and ?_
    exact Iff.rfl
  · refine Iff.trans (zw_iload (show decode cX7_add 73 = .ok (.iload 5, 2) by decide +kernel) rfl) ?_
    refine Iff.trans (zw_iconst (x := 1) (show decode cX7_add 75 = .ok (.iconst 1, 1) by decide +kernel) (by decide)) ?_
    refine Iff.trans (zw_icmp_ne (t := 90) (show decode cX7_add 76 = .ok (.if_icmp .ne 14, 3) by decide +kernel) (by decide)) ?_
    refine zw_ite ?_ ?_
    · refine Iff.trans (zw_aload_n (show decode cX7_add 79 = .ok (.aload_n 1, 1) by decide +kernel) rfl) ?_
      refine Iff.trans (zw_get (show decode cX7_add 80 = .ok (.getfield 37, 3) by decide +kernel) (by decide +kernel : zfld 7 37 = some (2, 0)) (hl.I.k2 ha1) (hl.I.n2 ha1) (zgetR (v := a1 + 1) (hl.I.r (zrt2_0 ha1)) rfl)) ?_
      refine Iff.trans (zw_iload (show decode cX7_add 83 = .ok (.iload 4, 2) by decide +kernel) rfl) ?_
      refine Iff.trans (zw_aald (show decode cX7_add 85 = .ok (.aaload, 1) by decide +kernel) (by rw [(hl.I.k2 (zf_race ha1).1.1)]; decide) (hl.I.n2 (zf_race ha1).1.1) (hl.I.l2 (zf_race ha1).1.1 (zf_race ha1).1.2)) ?_
      refine zw_and ?_
      exact Iff.rfl
    · refine Iff.trans (zw_iinc (w := 1) (ls' := [.ref a0, .ref a1, .int x2, .int x3, .int (x4 + 1), .int y0]) (show decode cX7_add 90 = .ok (.iinc 4 1, 3) by decide +kernel) rfl (by decide) (zset_s (Nat.le_of_ble_eq_true rfl) rfl)) ?_
      refine Iff.trans (zw_goto (t := 7) (show decode cX7_add 93 = .ok (.goto (-86), 3) by decide +kernel) (by decide)) ?_
      exact Iff.rfl

theorem bX7_add_66 {d : Nat} {σ : zS} {Q : Option Value → zS → Prop} (hl : zLay σ) {a0 a1 b0 : Nat} {x2 x3 x4 x5 : Int32} (ha0 : zk a0 = 7) (ha1 : zk a1 = 2) (hb0 : zk b0 = 4) : zW (d + 1) kX7_add 66 [.ref a0, .ref a1, .int x2, .int x3, .int x4, .int x5] [.ref b0] σ Q ↔ zW (d + 1) kX7_add 7 [.ref a0, .ref a1, .int (zI σ b0 5), .int x3, .int (x4 + 1), .int x5] [] σ Q := by
  refine Iff.trans (zw_getI (show decode cX7_add 66 = .ok (.getfield 41, 3) by decide +kernel) (by decide +kernel : zfld 7 41 = some (4, 5)) (hl.k2 hb0) (hl.n2 hb0) (Or.inl rfl) (w := zI σ b0 5) rfl) ?_
  refine Iff.trans (zw_istore_n (ls' := [.ref a0, .ref a1, .int (zI σ b0 5), .int x3, .int x4, .int x5]) (show decode cX7_add 69 = .ok (.istore_n 2, 1) by decide +kernel) (zset_s (Nat.le_of_ble_eq_true rfl) rfl)) ?_
  refine Iff.trans (zw_goto (t := 90) (show decode cX7_add 70 = .ok (.goto 20, 3) by decide +kernel) (by decide)) ?_
  refine Iff.trans (zw_iinc (w := 1) (ls' := [.ref a0, .ref a1, .int (zI σ b0 5), .int x3, .int (x4 + 1), .int x5]) (show decode cX7_add 90 = .ok (.iinc 4 1, 3) by decide +kernel) rfl (by decide) (zset_s (Nat.le_of_ble_eq_true rfl) rfl)) ?_
  refine Iff.trans (zw_goto (t := 7) (show decode cX7_add 93 = .ok (.goto (-86), 3) by decide +kernel) (by decide)) ?_
  exact Iff.rfl

theorem bX7_add_86 {d : Nat} {σ : zS} {Q : Option Value → zS → Prop} (hl : zLay σ) {a0 a1 b0 : Nat} {x2 x3 x4 x5 : Int32} (ha0 : zk a0 = 7) (ha1 : zk a1 = 2) (hb0 : zk b0 = 4) : zW (d + 1) kX7_add 86 [.ref a0, .ref a1, .int x2, .int x3, .int x4, .int x5] [.ref b0] σ Q ↔ zW (d + 1) kX7_add 7 [.ref a0, .ref a1, .int x2, .int (zI σ b0 5), .int (x4 + 1), .int x5] [] σ Q := by
  refine Iff.trans (zw_getI (show decode cX7_add 86 = .ok (.getfield 41, 3) by decide +kernel) (by decide +kernel : zfld 7 41 = some (4, 5)) (hl.k2 hb0) (hl.n2 hb0) (Or.inl rfl) (w := zI σ b0 5) rfl) ?_
  refine Iff.trans (zw_istore_n (ls' := [.ref a0, .ref a1, .int x2, .int (zI σ b0 5), .int x4, .int x5]) (show decode cX7_add 89 = .ok (.istore_n 3, 1) by decide +kernel) (zset_s (Nat.le_of_ble_eq_true rfl) rfl)) ?_
  refine Iff.trans (zw_iinc (w := 1) (ls' := [.ref a0, .ref a1, .int x2, .int (zI σ b0 5), .int (x4 + 1), .int x5]) (show decode cX7_add 90 = .ok (.iinc 4 1, 3) by decide +kernel) rfl (by decide) (zset_s (Nat.le_of_ble_eq_true rfl) rfl)) ?_
  refine Iff.trans (zw_goto (t := 7) (show decode cX7_add 93 = .ok (.goto (-86), 3) by decide +kernel) (by decide)) ?_
  exact Iff.rfl

theorem bX7_add_96 {d : Nat} {σ : zS} {Q : Option Value → zS → Prop} (hl : zLay σ) {a0 a1 : Nat} {x2 x3 x4 : Int32} {v5 : Value} (ha0 : zk a0 = 7) (ha1 : zk a1 = 2) (hv5 : v5.category = 1) : zW (d + 1) kX7_add 96 [.ref a0, .ref a1, .int x2, .int x3, .int x4, v5] [] σ Q ↔ (if x2 = (-1) then Q none σ else (if x2 = x3 then Q none (zsI σ a0 (upd (zI σ a0) 2 ((zI σ a0 2) + 1))) else Q none σ)) := by
  refine Iff.trans (zw_iload_n (show decode cX7_add 96 = .ok (.iload_n 2, 1) by decide +kernel) rfl) ?_
  refine Iff.trans (zw_iconst (x := (-1)) (show decode cX7_add 97 = .ok (.iconst (-1), 1) by decide +kernel) (by decide)) ?_
  refine Iff.trans (zw_icmp_eq (t := 116) (show decode cX7_add 98 = .ok (.if_icmp .eq 18, 3) by decide +kernel) (by decide)) ?_
  refine zw_ite ?_ ?_
  · exact zw_ret (show decode cX7_add 116 = .ok (.return_, 1) by decide +kernel) rfl
  · refine Iff.trans (zw_iload_n (show decode cX7_add 101 = .ok (.iload_n 2, 1) by decide +kernel) rfl) ?_
    refine Iff.trans (zw_iload_n (show decode cX7_add 102 = .ok (.iload_n 3, 1) by decide +kernel) rfl) ?_
    refine Iff.trans (zw_icmp_ne (t := 116) (show decode cX7_add 103 = .ok (.if_icmp .ne 13, 3) by decide +kernel) (by decide)) ?_
    refine zw_ite ?_ ?_
    · refine Iff.trans (zw_aload_n (show decode cX7_add 106 = .ok (.aload_n 0, 1) by decide +kernel) rfl) ?_
      refine Iff.trans (zw_dup (show decode cX7_add 107 = .ok (.dup, 1) by decide +kernel) rfl) ?_
      refine Iff.trans (zw_getI (show decode cX7_add 108 = .ok (.getfield 18, 3) by decide +kernel) (by decide +kernel : zfld 7 18 = some (7, 2)) (hl.k2 ha0) (hl.n2 ha0) (Or.inl rfl) (w := zI σ a0 2) rfl) ?_
      refine Iff.trans (zw_iconst (x := 1) (show decode cX7_add 111 = .ok (.iconst 1, 1) by decide +kernel) (by decide)) ?_
      refine Iff.trans (zw_iadd (show decode cX7_add 112 = .ok (.iadd, 1) by decide +kernel)) ?_
      refine Iff.trans (zw_putI (show decode cX7_add 113 = .ok (.putfield 18, 3) by decide +kernel) (by decide +kernel : zfld 7 18 = some (7, 2)) (hl.k2 ha0) (hl.n2 ha0) rfl (Or.inl rfl) (σ' := (zsI σ a0 (upd (zI σ a0) 2 ((zI σ a0 2) + 1)))) rfl) ?_
      exact zw_ret (show decode cX7_add 116 = .ok (.return_, 1) by decide +kernel) rfl
    · exact zw_ret (show decode cX7_add 116 = .ok (.return_, 1) by decide +kernel) rfl

theorem bX8_bytesIn_0 {d : Nat} {σ : zS} {Q : Option Value → zS → Prop} (hl : zLay σ) {x0 : Int32} : zCall d kX8_bytesIn [.int x0] σ Q ↔ zW d kX8_bytesIn 4 [.int x0, .int 0, .int 0] [] σ Q := by
  show zW d kX8_bytesIn 0 [.int x0, .retAddr 0, .retAddr 0] [] σ Q ↔ _
  refine Iff.trans (zw_iconst (x := 0) (show decode cX8_bytesIn 0 = .ok (.iconst 0, 1) by decide +kernel) (by decide)) ?_
  refine Iff.trans (zw_istore_n (ls' := [.int x0, .int 0, .retAddr 0]) (show decode cX8_bytesIn 1 = .ok (.istore_n 1, 1) by decide +kernel) (zset_s (Nat.le_of_ble_eq_true rfl) rfl)) ?_
  refine Iff.trans (zw_iconst (x := 0) (show decode cX8_bytesIn 2 = .ok (.iconst 0, 1) by decide +kernel) (by decide)) ?_
  refine Iff.trans (zw_istore_n (ls' := [.int x0, .int 0, .int 0]) (show decode cX8_bytesIn 3 = .ok (.istore_n 2, 1) by decide +kernel) (zset_s (Nat.le_of_ble_eq_true rfl) rfl)) ?_
  exact Iff.rfl

theorem bX8_bytesIn_4 {d : Nat} {σ : zS} {Q : Option Value → zS → Prop} (hl : zLay σ) {x0 x1 x2 : Int32} : zW d kX8_bytesIn 4 [.int x0, .int x1, .int x2] [] σ Q ↔ (if 32 ≤ x2 then Q (some (.int x1)) σ else (if ((((x0 : Int32).toUInt32 >>> ((x2 : Int32).toUInt32 &&& Int32.toUInt32 31)).toInt32) &&& 255) = (0 : Int32) then zW d kX8_bytesIn 4 [.int x0, .int x1, .int (x2 + 8)] [] σ Q else zW d kX8_bytesIn 4 [.int x0, .int (x1 + 1), .int (x2 + 8)] [] σ Q)) := by
  refine Iff.trans (zw_iload_n (show decode cX8_bytesIn 4 = .ok (.iload_n 2, 1) by decide +kernel) rfl) ?_
  refine Iff.trans (zw_bipush (x := 32) (show decode cX8_bytesIn 5 = .ok (.bipush 32, 2) by decide +kernel) (by decide)) ?_
  refine Iff.trans (zw_icmp_ge (t := 29) (show decode cX8_bytesIn 7 = .ok (.if_icmp .ge 22, 3) by decide +kernel) (by decide)) ?_
  refine zw_ite ?_ ?_
  · refine Iff.trans (zw_iload_n (show decode cX8_bytesIn 29 = .ok (.iload_n 1, 1) by decide +kernel) rfl) ?_
    exact zw_iret1 (show decode cX8_bytesIn 30 = .ok (.ireturn, 1) by decide +kernel) rfl
  · refine Iff.trans (zw_iload_n (show decode cX8_bytesIn 10 = .ok (.iload_n 0, 1) by decide +kernel) rfl) ?_
    refine Iff.trans (zw_iload_n (show decode cX8_bytesIn 11 = .ok (.iload_n 2, 1) by decide +kernel) rfl) ?_
    refine Iff.trans (zw_iushr (show decode cX8_bytesIn 12 = .ok (.iushr, 1) by decide +kernel)) ?_
    refine Iff.trans (zw_sipush (x := 255) (show decode cX8_bytesIn 13 = .ok (.sipush 255, 3) by decide +kernel) (by decide)) ?_
    refine Iff.trans (zw_iand (show decode cX8_bytesIn 16 = .ok (.iand, 1) by decide +kernel)) ?_
    refine Iff.trans (zw_if_eq (t := 23) (show decode cX8_bytesIn 17 = .ok (.ifCond .eq 6, 3) by decide +kernel) (by decide)) ?_
    refine zw_ite ?_ ?_
    · refine Iff.trans (zw_iinc (w := 8) (ls' := [.int x0, .int x1, .int (x2 + 8)]) (show decode cX8_bytesIn 23 = .ok (.iinc 2 8, 3) by decide +kernel) rfl (by decide) (zset_s (Nat.le_of_ble_eq_true rfl) rfl)) ?_
      refine Iff.trans (zw_goto (t := 4) (show decode cX8_bytesIn 26 = .ok (.goto (-22), 3) by decide +kernel) (by decide)) ?_
      exact Iff.rfl
    · refine Iff.trans (zw_iinc (w := 1) (ls' := [.int x0, .int (x1 + 1), .int x2]) (show decode cX8_bytesIn 20 = .ok (.iinc 1 1, 3) by decide +kernel) rfl (by decide) (zset_s (Nat.le_of_ble_eq_true rfl) rfl)) ?_
      refine Iff.trans (zw_iinc (w := 8) (ls' := [.int x0, .int (x1 + 1), .int (x2 + 8)]) (show decode cX8_bytesIn 23 = .ok (.iinc 2 8, 3) by decide +kernel) rfl (by decide) (zset_s (Nat.le_of_ble_eq_true rfl) rfl)) ?_
      refine Iff.trans (zw_goto (t := 4) (show decode cX8_bytesIn 26 = .ok (.goto (-22), 3) by decide +kernel) (by decide)) ?_
      exact Iff.rfl

theorem bX8_append_0 {d : Nat} {σ : zS} {Q : Option Value → zS → Prop} (hl : zLay σ) {a0 : Nat} {x1 : Int32} (ha0 : zk a0 = 8) : zCall d kX8_append [.ref a0, .int x1] σ Q ↔ zW d kX8_append 3 [.ref a0, .int x1, .int 24, .retAddr 0] [] σ Q := by
  show zW d kX8_append 0 [.ref a0, .int x1, .retAddr 0, .retAddr 0] [] σ Q ↔ _
  refine Iff.trans (zw_bipush (x := 24) (show decode cX8_append 0 = .ok (.bipush 24, 2) by decide +kernel) (by decide)) ?_
  refine Iff.trans (zw_istore_n (ls' := [.ref a0, .int x1, .int 24, .retAddr 0]) (show decode cX8_append 2 = .ok (.istore_n 2, 1) by decide +kernel) (zset_s (Nat.le_of_ble_eq_true rfl) rfl)) ?_
  exact Iff.rfl

theorem bX8_append_3 {d : Nat} {σ : zS} {Q : Option Value → zS → Prop} (hl : zLay σ) {a0 : Nat} {x1 x2 : Int32} {v3 : Value} (ha0 : zk a0 = 8) (hv3 : v3.category = 1) : zW d kX8_append 3 [.ref a0, .int x1, .int x2, v3] [] σ Q ↔ (if x2 < (0 : Int32) then Q none σ else (if ((((x1 : Int32).toUInt32 >>> ((x2 : Int32).toUInt32 &&& Int32.toUInt32 31)).toInt32) &&& 255) = (0 : Int32) then zW d kX8_append 3 [.ref a0, .int x1, .int (x2 + (-8)), .int ((((x1 : Int32).toUInt32 >>> ((x2 : Int32).toUInt32 &&& Int32.toUInt32 31)).toInt32) &&& 255)] [] σ Q else (if (zI σ a0 1) < (0 : Int32) then zW d kX8_append 3 [.ref a0, .int x1, .int (x2 + (-8)), .int ((((x1 : Int32).toUInt32 >>> ((x2 : Int32).toUInt32 &&& Int32.toUInt32 31)).toInt32) &&& 255)] [] σ Q else (if (160 : Int32) ≤ (zI σ a0 1) then zW d kX8_append 3 [.ref a0, .int x1, .int (x2 + (-8)), .int ((((x1 : Int32).toUInt32 >>> ((x2 : Int32).toUInt32 &&& Int32.toUInt32 31)).toInt32) &&& 255)] [] σ Q else (vp_in (zI σ a0 1) 160 ∧ zW d kX8_append 3 [.ref a0, .int x1, .int (x2 + (-8)), .int ((((x1 : Int32).toUInt32 >>> ((x2 : Int32).toUInt32 &&& Int32.toUInt32 31)).toInt32) &&& 255)] [] (zsI (zsI σ (a0 + 1) (upd (zI σ (a0 + 1)) (zI σ a0 1 : Int32).toNatClampNeg ((((x1 : Int32).toUInt32 >>> ((x2 : Int32).toUInt32 &&& Int32.toUInt32 31)).toInt32) &&& 255))) a0 (upd (zI σ a0) 1 ((zI σ a0 1) + 1))) Q))))) := by
  refine Iff.trans (zw_iload_n (show decode cX8_append 3 = .ok (.iload_n 2, 1) by decide +kernel) rfl) ?_
  refine Iff.trans (zw_if_lt (t := 64) (show decode cX8_append 4 = .ok (.ifCond .lt 60, 3) by decide +kernel) (by decide)) ?_
  refine zw_ite ?_ ?_
  · exact zw_ret (show decode cX8_append 64 = .ok (.return_, 1) by decide +kernel) rfl
  · refine Iff.trans (zw_iload_n (show decode cX8_append 7 = .ok (.iload_n 1, 1) by decide +kernel) rfl) ?_
    refine Iff.trans (zw_iload_n (show decode cX8_append 8 = .ok (.iload_n 2, 1) by decide +kernel) rfl) ?_
    refine Iff.trans (zw_iushr (show decode cX8_append 9 = .ok (.iushr, 1) by decide +kernel)) ?_
    refine Iff.trans (zw_sipush (x := 255) (show decode cX8_append 10 = .ok (.sipush 255, 3) by decide +kernel) (by decide)) ?_
    refine Iff.trans (zw_iand (show decode cX8_append 13 = .ok (.iand, 1) by decide +kernel)) ?_
    refine Iff.trans (zw_istore_n (ls' := [.ref a0, .int x1, .int x2, .int ((((x1 : Int32).toUInt32 >>> ((x2 : Int32).toUInt32 &&& Int32.toUInt32 31)).toInt32) &&& 255)]) (show decode cX8_append 14 = .ok (.istore_n 3, 1) by decide +kernel) (zset_s (Nat.le_of_ble_eq_true rfl) rfl)) ?_
    refine Iff.trans (zw_iload_n (show decode cX8_append 15 = .ok (.iload_n 3, 1) by decide +kernel) rfl) ?_
    refine Iff.trans (zw_if_eq (t := 58) (show decode cX8_append 16 = .ok (.ifCond .eq 42, 3) by decide +kernel) (by decide)) ?_
    refine zw_ite ?_ ?_
    · refine Iff.trans (zw_iinc (w := (-8)) (ls' := [.ref a0, .int x1, .int (x2 + (-8)), .int ((((x1 : Int32).toUInt32 >>> ((x2 : Int32).toUInt32 &&& Int32.toUInt32 31)).toInt32) &&& 255)]) (show decode cX8_append 58 = .ok (.iinc 2 (-8), 3) by decide +kernel) rfl (by decide) (zset_s (Nat.le_of_ble_eq_true rfl) rfl)) ?_
      refine Iff.trans (zw_goto (t := 3) (show decode cX8_append 61 = .ok (.goto (-58), 3) by decide +kernel) (by decide)) ?_
      exact Iff.rfl
    · refine Iff.trans (zw_aload_n (show decode cX8_append 19 = .ok (.aload_n 0, 1) by decide +kernel) rfl) ?_
      refine Iff.trans (zw_getI (show decode cX8_append 20 = .ok (.getfield 15, 3) by decide +kernel) (by decide +kernel : zfld 8 15 = some (8, 1)) (hl.k2 ha0) (hl.n2 ha0) (Or.inl rfl) (w := zI σ a0 1) rfl) ?_
      refine Iff.trans (zw_if_lt (t := 58) (show decode cX8_append 23 = .ok (.ifCond .lt 35, 3) by decide +kernel) (by decide)) ?_
      refine zw_ite ?_ ?_
      · refine Iff.trans (zw_iinc (w := (-8)) (ls' := [.ref a0, .int x1, .int (x2 + (-8)), .int ((((x1 : Int32).toUInt32 >>> ((x2 : Int32).toUInt32 &&& Int32.toUInt32 31)).toInt32) &&& 255)]) (show decode cX8_append 58 = .ok (.iinc 2 (-8), 3) by decide +kernel) rfl (by decide) (zset_s (Nat.le_of_ble_eq_true rfl) rfl)) ?_
        refine Iff.trans (zw_goto (t := 3) (show decode cX8_append 61 = .ok (.goto (-58), 3) by decide +kernel) (by decide)) ?_
        exact Iff.rfl
      · refine Iff.trans (zw_aload_n (show decode cX8_append 26 = .ok (.aload_n 0, 1) by decide +kernel) rfl) ?_
        refine Iff.trans (zw_getI (show decode cX8_append 27 = .ok (.getfield 15, 3) by decide +kernel) (by decide +kernel : zfld 8 15 = some (8, 1)) (hl.k2 ha0) (hl.n2 ha0) (Or.inl rfl) (w := zI σ a0 1) rfl) ?_
        refine Iff.trans (zw_aload_n (show decode cX8_append 30 = .ok (.aload_n 0, 1) by decide +kernel) rfl) ?_
        refine Iff.trans (zw_get (show decode cX8_append 31 = .ok (.getfield 9, 3) by decide +kernel) (by decide +kernel : zfld 8 9 = some (8, 0)) (hl.k2 ha0) (hl.n2 ha0) (zgetR (v := a0 + 1) (hl.r (zrt8_0 ha0)) rfl)) ?_
        refine Iff.trans (zw_alen (show decode cX8_append 34 = .ok (.arraylength, 1) by decide +kernel) ⟨by rw [(hl.k2 (zf_tape ha0).1)]; decide, Or.inl (by rw [(hl.k2 (zf_tape ha0).1)]; decide)⟩ (hl.n2 (zf_tape ha0).1) (hl.l2 (zf_tape ha0).1 (zf_tape ha0).2) (v := 160) rfl) ?_
        refine Iff.trans (zw_icmp_ge (t := 58) (show decode cX8_append 35 = .ok (.if_icmp .ge 23, 3) by decide +kernel) (by decide)) ?_
        refine zw_ite ?_ ?_
        · refine Iff.trans (zw_iinc (w := (-8)) (ls' := [.ref a0, .int x1, .int (x2 + (-8)), .int ((((x1 : Int32).toUInt32 >>> ((x2 : Int32).toUInt32 &&& Int32.toUInt32 31)).toInt32) &&& 255)]) (show decode cX8_append 58 = .ok (.iinc 2 (-8), 3) by decide +kernel) rfl (by decide) (zset_s (Nat.le_of_ble_eq_true rfl) rfl)) ?_
          refine Iff.trans (zw_goto (t := 3) (show decode cX8_append 61 = .ok (.goto (-58), 3) by decide +kernel) (by decide)) ?_
          exact Iff.rfl
        · refine Iff.trans (zw_aload_n (show decode cX8_append 38 = .ok (.aload_n 0, 1) by decide +kernel) rfl) ?_
          refine Iff.trans (zw_get (show decode cX8_append 39 = .ok (.getfield 9, 3) by decide +kernel) (by decide +kernel : zfld 8 9 = some (8, 0)) (hl.k2 ha0) (hl.n2 ha0) (zgetR (v := a0 + 1) (hl.r (zrt8_0 ha0)) rfl)) ?_
          refine Iff.trans (zw_aload_n (show decode cX8_append 42 = .ok (.aload_n 0, 1) by decide +kernel) rfl) ?_
          refine Iff.trans (zw_getI (show decode cX8_append 43 = .ok (.getfield 15, 3) by decide +kernel) (by decide +kernel : zfld 8 15 = some (8, 1)) (hl.k2 ha0) (hl.n2 ha0) (Or.inl rfl) (w := zI σ a0 1) rfl) ?_
          refine Iff.trans (zw_iload_n (show decode cX8_append 46 = .ok (.iload_n 3, 1) by decide +kernel) rfl) ?_
          refine Iff.trans (zw_iast2 (show decode cX8_append 47 = .ok (.iastore, 1) by decide +kernel) (hl.k2 (zf_tape ha0).1) (hl.n2 (zf_tape ha0).1) (hl.l2 (zf_tape ha0).1 (zf_tape ha0).2) (σ' := (zsI σ (a0 + 1) (upd (zI σ (a0 + 1)) (zI σ a0 1 : Int32).toNatClampNeg ((((x1 : Int32).toUInt32 >>> ((x2 : Int32).toUInt32 &&& Int32.toUInt32 31)).toInt32) &&& 255)))) rfl) ?_
          refine zw_and ?_
          refine Iff.trans (zw_aload_n (show decode cX8_append 48 = .ok (.aload_n 0, 1) by decide +kernel) rfl) ?_
          refine Iff.trans (zw_dup (show decode cX8_append 49 = .ok (.dup, 1) by decide +kernel) rfl) ?_
          refine Iff.trans (zw_getI (show decode cX8_append 50 = .ok (.getfield 15, 3) by decide +kernel) (by decide +kernel : zfld 8 15 = some (8, 1)) (hl.I.k2 ha0) (hl.I.n2 ha0) (Or.inl rfl) (w := zI σ a0 1) (congrFun (zI_ne (by omega)) 1)) ?_
          refine Iff.trans (zw_iconst (x := 1) (show decode cX8_append 53 = .ok (.iconst 1, 1) by decide +kernel) (by decide)) ?_
          refine Iff.trans (zw_iadd (show decode cX8_append 54 = .ok (.iadd, 1) by decide +kernel)) ?_
          refine Iff.trans (zw_putI (show decode cX8_append 55 = .ok (.putfield 15, 3) by decide +kernel) (by decide +kernel : zfld 8 15 = some (8, 1)) (hl.I.k2 ha0) (hl.I.n2 ha0) rfl (Or.inl rfl) (σ' := (zsI (zsI σ (a0 + 1) (upd (zI σ (a0 + 1)) (zI σ a0 1 : Int32).toNatClampNeg ((((x1 : Int32).toUInt32 >>> ((x2 : Int32).toUInt32 &&& Int32.toUInt32 31)).toInt32) &&& 255))) a0 (upd (zI σ a0) 1 ((zI σ a0 1) + 1)))) (congrArg (fun f => zsI (zsI σ (a0 + 1) (upd (zI σ (a0 + 1)) (zI σ a0 1 : Int32).toNatClampNeg ((((x1 : Int32).toUInt32 >>> ((x2 : Int32).toUInt32 &&& Int32.toUInt32 31)).toInt32) &&& 255))) a0 (upd f 1 ((zI σ a0 1) + 1))) (zI_ne (by omega)))) ?_
          refine Iff.trans (zw_iinc (w := (-8)) (ls' := [.ref a0, .int x1, .int (x2 + (-8)), .int ((((x1 : Int32).toUInt32 >>> ((x2 : Int32).toUInt32 &&& Int32.toUInt32 31)).toInt32) &&& 255)]) (show decode cX8_append 58 = .ok (.iinc 2 (-8), 3) by decide +kernel) rfl (by decide) (zset_s (Nat.le_of_ble_eq_true rfl) rfl)) ?_
          refine Iff.trans (zw_goto (t := 3) (show decode cX8_append 61 = .ok (.goto (-58), 3) by decide +kernel) (by decide)) ?_
          exact Iff.rfl

theorem bX8_byteAt_0 {d : Nat} {σ : zS} {Q : Option Value → zS → Prop} (hl : zLay σ) {a0 : Nat} {x1 : Int32} (ha0 : zk a0 = 8) : zCall d kX8_byteAt [.ref a0, .int x1] σ Q ↔ (if x1 < (0 : Int32) then Q (some (.int 0)) σ else (if (zI σ a0 1) ≤ x1 then Q (some (.int 0)) σ else (if x1 < 160 then (vp_in x1 160 ∧ Q (some (.int (zI σ (a0 + 1) (x1 : Int32).toNatClampNeg))) σ) else Q (some (.int 0)) σ))) := by
  show zW d kX8_byteAt 0 [.ref a0, .int x1] [] σ Q ↔ _
  refine Iff.trans (zw_iload_n (show decode cX8_byteAt 0 = .ok (.iload_n 1, 1) by decide +kernel) rfl) ?_
  refine Iff.trans (zw_if_lt (t := 21) (show decode cX8_byteAt 1 = .ok (.ifCond .lt 20, 3) by decide +kernel) (by decide)) ?_
  refine zw_ite ?_ ?_
  · refine Iff.trans (zw_iconst (x := 0) (show decode cX8_byteAt 21 = .ok (.iconst 0, 1) by decide +kernel) (by decide)) ?_
    refine Iff.trans (zw_goto (t := 31) (show decode cX8_byteAt 22 = .ok (.goto 9, 3) by decide +kernel) (by decide)) ?_
    exact zw_iret1 (show decode cX8_byteAt 31 = .ok (.ireturn, 1) by decide +kernel) rfl
  · refine Iff.trans (zw_iload_n (show decode cX8_byteAt 4 = .ok (.iload_n 1, 1) by decide +kernel) rfl) ?_
    refine Iff.trans (zw_aload_n (show decode cX8_byteAt 5 = .ok (.aload_n 0, 1) by decide +kernel) rfl) ?_
    refine Iff.trans (zw_getI (show decode cX8_byteAt 6 = .ok (.getfield 15, 3) by decide +kernel) (by decide +kernel : zfld 8 15 = some (8, 1)) (hl.k2 ha0) (hl.n2 ha0) (Or.inl rfl) (w := zI σ a0 1) rfl) ?_
    refine Iff.trans (zw_icmp_ge (t := 21) (show decode cX8_byteAt 9 = .ok (.if_icmp .ge 12, 3) by decide +kernel) (by decide)) ?_
    refine zw_ite ?_ ?_
    · refine Iff.trans (zw_iconst (x := 0) (show decode cX8_byteAt 21 = .ok (.iconst 0, 1) by decide +kernel) (by decide)) ?_
      refine Iff.trans (zw_goto (t := 31) (show decode cX8_byteAt 22 = .ok (.goto 9, 3) by decide +kernel) (by decide)) ?_
      exact zw_iret1 (show decode cX8_byteAt 31 = .ok (.ireturn, 1) by decide +kernel) rfl
    · refine Iff.trans (zw_iload_n (show decode cX8_byteAt 12 = .ok (.iload_n 1, 1) by decide +kernel) rfl) ?_
      refine Iff.trans (zw_aload_n (show decode cX8_byteAt 13 = .ok (.aload_n 0, 1) by decide +kernel) rfl) ?_
      refine Iff.trans (zw_get (show decode cX8_byteAt 14 = .ok (.getfield 9, 3) by decide +kernel) (by decide +kernel : zfld 8 9 = some (8, 0)) (hl.k2 ha0) (hl.n2 ha0) (zgetR (v := a0 + 1) (hl.r (zrt8_0 ha0)) rfl)) ?_
      refine Iff.trans (zw_alen (show decode cX8_byteAt 17 = .ok (.arraylength, 1) by decide +kernel) ⟨by rw [(hl.k2 (zf_tape ha0).1)]; decide, Or.inl (by rw [(hl.k2 (zf_tape ha0).1)]; decide)⟩ (hl.n2 (zf_tape ha0).1) (hl.l2 (zf_tape ha0).1 (zf_tape ha0).2) (v := 160) rfl) ?_
      refine Iff.trans (zw_icmp_lt (t := 25) (show decode cX8_byteAt 18 = .ok (.if_icmp .lt 7, 3) by decide +kernel) (by decide)) ?_
      refine zw_ite ?_ ?_
      · refine Iff.trans (zw_aload_n (show decode cX8_byteAt 25 = .ok (.aload_n 0, 1) by decide +kernel) rfl) ?_
        refine Iff.trans (zw_get (show decode cX8_byteAt 26 = .ok (.getfield 9, 3) by decide +kernel) (by decide +kernel : zfld 8 9 = some (8, 0)) (hl.k2 ha0) (hl.n2 ha0) (zgetR (v := a0 + 1) (hl.r (zrt8_0 ha0)) rfl)) ?_
        refine Iff.trans (zw_iload_n (show decode cX8_byteAt 29 = .ok (.iload_n 1, 1) by decide +kernel) rfl) ?_
        refine Iff.trans (zw_iald2 (show decode cX8_byteAt 30 = .ok (.iaload, 1) by decide +kernel) (hl.k2 (zf_tape ha0).1) (hl.n2 (zf_tape ha0).1) (hl.l2 (zf_tape ha0).1 (zf_tape ha0).2) (w := zI σ (a0 + 1) (x1 : Int32).toNatClampNeg) rfl) ?_
        refine zw_and ?_
        exact zw_iret1 (show decode cX8_byteAt 31 = .ok (.ireturn, 1) by decide +kernel) rfl
      · refine Iff.trans (zw_iconst (x := 0) (show decode cX8_byteAt 21 = .ok (.iconst 0, 1) by decide +kernel) (by decide)) ?_
        refine Iff.trans (zw_goto (t := 31) (show decode cX8_byteAt 22 = .ok (.goto 9, 3) by decide +kernel) (by decide)) ?_
        exact zw_iret1 (show decode cX8_byteAt 31 = .ok (.ireturn, 1) by decide +kernel) rfl

theorem bX8_isCell_0 {d : Nat} {σ : zS} {Q : Option Value → zS → Prop} (hl : zLay σ) {x0 : Int32} : zCall d kX8_isCell [.int x0] σ Q ↔ (if x0 < 49 then zW d kX8_isCell 12 [.int x0] [] σ Q else (if x0 ≤ 57 then Q (some (.int 1)) σ else zW d kX8_isCell 12 [.int x0] [] σ Q)) := by
  show zW d kX8_isCell 0 [.int x0] [] σ Q ↔ _
  refine Iff.trans (zw_iload_n (show decode cX8_isCell 0 = .ok (.iload_n 0, 1) by decide +kernel) rfl) ?_
  refine Iff.trans (zw_bipush (x := 49) (show decode cX8_isCell 1 = .ok (.bipush 49, 2) by decide +kernel) (by decide)) ?_
  refine Iff.trans (zw_icmp_lt (t := 12) (show decode cX8_isCell 3 = .ok (.if_icmp .lt 9, 3) by decide +kernel) (by decide)) ?_
  refine zw_ite ?_ ?_
  · exact Iff.rfl
  · refine Iff.trans (zw_iload_n (show decode cX8_isCell 6 = .ok (.iload_n 0, 1) by decide +kernel) rfl) ?_
    refine Iff.trans (zw_bipush (x := 57) (show decode cX8_isCell 7 = .ok (.bipush 57, 2) by decide +kernel) (by decide)) ?_
    refine Iff.trans (zw_icmp_le (t := 24) (show decode cX8_isCell 9 = .ok (.if_icmp .le 15, 3) by decide +kernel) (by decide)) ?_
    refine zw_ite ?_ ?_
    · refine Iff.trans (zw_iconst (x := 1) (show decode cX8_isCell 24 = .ok (.iconst 1, 1) by decide +kernel) (by decide)) ?_
      refine Iff.trans (zw_goto (t := 29) (show decode cX8_isCell 25 = .ok (.goto 4, 3) by decide +kernel) (by decide)) ?_
      exact zw_iret2c (show decode cX8_isCell 29 = .ok (.ireturn, 1) by decide +kernel) rfl (Or.inr rfl)
    · exact Iff.rfl

theorem bX8_isCell_12 {d : Nat} {σ : zS} {Q : Option Value → zS → Prop} (hl : zLay σ) {x0 : Int32} : zW d kX8_isCell 12 [.int x0] [] σ Q ↔ (if x0 = 111 then Q (some (.int 1)) σ else (if x0 = 64 then Q (some (.int 1)) σ else Q (some (.int 0)) σ)) := by
  refine Iff.trans (zw_iload_n (show decode cX8_isCell 12 = .ok (.iload_n 0, 1) by decide +kernel) rfl) ?_
  refine Iff.trans (zw_bipush (x := 111) (show decode cX8_isCell 13 = .ok (.bipush 111, 2) by decide +kernel) (by decide)) ?_
  refine Iff.trans (zw_icmp_eq (t := 24) (show decode cX8_isCell 15 = .ok (.if_icmp .eq 9, 3) by decide +kernel) (by decide)) ?_
  refine zw_ite ?_ ?_
  · refine Iff.trans (zw_iconst (x := 1) (show decode cX8_isCell 24 = .ok (.iconst 1, 1) by decide +kernel) (by decide)) ?_
    refine Iff.trans (zw_goto (t := 29) (show decode cX8_isCell 25 = .ok (.goto 4, 3) by decide +kernel) (by decide)) ?_
    exact zw_iret2c (show decode cX8_isCell 29 = .ok (.ireturn, 1) by decide +kernel) rfl (Or.inr rfl)
  · refine Iff.trans (zw_iload_n (show decode cX8_isCell 18 = .ok (.iload_n 0, 1) by decide +kernel) rfl) ?_
    refine Iff.trans (zw_bipush (x := 64) (show decode cX8_isCell 19 = .ok (.bipush 64, 2) by decide +kernel) (by decide)) ?_
    refine Iff.trans (zw_icmp_ne (t := 28) (show decode cX8_isCell 21 = .ok (.if_icmp .ne 7, 3) by decide +kernel) (by decide)) ?_
    refine zw_ite ?_ ?_
    · refine Iff.trans (zw_iconst (x := 1) (show decode cX8_isCell 24 = .ok (.iconst 1, 1) by decide +kernel) (by decide)) ?_
      refine Iff.trans (zw_goto (t := 29) (show decode cX8_isCell 25 = .ok (.goto 4, 3) by decide +kernel) (by decide)) ?_
      exact zw_iret2c (show decode cX8_isCell 29 = .ok (.ireturn, 1) by decide +kernel) rfl (Or.inr rfl)
    · refine Iff.trans (zw_iconst (x := 0) (show decode cX8_isCell 28 = .ok (.iconst 0, 1) by decide +kernel) (by decide)) ?_
      exact zw_iret2c (show decode cX8_isCell 29 = .ok (.ireturn, 1) by decide +kernel) rfl (Or.inl rfl)

theorem bX8_readBrook_0 {d : Nat} {σ : zS} {Q : Option Value → zS → Prop} (hl : zLay σ) {a0 a1 : Nat} (ha0 : zk a0 = 8) (ha1 : zk a1 = 0) : zCall (d + 1) kX8_readBrook [.ref a0, .ref a1] σ Q ↔ zCall d kX0_clear [.ref a1] σ (fun r σ' => zisN r = true ∧ zW (d + 1) kX8_readBrook 4 [.ref a0, .ref a1, .retAddr 0, .retAddr 0, .retAddr 0, .retAddr 0] (zRstk r ++ []) σ' Q) := by
  show zW (d + 1) kX8_readBrook 0 [.ref a0, .ref a1, .retAddr 0, .retAddr 0, .retAddr 0, .retAddr 0] [] σ Q ↔ _
  refine Iff.trans (zw_aload_n (show decode cX8_readBrook 0 = .ok (.aload_n 1, 1) by decide +kernel) rfl) ?_
  refine Iff.trans (zw_invV (K' := kX0_clear) (as' := []) (rest := []) (show decode cX8_readBrook 1 = .ok (.invokevirtual 21, 3) by decide +kernel) (by rfl) rfl rfl rfl (hl.k2 ha1) (by decide) (hl.n2 ha1) ⟨Nat.le_of_ble_eq_true rfl, Nat.le_of_ble_eq_true rfl, Nat.le_of_ble_eq_true rfl⟩) ?_
  exact Iff.rfl

theorem bX8_readBrook_4 {d : Nat} {σ : zS} {Q : Option Value → zS → Prop} (hl : zLay σ) {a0 a1 : Nat} (ha0 : zk a0 = 8) (ha1 : zk a1 = 0) : zW (d + 1) kX8_readBrook 4 [.ref a0, .ref a1, .retAddr 0, .retAddr 0, .retAddr 0, .retAddr 0] [] σ Q ↔ zW (d + 1) kX8_readBrook 11 [.ref a0, .ref a1, .int 0, .int 0, .int 0, .retAddr 0] [] σ Q := by
  refine Iff.trans (zw_iconst (x := 0) (show decode cX8_readBrook 4 = .ok (.iconst 0, 1) by decide +kernel) (by decide)) ?_
  refine Iff.trans (zw_istore_n (ls' := [.ref a0, .ref a1, .int 0, .retAddr 0, .retAddr 0, .retAddr 0]) (show decode cX8_readBrook 5 = .ok (.istore_n 2, 1) by decide +kernel) (zset_s (Nat.le_of_ble_eq_true rfl) rfl)) ?_
  refine Iff.trans (zw_iconst (x := 0) (show decode cX8_readBrook 6 = .ok (.iconst 0, 1) by decide +kernel) (by decide)) ?_
  refine Iff.trans (zw_istore_n (ls' := [.ref a0, .ref a1, .int 0, .int 0, .retAddr 0, .retAddr 0]) (show decode cX8_readBrook 7 = .ok (.istore_n 3, 1) by decide +kernel) (zset_s (Nat.le_of_ble_eq_true rfl) rfl)) ?_
  refine Iff.trans (zw_iconst (x := 0) (show decode cX8_readBrook 8 = .ok (.iconst 0, 1) by decide +kernel) (by decide)) ?_
  refine Iff.trans (zw_istore (ls' := [.ref a0, .ref a1, .int 0, .int 0, .int 0, .retAddr 0]) (show decode cX8_readBrook 9 = .ok (.istore 4, 2) by decide +kernel) (zset_s (Nat.le_of_ble_eq_true rfl) rfl)) ?_
  exact Iff.rfl

theorem bX8_readBrook_11 {d : Nat} {σ : zS} {Q : Option Value → zS → Prop} (hl : zLay σ) {a0 a1 : Nat} {x2 x3 x4 : Int32} {v5 : Value} (ha0 : zk a0 = 8) (ha1 : zk a1 = 0) (hv5 : v5.category = 1) : zW (d + 1) kX8_readBrook 11 [.ref a0, .ref a1, .int x2, .int x3, .int x4, v5] [] σ Q ↔ (if (zI σ a0 1) ≤ x4 then (if (x2 + 1) < 2 then Q (some (.int (zI σ a0 1))) (zsI σ a1 (upd (zI σ a1) 3 (x2 + 1))) else (if (zI σ a1 4) ≤ x3 then Q (some (.int (-1))) (zsI σ a1 (upd (zI σ a1) 3 (x2 + 1))) else Q (some (.int (zI σ a0 1))) (zsI σ a1 (upd (zI σ a1) 3 (x2 + 1))))) else zCall d kX8_byteAt [.ref a0, .int x4] σ (fun r σ' => zisN r = true ∧ zW (d + 1) kX8_readBrook 26 [.ref a0, .ref a1, .int x2, .int x3, .int x4, v5] (zRstk r ++ []) σ' Q)) := by
  refine Iff.trans (zw_iload (show decode cX8_readBrook 11 = .ok (.iload 4, 2) by decide +kernel) rfl) ?_
  refine Iff.trans (zw_aload_n (show decode cX8_readBrook 13 = .ok (.aload_n 0, 1) by decide +kernel) rfl) ?_
  refine Iff.trans (zw_getI (show decode cX8_readBrook 14 = .ok (.getfield 15, 3) by decide +kernel) (by decide +kernel : zfld 8 15 = some (8, 1)) (hl.k2 ha0) (hl.n2 ha0) (Or.inl rfl) (w := zI σ a0 1) rfl) ?_
  refine Iff.trans (zw_icmp_ge (t := 130) (show decode cX8_readBrook 17 = .ok (.if_icmp .ge 113, 3) by decide +kernel) (by decide)) ?_
  refine zw_ite ?_ ?_
  · refine Iff.trans (zw_aload_n (show decode cX8_readBrook 130 = .ok (.aload_n 1, 1) by decide +kernel) rfl) ?_
    refine Iff.trans (zw_iload_n (show decode cX8_readBrook 131 = .ok (.iload_n 2, 1) by decide +kernel) rfl) ?_
    refine Iff.trans (zw_iconst (x := 1) (show decode cX8_readBrook 132 = .ok (.iconst 1, 1) by decide +kernel) (by decide)) ?_
    refine Iff.trans (zw_iadd (show decode cX8_readBrook 133 = .ok (.iadd, 1) by decide +kernel)) ?_
    refine Iff.trans (zw_putI (show decode cX8_readBrook 134 = .ok (.putfield 39, 3) by decide +kernel) (by decide +kernel : zfld 8 39 = some (0, 3)) (hl.k2 ha1) (hl.n2 ha1) rfl (Or.inl rfl) (σ' := (zsI σ a1 (upd (zI σ a1) 3 (x2 + 1)))) rfl) ?_
    refine Iff.trans (zw_aload_n (show decode cX8_readBrook 137 = .ok (.aload_n 1, 1) by decide +kernel) rfl) ?_
    refine Iff.trans (zw_getI (show decode cX8_readBrook 138 = .ok (.getfield 39, 3) by decide +kernel) (by decide +kernel : zfld 8 39 = some (0, 3)) (hl.I.k2 ha1) (hl.I.n2 ha1) (Or.inl rfl) (w := (x2 + 1)) (congrFun zI_self 3)) ?_
    refine Iff.trans (zw_iconst (x := 2) (show decode cX8_readBrook 141 = .ok (.iconst 2, 1) by decide +kernel) (by decide)) ?_
    refine Iff.trans (zw_icmp_lt (t := 153) (show decode cX8_readBrook 142 = .ok (.if_icmp .lt 11, 3) by decide +kernel) (by decide)) ?_
    refine zw_ite ?_ ?_
    · refine Iff.trans (zw_aload_n (show decode cX8_readBrook 153 = .ok (.aload_n 0, 1) by decide +kernel) rfl) ?_
      refine Iff.trans (zw_getI (show decode cX8_readBrook 154 = .ok (.getfield 15, 3) by decide +kernel) (by decide +kernel : zfld 8 15 = some (8, 1)) (hl.I.k2 ha0) (hl.I.n2 ha0) (Or.inl rfl) (w := zI σ a0 1) (congrFun (zI_ne (zk_ne ha0 ha1 (by decide))) 1)) ?_
      refine Iff.trans (zw_goto (t := 161) (show decode cX8_readBrook 157 = .ok (.goto 4, 3) by decide +kernel) (by decide)) ?_
      exact zw_iret1 (show decode cX8_readBrook 161 = .ok (.ireturn, 1) by decide +kernel) rfl
    · refine Iff.trans (zw_iload_n (show decode cX8_readBrook 145 = .ok (.iload_n 3, 1) by decide +kernel) rfl) ?_
      refine Iff.trans (zw_aload_n (show decode cX8_readBrook 146 = .ok (.aload_n 1, 1) by decide +kernel) rfl) ?_
      refine Iff.trans (zw_getI (show decode cX8_readBrook 147 = .ok (.getfield 32, 3) by decide +kernel) (by decide +kernel : zfld 8 32 = some (0, 4)) (hl.I.k2 ha1) (hl.I.n2 ha1) (Or.inl rfl) (w := zI σ a1 4) (congrFun zI_self 4)) ?_
      refine Iff.trans (zw_icmp_ge (t := 160) (show decode cX8_readBrook 150 = .ok (.if_icmp .ge 10, 3) by decide +kernel) (by decide)) ?_
      refine zw_ite ?_ ?_
      · refine Iff.trans (zw_iconst (x := (-1)) (show decode cX8_readBrook 160 = .ok (.iconst (-1), 1) by decide +kernel) (by decide)) ?_
        exact zw_iret1 (show decode cX8_readBrook 161 = .ok (.ireturn, 1) by decide +kernel) rfl
      · refine Iff.trans (zw_aload_n (show decode cX8_readBrook 153 = .ok (.aload_n 0, 1) by decide +kernel) rfl) ?_
        refine Iff.trans (zw_getI (show decode cX8_readBrook 154 = .ok (.getfield 15, 3) by decide +kernel) (by decide +kernel : zfld 8 15 = some (8, 1)) (hl.I.k2 ha0) (hl.I.n2 ha0) (Or.inl rfl) (w := zI σ a0 1) (congrFun (zI_ne (zk_ne ha0 ha1 (by decide))) 1)) ?_
        refine Iff.trans (zw_goto (t := 161) (show decode cX8_readBrook 157 = .ok (.goto 4, 3) by decide +kernel) (by decide)) ?_
        exact zw_iret1 (show decode cX8_readBrook 161 = .ok (.ireturn, 1) by decide +kernel) rfl
  · refine Iff.trans (zw_aload_n (show decode cX8_readBrook 20 = .ok (.aload_n 0, 1) by decide +kernel) rfl) ?_
    refine Iff.trans (zw_iload (show decode cX8_readBrook 21 = .ok (.iload 4, 2) by decide +kernel) rfl) ?_
    refine Iff.trans (zw_invV (K' := kX8_byteAt) (as' := [.int x4]) (rest := []) (show decode cX8_readBrook 23 = .ok (.invokevirtual 24, 3) by decide +kernel) (by rfl) rfl rfl rfl (hl.k2 ha0) (by decide) (hl.n2 ha0) ⟨Nat.le_of_ble_eq_true rfl, Nat.le_of_ble_eq_true rfl, Nat.le_of_ble_eq_true rfl⟩) ?_
    exact Iff.rfl

theorem bX8_readBrook_26 {d : Nat} {σ : zS} {Q : Option Value → zS → Prop} (hl : zLay σ) {a0 a1 : Nat} {x2 x3 x4 y0 : Int32} {v5 : Value} (ha0 : zk a0 = 8) (ha1 : zk a1 = 0) (hv5 : v5.category = 1) : zW (d + 1) kX8_readBrook 26 [.ref a0, .ref a1, .int x2, .int x3, .int x4, v5] [.int y0] σ Q ↔ zCall d kX8_isCell [.int y0] σ (fun r σ' => zisN r = true ∧ zW (d + 1) kX8_readBrook 33 [.ref a0, .ref a1, .int x2, .int x3, .int x4, .int y0] (zRstk r ++ []) σ' Q) := by
  refine Iff.trans (zw_istore (ls' := [.ref a0, .ref a1, .int x2, .int x3, .int x4, .int y0]) (show decode cX8_readBrook 26 = .ok (.istore 5, 2) by decide +kernel) (zset_s (Nat.le_of_ble_eq_true rfl) rfl)) ?_
  refine Iff.trans (zw_iload (show decode cX8_readBrook 28 = .ok (.iload 5, 2) by decide +kernel) rfl) ?_
  refine Iff.trans (zw_invS (K' := kX8_isCell) (as := [.int y0]) (rest := []) (show decode cX8_readBrook 30 = .ok (.invokestatic 28, 3) by decide +kernel) (by rfl) rfl rfl rfl ⟨Nat.le_of_ble_eq_true rfl, Nat.le_of_ble_eq_true rfl, Nat.le_of_ble_eq_true rfl⟩) ?_
  exact Iff.rfl

theorem bX8_readBrook_33 {d : Nat} {σ : zS} {Q : Option Value → zS → Prop} (hl : zLay σ) {a0 a1 : Nat} {x2 x3 x4 x5 y0 : Int32} (ha0 : zk a0 = 8) (ha1 : zk a1 = 0) : zW (d + 1) kX8_readBrook 33 [.ref a0, .ref a1, .int x2, .int x3, .int x4, .int x5] [.int y0] σ Q ↔ (if y0 = (0 : Int32) then (if x5 = 59 then (if 5 ≤ x2 then Q (some (.int x4)) σ else (if x2 = (0 : Int32) then zW (d + 1) kX8_readBrook 95 [.ref a0, .ref a1, .int x2, .int x3, .int x4, .int x5] [.int 4, .int x3] σ Q else zW (d + 1) kX8_readBrook 95 [.ref a0, .ref a1, .int x2, .int x3, .int x4, .int x5] [.int (zI σ a1 4), .int x3] σ Q)) else (if x5 = 32 then zW (d + 1) kX8_readBrook 11 [.ref a0, .ref a1, .int x2, .int x3, .int (x4 + 1), .int x5] [] σ Q else Q (some (.int x4)) σ)) else (if x2 = (0 : Int32) then zW (d + 1) kX8_readBrook 50 [.ref a0, .ref a1, .int x2, .int x3, .int x4, .int x5] [.int 16, .int x3] σ Q else zW (d + 1) kX8_readBrook 50 [.ref a0, .ref a1, .int x2, .int x3, .int x4, .int x5] [.int (zI σ a1 4), .int x3] σ Q)) := by
  refine Iff.trans (zw_if_eq (t := 70) (show decode cX8_readBrook 33 = .ok (.ifCond .eq 37, 3) by decide +kernel) (by decide)) ?_
  refine zw_ite ?_ ?_
  · refine Iff.trans (zw_iload (show decode cX8_readBrook 70 = .ok (.iload 5, 2) by decide +kernel) rfl) ?_
    refine Iff.trans (zw_bipush (x := 59) (show decode cX8_readBrook 72 = .ok (.bipush 59, 2) by decide +kernel) (by decide)) ?_
    refine Iff.trans (zw_icmp_ne (t := 114) (show decode cX8_readBrook 74 = .ok (.if_icmp .ne 40, 3) by decide +kernel) (by decide)) ?_
    refine zw_ite ?_ ?_
    · refine Iff.trans (zw_iload_n (show decode cX8_readBrook 77 = .ok (.iload_n 2, 1) by decide +kernel) rfl) ?_
      refine Iff.trans (zw_iconst (x := 5) (show decode cX8_readBrook 78 = .ok (.iconst 5, 1) by decide +kernel) (by decide)) ?_
      refine Iff.trans (zw_icmp_ge (t := 98) (show decode cX8_readBrook 79 = .ok (.if_icmp .ge 19, 3) by decide +kernel) (by decide)) ?_
      refine zw_ite ?_ ?_
      · refine Iff.trans (zw_iload (show decode cX8_readBrook 98 = .ok (.iload 4, 2) by decide +kernel) rfl) ?_
        exact zw_iret1 (show decode cX8_readBrook 100 = .ok (.ireturn, 1) by decide +kernel) rfl
      · refine Iff.trans (zw_iload_n (show decode cX8_readBrook 82 = .ok (.iload_n 3, 1) by decide +kernel) rfl) ?_
        refine Iff.trans (zw_iload_n (show decode cX8_readBrook 83 = .ok (.iload_n 2, 1) by decide +kernel) rfl) ?_
        refine Iff.trans (zw_if_ne (t := 91) (show decode cX8_readBrook 84 = .ok (.ifCond .ne 7, 3) by decide +kernel) (by decide)) ?_
        refine zw_ite ?_ ?_
        · refine Iff.trans (zw_iconst (x := 4) (show decode cX8_readBrook 87 = .ok (.iconst 4, 1) by decide +kernel) (by decide)) ?_
          refine Iff.trans (zw_goto (t := 95) (show decode cX8_readBrook 88 = .ok (.goto 7, 3) by decide +kernel) (by decide)) ?_
          exact Iff.rfl
        · refine Iff.trans (zw_aload_n (show decode cX8_readBrook 91 = .ok (.aload_n 1, 1) by decide +kernel) rfl) ?_
          refine Iff.trans (zw_getI (show decode cX8_readBrook 92 = .ok (.getfield 32, 3) by decide +kernel) (by decide +kernel : zfld 8 32 = some (0, 4)) (hl.k2 ha1) (hl.n2 ha1) (Or.inl rfl) (w := zI σ a1 4) rfl) ?_
          exact Iff.rfl
    · refine Iff.trans (zw_iload (show decode cX8_readBrook 114 = .ok (.iload 5, 2) by decide +kernel) rfl) ?_
      refine Iff.trans (zw_bipush (x := 32) (show decode cX8_readBrook 116 = .ok (.bipush 32, 2) by decide +kernel) (by decide)) ?_
      refine Iff.trans (zw_icmp_eq (t := 124) (show decode cX8_readBrook 118 = .ok (.if_icmp .eq 6, 3) by decide +kernel) (by decide)) ?_
      refine zw_ite ?_ ?_
      · refine Iff.trans (zw_iinc (w := 1) (ls' := [.ref a0, .ref a1, .int x2, .int x3, .int (x4 + 1), .int x5]) (show decode cX8_readBrook 124 = .ok (.iinc 4 1, 3) by decide +kernel) rfl (by decide) (zset_s (Nat.le_of_ble_eq_true rfl) rfl)) ?_
        refine Iff.trans (zw_goto (t := 11) (show decode cX8_readBrook 127 = .ok (.goto (-116), 3) by decide +kernel) (by decide)) ?_
        exact Iff.rfl
      · refine Iff.trans (zw_iload (show decode cX8_readBrook 121 = .ok (.iload 4, 2) by decide +kernel) rfl) ?_
        exact zw_iret1 (show decode cX8_readBrook 123 = .ok (.ireturn, 1) by decide +kernel) rfl
  · refine Iff.trans (zw_iload_n (show decode cX8_readBrook 36 = .ok (.iload_n 3, 1) by decide +kernel) rfl) ?_
    refine Iff.trans (zw_iload_n (show decode cX8_readBrook 37 = .ok (.iload_n 2, 1) by decide +kernel) rfl) ?_
    refine Iff.trans (zw_if_ne (t := 46) (show decode cX8_readBrook 38 = .ok (.ifCond .ne 8, 3) by decide +kernel) (by decide)) ?_
    refine zw_ite ?_ ?_
    · refine Iff.trans (zw_bipush (x := 16) (show decode cX8_readBrook 41 = .ok (.bipush 16, 2) by decide +kernel) (by decide)) ?_
      refine Iff.trans (zw_goto (t := 50) (show decode cX8_readBrook 43 = .ok (.goto 7, 3) by decide +kernel) (by decide)) ?_
      exact Iff.rfl
    · refine Iff.trans (zw_aload_n (show decode cX8_readBrook 46 = .ok (.aload_n 1, 1) by decide +kernel) rfl) ?_
      refine Iff.trans (zw_getI (show decode cX8_readBrook 47 = .ok (.getfield 32, 3) by decide +kernel) (by decide +kernel : zfld 8 32 = some (0, 4)) (hl.k2 ha1) (hl.n2 ha1) (Or.inl rfl) (w := zI σ a1 4) rfl) ?_
      exact Iff.rfl

theorem bX8_readBrook_50 {d : Nat} {σ : zS} {Q : Option Value → zS → Prop} (hl : zLay σ) {a0 a1 : Nat} {x2 x3 x4 x5 y0 y1 : Int32} (ha0 : zk a0 = 8) (ha1 : zk a1 = 0) : zW (d + 1) kX8_readBrook 50 [.ref a0, .ref a1, .int x2, .int x3, .int x4, .int x5] [.int y0, .int y1] σ Q ↔ (if y1 < y0 then zCall d kX0_put [.ref a1, .int x3, .int x2, .int x5] σ (fun r σ' => zisN r = true ∧ zW (d + 1) kX8_readBrook 64 [.ref a0, .ref a1, .int x2, .int x3, .int x4, .int x5] (zRstk r ++ []) σ' Q) else Q (some (.int x4)) σ) := by
  refine Iff.trans (zw_icmp_lt (t := 56) (show decode cX8_readBrook 50 = .ok (.if_icmp .lt 6, 3) by decide +kernel) (by decide)) ?_
  refine zw_ite ?_ ?_
  · refine Iff.trans (zw_aload_n (show decode cX8_readBrook 56 = .ok (.aload_n 1, 1) by decide +kernel) rfl) ?_
    refine Iff.trans (zw_iload_n (show decode cX8_readBrook 57 = .ok (.iload_n 3, 1) by decide +kernel) rfl) ?_
    refine Iff.trans (zw_iload_n (show decode cX8_readBrook 58 = .ok (.iload_n 2, 1) by decide +kernel) rfl) ?_
    refine Iff.trans (zw_iload (show decode cX8_readBrook 59 = .ok (.iload 5, 2) by decide +kernel) rfl) ?_
    refine Iff.trans (zw_invV (K' := kX0_put) (as' := [.int x3, .int x2, .int x5]) (rest := []) (show decode cX8_readBrook 61 = .ok (.invokevirtual 35, 3) by decide +kernel) (by rfl) rfl rfl rfl (hl.k2 ha1) (by decide) (hl.n2 ha1) ⟨Nat.le_of_ble_eq_true rfl, Nat.le_of_ble_eq_true rfl, Nat.le_of_ble_eq_true rfl⟩) ?_
    exact Iff.rfl
  · refine Iff.trans (zw_iload (show decode cX8_readBrook 53 = .ok (.iload 4, 2) by decide +kernel) rfl) ?_
    exact zw_iret1 (show decode cX8_readBrook 55 = .ok (.ireturn, 1) by decide +kernel) rfl

theorem bX8_readBrook_64 {d : Nat} {σ : zS} {Q : Option Value → zS → Prop} (hl : zLay σ) {a0 a1 : Nat} {x2 x3 x4 x5 : Int32} (ha0 : zk a0 = 8) (ha1 : zk a1 = 0) : zW (d + 1) kX8_readBrook 64 [.ref a0, .ref a1, .int x2, .int x3, .int x4, .int x5] [] σ Q ↔ zW (d + 1) kX8_readBrook 11 [.ref a0, .ref a1, .int x2, .int (x3 + 1), .int (x4 + 1), .int x5] [] σ Q := by
  refine Iff.trans (zw_iinc (w := 1) (ls' := [.ref a0, .ref a1, .int x2, .int (x3 + 1), .int x4, .int x5]) (show decode cX8_readBrook 64 = .ok (.iinc 3 1, 3) by decide +kernel) rfl (by decide) (zset_s (Nat.le_of_ble_eq_true rfl) rfl)) ?_
  refine Iff.trans (zw_goto (t := 124) (show decode cX8_readBrook 67 = .ok (.goto 57, 3) by decide +kernel) (by decide)) ?_
  refine Iff.trans (zw_iinc (w := 1) (ls' := [.ref a0, .ref a1, .int x2, .int (x3 + 1), .int (x4 + 1), .int x5]) (show decode cX8_readBrook 124 = .ok (.iinc 4 1, 3) by decide +kernel) rfl (by decide) (zset_s (Nat.le_of_ble_eq_true rfl) rfl)) ?_
  refine Iff.trans (zw_goto (t := 11) (show decode cX8_readBrook 127 = .ok (.goto (-116), 3) by decide +kernel) (by decide)) ?_
  exact Iff.rfl

theorem bX8_readBrook_95 {d : Nat} {σ : zS} {Q : Option Value → zS → Prop} (hl : zLay σ) {a0 a1 : Nat} {x2 x3 x4 x5 y0 y1 : Int32} (ha0 : zk a0 = 8) (ha1 : zk a1 = 0) : zW (d + 1) kX8_readBrook 95 [.ref a0, .ref a1, .int x2, .int x3, .int x4, .int x5] [.int y0, .int y1] σ Q ↔ (if y0 ≤ y1 then zW (d + 1) kX8_readBrook 11 [.ref a0, .ref a1, .int (x2 + 1), .int 0, .int (x4 + 1), .int x5] [] (zsI σ a1 (upd (zI σ a1) 4 x3)) Q else Q (some (.int x4)) σ) := by
  refine Iff.trans (zw_icmp_ge (t := 101) (show decode cX8_readBrook 95 = .ok (.if_icmp .ge 6, 3) by decide +kernel) (by decide)) ?_
  refine zw_ite ?_ ?_
  · refine Iff.trans (zw_aload_n (show decode cX8_readBrook 101 = .ok (.aload_n 1, 1) by decide +kernel) rfl) ?_
    refine Iff.trans (zw_iload_n (show decode cX8_readBrook 102 = .ok (.iload_n 3, 1) by decide +kernel) rfl) ?_
    refine Iff.trans (zw_putI (show decode cX8_readBrook 103 = .ok (.putfield 32, 3) by decide +kernel) (by decide +kernel : zfld 8 32 = some (0, 4)) (hl.k2 ha1) (hl.n2 ha1) rfl (Or.inl rfl) (σ' := (zsI σ a1 (upd (zI σ a1) 4 x3))) rfl) ?_
    refine Iff.trans (zw_iinc (w := 1) (ls' := [.ref a0, .ref a1, .int (x2 + 1), .int x3, .int x4, .int x5]) (show decode cX8_readBrook 106 = .ok (.iinc 2 1, 3) by decide +kernel) rfl (by decide) (zset_s (Nat.le_of_ble_eq_true rfl) rfl)) ?_
    refine Iff.trans (zw_iconst (x := 0) (show decode cX8_readBrook 109 = .ok (.iconst 0, 1) by decide +kernel) (by decide)) ?_
    refine Iff.trans (zw_istore_n (ls' := [.ref a0, .ref a1, .int (x2 + 1), .int 0, .int x4, .int x5]) (show decode cX8_readBrook 110 = .ok (.istore_n 3, 1) by decide +kernel) (zset_s (Nat.le_of_ble_eq_true rfl) rfl)) ?_
    refine Iff.trans (zw_goto (t := 124) (show decode cX8_readBrook 111 = .ok (.goto 13, 3) by decide +kernel) (by decide)) ?_
    refine Iff.trans (zw_iinc (w := 1) (ls' := [.ref a0, .ref a1, .int (x2 + 1), .int 0, .int (x4 + 1), .int x5]) (show decode cX8_readBrook 124 = .ok (.iinc 4 1, 3) by decide +kernel) rfl (by decide) (zset_s (Nat.le_of_ble_eq_true rfl) rfl)) ?_
    refine Iff.trans (zw_goto (t := 11) (show decode cX8_readBrook 127 = .ok (.goto (-116), 3) by decide +kernel) (by decide)) ?_
    exact Iff.rfl
  · refine Iff.trans (zw_iload (show decode cX8_readBrook 98 = .ok (.iload 4, 2) by decide +kernel) rfl) ?_
    exact zw_iret1 (show decode cX8_readBrook 100 = .ok (.ireturn, 1) by decide +kernel) rfl

theorem bX8_readStick_0 {d : Nat} {σ : zS} {Q : Option Value → zS → Prop} (hl : zLay σ) {a0 a1 : Nat} (ha0 : zk a0 = 8) (ha1 : zk a1 = 6) : zCall (d + 1) kX8_readStick [.ref a0, .ref a1] σ Q ↔ zCall d kX6_shape [.ref a1, .int 1, .int 5, .int 0] σ (fun r σ' => zisN r = true ∧ zW (d + 1) kX8_readStick 7 [.ref a0, .ref a1, .retAddr 0, .retAddr 0, .retAddr 0, .retAddr 0, .retAddr 0, .retAddr 0] (zRstk r ++ []) σ' Q) := by
  show zW (d + 1) kX8_readStick 0 [.ref a0, .ref a1, .retAddr 0, .retAddr 0, .retAddr 0, .retAddr 0, .retAddr 0, .retAddr 0] [] σ Q ↔ _
  refine Iff.trans (zw_aload_n (show decode cX8_readStick 0 = .ok (.aload_n 1, 1) by decide +kernel) rfl) ?_
  refine Iff.trans (zw_iconst (x := 1) (show decode cX8_readStick 1 = .ok (.iconst 1, 1) by decide +kernel) (by decide)) ?_
  refine Iff.trans (zw_iconst (x := 5) (show decode cX8_readStick 2 = .ok (.iconst 5, 1) by decide +kernel) (by decide)) ?_
  refine Iff.trans (zw_iconst (x := 0) (show decode cX8_readStick 3 = .ok (.iconst 0, 1) by decide +kernel) (by decide)) ?_
  refine Iff.trans (zw_invV (K' := kX6_shape) (as' := [.int 1, .int 5, .int 0]) (rest := []) (show decode cX8_readStick 4 = .ok (.invokevirtual 42, 3) by decide +kernel) (by rfl) rfl rfl rfl (hl.k2 ha1) (by decide) (hl.n2 ha1) ⟨Nat.le_of_ble_eq_true rfl, Nat.le_of_ble_eq_true rfl, Nat.le_of_ble_eq_true rfl⟩) ?_
  exact Iff.rfl

theorem bX8_readStick_7 {d : Nat} {σ : zS} {Q : Option Value → zS → Prop} (hl : zLay σ) {a0 a1 : Nat} (ha0 : zk a0 = 8) (ha1 : zk a1 = 6) : zW (d + 1) kX8_readStick 7 [.ref a0, .ref a1, .retAddr 0, .retAddr 0, .retAddr 0, .retAddr 0, .retAddr 0, .retAddr 0] [] σ Q ↔ zW (d + 1) kX8_readStick 14 [.ref a0, .ref a1, .int 0, .int 0, .int 0, .retAddr 0, .retAddr 0, .retAddr 0] [] σ Q := by
  refine Iff.trans (zw_iconst (x := 0) (show decode cX8_readStick 7 = .ok (.iconst 0, 1) by decide +kernel) (by decide)) ?_
  refine Iff.trans (zw_istore_n (ls' := [.ref a0, .ref a1, .int 0, .retAddr 0, .retAddr 0, .retAddr 0, .retAddr 0, .retAddr 0]) (show decode cX8_readStick 8 = .ok (.istore_n 2, 1) by decide +kernel) (zset_s (Nat.le_of_ble_eq_true rfl) rfl)) ?_
  refine Iff.trans (zw_iconst (x := 0) (show decode cX8_readStick 9 = .ok (.iconst 0, 1) by decide +kernel) (by decide)) ?_
  refine Iff.trans (zw_istore_n (ls' := [.ref a0, .ref a1, .int 0, .int 0, .retAddr 0, .retAddr 0, .retAddr 0, .retAddr 0]) (show decode cX8_readStick 10 = .ok (.istore_n 3, 1) by decide +kernel) (zset_s (Nat.le_of_ble_eq_true rfl) rfl)) ?_
  refine Iff.trans (zw_iconst (x := 0) (show decode cX8_readStick 11 = .ok (.iconst 0, 1) by decide +kernel) (by decide)) ?_
  refine Iff.trans (zw_istore (ls' := [.ref a0, .ref a1, .int 0, .int 0, .int 0, .retAddr 0, .retAddr 0, .retAddr 0]) (show decode cX8_readStick 12 = .ok (.istore 4, 2) by decide +kernel) (zset_s (Nat.le_of_ble_eq_true rfl) rfl)) ?_
  exact Iff.rfl

theorem bX8_readStick_14 {d : Nat} {σ : zS} {Q : Option Value → zS → Prop} (hl : zLay σ) {a0 a1 : Nat} {x2 x3 x4 : Int32} {v5 v6 v7 : Value} (ha0 : zk a0 = 8) (ha1 : zk a1 = 6) (hv5 : v5.category = 1) (hv6 : v6.category = 1) (hv7 : v7.category = 1) : zW (d + 1) kX8_readStick 14 [.ref a0, .ref a1, .int x2, .int x3, .int x4, v5, v6, v7] [] σ Q ↔ (if 4 ≤ x4 then Q (some (.int x3)) σ else zCall d kX8_skipBlanks [.ref a0, .int x3] σ (fun r σ' => zisN r = true ∧ zW (d + 1) kX8_readStick 25 [.ref a0, .ref a1, .int x2, .int x3, .int x4, v5, v6, v7] (zRstk r ++ []) σ' Q)) := by
  refine Iff.trans (zw_iload (show decode cX8_readStick 14 = .ok (.iload 4, 2) by decide +kernel) rfl) ?_
  refine Iff.trans (zw_iconst (x := 4) (show decode cX8_readStick 16 = .ok (.iconst 4, 1) by decide +kernel) (by decide)) ?_
  refine Iff.trans (zw_icmp_ge (t := 191) (show decode cX8_readStick 17 = .ok (.if_icmp .ge 174, 3) by decide +kernel) (by decide)) ?_
  refine zw_ite ?_ ?_
  · refine Iff.trans (zw_iload_n (show decode cX8_readStick 191 = .ok (.iload_n 3, 1) by decide +kernel) rfl) ?_
    exact zw_iret1 (show decode cX8_readStick 192 = .ok (.ireturn, 1) by decide +kernel) rfl
  · refine Iff.trans (zw_aload_n (show decode cX8_readStick 20 = .ok (.aload_n 0, 1) by decide +kernel) rfl) ?_
    refine Iff.trans (zw_iload_n (show decode cX8_readStick 21 = .ok (.iload_n 3, 1) by decide +kernel) rfl) ?_
    refine Iff.trans (zw_invV (K' := kX8_skipBlanks) (as' := [.int x3]) (rest := []) (show decode cX8_readStick 22 = .ok (.invokevirtual 47, 3) by decide +kernel) (by rfl) rfl rfl rfl (hl.k2 ha0) (by decide) (hl.n2 ha0) ⟨Nat.le_of_ble_eq_true rfl, Nat.le_of_ble_eq_true rfl, Nat.le_of_ble_eq_true rfl⟩) ?_
    exact Iff.rfl

theorem bX8_readStick_25 {d : Nat} {σ : zS} {Q : Option Value → zS → Prop} (hl : zLay σ) {a0 a1 : Nat} {x2 x3 x4 y0 : Int32} {v5 v6 v7 : Value} (ha0 : zk a0 = 8) (ha1 : zk a1 = 6) (hv5 : v5.category = 1) (hv6 : v6.category = 1) (hv7 : v7.category = 1) : zW (d + 1) kX8_readStick 25 [.ref a0, .ref a1, .int x2, .int x3, .int x4, v5, v6, v7] [.int y0] σ Q ↔ zCall d kX8_byteAt [.ref a0, .int y0] σ (fun r σ' => zisN r = true ∧ zW (d + 1) kX8_readStick 31 [.ref a0, .ref a1, .int x2, .int y0, .int x4, v5, v6, v7] (zRstk r ++ []) σ' Q) := by
  refine Iff.trans (zw_istore_n (ls' := [.ref a0, .ref a1, .int x2, .int y0, .int x4, v5, v6, v7]) (show decode cX8_readStick 25 = .ok (.istore_n 3, 1) by decide +kernel) (zset_s (Nat.le_of_ble_eq_true rfl) rfl)) ?_
  refine Iff.trans (zw_aload_n (show decode cX8_readStick 26 = .ok (.aload_n 0, 1) by decide +kernel) rfl) ?_
  refine Iff.trans (zw_iload_n (show decode cX8_readStick 27 = .ok (.iload_n 3, 1) by decide +kernel) rfl) ?_
  refine Iff.trans (zw_invV (K' := kX8_byteAt) (as' := [.int y0]) (rest := []) (show decode cX8_readStick 28 = .ok (.invokevirtual 24, 3) by decide +kernel) (by rfl) rfl rfl rfl (hl.k2 ha0) (by decide) (hl.n2 ha0) ⟨Nat.le_of_ble_eq_true rfl, Nat.le_of_ble_eq_true rfl, Nat.le_of_ble_eq_true rfl⟩) ?_
  exact Iff.rfl

theorem bX8_readStick_31 {d : Nat} {σ : zS} {Q : Option Value → zS → Prop} (hl : zLay σ) {a0 a1 : Nat} {x2 x3 x4 y0 : Int32} {v5 v6 v7 : Value} (ha0 : zk a0 = 8) (ha1 : zk a1 = 6) (hv5 : v5.category = 1) (hv6 : v6.category = 1) (hv7 : v7.category = 1) : zW (d + 1) kX8_readStick 31 [.ref a0, .ref a1, .int x2, .int x3, .int x4, v5, v6, v7] [.int y0] σ Q ↔ zCall d kX8_letterOf [.int y0] σ (fun r σ' => zisN r = true ∧ zW (d + 1) kX8_readStick 34 [.ref a0, .ref a1, .int x2, .int x3, .int x4, v5, v6, v7] (zRstk r ++ []) σ' Q) := by
  refine Iff.trans (zw_invS (K' := kX8_letterOf) (as := [.int y0]) (rest := []) (show decode cX8_readStick 31 = .ok (.invokestatic 50, 3) by decide +kernel) (by rfl) rfl rfl rfl ⟨Nat.le_of_ble_eq_true rfl, Nat.le_of_ble_eq_true rfl, Nat.le_of_ble_eq_true rfl⟩) ?_
  exact Iff.rfl

theorem bX8_readStick_34 {d : Nat} {σ : zS} {Q : Option Value → zS → Prop} (hl : zLay σ) {a0 a1 : Nat} {x2 x3 x4 y0 : Int32} {v5 v6 v7 : Value} (ha0 : zk a0 = 8) (ha1 : zk a1 = 6) (hv5 : v5.category = 1) (hv6 : v6.category = 1) (hv7 : v7.category = 1) : zW (d + 1) kX8_readStick 34 [.ref a0, .ref a1, .int x2, .int x3, .int x4, v5, v6, v7] [.int y0] σ Q ↔ (if y0 = (-1) then Q (some (.int x3)) σ else (if ((x2 >>> (y0 &&& 31)) &&& 1) = (0 : Int32) then zCall d kX8_skipBlanks [.ref a0, .int (x3 + 1)] σ (fun r σ' => zisN r = true ∧ zW (d + 1) kX8_readStick 67 [.ref a0, .ref a1, .int (x2 ||| (1 <<< (y0 &&& 31))), .int x3, .int x4, .int y0, v6, v7] (zRstk r ++ []) σ' Q) else Q (some (.int x3)) σ)) := by
  refine Iff.trans (zw_istore (ls' := [.ref a0, .ref a1, .int x2, .int x3, .int x4, .int y0, v6, v7]) (show decode cX8_readStick 34 = .ok (.istore 5, 2) by decide +kernel) (zset_s (Nat.le_of_ble_eq_true rfl) rfl)) ?_
  refine Iff.trans (zw_iload (show decode cX8_readStick 36 = .ok (.iload 5, 2) by decide +kernel) rfl) ?_
  refine Iff.trans (zw_iconst (x := (-1)) (show decode cX8_readStick 38 = .ok (.iconst (-1), 1) by decide +kernel) (by decide)) ?_
  refine Iff.trans (zw_icmp_eq (t := 51) (show decode cX8_readStick 39 = .ok (.if_icmp .eq 12, 3) by decide +kernel) (by decide)) ?_
  refine zw_ite ?_ ?_
  · refine Iff.trans (zw_iload_n (show decode cX8_readStick 51 = .ok (.iload_n 3, 1) by decide +kernel) rfl) ?_
    exact zw_iret1 (show decode cX8_readStick 52 = .ok (.ireturn, 1) by decide +kernel) rfl
  · refine Iff.trans (zw_iload_n (show decode cX8_readStick 42 = .ok (.iload_n 2, 1) by decide +kernel) rfl) ?_
    refine Iff.trans (zw_iload (show decode cX8_readStick 43 = .ok (.iload 5, 2) by decide +kernel) rfl) ?_
    refine Iff.trans (zw_ishr (show decode cX8_readStick 45 = .ok (.ishr, 1) by decide +kernel)) ?_
    refine Iff.trans (zw_iconst (x := 1) (show decode cX8_readStick 46 = .ok (.iconst 1, 1) by decide +kernel) (by decide)) ?_
    refine Iff.trans (zw_iand (show decode cX8_readStick 47 = .ok (.iand, 1) by decide +kernel)) ?_
    refine Iff.trans (zw_if_eq (t := 53) (show decode cX8_readStick 48 = .ok (.ifCond .eq 5, 3) by decide +kernel) (by decide)) ?_
    refine zw_ite ?_ ?_
    · refine Iff.trans (zw_iload_n (show decode cX8_readStick 53 = .ok (.iload_n 2, 1) by decide +kernel) rfl) ?_
      refine Iff.trans (zw_iconst (x := 1) (show decode cX8_readStick 54 = .ok (.iconst 1, 1) by decide +kernel) (by decide)) ?_
      refine Iff.trans (zw_iload (show decode cX8_readStick 55 = .ok (.iload 5, 2) by decide +kernel) rfl) ?_
      refine Iff.trans (zw_ishl (show decode cX8_readStick 57 = .ok (.ishl, 1) by decide +kernel)) ?_
      refine Iff.trans (zw_ior (show decode cX8_readStick 58 = .ok (.ior, 1) by decide +kernel)) ?_
      refine Iff.trans (zw_istore_n (ls' := [.ref a0, .ref a1, .int (x2 ||| (1 <<< (y0 &&& 31))), .int x3, .int x4, .int y0, v6, v7]) (show decode cX8_readStick 59 = .ok (.istore_n 2, 1) by decide +kernel) (zset_s (Nat.le_of_ble_eq_true rfl) rfl)) ?_
      refine Iff.trans (zw_aload_n (show decode cX8_readStick 60 = .ok (.aload_n 0, 1) by decide +kernel) rfl) ?_
      refine Iff.trans (zw_iload_n (show decode cX8_readStick 61 = .ok (.iload_n 3, 1) by decide +kernel) rfl) ?_
      refine Iff.trans (zw_iconst (x := 1) (show decode cX8_readStick 62 = .ok (.iconst 1, 1) by decide +kernel) (by decide)) ?_
      refine Iff.trans (zw_iadd (show decode cX8_readStick 63 = .ok (.iadd, 1) by decide +kernel)) ?_
      refine Iff.trans (zw_invV (K' := kX8_skipBlanks) (as' := [.int (x3 + 1)]) (rest := []) (show decode cX8_readStick 64 = .ok (.invokevirtual 47, 3) by decide +kernel) (by rfl) rfl rfl rfl (hl.k2 ha0) (by decide) (hl.n2 ha0) ⟨Nat.le_of_ble_eq_true rfl, Nat.le_of_ble_eq_true rfl, Nat.le_of_ble_eq_true rfl⟩) ?_
      exact Iff.rfl
    · refine Iff.trans (zw_iload_n (show decode cX8_readStick 51 = .ok (.iload_n 3, 1) by decide +kernel) rfl) ?_
      exact zw_iret1 (show decode cX8_readStick 52 = .ok (.ireturn, 1) by decide +kernel) rfl

theorem bX8_readStick_67 {d : Nat} {σ : zS} {Q : Option Value → zS → Prop} (hl : zLay σ) {a0 a1 : Nat} {x2 x3 x4 x5 y0 : Int32} {v6 v7 : Value} (ha0 : zk a0 = 8) (ha1 : zk a1 = 6) (hv6 : v6.category = 1) (hv7 : v7.category = 1) : zW (d + 1) kX8_readStick 67 [.ref a0, .ref a1, .int x2, .int x3, .int x4, .int x5, v6, v7] [.int y0] σ Q ↔ zCall d kX8_digitsFrom [.ref a0, .int y0] σ (fun r σ' => zisN r = true ∧ zW (d + 1) kX8_readStick 73 [.ref a0, .ref a1, .int x2, .int y0, .int x4, .int x5, v6, v7] (zRstk r ++ []) σ' Q) := by
  refine Iff.trans (zw_istore_n (ls' := [.ref a0, .ref a1, .int x2, .int y0, .int x4, .int x5, v6, v7]) (show decode cX8_readStick 67 = .ok (.istore_n 3, 1) by decide +kernel) (zset_s (Nat.le_of_ble_eq_true rfl) rfl)) ?_
  refine Iff.trans (zw_aload_n (show decode cX8_readStick 68 = .ok (.aload_n 0, 1) by decide +kernel) rfl) ?_
  refine Iff.trans (zw_iload_n (show decode cX8_readStick 69 = .ok (.iload_n 3, 1) by decide +kernel) rfl) ?_
  refine Iff.trans (zw_invV (K' := kX8_digitsFrom) (as' := [.int y0]) (rest := []) (show decode cX8_readStick 70 = .ok (.invokevirtual 53, 3) by decide +kernel) (by rfl) rfl rfl rfl (hl.k2 ha0) (by decide) (hl.n2 ha0) ⟨Nat.le_of_ble_eq_true rfl, Nat.le_of_ble_eq_true rfl, Nat.le_of_ble_eq_true rfl⟩) ?_
  exact Iff.rfl

theorem bX8_readStick_73 {d : Nat} {σ : zS} {Q : Option Value → zS → Prop} (hl : zLay σ) {a0 a1 : Nat} {x2 x3 x4 x5 y0 : Int32} {v6 v7 : Value} (ha0 : zk a0 = 8) (ha1 : zk a1 = 6) (hv6 : v6.category = 1) (hv7 : v7.category = 1) : zW (d + 1) kX8_readStick 73 [.ref a0, .ref a1, .int x2, .int x3, .int x4, .int x5, v6, v7] [.int y0] σ Q ↔ (if y0 = (0 : Int32) then zW (d + 1) kX8_readStick 86 [.ref a0, .ref a1, .int x2, .int x3, .int x4, .int x5, .int y0, v7] [] σ Q else (if y0 ≤ 2 then zCall d kX8_byteAt [.ref a0, .int x3] σ (fun r σ' => zisN r = true ∧ zW (d + 1) kX8_readStick 104 [.ref a0, .ref a1, .int x2, .int x3, .int x4, .int x5, .int y0, v7] (zRstk r ++ []) σ' Q) else zW (d + 1) kX8_readStick 86 [.ref a0, .ref a1, .int x2, .int x3, .int x4, .int x5, .int y0, v7] [] σ Q)) := by
  refine Iff.trans (zw_istore (ls' := [.ref a0, .ref a1, .int x2, .int x3, .int x4, .int x5, .int y0, v7]) (show decode cX8_readStick 73 = .ok (.istore 6, 2) by decide +kernel) (zset_s (Nat.le_of_ble_eq_true rfl) rfl)) ?_
  refine Iff.trans (zw_iload (show decode cX8_readStick 75 = .ok (.iload 6, 2) by decide +kernel) rfl) ?_
  refine Iff.trans (zw_if_eq (t := 86) (show decode cX8_readStick 77 = .ok (.ifCond .eq 9, 3) by decide +kernel) (by decide)) ?_
  refine zw_ite ?_ ?_
  · exact Iff.rfl
  · refine Iff.trans (zw_iload (show decode cX8_readStick 80 = .ok (.iload 6, 2) by decide +kernel) rfl) ?_
    refine Iff.trans (zw_iconst (x := 2) (show decode cX8_readStick 82 = .ok (.iconst 2, 1) by decide +kernel) (by decide)) ?_
    refine Iff.trans (zw_icmp_le (t := 99) (show decode cX8_readStick 83 = .ok (.if_icmp .le 16, 3) by decide +kernel) (by decide)) ?_
    refine zw_ite ?_ ?_
    · refine Iff.trans (zw_aload_n (show decode cX8_readStick 99 = .ok (.aload_n 0, 1) by decide +kernel) rfl) ?_
      refine Iff.trans (zw_iload_n (show decode cX8_readStick 100 = .ok (.iload_n 3, 1) by decide +kernel) rfl) ?_
      refine Iff.trans (zw_invV (K' := kX8_byteAt) (as' := [.int x3]) (rest := []) (show decode cX8_readStick 101 = .ok (.invokevirtual 24, 3) by decide +kernel) (by rfl) rfl rfl rfl (hl.k2 ha0) (by decide) (hl.n2 ha0) ⟨Nat.le_of_ble_eq_true rfl, Nat.le_of_ble_eq_true rfl, Nat.le_of_ble_eq_true rfl⟩) ?_
      exact Iff.rfl
    · exact Iff.rfl

theorem bX8_readStick_86 {d : Nat} {σ : zS} {Q : Option Value → zS → Prop} (hl : zLay σ) {a0 a1 : Nat} {x2 x3 x4 x5 x6 : Int32} {v7 : Value} (ha0 : zk a0 = 8) (ha1 : zk a1 = 6) (hv7 : v7.category = 1) : zW (d + 1) kX8_readStick 86 [.ref a0, .ref a1, .int x2, .int x3, .int x4, .int x5, .int x6, v7] [] σ Q ↔ (if x6 = (0 : Int32) then Q (some (.int x3)) σ else Q (some (.int (x3 + 2))) σ) := by
  refine Iff.trans (zw_iload (show decode cX8_readStick 86 = .ok (.iload 6, 2) by decide +kernel) rfl) ?_
  refine Iff.trans (zw_if_ne (t := 95) (show decode cX8_readStick 88 = .ok (.ifCond .ne 7, 3) by decide +kernel) (by decide)) ?_
  refine zw_ite ?_ ?_
  · refine Iff.trans (zw_iload_n (show decode cX8_readStick 91 = .ok (.iload_n 3, 1) by decide +kernel) rfl) ?_
    refine Iff.trans (zw_goto (t := 98) (show decode cX8_readStick 92 = .ok (.goto 6, 3) by decide +kernel) (by decide)) ?_
    exact zw_iret1 (show decode cX8_readStick 98 = .ok (.ireturn, 1) by decide +kernel) rfl
  · refine Iff.trans (zw_iload_n (show decode cX8_readStick 95 = .ok (.iload_n 3, 1) by decide +kernel) rfl) ?_
    refine Iff.trans (zw_iconst (x := 2) (show decode cX8_readStick 96 = .ok (.iconst 2, 1) by decide +kernel) (by decide)) ?_
    refine Iff.trans (zw_iadd (show decode cX8_readStick 97 = .ok (.iadd, 1) by decide +kernel)) ?_
    exact zw_iret1 (show decode cX8_readStick 98 = .ok (.ireturn, 1) by decide +kernel) rfl

theorem bX8_readStick_104 {d : Nat} {σ : zS} {Q : Option Value → zS → Prop} (hl : zLay σ) {a0 a1 : Nat} {x2 x3 x4 x5 x6 y0 : Int32} {v7 : Value} (ha0 : zk a0 = 8) (ha1 : zk a1 = 6) (hv7 : v7.category = 1) : zW (d + 1) kX8_readStick 104 [.ref a0, .ref a1, .int x2, .int x3, .int x4, .int x5, .int x6, v7] [.int y0] σ Q ↔ (if x6 = 2 then zCall d kX8_byteAt [.ref a0, .int (x3 + 1)] σ (fun r σ' => zisN r = true ∧ zW (d + 1) kX8_readStick 127 [.ref a0, .ref a1, .int x2, .int x3, .int x4, .int x5, .int x6, .int (y0 - 48)] (zRstk r ++ [.int (10 * (y0 - 48))]) σ' Q) else zW (d + 1) kX8_readStick 133 [.ref a0, .ref a1, .int x2, .int x3, .int x4, .int x5, .int x6, .int (y0 - 48)] [] σ Q) := by
  refine Iff.trans (zw_bipush (x := 48) (show decode cX8_readStick 104 = .ok (.bipush 48, 2) by decide +kernel) (by decide)) ?_
  refine Iff.trans (zw_isub (show decode cX8_readStick 106 = .ok (.isub, 1) by decide +kernel)) ?_
  refine Iff.trans (zw_istore (ls' := [.ref a0, .ref a1, .int x2, .int x3, .int x4, .int x5, .int x6, .int (y0 - 48)]) (show decode cX8_readStick 107 = .ok (.istore 7, 2) by decide +kernel) (zset_s (Nat.le_of_ble_eq_true rfl) rfl)) ?_
  refine Iff.trans (zw_iload (show decode cX8_readStick 109 = .ok (.iload 6, 2) by decide +kernel) rfl) ?_
  refine Iff.trans (zw_iconst (x := 2) (show decode cX8_readStick 111 = .ok (.iconst 2, 1) by decide +kernel) (by decide)) ?_
  refine Iff.trans (zw_icmp_ne (t := 133) (show decode cX8_readStick 112 = .ok (.if_icmp .ne 21, 3) by decide +kernel) (by decide)) ?_
  refine zw_ite ?_ ?_
  · refine Iff.trans (zw_bipush (x := 10) (show decode cX8_readStick 115 = .ok (.bipush 10, 2) by decide +kernel) (by decide)) ?_
    refine Iff.trans (zw_iload (show decode cX8_readStick 117 = .ok (.iload 7, 2) by decide +kernel) rfl) ?_
    refine Iff.trans (zw_imul (show decode cX8_readStick 119 = .ok (.imul, 1) by decide +kernel)) ?_
    refine Iff.trans (zw_aload_n (show decode cX8_readStick 120 = .ok (.aload_n 0, 1) by decide +kernel) rfl) ?_
    refine Iff.trans (zw_iload_n (show decode cX8_readStick 121 = .ok (.iload_n 3, 1) by decide +kernel) rfl) ?_
    refine Iff.trans (zw_iconst (x := 1) (show decode cX8_readStick 122 = .ok (.iconst 1, 1) by decide +kernel) (by decide)) ?_
    refine Iff.trans (zw_iadd (show decode cX8_readStick 123 = .ok (.iadd, 1) by decide +kernel)) ?_
    refine Iff.trans (zw_invV (K' := kX8_byteAt) (as' := [.int (x3 + 1)]) (rest := [.int (10 * (y0 - 48))]) (show decode cX8_readStick 124 = .ok (.invokevirtual 24, 3) by decide +kernel) (by rfl) rfl rfl rfl (hl.k2 ha0) (by decide) (hl.n2 ha0) ⟨Nat.le_of_ble_eq_true rfl, Nat.le_of_ble_eq_true rfl, Nat.le_of_ble_eq_true rfl⟩) ?_
    exact Iff.rfl
  · exact Iff.rfl

theorem bX8_readStick_127 {d : Nat} {σ : zS} {Q : Option Value → zS → Prop} (hl : zLay σ) {a0 a1 : Nat} {x2 x3 x4 x5 x6 x7 y0 y1 : Int32} (ha0 : zk a0 = 8) (ha1 : zk a1 = 6) : zW (d + 1) kX8_readStick 127 [.ref a0, .ref a1, .int x2, .int x3, .int x4, .int x5, .int x6, .int x7] [.int y0, .int y1] σ Q ↔ zW (d + 1) kX8_readStick 133 [.ref a0, .ref a1, .int x2, .int x3, .int x4, .int x5, .int x6, .int ((y1 + y0) - 48)] [] σ Q := by
  refine Iff.trans (zw_iadd (show decode cX8_readStick 127 = .ok (.iadd, 1) by decide +kernel)) ?_
  refine Iff.trans (zw_bipush (x := 48) (show decode cX8_readStick 128 = .ok (.bipush 48, 2) by decide +kernel) (by decide)) ?_
  refine Iff.trans (zw_isub (show decode cX8_readStick 130 = .ok (.isub, 1) by decide +kernel)) ?_
  refine Iff.trans (zw_istore (ls' := [.ref a0, .ref a1, .int x2, .int x3, .int x4, .int x5, .int x6, .int ((y1 + y0) - 48)]) (show decode cX8_readStick 131 = .ok (.istore 7, 2) by decide +kernel) (zset_s (Nat.le_of_ble_eq_true rfl) rfl)) ?_
  exact Iff.rfl

theorem bX8_readStick_133 {d : Nat} {σ : zS} {Q : Option Value → zS → Prop} (hl : zLay σ) {a0 a1 : Nat} {x2 x3 x4 x5 x6 x7 : Int32} (ha0 : zk a0 = 8) (ha1 : zk a1 = 6) : zW (d + 1) kX8_readStick 133 [.ref a0, .ref a1, .int x2, .int x3, .int x4, .int x5, .int x6, .int x7] [] σ Q ↔ zCall d kX6_put [.ref a1, .int x5, .int x7] σ (fun r σ' => zisN r = true ∧ zW (d + 1) kX8_readStick 141 [.ref a0, .ref a1, .int x2, .int x3, .int x4, .int x5, .int x6, .int x7] (zRstk r ++ []) σ' Q) := by
  refine Iff.trans (zw_aload_n (show decode cX8_readStick 133 = .ok (.aload_n 1, 1) by decide +kernel) rfl) ?_
  refine Iff.trans (zw_iload (show decode cX8_readStick 134 = .ok (.iload 5, 2) by decide +kernel) rfl) ?_
  refine Iff.trans (zw_iload (show decode cX8_readStick 136 = .ok (.iload 7, 2) by decide +kernel) rfl) ?_
  refine Iff.trans (zw_invV (K' := kX6_put) (as' := [.int x5, .int x7]) (rest := []) (show decode cX8_readStick 138 = .ok (.invokevirtual 56, 3) by decide +kernel) (by rfl) rfl rfl rfl (hl.k2 ha1) (by decide) (hl.n2 ha1) ⟨Nat.le_of_ble_eq_true rfl, Nat.le_of_ble_eq_true rfl, Nat.le_of_ble_eq_true rfl⟩) ?_
  exact Iff.rfl

theorem bX8_readStick_141 {d : Nat} {σ : zS} {Q : Option Value → zS → Prop} (hl : zLay σ) {a0 a1 : Nat} {x2 x3 x4 x5 x6 x7 y0 : Int32} (ha0 : zk a0 = 8) (ha1 : zk a1 = 6) : zW (d + 1) kX8_readStick 141 [.ref a0, .ref a1, .int x2, .int x3, .int x4, .int x5, .int x6, .int x7] [.int y0] σ Q ↔ (if y0 = (0 : Int32) then Q (some (.int ((x3 + x6) - 1))) σ else zCall d kX8_skipBlanks [.ref a0, .int (x3 + x6)] σ (fun r σ' => zisN r = true ∧ zW (d + 1) kX8_readStick 159 [.ref a0, .ref a1, .int x2, .int x3, .int x4, .int x5, .int x6, .int x7] (zRstk r ++ []) σ' Q)) := by
  refine Iff.trans (zw_if_ne (t := 151) (show decode cX8_readStick 141 = .ok (.ifCond .ne 10, 3) by decide +kernel) (by decide)) ?_
  refine zw_ite ?_ ?_
  · refine Iff.trans (zw_iload_n (show decode cX8_readStick 144 = .ok (.iload_n 3, 1) by decide +kernel) rfl) ?_
    refine Iff.trans (zw_iload (show decode cX8_readStick 145 = .ok (.iload 6, 2) by decide +kernel) rfl) ?_
    refine Iff.trans (zw_iadd (show decode cX8_readStick 147 = .ok (.iadd, 1) by decide +kernel)) ?_
    refine Iff.trans (zw_iconst (x := 1) (show decode cX8_readStick 148 = .ok (.iconst 1, 1) by decide +kernel) (by decide)) ?_
    refine Iff.trans (zw_isub (show decode cX8_readStick 149 = .ok (.isub, 1) by decide +kernel)) ?_
    exact zw_iret1 (show decode cX8_readStick 150 = .ok (.ireturn, 1) by decide +kernel) rfl
  · refine Iff.trans (zw_aload_n (show decode cX8_readStick 151 = .ok (.aload_n 0, 1) by decide +kernel) rfl) ?_
    refine Iff.trans (zw_iload_n (show decode cX8_readStick 152 = .ok (.iload_n 3, 1) by decide +kernel) rfl) ?_
    refine Iff.trans (zw_iload (show decode cX8_readStick 153 = .ok (.iload 6, 2) by decide +kernel) rfl) ?_
    refine Iff.trans (zw_iadd (show decode cX8_readStick 155 = .ok (.iadd, 1) by decide +kernel)) ?_
    refine Iff.trans (zw_invV (K' := kX8_skipBlanks) (as' := [.int (x3 + x6)]) (rest := []) (show decode cX8_readStick 156 = .ok (.invokevirtual 47, 3) by decide +kernel) (by rfl) rfl rfl rfl (hl.k2 ha0) (by decide) (hl.n2 ha0) ⟨Nat.le_of_ble_eq_true rfl, Nat.le_of_ble_eq_true rfl, Nat.le_of_ble_eq_true rfl⟩) ?_
    exact Iff.rfl

theorem bX8_readStick_159 {d : Nat} {σ : zS} {Q : Option Value → zS → Prop} (hl : zLay σ) {a0 a1 : Nat} {x2 x3 x4 x5 x6 x7 y0 : Int32} (ha0 : zk a0 = 8) (ha1 : zk a1 = 6) : zW (d + 1) kX8_readStick 159 [.ref a0, .ref a1, .int x2, .int x3, .int x4, .int x5, .int x6, .int x7] [.int y0] σ Q ↔ (if y0 < (zI σ a0 1) then zCall d kX8_byteAt [.ref a0, .int y0] σ (fun r σ' => zisN r = true ∧ zW (d + 1) kX8_readStick 175 [.ref a0, .ref a1, .int x2, .int y0, .int x4, .int x5, .int x6, .int x7] (zRstk r ++ []) σ' Q) else Q (some (.int (-1))) σ) := by
  refine Iff.trans (zw_istore_n (ls' := [.ref a0, .ref a1, .int x2, .int y0, .int x4, .int x5, .int x6, .int x7]) (show decode cX8_readStick 159 = .ok (.istore_n 3, 1) by decide +kernel) (zset_s (Nat.le_of_ble_eq_true rfl) rfl)) ?_
  refine Iff.trans (zw_iload_n (show decode cX8_readStick 160 = .ok (.iload_n 3, 1) by decide +kernel) rfl) ?_
  refine Iff.trans (zw_aload_n (show decode cX8_readStick 161 = .ok (.aload_n 0, 1) by decide +kernel) rfl) ?_
  refine Iff.trans (zw_getI (show decode cX8_readStick 162 = .ok (.getfield 15, 3) by decide +kernel) (by decide +kernel : zfld 8 15 = some (8, 1)) (hl.k2 ha0) (hl.n2 ha0) (Or.inl rfl) (w := zI σ a0 1) rfl) ?_
  refine Iff.trans (zw_icmp_lt (t := 170) (show decode cX8_readStick 165 = .ok (.if_icmp .lt 5, 3) by decide +kernel) (by decide)) ?_
  refine zw_ite ?_ ?_
  · refine Iff.trans (zw_aload_n (show decode cX8_readStick 170 = .ok (.aload_n 0, 1) by decide +kernel) rfl) ?_
    refine Iff.trans (zw_iload_n (show decode cX8_readStick 171 = .ok (.iload_n 3, 1) by decide +kernel) rfl) ?_
    refine Iff.trans (zw_invV (K' := kX8_byteAt) (as' := [.int y0]) (rest := []) (show decode cX8_readStick 172 = .ok (.invokevirtual 24, 3) by decide +kernel) (by rfl) rfl rfl rfl (hl.k2 ha0) (by decide) (hl.n2 ha0) ⟨Nat.le_of_ble_eq_true rfl, Nat.le_of_ble_eq_true rfl, Nat.le_of_ble_eq_true rfl⟩) ?_
    exact Iff.rfl
  · refine Iff.trans (zw_iconst (x := (-1)) (show decode cX8_readStick 168 = .ok (.iconst (-1), 1) by decide +kernel) (by decide)) ?_
    exact zw_iret1 (show decode cX8_readStick 169 = .ok (.ireturn, 1) by decide +kernel) rfl

theorem bX8_readStick_175 {d : Nat} {σ : zS} {Q : Option Value → zS → Prop} (hl : zLay σ) {a0 a1 : Nat} {x2 x3 x4 x5 x6 x7 y0 : Int32} (ha0 : zk a0 = 8) (ha1 : zk a1 = 6) : zW (d + 1) kX8_readStick 175 [.ref a0, .ref a1, .int x2, .int x3, .int x4, .int x5, .int x6, .int x7] [.int y0] σ Q ↔ (if y0 = 44 then zW (d + 1) kX8_readStick 14 [.ref a0, .ref a1, .int x2, .int (x3 + 1), .int (x4 + 1), .int x5, .int x6, .int x7] [] σ Q else Q (some (.int x3)) σ) := by
  refine Iff.trans (zw_bipush (x := 44) (show decode cX8_readStick 175 = .ok (.bipush 44, 2) by decide +kernel) (by decide)) ?_
  refine Iff.trans (zw_icmp_eq (t := 182) (show decode cX8_readStick 177 = .ok (.if_icmp .eq 5, 3) by decide +kernel) (by decide)) ?_
  refine zw_ite ?_ ?_
  · refine Iff.trans (zw_iinc (w := 1) (ls' := [.ref a0, .ref a1, .int x2, .int (x3 + 1), .int x4, .int x5, .int x6, .int x7]) (show decode cX8_readStick 182 = .ok (.iinc 3 1, 3) by decide +kernel) rfl (by decide) (zset_s (Nat.le_of_ble_eq_true rfl) rfl)) ?_
    refine Iff.trans (zw_iinc (w := 1) (ls' := [.ref a0, .ref a1, .int x2, .int (x3 + 1), .int (x4 + 1), .int x5, .int x6, .int x7]) (show decode cX8_readStick 185 = .ok (.iinc 4 1, 3) by decide +kernel) rfl (by decide) (zset_s (Nat.le_of_ble_eq_true rfl) rfl)) ?_
    refine Iff.trans (zw_goto (t := 14) (show decode cX8_readStick 188 = .ok (.goto (-174), 3) by decide +kernel) (by decide)) ?_
    exact Iff.rfl
  · refine Iff.trans (zw_iload_n (show decode cX8_readStick 180 = .ok (.iload_n 3, 1) by decide +kernel) rfl) ?_
    exact zw_iret1 (show decode cX8_readStick 181 = .ok (.ireturn, 1) by decide +kernel) rfl

theorem bX8_letterOf_0 {d : Nat} {σ : zS} {Q : Option Value → zS → Prop} (hl : zLay σ) {x0 : Int32} : zCall d kX8_letterOf [.int x0] σ Q ↔ (if x0 = 108 then Q (some (.int 0)) σ else (if x0 = 104 then Q (some (.int 1)) σ else (if x0 = 102 then Q (some (.int 2)) σ else Q (some (.int (-1))) σ))) := by
  show zW d kX8_letterOf 0 [.int x0] [] σ Q ↔ _
  refine Iff.trans (zw_iload_n (show decode cX8_letterOf 0 = .ok (.iload_n 0, 1) by decide +kernel) rfl) ?_
  refine Iff.trans (zw_bipush (x := 108) (show decode cX8_letterOf 1 = .ok (.bipush 108, 2) by decide +kernel) (by decide)) ?_
  refine Iff.trans (zw_icmp_ne (t := 8) (show decode cX8_letterOf 3 = .ok (.if_icmp .ne 5, 3) by decide +kernel) (by decide)) ?_
  refine zw_ite ?_ ?_
  · refine Iff.trans (zw_iconst (x := 0) (show decode cX8_letterOf 6 = .ok (.iconst 0, 1) by decide +kernel) (by decide)) ?_
    exact zw_iret1 (show decode cX8_letterOf 7 = .ok (.ireturn, 1) by decide +kernel) rfl
  · refine Iff.trans (zw_iload_n (show decode cX8_letterOf 8 = .ok (.iload_n 0, 1) by decide +kernel) rfl) ?_
    refine Iff.trans (zw_bipush (x := 104) (show decode cX8_letterOf 9 = .ok (.bipush 104, 2) by decide +kernel) (by decide)) ?_
    refine Iff.trans (zw_icmp_ne (t := 16) (show decode cX8_letterOf 11 = .ok (.if_icmp .ne 5, 3) by decide +kernel) (by decide)) ?_
    refine zw_ite ?_ ?_
    · refine Iff.trans (zw_iconst (x := 1) (show decode cX8_letterOf 14 = .ok (.iconst 1, 1) by decide +kernel) (by decide)) ?_
      exact zw_iret1 (show decode cX8_letterOf 15 = .ok (.ireturn, 1) by decide +kernel) rfl
    · refine Iff.trans (zw_iload_n (show decode cX8_letterOf 16 = .ok (.iload_n 0, 1) by decide +kernel) rfl) ?_
      refine Iff.trans (zw_bipush (x := 102) (show decode cX8_letterOf 17 = .ok (.bipush 102, 2) by decide +kernel) (by decide)) ?_
      refine Iff.trans (zw_icmp_ne (t := 26) (show decode cX8_letterOf 19 = .ok (.if_icmp .ne 7, 3) by decide +kernel) (by decide)) ?_
      refine zw_ite ?_ ?_
      · refine Iff.trans (zw_iconst (x := 2) (show decode cX8_letterOf 22 = .ok (.iconst 2, 1) by decide +kernel) (by decide)) ?_
        refine Iff.trans (zw_goto (t := 27) (show decode cX8_letterOf 23 = .ok (.goto 4, 3) by decide +kernel) (by decide)) ?_
        exact zw_iret1 (show decode cX8_letterOf 27 = .ok (.ireturn, 1) by decide +kernel) rfl
      · refine Iff.trans (zw_iconst (x := (-1)) (show decode cX8_letterOf 26 = .ok (.iconst (-1), 1) by decide +kernel) (by decide)) ?_
        exact zw_iret1 (show decode cX8_letterOf 27 = .ok (.ireturn, 1) by decide +kernel) rfl

theorem bX8_skipBlanks_0 {d : Nat} {σ : zS} {Q : Option Value → zS → Prop} (hl : zLay σ) {a0 : Nat} {x1 : Int32} (ha0 : zk a0 = 8) : zCall (d + 1) kX8_skipBlanks [.ref a0, .int x1] σ Q ↔ zW (d + 1) kX8_skipBlanks 2 [.ref a0, .int x1, .int x1] [] σ Q := by
  show zW (d + 1) kX8_skipBlanks 0 [.ref a0, .int x1, .retAddr 0] [] σ Q ↔ _
  refine Iff.trans (zw_iload_n (show decode cX8_skipBlanks 0 = .ok (.iload_n 1, 1) by decide +kernel) rfl) ?_
  refine Iff.trans (zw_istore_n (ls' := [.ref a0, .int x1, .int x1]) (show decode cX8_skipBlanks 1 = .ok (.istore_n 2, 1) by decide +kernel) (zset_s (Nat.le_of_ble_eq_true rfl) rfl)) ?_
  exact Iff.rfl

theorem bX8_skipBlanks_2 {d : Nat} {σ : zS} {Q : Option Value → zS → Prop} (hl : zLay σ) {a0 : Nat} {x1 x2 : Int32} (ha0 : zk a0 = 8) : zW (d + 1) kX8_skipBlanks 2 [.ref a0, .int x1, .int x2] [] σ Q ↔ (if (zI σ a0 1) ≤ x2 then Q (some (.int x2)) σ else zCall d kX8_byteAt [.ref a0, .int x2] σ (fun r σ' => zisN r = true ∧ zW (d + 1) kX8_skipBlanks 15 [.ref a0, .int x1, .int x2] (zRstk r ++ []) σ' Q)) := by
  refine Iff.trans (zw_iload_n (show decode cX8_skipBlanks 2 = .ok (.iload_n 2, 1) by decide +kernel) rfl) ?_
  refine Iff.trans (zw_aload_n (show decode cX8_skipBlanks 3 = .ok (.aload_n 0, 1) by decide +kernel) rfl) ?_
  refine Iff.trans (zw_getI (show decode cX8_skipBlanks 4 = .ok (.getfield 15, 3) by decide +kernel) (by decide +kernel : zfld 8 15 = some (8, 1)) (hl.k2 ha0) (hl.n2 ha0) (Or.inl rfl) (w := zI σ a0 1) rfl) ?_
  refine Iff.trans (zw_icmp_ge (t := 26) (show decode cX8_skipBlanks 7 = .ok (.if_icmp .ge 19, 3) by decide +kernel) (by decide)) ?_
  refine zw_ite ?_ ?_
  · refine Iff.trans (zw_iload_n (show decode cX8_skipBlanks 26 = .ok (.iload_n 2, 1) by decide +kernel) rfl) ?_
    exact zw_iret1 (show decode cX8_skipBlanks 27 = .ok (.ireturn, 1) by decide +kernel) rfl
  · refine Iff.trans (zw_aload_n (show decode cX8_skipBlanks 10 = .ok (.aload_n 0, 1) by decide +kernel) rfl) ?_
    refine Iff.trans (zw_iload_n (show decode cX8_skipBlanks 11 = .ok (.iload_n 2, 1) by decide +kernel) rfl) ?_
    refine Iff.trans (zw_invV (K' := kX8_byteAt) (as' := [.int x2]) (rest := []) (show decode cX8_skipBlanks 12 = .ok (.invokevirtual 24, 3) by decide +kernel) (by rfl) rfl rfl rfl (hl.k2 ha0) (by decide) (hl.n2 ha0) ⟨Nat.le_of_ble_eq_true rfl, Nat.le_of_ble_eq_true rfl, Nat.le_of_ble_eq_true rfl⟩) ?_
    exact Iff.rfl

theorem bX8_skipBlanks_15 {d : Nat} {σ : zS} {Q : Option Value → zS → Prop} (hl : zLay σ) {a0 : Nat} {x1 x2 y0 : Int32} (ha0 : zk a0 = 8) : zW (d + 1) kX8_skipBlanks 15 [.ref a0, .int x1, .int x2] [.int y0] σ Q ↔ (if y0 = 32 then zW (d + 1) kX8_skipBlanks 2 [.ref a0, .int x1, .int (x2 + 1)] [] σ Q else Q (some (.int x2)) σ) := by
  refine Iff.trans (zw_bipush (x := 32) (show decode cX8_skipBlanks 15 = .ok (.bipush 32, 2) by decide +kernel) (by decide)) ?_
  refine Iff.trans (zw_icmp_ne (t := 26) (show decode cX8_skipBlanks 17 = .ok (.if_icmp .ne 9, 3) by decide +kernel) (by decide)) ?_
  refine zw_ite ?_ ?_
  · refine Iff.trans (zw_iinc (w := 1) (ls' := [.ref a0, .int x1, .int (x2 + 1)]) (show decode cX8_skipBlanks 20 = .ok (.iinc 2 1, 3) by decide +kernel) rfl (by decide) (zset_s (Nat.le_of_ble_eq_true rfl) rfl)) ?_
    refine Iff.trans (zw_goto (t := 2) (show decode cX8_skipBlanks 23 = .ok (.goto (-21), 3) by decide +kernel) (by decide)) ?_
    exact Iff.rfl
  · refine Iff.trans (zw_iload_n (show decode cX8_skipBlanks 26 = .ok (.iload_n 2, 1) by decide +kernel) rfl) ?_
    exact zw_iret1 (show decode cX8_skipBlanks 27 = .ok (.ireturn, 1) by decide +kernel) rfl

theorem bX8_digitsFrom_0 {d : Nat} {σ : zS} {Q : Option Value → zS → Prop} (hl : zLay σ) {a0 : Nat} {x1 : Int32} (ha0 : zk a0 = 8) : zCall (d + 1) kX8_digitsFrom [.ref a0, .int x1] σ Q ↔ zW (d + 1) kX8_digitsFrom 2 [.ref a0, .int x1, .int 0] [] σ Q := by
  show zW (d + 1) kX8_digitsFrom 0 [.ref a0, .int x1, .retAddr 0] [] σ Q ↔ _
  refine Iff.trans (zw_iconst (x := 0) (show decode cX8_digitsFrom 0 = .ok (.iconst 0, 1) by decide +kernel) (by decide)) ?_
  refine Iff.trans (zw_istore_n (ls' := [.ref a0, .int x1, .int 0]) (show decode cX8_digitsFrom 1 = .ok (.istore_n 2, 1) by decide +kernel) (zset_s (Nat.le_of_ble_eq_true rfl) rfl)) ?_
  exact Iff.rfl

theorem bX8_digitsFrom_2 {d : Nat} {σ : zS} {Q : Option Value → zS → Prop} (hl : zLay σ) {a0 : Nat} {x1 x2 : Int32} (ha0 : zk a0 = 8) : zW (d + 1) kX8_digitsFrom 2 [.ref a0, .int x1, .int x2] [] σ Q ↔ (if 3 ≤ x2 then Q (some (.int x2)) σ else zCall d kX8_byteAt [.ref a0, .int (x1 + x2)] σ (fun r σ' => zisN r = true ∧ zW (d + 1) kX8_digitsFrom 14 [.ref a0, .int x1, .int x2] (zRstk r ++ []) σ' Q)) := by
  refine Iff.trans (zw_iload_n (show decode cX8_digitsFrom 2 = .ok (.iload_n 2, 1) by decide +kernel) rfl) ?_
  refine Iff.trans (zw_iconst (x := 3) (show decode cX8_digitsFrom 3 = .ok (.iconst 3, 1) by decide +kernel) (by decide)) ?_
  refine Iff.trans (zw_icmp_ge (t := 37) (show decode cX8_digitsFrom 4 = .ok (.if_icmp .ge 33, 3) by decide +kernel) (by decide)) ?_
  refine zw_ite ?_ ?_
  · refine Iff.trans (zw_iload_n (show decode cX8_digitsFrom 37 = .ok (.iload_n 2, 1) by decide +kernel) rfl) ?_
    exact zw_iret1 (show decode cX8_digitsFrom 38 = .ok (.ireturn, 1) by decide +kernel) rfl
  · refine Iff.trans (zw_aload_n (show decode cX8_digitsFrom 7 = .ok (.aload_n 0, 1) by decide +kernel) rfl) ?_
    refine Iff.trans (zw_iload_n (show decode cX8_digitsFrom 8 = .ok (.iload_n 1, 1) by decide +kernel) rfl) ?_
    refine Iff.trans (zw_iload_n (show decode cX8_digitsFrom 9 = .ok (.iload_n 2, 1) by decide +kernel) rfl) ?_
    refine Iff.trans (zw_iadd (show decode cX8_digitsFrom 10 = .ok (.iadd, 1) by decide +kernel)) ?_
    refine Iff.trans (zw_invV (K' := kX8_byteAt) (as' := [.int (x1 + x2)]) (rest := []) (show decode cX8_digitsFrom 11 = .ok (.invokevirtual 24, 3) by decide +kernel) (by rfl) rfl rfl rfl (hl.k2 ha0) (by decide) (hl.n2 ha0) ⟨Nat.le_of_ble_eq_true rfl, Nat.le_of_ble_eq_true rfl, Nat.le_of_ble_eq_true rfl⟩) ?_
    exact Iff.rfl

theorem bX8_digitsFrom_14 {d : Nat} {σ : zS} {Q : Option Value → zS → Prop} (hl : zLay σ) {a0 : Nat} {x1 x2 y0 : Int32} (ha0 : zk a0 = 8) : zW (d + 1) kX8_digitsFrom 14 [.ref a0, .int x1, .int x2] [.int y0] σ Q ↔ (if y0 < 48 then Q (some (.int x2)) σ else zCall d kX8_byteAt [.ref a0, .int (x1 + x2)] σ (fun r σ' => zisN r = true ∧ zW (d + 1) kX8_digitsFrom 26 [.ref a0, .int x1, .int x2] (zRstk r ++ []) σ' Q)) := by
  refine Iff.trans (zw_bipush (x := 48) (show decode cX8_digitsFrom 14 = .ok (.bipush 48, 2) by decide +kernel) (by decide)) ?_
  refine Iff.trans (zw_icmp_lt (t := 37) (show decode cX8_digitsFrom 16 = .ok (.if_icmp .lt 21, 3) by decide +kernel) (by decide)) ?_
  refine zw_ite ?_ ?_
  · refine Iff.trans (zw_iload_n (show decode cX8_digitsFrom 37 = .ok (.iload_n 2, 1) by decide +kernel) rfl) ?_
    exact zw_iret1 (show decode cX8_digitsFrom 38 = .ok (.ireturn, 1) by decide +kernel) rfl
  · refine Iff.trans (zw_aload_n (show decode cX8_digitsFrom 19 = .ok (.aload_n 0, 1) by decide +kernel) rfl) ?_
    refine Iff.trans (zw_iload_n (show decode cX8_digitsFrom 20 = .ok (.iload_n 1, 1) by decide +kernel) rfl) ?_
    refine Iff.trans (zw_iload_n (show decode cX8_digitsFrom 21 = .ok (.iload_n 2, 1) by decide +kernel) rfl) ?_
    refine Iff.trans (zw_iadd (show decode cX8_digitsFrom 22 = .ok (.iadd, 1) by decide +kernel)) ?_
    refine Iff.trans (zw_invV (K' := kX8_byteAt) (as' := [.int (x1 + x2)]) (rest := []) (show decode cX8_digitsFrom 23 = .ok (.invokevirtual 24, 3) by decide +kernel) (by rfl) rfl rfl rfl (hl.k2 ha0) (by decide) (hl.n2 ha0) ⟨Nat.le_of_ble_eq_true rfl, Nat.le_of_ble_eq_true rfl, Nat.le_of_ble_eq_true rfl⟩) ?_
    exact Iff.rfl

theorem bX8_digitsFrom_26 {d : Nat} {σ : zS} {Q : Option Value → zS → Prop} (hl : zLay σ) {a0 : Nat} {x1 x2 y0 : Int32} (ha0 : zk a0 = 8) : zW (d + 1) kX8_digitsFrom 26 [.ref a0, .int x1, .int x2] [.int y0] σ Q ↔ (if 57 < y0 then Q (some (.int x2)) σ else zW (d + 1) kX8_digitsFrom 2 [.ref a0, .int x1, .int (x2 + 1)] [] σ Q) := by
  refine Iff.trans (zw_bipush (x := 57) (show decode cX8_digitsFrom 26 = .ok (.bipush 57, 2) by decide +kernel) (by decide)) ?_
  refine Iff.trans (zw_icmp_gt (t := 37) (show decode cX8_digitsFrom 28 = .ok (.if_icmp .gt 9, 3) by decide +kernel) (by decide)) ?_
  refine zw_ite ?_ ?_
  · refine Iff.trans (zw_iload_n (show decode cX8_digitsFrom 37 = .ok (.iload_n 2, 1) by decide +kernel) rfl) ?_
    exact zw_iret1 (show decode cX8_digitsFrom 38 = .ok (.ireturn, 1) by decide +kernel) rfl
  · refine Iff.trans (zw_iinc (w := 1) (ls' := [.ref a0, .int x1, .int (x2 + 1)]) (show decode cX8_digitsFrom 31 = .ok (.iinc 2 1, 3) by decide +kernel) rfl (by decide) (zset_s (Nat.le_of_ble_eq_true rfl) rfl)) ?_
    refine Iff.trans (zw_goto (t := 2) (show decode cX8_digitsFrom 34 = .ok (.goto (-32), 3) by decide +kernel) (by decide)) ?_
    exact Iff.rfl

theorem bX9_add_0 {d : Nat} {σ : zS} {Q : Option Value → zS → Prop} (hl : zLay σ) {a0 : Nat} {x1 : Int32} (ha0 : zk a0 = 9) : zCall d kX9_add [.ref a0, .int x1] σ Q ↔ (if (zI σ a0 3) < (0 : Int32) then Q (some (.int 0)) σ else (if (zI σ a0 3) < 12 then (vp_in (zI σ a0 3) 12 ∧ Q (some (.int 1)) (zsI (zsI σ (a0 + 1) (upd (zI σ (a0 + 1)) (zI σ a0 3 : Int32).toNatClampNeg x1)) a0 (upd (zI σ a0) 3 ((zI σ a0 3) + 1)))) else Q (some (.int 0)) σ)) := by
  show zW d kX9_add 0 [.ref a0, .int x1] [] σ Q ↔ _
  refine Iff.trans (zw_aload_n (show decode cX9_add 0 = .ok (.aload_n 0, 1) by decide +kernel) rfl) ?_
  refine Iff.trans (zw_getI (show decode cX9_add 1 = .ok (.getfield 21, 3) by decide +kernel) (by decide +kernel : zfld 9 21 = some (9, 3)) (hl.k2 ha0) (hl.n2 ha0) (Or.inl rfl) (w := zI σ a0 3) rfl) ?_
  refine Iff.trans (zw_if_lt (t := 16) (show decode cX9_add 4 = .ok (.ifCond .lt 12, 3) by decide +kernel) (by decide)) ?_
  refine zw_ite ?_ ?_
  · refine Iff.trans (zw_iconst (x := 0) (show decode cX9_add 16 = .ok (.iconst 0, 1) by decide +kernel) (by decide)) ?_
    exact zw_iret2c (show decode cX9_add 17 = .ok (.ireturn, 1) by decide +kernel) rfl (Or.inl rfl)
  · refine Iff.trans (zw_aload_n (show decode cX9_add 7 = .ok (.aload_n 0, 1) by decide +kernel) rfl) ?_
    refine Iff.trans (zw_getI (show decode cX9_add 8 = .ok (.getfield 21, 3) by decide +kernel) (by decide +kernel : zfld 9 21 = some (9, 3)) (hl.k2 ha0) (hl.n2 ha0) (Or.inl rfl) (w := zI σ a0 3) rfl) ?_
    refine Iff.trans (zw_bipush (x := 12) (show decode cX9_add 11 = .ok (.bipush 12, 2) by decide +kernel) (by decide)) ?_
    refine Iff.trans (zw_icmp_lt (t := 18) (show decode cX9_add 13 = .ok (.if_icmp .lt 5, 3) by decide +kernel) (by decide)) ?_
    refine zw_ite ?_ ?_
    · refine Iff.trans (zw_aload_n (show decode cX9_add 18 = .ok (.aload_n 0, 1) by decide +kernel) rfl) ?_
      refine Iff.trans (zw_get (show decode cX9_add 19 = .ok (.getfield 9, 3) by decide +kernel) (by decide +kernel : zfld 9 9 = some (9, 0)) (hl.k2 ha0) (hl.n2 ha0) (zgetR (v := a0 + 1) (hl.r (zrt9_0 ha0)) rfl)) ?_
      refine Iff.trans (zw_aload_n (show decode cX9_add 22 = .ok (.aload_n 0, 1) by decide +kernel) rfl) ?_
      refine Iff.trans (zw_getI (show decode cX9_add 23 = .ok (.getfield 21, 3) by decide +kernel) (by decide +kernel : zfld 9 21 = some (9, 3)) (hl.k2 ha0) (hl.n2 ha0) (Or.inl rfl) (w := zI σ a0 3) rfl) ?_
      refine Iff.trans (zw_iload_n (show decode cX9_add 26 = .ok (.iload_n 1, 1) by decide +kernel) rfl) ?_
      refine Iff.trans (zw_iast2 (show decode cX9_add 27 = .ok (.iastore, 1) by decide +kernel) (hl.k2 (zf_book ha0).1.1) (hl.n2 (zf_book ha0).1.1) (hl.l2 (zf_book ha0).1.1 (zf_book ha0).1.2) (σ' := (zsI σ (a0 + 1) (upd (zI σ (a0 + 1)) (zI σ a0 3 : Int32).toNatClampNeg x1))) rfl) ?_
      refine zw_and ?_
      refine Iff.trans (zw_aload_n (show decode cX9_add 28 = .ok (.aload_n 0, 1) by decide +kernel) rfl) ?_
      refine Iff.trans (zw_dup (show decode cX9_add 29 = .ok (.dup, 1) by decide +kernel) rfl) ?_
      refine Iff.trans (zw_getI (show decode cX9_add 30 = .ok (.getfield 21, 3) by decide +kernel) (by decide +kernel : zfld 9 21 = some (9, 3)) (hl.I.k2 ha0) (hl.I.n2 ha0) (Or.inl rfl) (w := zI σ a0 3) (congrFun (zI_ne (by omega)) 3)) ?_
      refine Iff.trans (zw_iconst (x := 1) (show decode cX9_add 33 = .ok (.iconst 1, 1) by decide +kernel) (by decide)) ?_
      refine Iff.trans (zw_iadd (show decode cX9_add 34 = .ok (.iadd, 1) by decide +kernel)) ?_
      refine Iff.trans (zw_putI (show decode cX9_add 35 = .ok (.putfield 21, 3) by decide +kernel) (by decide +kernel : zfld 9 21 = some (9, 3)) (hl.I.k2 ha0) (hl.I.n2 ha0) rfl (Or.inl rfl) (σ' := (zsI (zsI σ (a0 + 1) (upd (zI σ (a0 + 1)) (zI σ a0 3 : Int32).toNatClampNeg x1)) a0 (upd (zI σ a0) 3 ((zI σ a0 3) + 1)))) (congrArg (fun f => zsI (zsI σ (a0 + 1) (upd (zI σ (a0 + 1)) (zI σ a0 3 : Int32).toNatClampNeg x1)) a0 (upd f 3 ((zI σ a0 3) + 1))) (zI_ne (by omega)))) ?_
      refine Iff.trans (zw_iconst (x := 1) (show decode cX9_add 38 = .ok (.iconst 1, 1) by decide +kernel) (by decide)) ?_
      exact zw_iret2c (show decode cX9_add 39 = .ok (.ireturn, 1) by decide +kernel) rfl (Or.inr rfl)
    · refine Iff.trans (zw_iconst (x := 0) (show decode cX9_add 16 = .ok (.iconst 0, 1) by decide +kernel) (by decide)) ?_
      exact zw_iret2c (show decode cX9_add 17 = .ok (.ireturn, 1) by decide +kernel) rfl (Or.inl rfl)

theorem bX9_partPairs_0 {d : Nat} {σ : zS} {Q : Option Value → zS → Prop} (hl : zLay σ) {a0 : Nat} {x1 x2 : Int32} (ha0 : zk a0 = 9) : zCall (d + 1) kX9_partPairs [.ref a0, .int x1, .int x2] σ Q ↔ (if x1 < (0 : Int32) then Q none σ else (if x1 < 12 then zW (d + 1) kX9_partPairs 19 [.ref a0, .int x1, .int x2, .int 0, .int 0, .int 0, .retAddr 0] [] σ Q else Q none σ)) := by
  show zW (d + 1) kX9_partPairs 0 [.ref a0, .int x1, .int x2, .retAddr 0, .retAddr 0, .retAddr 0, .retAddr 0] [] σ Q ↔ _
  refine Iff.trans (zw_iload_n (show decode cX9_partPairs 0 = .ok (.iload_n 1, 1) by decide +kernel) rfl) ?_
  refine Iff.trans (zw_if_lt (t := 10) (show decode cX9_partPairs 1 = .ok (.ifCond .lt 9, 3) by decide +kernel) (by decide)) ?_
  refine zw_ite ?_ ?_
  · exact zw_ret (show decode cX9_partPairs 10 = .ok (.return_, 1) by decide +kernel) rfl
  · refine Iff.trans (zw_iload_n (show decode cX9_partPairs 4 = .ok (.iload_n 1, 1) by decide +kernel) rfl) ?_
    refine Iff.trans (zw_bipush (x := 12) (show decode cX9_partPairs 5 = .ok (.bipush 12, 2) by decide +kernel) (by decide)) ?_
    refine Iff.trans (zw_icmp_lt (t := 11) (show decode cX9_partPairs 7 = .ok (.if_icmp .lt 4, 3) by decide +kernel) (by decide)) ?_
    refine zw_ite ?_ ?_
    · refine Iff.trans (zw_iconst (x := 0) (show decode cX9_partPairs 11 = .ok (.iconst 0, 1) by decide +kernel) (by decide)) ?_
      refine Iff.trans (zw_istore_n (ls' := [.ref a0, .int x1, .int x2, .int 0, .retAddr 0, .retAddr 0, .retAddr 0]) (show decode cX9_partPairs 12 = .ok (.istore_n 3, 1) by decide +kernel) (zset_s (Nat.le_of_ble_eq_true rfl) rfl)) ?_
      refine Iff.trans (zw_iconst (x := 0) (show decode cX9_partPairs 13 = .ok (.iconst 0, 1) by decide +kernel) (by decide)) ?_
      refine Iff.trans (zw_istore (ls' := [.ref a0, .int x1, .int x2, .int 0, .int 0, .retAddr 0, .retAddr 0]) (show decode cX9_partPairs 14 = .ok (.istore 4, 2) by decide +kernel) (zset_s (Nat.le_of_ble_eq_true rfl) rfl)) ?_
      refine Iff.trans (zw_iconst (x := 0) (show decode cX9_partPairs 16 = .ok (.iconst 0, 1) by decide +kernel) (by decide)) ?_
      refine Iff.trans (zw_istore (ls' := [.ref a0, .int x1, .int x2, .int 0, .int 0, .int 0, .retAddr 0]) (show decode cX9_partPairs 17 = .ok (.istore 5, 2) by decide +kernel) (zset_s (Nat.le_of_ble_eq_true rfl) rfl)) ?_
      exact Iff.rfl
    · exact zw_ret (show decode cX9_partPairs 10 = .ok (.return_, 1) by decide +kernel) rfl

theorem bX9_partPairs_19 {d : Nat} {σ : zS} {Q : Option Value → zS → Prop} (hl : zLay σ) {a0 : Nat} {x1 x2 x3 x4 x5 : Int32} {v6 : Value} (ha0 : zk a0 = 9) (hv6 : v6.category = 1) : zW (d + 1) kX9_partPairs 19 [.ref a0, .int x1, .int x2, .int x3, .int x4, .int x5, v6] [] σ Q ↔ (if 6 ≤ x5 then (vp_in x1 12 ∧ Q none (zsI σ (a0 + 2) (upd (zI σ (a0 + 2)) (x1 : Int32).toNatClampNeg x3))) else zW (d + 1) kX9_partPairs 32 [.ref a0, .int x1, .int x2, .int x3, .int x4, .int x5, .int (x5 + 1)] [] σ Q) := by
  refine Iff.trans (zw_iload (show decode cX9_partPairs 19 = .ok (.iload 5, 2) by decide +kernel) rfl) ?_
  refine Iff.trans (zw_bipush (x := 6) (show decode cX9_partPairs 21 = .ok (.bipush 6, 2) by decide +kernel) (by decide)) ?_
  refine Iff.trans (zw_icmp_ge (t := 96) (show decode cX9_partPairs 23 = .ok (.if_icmp .ge 73, 3) by decide +kernel) (by decide)) ?_
  refine zw_ite ?_ ?_
  · refine Iff.trans (zw_aload_n (show decode cX9_partPairs 96 = .ok (.aload_n 0, 1) by decide +kernel) rfl) ?_
    refine Iff.trans (zw_get (show decode cX9_partPairs 97 = .ok (.getfield 15, 3) by decide +kernel) (by decide +kernel : zfld 9 15 = some (9, 1)) (hl.k2 ha0) (hl.n2 ha0) (zgetR (v := a0 + 2) (hl.r (zrt9_1 ha0)) rfl)) ?_
    refine Iff.trans (zw_iload_n (show decode cX9_partPairs 100 = .ok (.iload_n 1, 1) by decide +kernel) rfl) ?_
    refine Iff.trans (zw_iload_n (show decode cX9_partPairs 101 = .ok (.iload_n 3, 1) by decide +kernel) rfl) ?_
    refine Iff.trans (zw_iast2 (show decode cX9_partPairs 102 = .ok (.iastore, 1) by decide +kernel) (hl.k2 (zf_book ha0).2.1.1) (hl.n2 (zf_book ha0).2.1.1) (hl.l2 (zf_book ha0).2.1.1 (zf_book ha0).2.1.2) (σ' := (zsI σ (a0 + 2) (upd (zI σ (a0 + 2)) (x1 : Int32).toNatClampNeg x3))) rfl) ?_
    refine zw_and ?_
    exact zw_ret (show decode cX9_partPairs 103 = .ok (.return_, 1) by decide +kernel) rfl
  · refine Iff.trans (zw_iload (show decode cX9_partPairs 26 = .ok (.iload 5, 2) by decide +kernel) rfl) ?_
    refine Iff.trans (zw_iconst (x := 1) (show decode cX9_partPairs 28 = .ok (.iconst 1, 1) by decide +kernel) (by decide)) ?_
    refine Iff.trans (zw_iadd (show decode cX9_partPairs 29 = .ok (.iadd, 1) by decide +kernel)) ?_
    refine Iff.trans (zw_istore (ls' := [.ref a0, .int x1, .int x2, .int x3, .int x4, .int x5, .int (x5 + 1)]) (show decode cX9_partPairs 30 = .ok (.istore 6, 2) by decide +kernel) (zset_s (Nat.le_of_ble_eq_true rfl) rfl)) ?_
    exact Iff.rfl

theorem bX9_partPairs_32 {d : Nat} {σ : zS} {Q : Option Value → zS → Prop} (hl : zLay σ) {a0 : Nat} {x1 x2 x3 x4 x5 x6 : Int32} (ha0 : zk a0 = 9) : zW (d + 1) kX9_partPairs 32 [.ref a0, .int x1, .int x2, .int x3, .int x4, .int x5, .int x6] [] σ Q ↔ (if 6 ≤ x6 then zW (d + 1) kX9_partPairs 19 [.ref a0, .int x1, .int x2, .int x3, .int x4, .int (x5 + 1), .int x6] [] σ Q else zCall d kX11_hasBit [.int x2, .int x5] σ (fun r σ' => zisN r = true ∧ zW (d + 1) kX9_partPairs 45 [.ref a0, .int x1, .int x2, .int x3, .int x4, .int x5, .int x6] (zRstk r ++ []) σ' Q)) := by
  refine Iff.trans (zw_iload (show decode cX9_partPairs 32 = .ok (.iload 6, 2) by decide +kernel) rfl) ?_
  refine Iff.trans (zw_bipush (x := 6) (show decode cX9_partPairs 34 = .ok (.bipush 6, 2) by decide +kernel) (by decide)) ?_
  refine Iff.trans (zw_icmp_ge (t := 90) (show decode cX9_partPairs 36 = .ok (.if_icmp .ge 54, 3) by decide +kernel) (by decide)) ?_
  refine zw_ite ?_ ?_
  · refine Iff.trans (zw_iinc (w := 1) (ls' := [.ref a0, .int x1, .int x2, .int x3, .int x4, .int (x5 + 1), .int x6]) (show decode cX9_partPairs 90 = .ok (.iinc 5 1, 3) by decide +kernel) rfl (by decide) (zset_s (Nat.le_of_ble_eq_true rfl) rfl)) ?_
    refine Iff.trans (zw_goto (t := 19) (show decode cX9_partPairs 93 = .ok (.goto (-74), 3) by decide +kernel) (by decide)) ?_
    exact Iff.rfl
  · refine Iff.trans (zw_iload_n (show decode cX9_partPairs 39 = .ok (.iload_n 2, 1) by decide +kernel) rfl) ?_
    refine Iff.trans (zw_iload (show decode cX9_partPairs 40 = .ok (.iload 5, 2) by decide +kernel) rfl) ?_
    refine Iff.trans (zw_invS (K' := kX11_hasBit) (as := [.int x2, .int x5]) (rest := []) (show decode cX9_partPairs 42 = .ok (.invokestatic 25, 3) by decide +kernel) (by rfl) rfl rfl rfl ⟨Nat.le_of_ble_eq_true rfl, Nat.le_of_ble_eq_true rfl, Nat.le_of_ble_eq_true rfl⟩) ?_
    exact Iff.rfl

theorem bX9_partPairs_45 {d : Nat} {σ : zS} {Q : Option Value → zS → Prop} (hl : zLay σ) {a0 : Nat} {x1 x2 x3 x4 x5 x6 y0 : Int32} (ha0 : zk a0 = 9) : zW (d + 1) kX9_partPairs 45 [.ref a0, .int x1, .int x2, .int x3, .int x4, .int x5, .int x6] [.int y0] σ Q ↔ (if y0 = (0 : Int32) then zW (d + 1) kX9_partPairs 32 [.ref a0, .int x1, .int x2, .int x3, .int (x4 + 1), .int x5, .int (x6 + 1)] [] σ Q else zCall d kX11_hasBit [.int x2, .int x6] σ (fun r σ' => zisN r = true ∧ zW (d + 1) kX9_partPairs 54 [.ref a0, .int x1, .int x2, .int x3, .int x4, .int x5, .int x6] (zRstk r ++ []) σ' Q)) := by
  refine Iff.trans (zw_if_eq (t := 81) (show decode cX9_partPairs 45 = .ok (.ifCond .eq 36, 3) by decide +kernel) (by decide)) ?_
  refine zw_ite ?_ ?_
  · refine Iff.trans (zw_iinc (w := 1) (ls' := [.ref a0, .int x1, .int x2, .int x3, .int (x4 + 1), .int x5, .int x6]) (show decode cX9_partPairs 81 = .ok (.iinc 4 1, 3) by decide +kernel) rfl (by decide) (zset_s (Nat.le_of_ble_eq_true rfl) rfl)) ?_
    refine Iff.trans (zw_iinc (w := 1) (ls' := [.ref a0, .int x1, .int x2, .int x3, .int (x4 + 1), .int x5, .int (x6 + 1)]) (show decode cX9_partPairs 84 = .ok (.iinc 6 1, 3) by decide +kernel) rfl (by decide) (zset_s (Nat.le_of_ble_eq_true rfl) rfl)) ?_
    refine Iff.trans (zw_goto (t := 32) (show decode cX9_partPairs 87 = .ok (.goto (-55), 3) by decide +kernel) (by decide)) ?_
    exact Iff.rfl
  · refine Iff.trans (zw_iload_n (show decode cX9_partPairs 48 = .ok (.iload_n 2, 1) by decide +kernel) rfl) ?_
    refine Iff.trans (zw_iload (show decode cX9_partPairs 49 = .ok (.iload 6, 2) by decide +kernel) rfl) ?_
    refine Iff.trans (zw_invS (K' := kX11_hasBit) (as := [.int x2, .int x6]) (rest := []) (show decode cX9_partPairs 51 = .ok (.invokestatic 25, 3) by decide +kernel) (by rfl) rfl rfl rfl ⟨Nat.le_of_ble_eq_true rfl, Nat.le_of_ble_eq_true rfl, Nat.le_of_ble_eq_true rfl⟩) ?_
    exact Iff.rfl

theorem bX9_partPairs_54 {d : Nat} {σ : zS} {Q : Option Value → zS → Prop} (hl : zLay σ) {a0 : Nat} {x1 x2 x3 x4 x5 x6 y0 : Int32} (ha0 : zk a0 = 9) : zW (d + 1) kX9_partPairs 54 [.ref a0, .int x1, .int x2, .int x3, .int x4, .int x5, .int x6] [.int y0] σ Q ↔ (if y0 = (0 : Int32) then zW (d + 1) kX9_partPairs 32 [.ref a0, .int x1, .int x2, .int x3, .int (x4 + 1), .int x5, .int (x6 + 1)] [] σ Q else (vp_in x5 6 ∧ (vp_in x6 6 ∧ (if (zI σ (a0 + 3) (x5 : Int32).toNatClampNeg) = (zI σ (a0 + 3) (x6 : Int32).toNatClampNeg) then zW (d + 1) kX9_partPairs 32 [.ref a0, .int x1, .int x2, .int x3, .int (x4 + 1), .int x5, .int (x6 + 1)] [] σ Q else zW (d + 1) kX9_partPairs 32 [.ref a0, .int x1, .int x2, .int (x3 ||| (1 <<< (x4 &&& 31))), .int (x4 + 1), .int x5, .int (x6 + 1)] [] σ Q)))) := by
  refine Iff.trans (zw_if_eq (t := 81) (show decode cX9_partPairs 54 = .ok (.ifCond .eq 27, 3) by decide +kernel) (by decide)) ?_
  refine zw_ite ?_ ?_
  · refine Iff.trans (zw_iinc (w := 1) (ls' := [.ref a0, .int x1, .int x2, .int x3, .int (x4 + 1), .int x5, .int x6]) (show decode cX9_partPairs 81 = .ok (.iinc 4 1, 3) by decide +kernel) rfl (by decide) (zset_s (Nat.le_of_ble_eq_true rfl) rfl)) ?_
    refine Iff.trans (zw_iinc (w := 1) (ls' := [.ref a0, .int x1, .int x2, .int x3, .int (x4 + 1), .int x5, .int (x6 + 1)]) (show decode cX9_partPairs 84 = .ok (.iinc 6 1, 3) by decide +kernel) rfl (by decide) (zset_s (Nat.le_of_ble_eq_true rfl) rfl)) ?_
    refine Iff.trans (zw_goto (t := 32) (show decode cX9_partPairs 87 = .ok (.goto (-55), 3) by decide +kernel) (by decide)) ?_
    exact Iff.rfl
  · refine Iff.trans (zw_aload_n (show decode cX9_partPairs 57 = .ok (.aload_n 0, 1) by decide +kernel) rfl) ?_
    refine Iff.trans (zw_get (show decode cX9_partPairs 58 = .ok (.getfield 18, 3) by decide +kernel) (by decide +kernel : zfld 9 18 = some (9, 2)) (hl.k2 ha0) (hl.n2 ha0) (zgetR (v := a0 + 3) (hl.r (zrt9_2 ha0)) rfl)) ?_
    refine Iff.trans (zw_iload (show decode cX9_partPairs 61 = .ok (.iload 5, 2) by decide +kernel) rfl) ?_
    refine Iff.trans (zw_iald2 (show decode cX9_partPairs 63 = .ok (.iaload, 1) by decide +kernel) (hl.k2 (zf_book ha0).2.2.1) (hl.n2 (zf_book ha0).2.2.1) (hl.l2 (zf_book ha0).2.2.1 (zf_book ha0).2.2.2) (w := zI σ (a0 + 3) (x5 : Int32).toNatClampNeg) rfl) ?_
    refine zw_and ?_
    refine Iff.trans (zw_aload_n (show decode cX9_partPairs 64 = .ok (.aload_n 0, 1) by decide +kernel) rfl) ?_
    refine Iff.trans (zw_get (show decode cX9_partPairs 65 = .ok (.getfield 18, 3) by decide +kernel) (by decide +kernel : zfld 9 18 = some (9, 2)) (hl.k2 ha0) (hl.n2 ha0) (zgetR (v := a0 + 3) (hl.r (zrt9_2 ha0)) rfl)) ?_
    refine Iff.trans (zw_iload (show decode cX9_partPairs 68 = .ok (.iload 6, 2) by decide +kernel) rfl) ?_
    refine Iff.trans (zw_iald2 (show decode cX9_partPairs 70 = .ok (.iaload, 1) by decide +kernel) (hl.k2 (zf_book ha0).2.2.1) (hl.n2 (zf_book ha0).2.2.1) (hl.l2 (zf_book ha0).2.2.1 (zf_book ha0).2.2.2) (w := zI σ (a0 + 3) (x6 : Int32).toNatClampNeg) rfl) ?_
    refine zw_and ?_
    refine Iff.trans (zw_icmp_eq (t := 81) (show decode cX9_partPairs 71 = .ok (.if_icmp .eq 10, 3) by decide +kernel) (by decide)) ?_
    refine zw_ite ?_ ?_
    · refine Iff.trans (zw_iinc (w := 1) (ls' := [.ref a0, .int x1, .int x2, .int x3, .int (x4 + 1), .int x5, .int x6]) (show decode cX9_partPairs 81 = .ok (.iinc 4 1, 3) by decide +kernel) rfl (by decide) (zset_s (Nat.le_of_ble_eq_true rfl) rfl)) ?_
      refine Iff.trans (zw_iinc (w := 1) (ls' := [.ref a0, .int x1, .int x2, .int x3, .int (x4 + 1), .int x5, .int (x6 + 1)]) (show decode cX9_partPairs 84 = .ok (.iinc 6 1, 3) by decide +kernel) rfl (by decide) (zset_s (Nat.le_of_ble_eq_true rfl) rfl)) ?_
      refine Iff.trans (zw_goto (t := 32) (show decode cX9_partPairs 87 = .ok (.goto (-55), 3) by decide +kernel) (by decide)) ?_
      exact Iff.rfl
    · refine Iff.trans (zw_iload_n (show decode cX9_partPairs 74 = .ok (.iload_n 3, 1) by decide +kernel) rfl) ?_
      refine Iff.trans (zw_iconst (x := 1) (show decode cX9_partPairs 75 = .ok (.iconst 1, 1) by decide +kernel) (by decide)) ?_
      refine Iff.trans (zw_iload (show decode cX9_partPairs 76 = .ok (.iload 4, 2) by decide +kernel) rfl) ?_
      refine Iff.trans (zw_ishl (show decode cX9_partPairs 78 = .ok (.ishl, 1) by decide +kernel)) ?_
      refine Iff.trans (zw_ior (show decode cX9_partPairs 79 = .ok (.ior, 1) by decide +kernel)) ?_
      refine Iff.trans (zw_istore_n (ls' := [.ref a0, .int x1, .int x2, .int (x3 ||| (1 <<< (x4 &&& 31))), .int x4, .int x5, .int x6]) (show decode cX9_partPairs 80 = .ok (.istore_n 3, 1) by decide +kernel) (zset_s (Nat.le_of_ble_eq_true rfl) rfl)) ?_
      refine Iff.trans (zw_iinc (w := 1) (ls' := [.ref a0, .int x1, .int x2, .int (x3 ||| (1 <<< (x4 &&& 31))), .int (x4 + 1), .int x5, .int x6]) (show decode cX9_partPairs 81 = .ok (.iinc 4 1, 3) by decide +kernel) rfl (by decide) (zset_s (Nat.le_of_ble_eq_true rfl) rfl)) ?_
      refine Iff.trans (zw_iinc (w := 1) (ls' := [.ref a0, .int x1, .int x2, .int (x3 ||| (1 <<< (x4 &&& 31))), .int (x4 + 1), .int x5, .int (x6 + 1)]) (show decode cX9_partPairs 84 = .ok (.iinc 6 1, 3) by decide +kernel) rfl (by decide) (zset_s (Nat.le_of_ble_eq_true rfl) rfl)) ?_
      refine Iff.trans (zw_goto (t := 32) (show decode cX9_partPairs 87 = .ok (.goto (-55), 3) by decide +kernel) (by decide)) ?_
      exact Iff.rfl

theorem bX9_leastSet_0 {d : Nat} {σ : zS} {Q : Option Value → zS → Prop} (hl : zLay σ) {a0 : Nat} (ha0 : zk a0 = 9) : zCall (d + 1) kX9_leastSet [.ref a0] σ Q ↔ zCall d kX9_partedBy [.ref a0, .int 4095] σ (fun r σ' => zisN r = true ∧ zW (d + 1) kX9_leastSet 7 [.ref a0, .retAddr 0, .retAddr 0, .retAddr 0, .retAddr 0, .retAddr 0, .retAddr 0] (zRstk r ++ []) σ' Q) := by
  show zW (d + 1) kX9_leastSet 0 [.ref a0, .retAddr 0, .retAddr 0, .retAddr 0, .retAddr 0, .retAddr 0, .retAddr 0] [] σ Q ↔ _
  refine Iff.trans (zw_aload_n (show decode cX9_leastSet 0 = .ok (.aload_n 0, 1) by decide +kernel) rfl) ?_
  refine Iff.trans (zw_sipush (x := 4095) (show decode cX9_leastSet 1 = .ok (.sipush 4095, 3) by decide +kernel) (by decide)) ?_
  refine Iff.trans (zw_invV (K' := kX9_partedBy) (as' := [.int 4095]) (rest := []) (show decode cX9_leastSet 4 = .ok (.invokevirtual 29, 3) by decide +kernel) (by rfl) rfl rfl rfl (hl.k2 ha0) (by decide) (hl.n2 ha0) ⟨Nat.le_of_ble_eq_true rfl, Nat.le_of_ble_eq_true rfl, Nat.le_of_ble_eq_true rfl⟩) ?_
  exact Iff.rfl

theorem bX9_leastSet_7 {d : Nat} {σ : zS} {Q : Option Value → zS → Prop} (hl : zLay σ) {a0 : Nat} {y0 : Int32} (ha0 : zk a0 = 9) : zW (d + 1) kX9_leastSet 7 [.ref a0, .retAddr 0, .retAddr 0, .retAddr 0, .retAddr 0, .retAddr 0, .retAddr 0] [.int y0] σ Q ↔ zW (d + 1) kX9_leastSet 16 [.ref a0, .int y0, .int (-1), .int 13, .int 0, .retAddr 0, .retAddr 0] [] σ Q := by
  refine Iff.trans (zw_istore_n (ls' := [.ref a0, .int y0, .retAddr 0, .retAddr 0, .retAddr 0, .retAddr 0, .retAddr 0]) (show decode cX9_leastSet 7 = .ok (.istore_n 1, 1) by decide +kernel) (zset_s (Nat.le_of_ble_eq_true rfl) rfl)) ?_
  refine Iff.trans (zw_iconst (x := (-1)) (show decode cX9_leastSet 8 = .ok (.iconst (-1), 1) by decide +kernel) (by decide)) ?_
  refine Iff.trans (zw_istore_n (ls' := [.ref a0, .int y0, .int (-1), .retAddr 0, .retAddr 0, .retAddr 0, .retAddr 0]) (show decode cX9_leastSet 9 = .ok (.istore_n 2, 1) by decide +kernel) (zset_s (Nat.le_of_ble_eq_true rfl) rfl)) ?_
  refine Iff.trans (zw_bipush (x := 13) (show decode cX9_leastSet 10 = .ok (.bipush 13, 2) by decide +kernel) (by decide)) ?_
  refine Iff.trans (zw_istore_n (ls' := [.ref a0, .int y0, .int (-1), .int 13, .retAddr 0, .retAddr 0, .retAddr 0]) (show decode cX9_leastSet 12 = .ok (.istore_n 3, 1) by decide +kernel) (zset_s (Nat.le_of_ble_eq_true rfl) rfl)) ?_
  refine Iff.trans (zw_iconst (x := 0) (show decode cX9_leastSet 13 = .ok (.iconst 0, 1) by decide +kernel) (by decide)) ?_
  refine Iff.trans (zw_istore (ls' := [.ref a0, .int y0, .int (-1), .int 13, .int 0, .retAddr 0, .retAddr 0]) (show decode cX9_leastSet 14 = .ok (.istore 4, 2) by decide +kernel) (zset_s (Nat.le_of_ble_eq_true rfl) rfl)) ?_
  exact Iff.rfl

theorem bX9_leastSet_16 {d : Nat} {σ : zS} {Q : Option Value → zS → Prop} (hl : zLay σ) {a0 : Nat} {x1 x2 x3 x4 : Int32} {v5 v6 : Value} (ha0 : zk a0 = 9) (hv5 : v5.category = 1) (hv6 : v6.category = 1) : zW (d + 1) kX9_leastSet 16 [.ref a0, .int x1, .int x2, .int x3, .int x4, v5, v6] [] σ Q ↔ (if (1 <<< ((zI σ a0 3) &&& 31)) ≤ x4 then Q (some (.int x2)) σ else zCall d kJ6_bitCount_0f7a4 [.int x4] σ (fun r σ' => zisN r = true ∧ zW (d + 1) kX9_leastSet 32 [.ref a0, .int x1, .int x2, .int x3, .int x4, v5, v6] (zRstk r ++ []) σ' Q)) := by
  refine Iff.trans (zw_iload (show decode cX9_leastSet 16 = .ok (.iload 4, 2) by decide +kernel) rfl) ?_
  refine Iff.trans (zw_iconst (x := 1) (show decode cX9_leastSet 18 = .ok (.iconst 1, 1) by decide +kernel) (by decide)) ?_
  refine Iff.trans (zw_aload_n (show decode cX9_leastSet 19 = .ok (.aload_n 0, 1) by decide +kernel) rfl) ?_
  refine Iff.trans (zw_getI (show decode cX9_leastSet 20 = .ok (.getfield 21, 3) by decide +kernel) (by decide +kernel : zfld 9 21 = some (9, 3)) (hl.k2 ha0) (hl.n2 ha0) (Or.inl rfl) (w := zI σ a0 3) rfl) ?_
  refine Iff.trans (zw_ishl (show decode cX9_leastSet 23 = .ok (.ishl, 1) by decide +kernel)) ?_
  refine Iff.trans (zw_icmp_ge (t := 89) (show decode cX9_leastSet 24 = .ok (.if_icmp .ge 65, 3) by decide +kernel) (by decide)) ?_
  refine zw_ite ?_ ?_
  · refine Iff.trans (zw_iload_n (show decode cX9_leastSet 89 = .ok (.iload_n 2, 1) by decide +kernel) rfl) ?_
    exact zw_iret1 (show decode cX9_leastSet 90 = .ok (.ireturn, 1) by decide +kernel) rfl
  · refine Iff.trans (zw_iload (show decode cX9_leastSet 27 = .ok (.iload 4, 2) by decide +kernel) rfl) ?_
    refine Iff.trans (zw_invS (K' := kJ6_bitCount_0f7a4) (as := [.int x4]) (rest := []) (show decode cX9_leastSet 29 = .ok (.invokestatic 33, 3) by decide +kernel) (by rfl) rfl rfl rfl ⟨Nat.le_of_ble_eq_true rfl, Nat.le_of_ble_eq_true rfl, Nat.le_of_ble_eq_true rfl⟩) ?_
    exact Iff.rfl

theorem bX9_leastSet_32 {d : Nat} {σ : zS} {Q : Option Value → zS → Prop} (hl : zLay σ) {a0 : Nat} {x1 x2 x3 x4 y0 : Int32} {v5 v6 : Value} (ha0 : zk a0 = 9) (hv5 : v5.category = 1) (hv6 : v6.category = 1) : zW (d + 1) kX9_leastSet 32 [.ref a0, .int x1, .int x2, .int x3, .int x4, v5, v6] [.int y0] σ Q ↔ (if y0 < x3 then zW (d + 1) kX9_leastSet 55 [.ref a0, .int x1, .int x2, .int x3, .int x4, .int y0, v6] [] σ Q else (if y0 = x3 then zCall d kX9_lowerFirst [.int x4, .int x2] σ (fun r σ' => zisN r = true ∧ zW (d + 1) kX9_leastSet 52 [.ref a0, .int x1, .int x2, .int x3, .int x4, .int y0, v6] (zRstk r ++ []) σ' Q) else zW (d + 1) kX9_leastSet 60 [.ref a0, .int x1, .int x2, .int x3, .int x4, .int y0, v6] [.int 0] σ Q)) := by
  refine Iff.trans (zw_istore (ls' := [.ref a0, .int x1, .int x2, .int x3, .int x4, .int y0, v6]) (show decode cX9_leastSet 32 = .ok (.istore 5, 2) by decide +kernel) (zset_s (Nat.le_of_ble_eq_true rfl) rfl)) ?_
  refine Iff.trans (zw_iload (show decode cX9_leastSet 34 = .ok (.iload 5, 2) by decide +kernel) rfl) ?_
  refine Iff.trans (zw_iload_n (show decode cX9_leastSet 36 = .ok (.iload_n 3, 1) by decide +kernel) rfl) ?_
  refine Iff.trans (zw_icmp_lt (t := 55) (show decode cX9_leastSet 37 = .ok (.if_icmp .lt 18, 3) by decide +kernel) (by decide)) ?_
  refine zw_ite ?_ ?_
  · exact Iff.rfl
  · refine Iff.trans (zw_iload (show decode cX9_leastSet 40 = .ok (.iload 5, 2) by decide +kernel) rfl) ?_
    refine Iff.trans (zw_iload_n (show decode cX9_leastSet 42 = .ok (.iload_n 3, 1) by decide +kernel) rfl) ?_
    refine Iff.trans (zw_icmp_ne (t := 59) (show decode cX9_leastSet 43 = .ok (.if_icmp .ne 16, 3) by decide +kernel) (by decide)) ?_
    refine zw_ite ?_ ?_
    · refine Iff.trans (zw_iload (show decode cX9_leastSet 46 = .ok (.iload 4, 2) by decide +kernel) rfl) ?_
      refine Iff.trans (zw_iload_n (show decode cX9_leastSet 48 = .ok (.iload_n 2, 1) by decide +kernel) rfl) ?_
      refine Iff.trans (zw_invS (K' := kX9_lowerFirst) (as := [.int x4, .int x2]) (rest := []) (show decode cX9_leastSet 49 = .ok (.invokestatic 38, 3) by decide +kernel) (by rfl) rfl rfl rfl ⟨Nat.le_of_ble_eq_true rfl, Nat.le_of_ble_eq_true rfl, Nat.le_of_ble_eq_true rfl⟩) ?_
      exact Iff.rfl
    · refine Iff.trans (zw_iconst (x := 0) (show decode cX9_leastSet 59 = .ok (.iconst 0, 1) by decide +kernel) (by decide)) ?_
      exact Iff.rfl

theorem bX9_leastSet_52 {d : Nat} {σ : zS} {Q : Option Value → zS → Prop} (hl : zLay σ) {a0 : Nat} {x1 x2 x3 x4 x5 y0 : Int32} {v6 : Value} (ha0 : zk a0 = 9) (hv6 : v6.category = 1) : zW (d + 1) kX9_leastSet 52 [.ref a0, .int x1, .int x2, .int x3, .int x4, .int x5, v6] [.int y0] σ Q ↔ (if y0 = (0 : Int32) then zW (d + 1) kX9_leastSet 60 [.ref a0, .int x1, .int x2, .int x3, .int x4, .int x5, v6] [.int 0] σ Q else zW (d + 1) kX9_leastSet 55 [.ref a0, .int x1, .int x2, .int x3, .int x4, .int x5, v6] [] σ Q) := by
  refine Iff.trans (zw_if_eq (t := 59) (show decode cX9_leastSet 52 = .ok (.ifCond .eq 7, 3) by decide +kernel) (by decide)) ?_
  refine zw_ite ?_ ?_
  · refine Iff.trans (zw_iconst (x := 0) (show decode cX9_leastSet 59 = .ok (.iconst 0, 1) by decide +kernel) (by decide)) ?_
    exact Iff.rfl
  · exact Iff.rfl

theorem bX9_leastSet_55 {d : Nat} {σ : zS} {Q : Option Value → zS → Prop} (hl : zLay σ) {a0 : Nat} {x1 x2 x3 x4 x5 : Int32} {v6 : Value} (ha0 : zk a0 = 9) (hv6 : v6.category = 1) : zW (d + 1) kX9_leastSet 55 [.ref a0, .int x1, .int x2, .int x3, .int x4, .int x5, v6] [] σ Q ↔ zW (d + 1) kX9_leastSet 60 [.ref a0, .int x1, .int x2, .int x3, .int x4, .int x5, v6] [.int 1] σ Q := by
  refine Iff.trans (zw_iconst (x := 1) (show decode cX9_leastSet 55 = .ok (.iconst 1, 1) by decide +kernel) (by decide)) ?_
  refine Iff.trans (zw_goto (t := 60) (show decode cX9_leastSet 56 = .ok (.goto 4, 3) by decide +kernel) (by decide)) ?_
  exact Iff.rfl

theorem bX9_leastSet_60 {d : Nat} {σ : zS} {Q : Option Value → zS → Prop} (hl : zLay σ) {a0 : Nat} {x1 x2 x3 x4 x5 y0 : Int32} {v6 : Value} (ha0 : zk a0 = 9) (hv6 : v6.category = 1) : zW (d + 1) kX9_leastSet 60 [.ref a0, .int x1, .int x2, .int x3, .int x4, .int x5, v6] [.int y0] σ Q ↔ (if y0 = (0 : Int32) then zW (d + 1) kX9_leastSet 16 [.ref a0, .int x1, .int x2, .int x3, .int (x4 + 1), .int x5, .int y0] [] σ Q else zCall d kX9_partedBy [.ref a0, .int x4] σ (fun r σ' => zisN r = true ∧ zW (d + 1) kX9_leastSet 73 [.ref a0, .int x1, .int x2, .int x3, .int x4, .int x5, .int y0] (zRstk r ++ []) σ' Q)) := by
  refine Iff.trans (zw_istore (ls' := [.ref a0, .int x1, .int x2, .int x3, .int x4, .int x5, .int y0]) (show decode cX9_leastSet 60 = .ok (.istore 6, 2) by decide +kernel) (zset_s (Nat.le_of_ble_eq_true rfl) rfl)) ?_
  refine Iff.trans (zw_iload (show decode cX9_leastSet 62 = .ok (.iload 6, 2) by decide +kernel) rfl) ?_
  refine Iff.trans (zw_if_eq (t := 83) (show decode cX9_leastSet 64 = .ok (.ifCond .eq 19, 3) by decide +kernel) (by decide)) ?_
  refine zw_ite ?_ ?_
  · refine Iff.trans (zw_iinc (w := 1) (ls' := [.ref a0, .int x1, .int x2, .int x3, .int (x4 + 1), .int x5, .int y0]) (show decode cX9_leastSet 83 = .ok (.iinc 4 1, 3) by decide +kernel) rfl (by decide) (zset_s (Nat.le_of_ble_eq_true rfl) rfl)) ?_
    refine Iff.trans (zw_goto (t := 16) (show decode cX9_leastSet 86 = .ok (.goto (-70), 3) by decide +kernel) (by decide)) ?_
    exact Iff.rfl
  · refine Iff.trans (zw_aload_n (show decode cX9_leastSet 67 = .ok (.aload_n 0, 1) by decide +kernel) rfl) ?_
    refine Iff.trans (zw_iload (show decode cX9_leastSet 68 = .ok (.iload 4, 2) by decide +kernel) rfl) ?_
    refine Iff.trans (zw_invV (K' := kX9_partedBy) (as' := [.int x4]) (rest := []) (show decode cX9_leastSet 70 = .ok (.invokevirtual 29, 3) by decide +kernel) (by rfl) rfl rfl rfl (hl.k2 ha0) (by decide) (hl.n2 ha0) ⟨Nat.le_of_ble_eq_true rfl, Nat.le_of_ble_eq_true rfl, Nat.le_of_ble_eq_true rfl⟩) ?_
    exact Iff.rfl

theorem bX9_leastSet_73 {d : Nat} {σ : zS} {Q : Option Value → zS → Prop} (hl : zLay σ) {a0 : Nat} {x1 x2 x3 x4 x5 x6 y0 : Int32} (ha0 : zk a0 = 9) : zW (d + 1) kX9_leastSet 73 [.ref a0, .int x1, .int x2, .int x3, .int x4, .int x5, .int x6] [.int y0] σ Q ↔ (if y0 = x1 then zW (d + 1) kX9_leastSet 16 [.ref a0, .int x1, .int x4, .int x5, .int (x4 + 1), .int x5, .int x6] [] σ Q else zW (d + 1) kX9_leastSet 16 [.ref a0, .int x1, .int x2, .int x3, .int (x4 + 1), .int x5, .int x6] [] σ Q) := by
  refine Iff.trans (zw_iload_n (show decode cX9_leastSet 73 = .ok (.iload_n 1, 1) by decide +kernel) rfl) ?_
  refine Iff.trans (zw_icmp_ne (t := 83) (show decode cX9_leastSet 74 = .ok (.if_icmp .ne 9, 3) by decide +kernel) (by decide)) ?_
  refine zw_ite ?_ ?_
  · refine Iff.trans (zw_iload (show decode cX9_leastSet 77 = .ok (.iload 4, 2) by decide +kernel) rfl) ?_
    refine Iff.trans (zw_istore_n (ls' := [.ref a0, .int x1, .int x4, .int x3, .int x4, .int x5, .int x6]) (show decode cX9_leastSet 79 = .ok (.istore_n 2, 1) by decide +kernel) (zset_s (Nat.le_of_ble_eq_true rfl) rfl)) ?_
    refine Iff.trans (zw_iload (show decode cX9_leastSet 80 = .ok (.iload 5, 2) by decide +kernel) rfl) ?_
    refine Iff.trans (zw_istore_n (ls' := [.ref a0, .int x1, .int x4, .int x5, .int x4, .int x5, .int x6]) (show decode cX9_leastSet 82 = .ok (.istore_n 3, 1) by decide +kernel) (zset_s (Nat.le_of_ble_eq_true rfl) rfl)) ?_
    refine Iff.trans (zw_iinc (w := 1) (ls' := [.ref a0, .int x1, .int x4, .int x5, .int (x4 + 1), .int x5, .int x6]) (show decode cX9_leastSet 83 = .ok (.iinc 4 1, 3) by decide +kernel) rfl (by decide) (zset_s (Nat.le_of_ble_eq_true rfl) rfl)) ?_
    refine Iff.trans (zw_goto (t := 16) (show decode cX9_leastSet 86 = .ok (.goto (-70), 3) by decide +kernel) (by decide)) ?_
    exact Iff.rfl
  · refine Iff.trans (zw_iinc (w := 1) (ls' := [.ref a0, .int x1, .int x2, .int x3, .int (x4 + 1), .int x5, .int x6]) (show decode cX9_leastSet 83 = .ok (.iinc 4 1, 3) by decide +kernel) rfl (by decide) (zset_s (Nat.le_of_ble_eq_true rfl) rfl)) ?_
    refine Iff.trans (zw_goto (t := 16) (show decode cX9_leastSet 86 = .ok (.goto (-70), 3) by decide +kernel) (by decide)) ?_
    exact Iff.rfl

theorem bX9_lowerFirst_0 {d : Nat} {σ : zS} {Q : Option Value → zS → Prop} (hl : zLay σ) {x0 x1 : Int32} : zCall d kX9_lowerFirst [.int x0, .int x1] σ Q ↔ (if ((x0 &&& (x0 ^^^ x1)) &&& (-(x0 ^^^ x1))) = (0 : Int32) then Q (some (.int 0)) σ else Q (some (.int 1)) σ) := by
  show zW d kX9_lowerFirst 0 [.int x0, .int x1, .retAddr 0] [] σ Q ↔ _
  refine Iff.trans (zw_iload_n (show decode cX9_lowerFirst 0 = .ok (.iload_n 0, 1) by decide +kernel) rfl) ?_
  refine Iff.trans (zw_iload_n (show decode cX9_lowerFirst 1 = .ok (.iload_n 1, 1) by decide +kernel) rfl) ?_
  refine Iff.trans (zw_ixor (show decode cX9_lowerFirst 2 = .ok (.ixor, 1) by decide +kernel)) ?_
  refine Iff.trans (zw_istore_n (ls' := [.int x0, .int x1, .int (x0 ^^^ x1)]) (show decode cX9_lowerFirst 3 = .ok (.istore_n 2, 1) by decide +kernel) (zset_s (Nat.le_of_ble_eq_true rfl) rfl)) ?_
  refine Iff.trans (zw_iload_n (show decode cX9_lowerFirst 4 = .ok (.iload_n 0, 1) by decide +kernel) rfl) ?_
  refine Iff.trans (zw_iload_n (show decode cX9_lowerFirst 5 = .ok (.iload_n 2, 1) by decide +kernel) rfl) ?_
  refine Iff.trans (zw_iand (show decode cX9_lowerFirst 6 = .ok (.iand, 1) by decide +kernel)) ?_
  refine Iff.trans (zw_iload_n (show decode cX9_lowerFirst 7 = .ok (.iload_n 2, 1) by decide +kernel) rfl) ?_
  refine Iff.trans (zw_ineg (show decode cX9_lowerFirst 8 = .ok (.ineg, 1) by decide +kernel)) ?_
  refine Iff.trans (zw_iand (show decode cX9_lowerFirst 9 = .ok (.iand, 1) by decide +kernel)) ?_
  refine Iff.trans (zw_if_eq (t := 17) (show decode cX9_lowerFirst 10 = .ok (.ifCond .eq 7, 3) by decide +kernel) (by decide)) ?_
  refine zw_ite ?_ ?_
  · refine Iff.trans (zw_iconst (x := 0) (show decode cX9_lowerFirst 17 = .ok (.iconst 0, 1) by decide +kernel) (by decide)) ?_
    exact zw_iret2c (show decode cX9_lowerFirst 18 = .ok (.ireturn, 1) by decide +kernel) rfl (Or.inl rfl)
  · refine Iff.trans (zw_iconst (x := 1) (show decode cX9_lowerFirst 13 = .ok (.iconst 1, 1) by decide +kernel) (by decide)) ?_
    refine Iff.trans (zw_goto (t := 18) (show decode cX9_lowerFirst 14 = .ok (.goto 4, 3) by decide +kernel) (by decide)) ?_
    exact zw_iret2c (show decode cX9_lowerFirst 18 = .ok (.ireturn, 1) by decide +kernel) rfl (Or.inr rfl)

theorem bX9_partedBy_0 {d : Nat} {σ : zS} {Q : Option Value → zS → Prop} (hl : zLay σ) {a0 : Nat} {x1 : Int32} (ha0 : zk a0 = 9) : zCall (d + 1) kX9_partedBy [.ref a0, .int x1] σ Q ↔ zW (d + 1) kX9_partedBy 4 [.ref a0, .int x1, .int 0, .int 0] [] σ Q := by
  show zW (d + 1) kX9_partedBy 0 [.ref a0, .int x1, .retAddr 0, .retAddr 0] [] σ Q ↔ _
  refine Iff.trans (zw_iconst (x := 0) (show decode cX9_partedBy 0 = .ok (.iconst 0, 1) by decide +kernel) (by decide)) ?_
  refine Iff.trans (zw_istore_n (ls' := [.ref a0, .int x1, .int 0, .retAddr 0]) (show decode cX9_partedBy 1 = .ok (.istore_n 2, 1) by decide +kernel) (zset_s (Nat.le_of_ble_eq_true rfl) rfl)) ?_
  refine Iff.trans (zw_iconst (x := 0) (show decode cX9_partedBy 2 = .ok (.iconst 0, 1) by decide +kernel) (by decide)) ?_
  refine Iff.trans (zw_istore_n (ls' := [.ref a0, .int x1, .int 0, .int 0]) (show decode cX9_partedBy 3 = .ok (.istore_n 3, 1) by decide +kernel) (zset_s (Nat.le_of_ble_eq_true rfl) rfl)) ?_
  exact Iff.rfl

theorem bX9_partedBy_4 {d : Nat} {σ : zS} {Q : Option Value → zS → Prop} (hl : zLay σ) {a0 : Nat} {x1 x2 x3 : Int32} (ha0 : zk a0 = 9) : zW (d + 1) kX9_partedBy 4 [.ref a0, .int x1, .int x2, .int x3] [] σ Q ↔ (if (zI σ a0 3) ≤ x3 then Q (some (.int x2)) σ else (if 12 ≤ x3 then Q (some (.int x2)) σ else zCall d kX11_hasBit [.int x1, .int x3] σ (fun r σ' => zisN r = true ∧ zW (d + 1) kX9_partedBy 23 [.ref a0, .int x1, .int x2, .int x3] (zRstk r ++ []) σ' Q))) := by
  refine Iff.trans (zw_iload_n (show decode cX9_partedBy 4 = .ok (.iload_n 3, 1) by decide +kernel) rfl) ?_
  refine Iff.trans (zw_aload_n (show decode cX9_partedBy 5 = .ok (.aload_n 0, 1) by decide +kernel) rfl) ?_
  refine Iff.trans (zw_getI (show decode cX9_partedBy 6 = .ok (.getfield 21, 3) by decide +kernel) (by decide +kernel : zfld 9 21 = some (9, 3)) (hl.k2 ha0) (hl.n2 ha0) (Or.inl rfl) (w := zI σ a0 3) rfl) ?_
  refine Iff.trans (zw_icmp_ge (t := 41) (show decode cX9_partedBy 9 = .ok (.if_icmp .ge 32, 3) by decide +kernel) (by decide)) ?_
  refine zw_ite ?_ ?_
  · refine Iff.trans (zw_iload_n (show decode cX9_partedBy 41 = .ok (.iload_n 2, 1) by decide +kernel) rfl) ?_
    exact zw_iret1 (show decode cX9_partedBy 42 = .ok (.ireturn, 1) by decide +kernel) rfl
  · refine Iff.trans (zw_iload_n (show decode cX9_partedBy 12 = .ok (.iload_n 3, 1) by decide +kernel) rfl) ?_
    refine Iff.trans (zw_bipush (x := 12) (show decode cX9_partedBy 13 = .ok (.bipush 12, 2) by decide +kernel) (by decide)) ?_
    refine Iff.trans (zw_icmp_ge (t := 41) (show decode cX9_partedBy 15 = .ok (.if_icmp .ge 26, 3) by decide +kernel) (by decide)) ?_
    refine zw_ite ?_ ?_
    · refine Iff.trans (zw_iload_n (show decode cX9_partedBy 41 = .ok (.iload_n 2, 1) by decide +kernel) rfl) ?_
      exact zw_iret1 (show decode cX9_partedBy 42 = .ok (.ireturn, 1) by decide +kernel) rfl
    · refine Iff.trans (zw_iload_n (show decode cX9_partedBy 18 = .ok (.iload_n 1, 1) by decide +kernel) rfl) ?_
      refine Iff.trans (zw_iload_n (show decode cX9_partedBy 19 = .ok (.iload_n 3, 1) by decide +kernel) rfl) ?_
      refine Iff.trans (zw_invS (K' := kX11_hasBit) (as := [.int x1, .int x3]) (rest := []) (show decode cX9_partedBy 20 = .ok (.invokestatic 25, 3) by decide +kernel) (by rfl) rfl rfl rfl ⟨Nat.le_of_ble_eq_true rfl, Nat.le_of_ble_eq_true rfl, Nat.le_of_ble_eq_true rfl⟩) ?_
      exact Iff.rfl

theorem bX9_partedBy_23 {d : Nat} {σ : zS} {Q : Option Value → zS → Prop} (hl : zLay σ) {a0 : Nat} {x1 x2 x3 y0 : Int32} (ha0 : zk a0 = 9) : zW (d + 1) kX9_partedBy 23 [.ref a0, .int x1, .int x2, .int x3] [.int y0] σ Q ↔ (if y0 = (0 : Int32) then zW (d + 1) kX9_partedBy 4 [.ref a0, .int x1, .int x2, .int (x3 + 1)] [] σ Q else (vp_in x3 12 ∧ zW (d + 1) kX9_partedBy 4 [.ref a0, .int x1, .int (x2 ||| (zI σ (a0 + 2) (x3 : Int32).toNatClampNeg)), .int (x3 + 1)] [] σ Q)) := by
  refine Iff.trans (zw_if_eq (t := 35) (show decode cX9_partedBy 23 = .ok (.ifCond .eq 12, 3) by decide +kernel) (by decide)) ?_
  refine zw_ite ?_ ?_
  · refine Iff.trans (zw_iinc (w := 1) (ls' := [.ref a0, .int x1, .int x2, .int (x3 + 1)]) (show decode cX9_partedBy 35 = .ok (.iinc 3 1, 3) by decide +kernel) rfl (by decide) (zset_s (Nat.le_of_ble_eq_true rfl) rfl)) ?_
    refine Iff.trans (zw_goto (t := 4) (show decode cX9_partedBy 38 = .ok (.goto (-34), 3) by decide +kernel) (by decide)) ?_
    exact Iff.rfl
  · refine Iff.trans (zw_iload_n (show decode cX9_partedBy 26 = .ok (.iload_n 2, 1) by decide +kernel) rfl) ?_
    refine Iff.trans (zw_aload_n (show decode cX9_partedBy 27 = .ok (.aload_n 0, 1) by decide +kernel) rfl) ?_
    refine Iff.trans (zw_get (show decode cX9_partedBy 28 = .ok (.getfield 15, 3) by decide +kernel) (by decide +kernel : zfld 9 15 = some (9, 1)) (hl.k2 ha0) (hl.n2 ha0) (zgetR (v := a0 + 2) (hl.r (zrt9_1 ha0)) rfl)) ?_
    refine Iff.trans (zw_iload_n (show decode cX9_partedBy 31 = .ok (.iload_n 3, 1) by decide +kernel) rfl) ?_
    refine Iff.trans (zw_iald2 (show decode cX9_partedBy 32 = .ok (.iaload, 1) by decide +kernel) (hl.k2 (zf_book ha0).2.1.1) (hl.n2 (zf_book ha0).2.1.1) (hl.l2 (zf_book ha0).2.1.1 (zf_book ha0).2.1.2) (w := zI σ (a0 + 2) (x3 : Int32).toNatClampNeg) rfl) ?_
    refine zw_and ?_
    refine Iff.trans (zw_ior (show decode cX9_partedBy 33 = .ok (.ior, 1) by decide +kernel)) ?_
    refine Iff.trans (zw_istore_n (ls' := [.ref a0, .int x1, .int (x2 ||| (zI σ (a0 + 2) (x3 : Int32).toNatClampNeg)), .int x3]) (show decode cX9_partedBy 34 = .ok (.istore_n 2, 1) by decide +kernel) (zset_s (Nat.le_of_ble_eq_true rfl) rfl)) ?_
    refine Iff.trans (zw_iinc (w := 1) (ls' := [.ref a0, .int x1, .int (x2 ||| (zI σ (a0 + 2) (x3 : Int32).toNatClampNeg)), .int (x3 + 1)]) (show decode cX9_partedBy 35 = .ok (.iinc 3 1, 3) by decide +kernel) rfl (by decide) (zset_s (Nat.le_of_ble_eq_true rfl) rfl)) ?_
    refine Iff.trans (zw_goto (t := 4) (show decode cX9_partedBy 38 = .ok (.goto (-34), 3) by decide +kernel) (by decide)) ?_
    exact Iff.rfl

theorem bJ6_bitCount_0f7a4_0 {d : Nat} {σ : zS} {Q : Option Value → zS → Prop} (hl : zLay σ) {x0 : Int32} : zCall d kJ6_bitCount_0f7a4 [.int x0] σ Q ↔ Q (some (.int ((((((((x0 - ((((x0 : Int32).toUInt32 >>> ((1 : Int32).toUInt32 &&& Int32.toUInt32 31)).toInt32) &&& 1431655765)) &&& 858993459) + (((((x0 - ((((x0 : Int32).toUInt32 >>> ((1 : Int32).toUInt32 &&& Int32.toUInt32 31)).toInt32) &&& 1431655765)) : Int32).toUInt32 >>> ((2 : Int32).toUInt32 &&& Int32.toUInt32 31)).toInt32) &&& 858993459)) + ((((((x0 - ((((x0 : Int32).toUInt32 >>> ((1 : Int32).toUInt32 &&& Int32.toUInt32 31)).toInt32) &&& 1431655765)) &&& 858993459) + (((((x0 - ((((x0 : Int32).toUInt32 >>> ((1 : Int32).toUInt32 &&& Int32.toUInt32 31)).toInt32) &&& 1431655765)) : Int32).toUInt32 >>> ((2 : Int32).toUInt32 &&& Int32.toUInt32 31)).toInt32) &&& 858993459)) : Int32).toUInt32 >>> ((4 : Int32).toUInt32 &&& Int32.toUInt32 31)).toInt32)) &&& 252645135) + ((((((((x0 - ((((x0 : Int32).toUInt32 >>> ((1 : Int32).toUInt32 &&& Int32.toUInt32 31)).toInt32) &&& 1431655765)) &&& 858993459) + (((((x0 - ((((x0 : Int32).toUInt32 >>> ((1 : Int32).toUInt32 &&& Int32.toUInt32 31)).toInt32) &&& 1431655765)) : Int32).toUInt32 >>> ((2 : Int32).toUInt32 &&& Int32.toUInt32 31)).toInt32) &&& 858993459)) + ((((((x0 - ((((x0 : Int32).toUInt32 >>> ((1 : Int32).toUInt32 &&& Int32.toUInt32 31)).toInt32) &&& 1431655765)) &&& 858993459) + (((((x0 - ((((x0 : Int32).toUInt32 >>> ((1 : Int32).toUInt32 &&& Int32.toUInt32 31)).toInt32) &&& 1431655765)) : Int32).toUInt32 >>> ((2 : Int32).toUInt32 &&& Int32.toUInt32 31)).toInt32) &&& 858993459)) : Int32).toUInt32 >>> ((4 : Int32).toUInt32 &&& Int32.toUInt32 31)).toInt32)) &&& 252645135) : Int32).toUInt32 >>> ((8 : Int32).toUInt32 &&& Int32.toUInt32 31)).toInt32)) + (((((((((x0 - ((((x0 : Int32).toUInt32 >>> ((1 : Int32).toUInt32 &&& Int32.toUInt32 31)).toInt32) &&& 1431655765)) &&& 858993459) + (((((x0 - ((((x0 : Int32).toUInt32 >>> ((1 : Int32).toUInt32 &&& Int32.toUInt32 31)).toInt32) &&& 1431655765)) : Int32).toUInt32 >>> ((2 : Int32).toUInt32 &&& Int32.toUInt32 31)).toInt32) &&& 858993459)) + ((((((x0 - ((((x0 : Int32).toUInt32 >>> ((1 : Int32).toUInt32 &&& Int32.toUInt32 31)).toInt32) &&& 1431655765)) &&& 858993459) + (((((x0 - ((((x0 : Int32).toUInt32 >>> ((1 : Int32).toUInt32 &&& Int32.toUInt32 31)).toInt32) &&& 1431655765)) : Int32).toUInt32 >>> ((2 : Int32).toUInt32 &&& Int32.toUInt32 31)).toInt32) &&& 858993459)) : Int32).toUInt32 >>> ((4 : Int32).toUInt32 &&& Int32.toUInt32 31)).toInt32)) &&& 252645135) + ((((((((x0 - ((((x0 : Int32).toUInt32 >>> ((1 : Int32).toUInt32 &&& Int32.toUInt32 31)).toInt32) &&& 1431655765)) &&& 858993459) + (((((x0 - ((((x0 : Int32).toUInt32 >>> ((1 : Int32).toUInt32 &&& Int32.toUInt32 31)).toInt32) &&& 1431655765)) : Int32).toUInt32 >>> ((2 : Int32).toUInt32 &&& Int32.toUInt32 31)).toInt32) &&& 858993459)) + ((((((x0 - ((((x0 : Int32).toUInt32 >>> ((1 : Int32).toUInt32 &&& Int32.toUInt32 31)).toInt32) &&& 1431655765)) &&& 858993459) + (((((x0 - ((((x0 : Int32).toUInt32 >>> ((1 : Int32).toUInt32 &&& Int32.toUInt32 31)).toInt32) &&& 1431655765)) : Int32).toUInt32 >>> ((2 : Int32).toUInt32 &&& Int32.toUInt32 31)).toInt32) &&& 858993459)) : Int32).toUInt32 >>> ((4 : Int32).toUInt32 &&& Int32.toUInt32 31)).toInt32)) &&& 252645135) : Int32).toUInt32 >>> ((8 : Int32).toUInt32 &&& Int32.toUInt32 31)).toInt32)) : Int32).toUInt32 >>> ((16 : Int32).toUInt32 &&& Int32.toUInt32 31)).toInt32)) &&& 63))) σ := by
  show zW d kJ6_bitCount_0f7a4 0 [.int x0] [] σ Q ↔ _
  refine Iff.trans (zw_iload_n (show decode cJ6_bitCount_0f7a4 0 = .ok (.iload_n 0, 1) by decide +kernel) rfl) ?_
  refine Iff.trans (zw_iload_n (show decode cJ6_bitCount_0f7a4 1 = .ok (.iload_n 0, 1) by decide +kernel) rfl) ?_
  refine Iff.trans (zw_iconst (x := 1) (show decode cJ6_bitCount_0f7a4 2 = .ok (.iconst 1, 1) by decide +kernel) (by decide)) ?_
  refine Iff.trans (zw_iushr (show decode cJ6_bitCount_0f7a4 3 = .ok (.iushr, 1) by decide +kernel)) ?_
  refine Iff.trans (zw_ldc_w (x := 1431655765) (show decode cJ6_bitCount_0f7a4 4 = .ok (.ldc_w 265, 3) by decide +kernel) (by decide +kernel)) ?_
  refine Iff.trans (zw_iand (show decode cJ6_bitCount_0f7a4 7 = .ok (.iand, 1) by decide +kernel)) ?_
  refine Iff.trans (zw_isub (show decode cJ6_bitCount_0f7a4 8 = .ok (.isub, 1) by decide +kernel)) ?_
  refine Iff.trans (zw_istore_n (ls' := [.int (x0 - ((((x0 : Int32).toUInt32 >>> ((1 : Int32).toUInt32 &&& Int32.toUInt32 31)).toInt32) &&& 1431655765))]) (show decode cJ6_bitCount_0f7a4 9 = .ok (.istore_n 0, 1) by decide +kernel) (zset_0 (Nat.le_of_ble_eq_true rfl))) ?_
  refine Iff.trans (zw_iload_n (show decode cJ6_bitCount_0f7a4 10 = .ok (.iload_n 0, 1) by decide +kernel) rfl) ?_
  refine Iff.trans (zw_ldc_w (x := 858993459) (show decode cJ6_bitCount_0f7a4 11 = .ok (.ldc_w 266, 3) by decide +kernel) (by decide +kernel)) ?_
  refine Iff.trans (zw_iand (show decode cJ6_bitCount_0f7a4 14 = .ok (.iand, 1) by decide +kernel)) ?_
  refine Iff.trans (zw_iload_n (show decode cJ6_bitCount_0f7a4 15 = .ok (.iload_n 0, 1) by decide +kernel) rfl) ?_
  refine Iff.trans (zw_iconst (x := 2) (show decode cJ6_bitCount_0f7a4 16 = .ok (.iconst 2, 1) by decide +kernel) (by decide)) ?_
  refine Iff.trans (zw_iushr (show decode cJ6_bitCount_0f7a4 17 = .ok (.iushr, 1) by decide +kernel)) ?_
  refine Iff.trans (zw_ldc_w (x := 858993459) (show decode cJ6_bitCount_0f7a4 18 = .ok (.ldc_w 266, 3) by decide +kernel) (by decide +kernel)) ?_
  refine Iff.trans (zw_iand (show decode cJ6_bitCount_0f7a4 21 = .ok (.iand, 1) by decide +kernel)) ?_
  refine Iff.trans (zw_iadd (show decode cJ6_bitCount_0f7a4 22 = .ok (.iadd, 1) by decide +kernel)) ?_
  refine Iff.trans (zw_istore_n (ls' := [.int (((x0 - ((((x0 : Int32).toUInt32 >>> ((1 : Int32).toUInt32 &&& Int32.toUInt32 31)).toInt32) &&& 1431655765)) &&& 858993459) + (((((x0 - ((((x0 : Int32).toUInt32 >>> ((1 : Int32).toUInt32 &&& Int32.toUInt32 31)).toInt32) &&& 1431655765)) : Int32).toUInt32 >>> ((2 : Int32).toUInt32 &&& Int32.toUInt32 31)).toInt32) &&& 858993459))]) (show decode cJ6_bitCount_0f7a4 23 = .ok (.istore_n 0, 1) by decide +kernel) (zset_0 (Nat.le_of_ble_eq_true rfl))) ?_
  refine Iff.trans (zw_iload_n (show decode cJ6_bitCount_0f7a4 24 = .ok (.iload_n 0, 1) by decide +kernel) rfl) ?_
  refine Iff.trans (zw_iload_n (show decode cJ6_bitCount_0f7a4 25 = .ok (.iload_n 0, 1) by decide +kernel) rfl) ?_
  refine Iff.trans (zw_iconst (x := 4) (show decode cJ6_bitCount_0f7a4 26 = .ok (.iconst 4, 1) by decide +kernel) (by decide)) ?_
  refine Iff.trans (zw_iushr (show decode cJ6_bitCount_0f7a4 27 = .ok (.iushr, 1) by decide +kernel)) ?_
  refine Iff.trans (zw_iadd (show decode cJ6_bitCount_0f7a4 28 = .ok (.iadd, 1) by decide +kernel)) ?_
  refine Iff.trans (zw_ldc_w (x := 252645135) (show decode cJ6_bitCount_0f7a4 29 = .ok (.ldc_w 267, 3) by decide +kernel) (by decide +kernel)) ?_
  refine Iff.trans (zw_iand (show decode cJ6_bitCount_0f7a4 32 = .ok (.iand, 1) by decide +kernel)) ?_
  refine Iff.trans (zw_istore_n (ls' := [.int (((((x0 - ((((x0 : Int32).toUInt32 >>> ((1 : Int32).toUInt32 &&& Int32.toUInt32 31)).toInt32) &&& 1431655765)) &&& 858993459) + (((((x0 - ((((x0 : Int32).toUInt32 >>> ((1 : Int32).toUInt32 &&& Int32.toUInt32 31)).toInt32) &&& 1431655765)) : Int32).toUInt32 >>> ((2 : Int32).toUInt32 &&& Int32.toUInt32 31)).toInt32) &&& 858993459)) + ((((((x0 - ((((x0 : Int32).toUInt32 >>> ((1 : Int32).toUInt32 &&& Int32.toUInt32 31)).toInt32) &&& 1431655765)) &&& 858993459) + (((((x0 - ((((x0 : Int32).toUInt32 >>> ((1 : Int32).toUInt32 &&& Int32.toUInt32 31)).toInt32) &&& 1431655765)) : Int32).toUInt32 >>> ((2 : Int32).toUInt32 &&& Int32.toUInt32 31)).toInt32) &&& 858993459)) : Int32).toUInt32 >>> ((4 : Int32).toUInt32 &&& Int32.toUInt32 31)).toInt32)) &&& 252645135)]) (show decode cJ6_bitCount_0f7a4 33 = .ok (.istore_n 0, 1) by decide +kernel) (zset_0 (Nat.le_of_ble_eq_true rfl))) ?_
  refine Iff.trans (zw_iload_n (show decode cJ6_bitCount_0f7a4 34 = .ok (.iload_n 0, 1) by decide +kernel) rfl) ?_
  refine Iff.trans (zw_iload_n (show decode cJ6_bitCount_0f7a4 35 = .ok (.iload_n 0, 1) by decide +kernel) rfl) ?_
  refine Iff.trans (zw_bipush (x := 8) (show decode cJ6_bitCount_0f7a4 36 = .ok (.bipush 8, 2) by decide +kernel) (by decide)) ?_
  refine Iff.trans (zw_iushr (show decode cJ6_bitCount_0f7a4 38 = .ok (.iushr, 1) by decide +kernel)) ?_
  refine Iff.trans (zw_iadd (show decode cJ6_bitCount_0f7a4 39 = .ok (.iadd, 1) by decide +kernel)) ?_
  refine Iff.trans (zw_istore_n (ls' := [.int ((((((x0 - ((((x0 : Int32).toUInt32 >>> ((1 : Int32).toUInt32 &&& Int32.toUInt32 31)).toInt32) &&& 1431655765)) &&& 858993459) + (((((x0 - ((((x0 : Int32).toUInt32 >>> ((1 : Int32).toUInt32 &&& Int32.toUInt32 31)).toInt32) &&& 1431655765)) : Int32).toUInt32 >>> ((2 : Int32).toUInt32 &&& Int32.toUInt32 31)).toInt32) &&& 858993459)) + ((((((x0 - ((((x0 : Int32).toUInt32 >>> ((1 : Int32).toUInt32 &&& Int32.toUInt32 31)).toInt32) &&& 1431655765)) &&& 858993459) + (((((x0 - ((((x0 : Int32).toUInt32 >>> ((1 : Int32).toUInt32 &&& Int32.toUInt32 31)).toInt32) &&& 1431655765)) : Int32).toUInt32 >>> ((2 : Int32).toUInt32 &&& Int32.toUInt32 31)).toInt32) &&& 858993459)) : Int32).toUInt32 >>> ((4 : Int32).toUInt32 &&& Int32.toUInt32 31)).toInt32)) &&& 252645135) + ((((((((x0 - ((((x0 : Int32).toUInt32 >>> ((1 : Int32).toUInt32 &&& Int32.toUInt32 31)).toInt32) &&& 1431655765)) &&& 858993459) + (((((x0 - ((((x0 : Int32).toUInt32 >>> ((1 : Int32).toUInt32 &&& Int32.toUInt32 31)).toInt32) &&& 1431655765)) : Int32).toUInt32 >>> ((2 : Int32).toUInt32 &&& Int32.toUInt32 31)).toInt32) &&& 858993459)) + ((((((x0 - ((((x0 : Int32).toUInt32 >>> ((1 : Int32).toUInt32 &&& Int32.toUInt32 31)).toInt32) &&& 1431655765)) &&& 858993459) + (((((x0 - ((((x0 : Int32).toUInt32 >>> ((1 : Int32).toUInt32 &&& Int32.toUInt32 31)).toInt32) &&& 1431655765)) : Int32).toUInt32 >>> ((2 : Int32).toUInt32 &&& Int32.toUInt32 31)).toInt32) &&& 858993459)) : Int32).toUInt32 >>> ((4 : Int32).toUInt32 &&& Int32.toUInt32 31)).toInt32)) &&& 252645135) : Int32).toUInt32 >>> ((8 : Int32).toUInt32 &&& Int32.toUInt32 31)).toInt32))]) (show decode cJ6_bitCount_0f7a4 40 = .ok (.istore_n 0, 1) by decide +kernel) (zset_0 (Nat.le_of_ble_eq_true rfl))) ?_
  refine Iff.trans (zw_iload_n (show decode cJ6_bitCount_0f7a4 41 = .ok (.iload_n 0, 1) by decide +kernel) rfl) ?_
  refine Iff.trans (zw_iload_n (show decode cJ6_bitCount_0f7a4 42 = .ok (.iload_n 0, 1) by decide +kernel) rfl) ?_
  refine Iff.trans (zw_bipush (x := 16) (show decode cJ6_bitCount_0f7a4 43 = .ok (.bipush 16, 2) by decide +kernel) (by decide)) ?_
  refine Iff.trans (zw_iushr (show decode cJ6_bitCount_0f7a4 45 = .ok (.iushr, 1) by decide +kernel)) ?_
  refine Iff.trans (zw_iadd (show decode cJ6_bitCount_0f7a4 46 = .ok (.iadd, 1) by decide +kernel)) ?_
  refine Iff.trans (zw_istore_n (ls' := [.int (((((((x0 - ((((x0 : Int32).toUInt32 >>> ((1 : Int32).toUInt32 &&& Int32.toUInt32 31)).toInt32) &&& 1431655765)) &&& 858993459) + (((((x0 - ((((x0 : Int32).toUInt32 >>> ((1 : Int32).toUInt32 &&& Int32.toUInt32 31)).toInt32) &&& 1431655765)) : Int32).toUInt32 >>> ((2 : Int32).toUInt32 &&& Int32.toUInt32 31)).toInt32) &&& 858993459)) + ((((((x0 - ((((x0 : Int32).toUInt32 >>> ((1 : Int32).toUInt32 &&& Int32.toUInt32 31)).toInt32) &&& 1431655765)) &&& 858993459) + (((((x0 - ((((x0 : Int32).toUInt32 >>> ((1 : Int32).toUInt32 &&& Int32.toUInt32 31)).toInt32) &&& 1431655765)) : Int32).toUInt32 >>> ((2 : Int32).toUInt32 &&& Int32.toUInt32 31)).toInt32) &&& 858993459)) : Int32).toUInt32 >>> ((4 : Int32).toUInt32 &&& Int32.toUInt32 31)).toInt32)) &&& 252645135) + ((((((((x0 - ((((x0 : Int32).toUInt32 >>> ((1 : Int32).toUInt32 &&& Int32.toUInt32 31)).toInt32) &&& 1431655765)) &&& 858993459) + (((((x0 - ((((x0 : Int32).toUInt32 >>> ((1 : Int32).toUInt32 &&& Int32.toUInt32 31)).toInt32) &&& 1431655765)) : Int32).toUInt32 >>> ((2 : Int32).toUInt32 &&& Int32.toUInt32 31)).toInt32) &&& 858993459)) + ((((((x0 - ((((x0 : Int32).toUInt32 >>> ((1 : Int32).toUInt32 &&& Int32.toUInt32 31)).toInt32) &&& 1431655765)) &&& 858993459) + (((((x0 - ((((x0 : Int32).toUInt32 >>> ((1 : Int32).toUInt32 &&& Int32.toUInt32 31)).toInt32) &&& 1431655765)) : Int32).toUInt32 >>> ((2 : Int32).toUInt32 &&& Int32.toUInt32 31)).toInt32) &&& 858993459)) : Int32).toUInt32 >>> ((4 : Int32).toUInt32 &&& Int32.toUInt32 31)).toInt32)) &&& 252645135) : Int32).toUInt32 >>> ((8 : Int32).toUInt32 &&& Int32.toUInt32 31)).toInt32)) + (((((((((x0 - ((((x0 : Int32).toUInt32 >>> ((1 : Int32).toUInt32 &&& Int32.toUInt32 31)).toInt32) &&& 1431655765)) &&& 858993459) + (((((x0 - ((((x0 : Int32).toUInt32 >>> ((1 : Int32).toUInt32 &&& Int32.toUInt32 31)).toInt32) &&& 1431655765)) : Int32).toUInt32 >>> ((2 : Int32).toUInt32 &&& Int32.toUInt32 31)).toInt32) &&& 858993459)) + ((((((x0 - ((((x0 : Int32).toUInt32 >>> ((1 : Int32).toUInt32 &&& Int32.toUInt32 31)).toInt32) &&& 1431655765)) &&& 858993459) + (((((x0 - ((((x0 : Int32).toUInt32 >>> ((1 : Int32).toUInt32 &&& Int32.toUInt32 31)).toInt32) &&& 1431655765)) : Int32).toUInt32 >>> ((2 : Int32).toUInt32 &&& Int32.toUInt32 31)).toInt32) &&& 858993459)) : Int32).toUInt32 >>> ((4 : Int32).toUInt32 &&& Int32.toUInt32 31)).toInt32)) &&& 252645135) + ((((((((x0 - ((((x0 : Int32).toUInt32 >>> ((1 : Int32).toUInt32 &&& Int32.toUInt32 31)).toInt32) &&& 1431655765)) &&& 858993459) + (((((x0 - ((((x0 : Int32).toUInt32 >>> ((1 : Int32).toUInt32 &&& Int32.toUInt32 31)).toInt32) &&& 1431655765)) : Int32).toUInt32 >>> ((2 : Int32).toUInt32 &&& Int32.toUInt32 31)).toInt32) &&& 858993459)) + ((((((x0 - ((((x0 : Int32).toUInt32 >>> ((1 : Int32).toUInt32 &&& Int32.toUInt32 31)).toInt32) &&& 1431655765)) &&& 858993459) + (((((x0 - ((((x0 : Int32).toUInt32 >>> ((1 : Int32).toUInt32 &&& Int32.toUInt32 31)).toInt32) &&& 1431655765)) : Int32).toUInt32 >>> ((2 : Int32).toUInt32 &&& Int32.toUInt32 31)).toInt32) &&& 858993459)) : Int32).toUInt32 >>> ((4 : Int32).toUInt32 &&& Int32.toUInt32 31)).toInt32)) &&& 252645135) : Int32).toUInt32 >>> ((8 : Int32).toUInt32 &&& Int32.toUInt32 31)).toInt32)) : Int32).toUInt32 >>> ((16 : Int32).toUInt32 &&& Int32.toUInt32 31)).toInt32))]) (show decode cJ6_bitCount_0f7a4 47 = .ok (.istore_n 0, 1) by decide +kernel) (zset_0 (Nat.le_of_ble_eq_true rfl))) ?_
  refine Iff.trans (zw_iload_n (show decode cJ6_bitCount_0f7a4 48 = .ok (.iload_n 0, 1) by decide +kernel) rfl) ?_
  refine Iff.trans (zw_bipush (x := 63) (show decode cJ6_bitCount_0f7a4 49 = .ok (.bipush 63, 2) by decide +kernel) (by decide)) ?_
  refine Iff.trans (zw_iand (show decode cJ6_bitCount_0f7a4 51 = .ok (.iand, 1) by decide +kernel)) ?_
  exact zw_iret1 (show decode cJ6_bitCount_0f7a4 52 = .ok (.ireturn, 1) by decide +kernel) rfl

theorem bJ7_fill_53178_0 {d : Nat} {σ : zS} {Q : Option Value → zS → Prop} (hl : zLay σ) {a0 : Nat} {x1 : Int32} (ha0 : zk a0 = 14) : zCall d kJ7_fill_53178 [.ref a0, .int x1] σ Q ↔ zW d kJ7_fill_53178 5 [.ref a0, .int x1, .int 0, .int (Int32.ofNat (zl a0))] [] σ Q := by
  show zW d kJ7_fill_53178 0 [.ref a0, .int x1, .retAddr 0, .retAddr 0] [] σ Q ↔ _
  refine Iff.trans (zw_iconst (x := 0) (show decode cJ7_fill_53178 0 = .ok (.iconst 0, 1) by decide +kernel) (by decide)) ?_
  refine Iff.trans (zw_istore_n (ls' := [.ref a0, .int x1, .int 0, .retAddr 0]) (show decode cJ7_fill_53178 1 = .ok (.istore_n 2, 1) by decide +kernel) (zset_s (Nat.le_of_ble_eq_true rfl) rfl)) ?_
  refine Iff.trans (zw_aload_n (show decode cJ7_fill_53178 2 = .ok (.aload_n 0, 1) by decide +kernel) rfl) ?_
  refine Iff.trans (zw_alen (show decode cJ7_fill_53178 3 = .ok (.arraylength, 1) by decide +kernel) ⟨by rw [(hl.k2 ha0)]; decide, Or.inl (by rw [(hl.k2 ha0)]; decide)⟩ (hl.n2 ha0) (hl.l2 ha0 rfl) (v := Int32.ofNat (zl a0)) rfl) ?_
  refine Iff.trans (zw_istore_n (ls' := [.ref a0, .int x1, .int 0, .int (Int32.ofNat (zl a0))]) (show decode cJ7_fill_53178 4 = .ok (.istore_n 3, 1) by decide +kernel) (zset_s (Nat.le_of_ble_eq_true rfl) rfl)) ?_
  exact Iff.rfl

theorem bJ7_fill_53178_5 {d : Nat} {σ : zS} {Q : Option Value → zS → Prop} (hl : zLay σ) {a0 : Nat} {x1 x2 x3 : Int32} (ha0 : zk a0 = 14) : zW d kJ7_fill_53178 5 [.ref a0, .int x1, .int x2, .int x3] [] σ Q ↔ (if x3 ≤ x2 then Q none σ else (vp_in x2 (zl a0) ∧ zW d kJ7_fill_53178 5 [.ref a0, .int x1, .int (x2 + 1), .int x3] [] (zsI σ a0 (upd (zI σ a0) (x2 : Int32).toNatClampNeg x1)) Q)) := by
  refine Iff.trans (zw_iload_n (show decode cJ7_fill_53178 5 = .ok (.iload_n 2, 1) by decide +kernel) rfl) ?_
  refine Iff.trans (zw_iload_n (show decode cJ7_fill_53178 6 = .ok (.iload_n 3, 1) by decide +kernel) rfl) ?_
  refine Iff.trans (zw_icmp_ge (t := 20) (show decode cJ7_fill_53178 7 = .ok (.if_icmp .ge 13, 3) by decide +kernel) (by decide)) ?_
  refine zw_ite ?_ ?_
  · exact zw_ret (show decode cJ7_fill_53178 20 = .ok (.return_, 1) by decide +kernel) rfl
  · refine Iff.trans (zw_aload_n (show decode cJ7_fill_53178 10 = .ok (.aload_n 0, 1) by decide +kernel) rfl) ?_
    refine Iff.trans (zw_iload_n (show decode cJ7_fill_53178 11 = .ok (.iload_n 2, 1) by decide +kernel) rfl) ?_
    refine Iff.trans (zw_iload_n (show decode cJ7_fill_53178 12 = .ok (.iload_n 1, 1) by decide +kernel) rfl) ?_
    refine Iff.trans (zw_iast2 (show decode cJ7_fill_53178 13 = .ok (.iastore, 1) by decide +kernel) (hl.k2 ha0) (hl.n2 ha0) (hl.l2 ha0 rfl) (σ' := (zsI σ a0 (upd (zI σ a0) (x2 : Int32).toNatClampNeg x1))) rfl) ?_
    refine zw_and ?_
    refine Iff.trans (zw_iinc (w := 1) (ls' := [.ref a0, .int x1, .int (x2 + 1), .int x3]) (show decode cJ7_fill_53178 14 = .ok (.iinc 2 1, 3) by decide +kernel) rfl (by decide) (zset_s (Nat.le_of_ble_eq_true rfl) rfl)) ?_
    refine Iff.trans (zw_goto (t := 5) (show decode cJ7_fill_53178 17 = .ok (.goto (-12), 3) by decide +kernel) (by decide)) ?_
    exact Iff.rfl

