/-! barredAt with nobody left out (null): out of the rows of 15 and 33 -/
theorem bX2_barredN_0 {d : Nat} {σ : zS} {Q : Option Value → zS → Prop} (hl : zLay σ) {a0 : Nat} {x1 x3 : Int32} (ha0 : zk a0 = 2) : zCall (d + 1) kX2_barredAt [.ref a0, .int x1, .null, .int x3] σ Q ↔ zCall d kX0_stonesBar [.int x3] σ (fun r σ' => zisN r = true ∧ zW (d + 1) kX2_barredAt 4 [.ref a0, .int x1, .null, .int x3, .retAddr 0, .retAddr 0, .retAddr 0] (zRstk r ++ []) σ' Q) := by
  show zW (d + 1) kX2_barredAt 0 [.ref a0, .int x1, .null, .int x3, .retAddr 0, .retAddr 0, .retAddr 0] [] σ Q ↔ _
  refine Iff.trans (zw_iload_n (show decode cX2_barredAt 0 = .ok (.iload_n 3, 1) by decide +kernel) rfl) ?_
  refine Iff.trans (zw_invS (K' := kX0_stonesBar) (as := [.int x3]) (rest := []) (show decode cX2_barredAt 1 = .ok (.invokestatic 189, 3) by decide +kernel) (by rfl) rfl rfl rfl ⟨Nat.le_of_ble_eq_true rfl, Nat.le_of_ble_eq_true rfl, Nat.le_of_ble_eq_true rfl⟩) ?_
  exact Iff.rfl

theorem bX2_barredN_4 {d : Nat} {σ : zS} {Q : Option Value → zS → Prop} (hl : zLay σ) {a0 : Nat} {x1 x3 y0 : Int32} (ha0 : zk a0 = 2) : zW (d + 1) kX2_barredAt 4 [.ref a0, .int x1, .null, .int x3, .retAddr 0, .retAddr 0, .retAddr 0] [.int y0] σ Q ↔ (if y0 = (0 : Int32) then zW (d + 1) kX2_barredAt 24 [.ref a0, .int x1, .null, .int x3, .int 0, .int 0, .retAddr 0] [] σ Q else zW (d + 1) kX2_barredAt 11 [.ref a0, .int x1, .null, .int x3, .retAddr 0, .retAddr 0, .retAddr 0] (va_rf ((zR σ a0) 3) :: []) σ Q) := by
  refine Iff.trans (zw_if_eq (t := 18) (show decode cX2_barredAt 4 = .ok (.ifCond .eq 14, 3) by decide +kernel) (by decide)) ?_
  refine zw_ite ?_ ?_
  · refine Iff.trans (zw_iconst (x := 0) (show decode cX2_barredAt 18 = .ok (.iconst 0, 1) by decide +kernel) (by decide)) ?_
    refine Iff.trans (zw_istore (ls' := [.ref a0, .int x1, .null, .int x3, .int 0, .retAddr 0, .retAddr 0]) (show decode cX2_barredAt 19 = .ok (.istore 4, 2) by decide +kernel) (zset_s (Nat.le_of_ble_eq_true rfl) rfl)) ?_
    refine Iff.trans (zw_iconst (x := 0) (show decode cX2_barredAt 21 = .ok (.iconst 0, 1) by decide +kernel) (by decide)) ?_
    refine Iff.trans (zw_istore (ls' := [.ref a0, .int x1, .null, .int x3, .int 0, .int 0, .retAddr 0]) (show decode cX2_barredAt 22 = .ok (.istore 5, 2) by decide +kernel) (zset_s (Nat.le_of_ble_eq_true rfl) rfl)) ?_
    exact Iff.rfl
  · refine Iff.trans (zw_aload_n (show decode cX2_barredAt 7 = .ok (.aload_n 0, 1) by decide +kernel) rfl) ?_
    refine Iff.trans (zw_getR (show decode cX2_barredAt 8 = .ok (.getfield 27, 3) by decide +kernel) (by decide +kernel : zfld 2 27 = some (2, 3)) (hl.k2 ha0) (hl.n2 ha0) rfl (w := (zR σ a0) 3) rfl) ?_
    exact Iff.rfl

theorem bX2_barredN_11 {d : Nat} {σ : zS} {Q : Option Value → zS → Prop} (hl : zLay σ) {a0 b0 : Nat} {x1 x3 : Int32} (ha0 : zk a0 = 2) (hb0 : zk b0 = 0) : zW (d + 1) kX2_barredAt 11 [.ref a0, .int x1, .null, .int x3, .retAddr 0, .retAddr 0, .retAddr 0] [.ref b0] σ Q ↔ zCall d kX0_stonesAt [.ref b0, .int x1] σ (fun r σ' => zisN r = true ∧ zW (d + 1) kX2_barredAt 15 [.ref a0, .int x1, .null, .int x3, .retAddr 0, .retAddr 0, .retAddr 0] (zRstk r ++ []) σ' Q) := by
  refine Iff.trans (zw_iload_n (show decode cX2_barredAt 11 = .ok (.iload_n 1, 1) by decide +kernel) rfl) ?_
  refine Iff.trans (zw_invV (K' := kX0_stonesAt) (as' := [.int x1]) (rest := []) (show decode cX2_barredAt 12 = .ok (.invokevirtual 193, 3) by decide +kernel) (by rfl) rfl rfl rfl (hl.k2 hb0) (by decide) (hl.n2 hb0) ⟨Nat.le_of_ble_eq_true rfl, Nat.le_of_ble_eq_true rfl, Nat.le_of_ble_eq_true rfl⟩) ?_
  exact Iff.rfl

theorem bX2_barredN_15 {d : Nat} {σ : zS} {Q : Option Value → zS → Prop} (hl : zLay σ) {a0 : Nat} {x1 x3 y0 : Int32} (ha0 : zk a0 = 2) : zW (d + 1) kX2_barredAt 15 [.ref a0, .int x1, .null, .int x3, .retAddr 0, .retAddr 0, .retAddr 0] [.int y0] σ Q ↔ zW (d + 1) kX2_barredAt 24 [.ref a0, .int x1, .null, .int x3, .int y0, .int 0, .retAddr 0] [] σ Q := by
  refine Iff.trans (zw_goto (t := 19) (show decode cX2_barredAt 15 = .ok (.goto 4, 3) by decide +kernel) (by decide)) ?_
  refine Iff.trans (zw_istore (ls' := [.ref a0, .int x1, .null, .int x3, .int y0, .retAddr 0, .retAddr 0]) (show decode cX2_barredAt 19 = .ok (.istore 4, 2) by decide +kernel) (zset_s (Nat.le_of_ble_eq_true rfl) rfl)) ?_
  refine Iff.trans (zw_iconst (x := 0) (show decode cX2_barredAt 21 = .ok (.iconst 0, 1) by decide +kernel) (by decide)) ?_
  refine Iff.trans (zw_istore (ls' := [.ref a0, .int x1, .null, .int x3, .int y0, .int 0, .retAddr 0]) (show decode cX2_barredAt 22 = .ok (.istore 5, 2) by decide +kernel) (zset_s (Nat.le_of_ble_eq_true rfl) rfl)) ?_
  exact Iff.rfl

theorem bX2_barredN_24 {d : Nat} {σ : zS} {Q : Option Value → zS → Prop} (hl : zLay σ) {a0 : Nat} {x1 x3 x4 x5 : Int32} {v6 : Value} (ha0 : zk a0 = 2) (hv6 : v6.category = 1) : zW (d + 1) kX2_barredAt 24 [.ref a0, .int x1, .null, .int x3, .int x4, .int x5, v6] [] σ Q ↔ (if (zI σ a0 4) ≤ x5 then Q (some (.int x4)) σ else (if 6 ≤ x5 then Q (some (.int x4)) σ else (vp_in x5 6 ∧ zW (d + 1) kX2_barredAt 47 [.ref a0, .int x1, .null, .int x3, .int x4, .int x5, v6] (va_rf (zR σ (a0 + 1) (x5 : Int32).toNatClampNeg) :: []) σ Q))) := by
  refine Iff.trans (zw_iload (show decode cX2_barredAt 24 = .ok (.iload 5, 2) by decide +kernel) rfl) ?_
  refine Iff.trans (zw_aload_n (show decode cX2_barredAt 26 = .ok (.aload_n 0, 1) by decide +kernel) rfl) ?_
  refine Iff.trans (zw_getI (show decode cX2_barredAt 27 = .ok (.getfield 32, 3) by decide +kernel) (by decide +kernel : zfld 2 32 = some (2, 4)) (hl.k2 ha0) (hl.n2 ha0) (Or.inl rfl) (w := zI σ a0 4) rfl) ?_
  refine Iff.trans (zw_icmp_ge (t := 88) (show decode cX2_barredAt 30 = .ok (.if_icmp .ge 58, 3) by decide +kernel) (by decide)) ?_
  refine zw_ite ?_ ?_
  · refine Iff.trans (zw_iload (show decode cX2_barredAt 88 = .ok (.iload 4, 2) by decide +kernel) rfl) ?_
    exact zw_iret1 (show decode cX2_barredAt 90 = .ok (.ireturn, 1) by decide +kernel) rfl
  · refine Iff.trans (zw_iload (show decode cX2_barredAt 33 = .ok (.iload 5, 2) by decide +kernel) rfl) ?_
    refine Iff.trans (zw_bipush (x := 6) (show decode cX2_barredAt 35 = .ok (.bipush 6, 2) by decide +kernel) (by decide)) ?_
    refine Iff.trans (zw_icmp_ge (t := 88) (show decode cX2_barredAt 37 = .ok (.if_icmp .ge 51, 3) by decide +kernel) (by decide)) ?_
    refine zw_ite ?_ ?_
    · refine Iff.trans (zw_iload (show decode cX2_barredAt 88 = .ok (.iload 4, 2) by decide +kernel) rfl) ?_
      exact zw_iret1 (show decode cX2_barredAt 90 = .ok (.ireturn, 1) by decide +kernel) rfl
    · refine Iff.trans (zw_aload_n (show decode cX2_barredAt 40 = .ok (.aload_n 0, 1) by decide +kernel) rfl) ?_
      refine Iff.trans (zw_get (show decode cX2_barredAt 41 = .ok (.getfield 11, 3) by decide +kernel) (by decide +kernel : zfld 2 11 = some (2, 0)) (hl.k2 ha0) (hl.n2 ha0) (zgetR (v := a0 + 1) (hl.r (zrt2_0 ha0)) rfl)) ?_
      refine Iff.trans (zw_iload (show decode cX2_barredAt 44 = .ok (.iload 5, 2) by decide +kernel) rfl) ?_
      refine Iff.trans (zw_aald (show decode cX2_barredAt 46 = .ok (.aaload, 1) by decide +kernel) (by rw [(hl.k2 (zf_race ha0).1.1)]; decide) (hl.n2 (zf_race ha0).1.1) (hl.l2 (zf_race ha0).1.1 (zf_race ha0).1.2)) ?_
      refine zw_and ?_
      exact Iff.rfl

theorem bX2_barredN_47 {d : Nat} {σ : zS} {Q : Option Value → zS → Prop} (hl : zLay σ) {a0 b0 : Nat} {x1 x3 x4 x5 : Int32} {v6 : Value} (ha0 : zk a0 = 2) (hv6 : v6.category = 1) (hb0 : zk b0 = 4) : zW (d + 1) kX2_barredAt 47 [.ref a0, .int x1, .null, .int x3, .int x4, .int x5, v6] [.ref b0] σ Q ↔ zCall d kX4_isOut [.ref b0] σ (fun r σ' => zisN r = true ∧ zW (d + 1) kX2_barredAt 60 [.ref a0, .int x1, .null, .int x3, .int x4, .int x5, .ref b0] (zRstk r ++ []) σ' Q) := by
  refine Iff.trans (zw_astore (ls' := [.ref a0, .int x1, .null, .int x3, .int x4, .int x5, .ref b0]) (show decode cX2_barredAt 47 = .ok (.astore 6, 2) by decide +kernel) (zset_s (Nat.le_of_ble_eq_true rfl) rfl)) ?_
  refine Iff.trans (zw_aload (show decode cX2_barredAt 49 = .ok (.aload 6, 2) by decide +kernel) rfl) ?_
  refine Iff.trans (zw_aload_nN (show decode cX2_barredAt 51 = .ok (.aload_n 2, 1) by decide +kernel) rfl) ?_
  refine Iff.trans (zw_acmp_eqN (t := 82) (show decode cX2_barredAt 52 = .ok (.if_acmp .eq 30, 3) by decide +kernel) (by decide)) ?_
  refine Iff.trans (zw_aload (show decode cX2_barredAt 55 = .ok (.aload 6, 2) by decide +kernel) rfl) ?_
  refine Iff.trans (zw_invV (K' := kX4_isOut) (as' := []) (rest := []) (show decode cX2_barredAt 57 = .ok (.invokevirtual 86, 3) by decide +kernel) (by rfl) rfl rfl rfl (hl.k2 hb0) (by decide) (hl.n2 hb0) ⟨Nat.le_of_ble_eq_true rfl, Nat.le_of_ble_eq_true rfl, Nat.le_of_ble_eq_true rfl⟩) ?_
  exact Iff.rfl

theorem bX2_barredN_60 {d : Nat} {σ : zS} {Q : Option Value → zS → Prop} (hl : zLay σ) {a0 a6 : Nat} {x1 x3 x4 x5 y0 : Int32} (ha0 : zk a0 = 2) (ha6 : zk a6 = 4) : zW (d + 1) kX2_barredAt 60 [.ref a0, .int x1, .null, .int x3, .int x4, .int x5, .ref a6] [.int y0] σ Q ↔ (if y0 = (0 : Int32) then (if (zI σ a6 2) = x1 then zCall d kX4_lanes [.ref a6] σ (fun r σ' => zisN r = true ∧ zW (d + 1) kX2_barredAt 79 [.ref a0, .int x1, .null, .int x3, .int x4, .int x5, .ref a6] (zRstk r ++ [.int x4]) σ' Q) else zW (d + 1) kX2_barredAt 24 [.ref a0, .int x1, .null, .int x3, .int x4, .int (x5 + 1), .ref a6] [] σ Q) else zW (d + 1) kX2_barredAt 24 [.ref a0, .int x1, .null, .int x3, .int x4, .int (x5 + 1), .ref a6] [] σ Q) := by
  refine Iff.trans (zw_if_ne (t := 82) (show decode cX2_barredAt 60 = .ok (.ifCond .ne 22, 3) by decide +kernel) (by decide)) ?_
  refine zw_ite ?_ ?_
  · refine Iff.trans (zw_aload (show decode cX2_barredAt 63 = .ok (.aload 6, 2) by decide +kernel) rfl) ?_
    refine Iff.trans (zw_getI (show decode cX2_barredAt 65 = .ok (.getfield 96, 3) by decide +kernel) (by decide +kernel : zfld 2 96 = some (4, 2)) (hl.k2 ha6) (hl.n2 ha6) (Or.inl rfl) (w := zI σ a6 2) rfl) ?_
    refine Iff.trans (zw_iload_n (show decode cX2_barredAt 68 = .ok (.iload_n 1, 1) by decide +kernel) rfl) ?_
    refine Iff.trans (zw_icmp_ne (t := 82) (show decode cX2_barredAt 69 = .ok (.if_icmp .ne 13, 3) by decide +kernel) (by decide)) ?_
    refine zw_ite ?_ ?_
    · refine Iff.trans (zw_iload (show decode cX2_barredAt 72 = .ok (.iload 4, 2) by decide +kernel) rfl) ?_
      refine Iff.trans (zw_aload (show decode cX2_barredAt 74 = .ok (.aload 6, 2) by decide +kernel) rfl) ?_
      refine Iff.trans (zw_invV (K' := kX4_lanes) (as' := []) (rest := [.int x4]) (show decode cX2_barredAt 76 = .ok (.invokevirtual 108, 3) by decide +kernel) (by rfl) rfl rfl rfl (hl.k2 ha6) (by decide) (hl.n2 ha6) ⟨Nat.le_of_ble_eq_true rfl, Nat.le_of_ble_eq_true rfl, Nat.le_of_ble_eq_true rfl⟩) ?_
      exact Iff.rfl
    · refine Iff.trans (zw_iinc (w := 1) (ls' := [.ref a0, .int x1, .null, .int x3, .int x4, .int (x5 + 1), .ref a6]) (show decode cX2_barredAt 82 = .ok (.iinc 5 1, 3) by decide +kernel) rfl (by decide) (zset_s (Nat.le_of_ble_eq_true rfl) rfl)) ?_
      refine Iff.trans (zw_goto (t := 24) (show decode cX2_barredAt 85 = .ok (.goto (-61), 3) by decide +kernel) (by decide)) ?_
      exact Iff.rfl
  · refine Iff.trans (zw_iinc (w := 1) (ls' := [.ref a0, .int x1, .null, .int x3, .int x4, .int (x5 + 1), .ref a6]) (show decode cX2_barredAt 82 = .ok (.iinc 5 1, 3) by decide +kernel) rfl (by decide) (zset_s (Nat.le_of_ble_eq_true rfl) rfl)) ?_
    refine Iff.trans (zw_goto (t := 24) (show decode cX2_barredAt 85 = .ok (.goto (-61), 3) by decide +kernel) (by decide)) ?_
    exact Iff.rfl

theorem bX2_barredN_79 {d : Nat} {σ : zS} {Q : Option Value → zS → Prop} (hl : zLay σ) {a0 a6 : Nat} {x1 x3 x4 x5 y0 y1 : Int32} (ha0 : zk a0 = 2) (ha6 : zk a6 = 4) : zW (d + 1) kX2_barredAt 79 [.ref a0, .int x1, .null, .int x3, .int x4, .int x5, .ref a6] [.int y0, .int y1] σ Q ↔ zW (d + 1) kX2_barredAt 24 [.ref a0, .int x1, .null, .int x3, .int (y1 ||| y0), .int (x5 + 1), .ref a6] [] σ Q := by
  refine Iff.trans (zw_ior (show decode cX2_barredAt 79 = .ok (.ior, 1) by decide +kernel)) ?_
  refine Iff.trans (zw_istore (ls' := [.ref a0, .int x1, .null, .int x3, .int (y1 ||| y0), .int x5, .ref a6]) (show decode cX2_barredAt 80 = .ok (.istore 4, 2) by decide +kernel) (zset_s (Nat.le_of_ble_eq_true rfl) rfl)) ?_
  refine Iff.trans (zw_iinc (w := 1) (ls' := [.ref a0, .int x1, .null, .int x3, .int (y1 ||| y0), .int (x5 + 1), .ref a6]) (show decode cX2_barredAt 82 = .ok (.iinc 5 1, 3) by decide +kernel) rfl (by decide) (zset_s (Nat.le_of_ble_eq_true rfl) rfl)) ?_
  refine Iff.trans (zw_goto (t := 24) (show decode cX2_barredAt 85 = .ok (.goto (-61), 3) by decide +kernel) (by decide)) ?_
  exact Iff.rfl

section PNUL
variable {d : Nat} {σ : zS} {Q : Option Value → zS → Prop}
theorem p_barredN_l {t n : Nat} {F : aFn} {B : aBk} {W : aWx} {w : Nat} (C : pCx σ t n B W w) (hF : pF σ t n = F) (hL : aLn B F n) (ho : ∀ o, o < n → (F o 7 = -1 ↔ F o 8 = -1)) {x hg : Int32} (P : Nat → Prop)
    (h : ∀ v : Int32, (∀ k : Nat, k < 32 → (bt v k = true ↔ P k ∨ aOcc n F (-1) x.toInt k)) → Q (some (.int v)) σ) :
    ∀ (m i : Nat) (v : Int32) (v6 : Value), n - i = m → i ≤ n → v6.category = 1 → (∀ k : Nat, k < 32 → (bt v k = true ↔ P k ∨ aOcc i F (-1) x.toInt k)) → zW (d + 1) kX2_barredAt 24 [.ref t, .int x, .null, .int hg, .int v, .int (nI i), v6] [] σ Q := by
  have C' := C
  obtain ⟨c1, c2, c3, c4, c5, c6, c8, c9, c10, c11⟩ := C
  intro m
  induction m with
  | zero =>
    intro i v v6 hm hi hc hv
    have e : i = n := by omega
    subst e
    refine (bX2_barredN_24 c1 c2 hc).mpr (zti (fun e => h v hv) (fun e => ?_))
    rw [c5] at e
    exact absurd (nI_le (Nat.le_refl _) (by omega)) e
  | succ m ih =>
    intro i v v6 hm hi hc hv
    have hin : i < n := by omega
    obtain ⟨ri, hki⟩ := p_run C' (show i < 6 by omega)
    refine (bX2_barredN_24 c1 c2 hc).mpr (zti (fun e => ?_) (fun e => zle' k6 (ai_n (by omega)) (fun e2 => by omega) (fun e2 => ⟨vp_in_nI (by omega) (by decide), ?_⟩)))
    · rw [c5] at e
      exact absurd e (nI_ge hin (by omega))
    rw [nI_clamp (by omega), ri]
    have nx : ∀ (v' : Int32) (v6 : Value), v6.category = 1 → (∀ k : Nat, k < 32 → (bt v' k = true ↔ bt v k = true ∨ ((i : Int) ≠ -1 ∧ F i 7 = -1 ∧ F i 4 = x.toInt ∧ F i 5 ≤ k ∧ (k : Int) < F i 5 + F i 0))) → zW (d + 1) kX2_barredAt 24 [.ref t, .int x, .null, .int hg, .int v', .int (nI i + 1), v6] [] σ Q := by
      intro v' v6 hc hv'
      rw [nI_1]
      refine ih (i + 1) v' v6 (by omega) (by omega) hc (fun k hk => ?_)
      rw [hv' k hk, hv k hk]
      constructor
      · rintro ((q | ⟨j, j1, j2⟩) | q)
        · exact Or.inl q
        · exact Or.inr ⟨j, by omega, j2⟩
        · exact Or.inr ⟨i, by omega, q⟩
      · rintro (q | ⟨j, j1, j2⟩)
        · exact Or.inl (Or.inl q)
        · rcases Nat.lt_succ_iff_lt_or_eq.mp j1 with q | q
          · exact Or.inl (Or.inr ⟨j, q, j2⟩)
          · subst q; exact Or.inr j2
    refine (bX2_barredN_47 c1 c2 hc hki).mpr ?_
    · refine p_isOut c1 c2 c4 hF hin (ho i hin) ⟨rfl, (bX2_barredN_60 c1 c2 hki).mpr (zt0 (fun c => ?_) (fun c => ?_))⟩
      · exact nx v _ (zcat_f _) (fun k hk => by
          constructor
          · exact Or.inl
          · rintro (q | q)
            · exact q
            · exact absurd q.2.1 c)
      · have e4 : (zI σ (t + 8 + 2 * i) 2).toInt = F i 4 := by rw [← hF, pF_w hin (by omega) (by omega)]
        refine zeq' e4 rfl (fun e5 => ?_) (fun e5 => ?_)
        · refine p_lanes C' hF hin hL (fun u hu => ⟨rfl, (bX2_barredN_79 c1 c2 hki).mpr (nx _ _ (zcat_f _) (fun k hk => ?_))⟩)
          rw [b_or, Bool.or_eq_true, hu k hk]
          have hir : (i : Int) ≠ -1 := by omega
          constructor
          · rintro (q | q)
            · exact Or.inl q
            · exact Or.inr ⟨hir, Classical.not_not.mp c, e5, q⟩
          · rintro (q | q)
            · exact Or.inl q
            · exact Or.inr q.2.2.2
        · exact nx v _ (zcat_f _) (fun k hk => by
            constructor
            · exact Or.inl
            · rintro (q | q)
              · exact q
              · exact absurd q.2.2.1 e5)
theorem p_barredN {t n : Nat} {F : aFn} {B : aBk} {W : aWx} {w : Nat} (C : pCx σ t n B W w) (hF : pF σ t n = F) (hL : aLn B F n) (ho : ∀ o, o < n → (F o 7 = -1 ↔ F o 8 = -1)) {x hi : Int32} (hx : 0 ≤ x.toInt ∧ x.toInt < 16) (eh : hi.toInt = W.2.1)
    (h : ∀ v : Int32, pBm B W n F (-1) x.toInt v → Q (some (.int v)) σ) : zCall (d + 1) kX2_barredAt [.ref t, .int x, .null, .int hi] σ Q := by
  have C' := C
  obtain ⟨c1, c2, c3, c4, c5, ⟨b, c6, c7⟩, c8, c9, c10, c11⟩ := C
  have no : ∀ k : Int, ¬ aOcc 0 F (-1) x.toInt k := fun k ⟨j, j1, _⟩ => absurd j1 (by omega)
  have ed : ∀ k : Nat, ((k : Int) < B.2.1 ∧ x.toInt < B.2.2 ∧ aBars B W x.toInt k) ↔ (W.2.1 < 2 ∧ (k : Int) < B.2.1 ∧ x.toInt < B.2.2 ∧ B.1 k x.toInt.toNat = 0) := fun k => by
    unfold aBars
    rw [Int.toNat_natCast]
    constructor
    · rintro ⟨q1, q2, q3, q4⟩; exact ⟨q3, q1, q2, q4⟩
    · rintro ⟨q3, q1, q2, q4⟩; exact ⟨q1, q2, q3, q4⟩
  refine (bX2_barredN_0 c1 c2).mpr (p_stonesBar c1 ⟨rfl, (bX2_barredN_4 c1 c2).mpr (zt0 (fun c => ?_) (fun c => ?_))⟩)
  · rw [c6]
    refine (bX2_barredN_11 c1 c2 c7.1).mpr (p_stonesAt c1 c7 hx (fun u hu => ⟨rfl, (bX2_barredN_15 c1 c2).mpr ?_⟩))
    refine p_barredN_l C' hF hL ho (fun k => (k : Int) < B.2.1 ∧ x.toInt < B.2.2 ∧ aBars B W x.toInt k) (fun v hv => h v hv) n 0 u _ rfl (by omega) (zcat_r _) (fun k hk => ?_)
    rw [hu k hk, ed k]
    constructor
    · intro q; exact Or.inl ⟨by omega, q⟩
    · rintro (q | q)
      · exact q.2
      · exact absurd q (no _)
  · refine p_barredN_l C' hF hL ho (fun k => (k : Int) < B.2.1 ∧ x.toInt < B.2.2 ∧ aBars B W x.toInt k) (fun v hv => h v hv) n 0 0 _ rfl (by omega) (zcat_r _) (fun k hk => ?_)
    rw [b_0, ed k]
    constructor
    · intro q; exact absurd q (by decide)
    · rintro (q | q)
      · exact absurd q.1 (by omega)
      · exact absurd q (no _)
end PNUL
