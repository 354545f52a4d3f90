theorem bL_law_23 {d : Nat} {σ : zS} {Q : Option Value → zS → Prop} (hl : zLay σ) {x4 : Int32} {v5 v6 : Value} (hv5 : v5.category = 1) (hv6 : v6.category = 1) : zW (d + 1) kL_law 23 [.ref 0, .ref 1, .ref 131, .ref 164, .int x4, v5, v6] [] σ Q ↔ zW (d + 1) kL_law 26 [.ref 0, .ref 1, .ref 131, .ref 164, .int x4, v5, v6] [.ref 0, .int x4] σ Q := by
  refine Iff.trans (zw_iload (show decode cL_law 23 = .ok (.iload 4, 2) by decide +kernel) rfl) ?_
  refine Iff.trans (zw_aload_n (show decode cL_law 25 = .ok (.aload_n 0, 1) by decide +kernel) rfl) ?_
  exact Iff.rfl

theorem bL_law_228 {d : Nat} {σ : zS} {Q : Option Value → zS → Prop} (hl : zLay σ) {x4 : Int32} {v5 v6 : Value} (hv5 : v5.category = 1) (hv6 : v6.category = 1) : zW (d + 1) kL_law 228 [.ref 0, .ref 1, .ref 131, .ref 164, .int x4, v5, v6] [] σ Q ↔ zW (d + 1) kL_law 234 [.ref 0, .ref 1, .ref 131, .ref 164, .int x4, v5, v6] [.int (x4 + 1), .ref 0, .ref 1] σ Q := by
  refine Iff.trans (zw_aload_n (show decode cL_law 228 = .ok (.aload_n 1, 1) by decide +kernel) rfl) ?_
  refine Iff.trans (zw_aload_n (show decode cL_law 229 = .ok (.aload_n 0, 1) by decide +kernel) rfl) ?_
  refine Iff.trans (zw_iload (show decode cL_law 230 = .ok (.iload 4, 2) by decide +kernel) rfl) ?_
  refine Iff.trans (zw_iconst (x := 1) (show decode cL_law 232 = .ok (.iconst 1, 1) by decide +kernel) (by decide)) ?_
  refine Iff.trans (zw_iadd (show decode cL_law 233 = .ok (.iadd, 1) by decide +kernel)) ?_
  exact Iff.rfl

theorem bL_law_262 {d : Nat} {σ : zS} {Q : Option Value → zS → Prop} (hl : zLay σ) {x4 y0 : Int32} {v5 v6 : Value} (hv5 : v5.category = 1) (hv6 : v6.category = 1) : zW (d + 1) kL_law 262 [.ref 0, .ref 1, .ref 131, .ref 164, .int x4, v5, v6] [.int y0] σ Q ↔ zW (d + 1) kL_law 268 [.ref 0, .ref 1, .ref 131, .ref 164, .int x4, v5, v6] [.int (x4 + 1), .ref 0, .ref 131, .int y0] σ Q := by
  refine Iff.trans (zw_aload_n (show decode cL_law 262 = .ok (.aload_n 2, 1) by decide +kernel) rfl) ?_
  refine Iff.trans (zw_aload_n (show decode cL_law 263 = .ok (.aload_n 0, 1) by decide +kernel) rfl) ?_
  refine Iff.trans (zw_iload (show decode cL_law 264 = .ok (.iload 4, 2) by decide +kernel) rfl) ?_
  refine Iff.trans (zw_iconst (x := 1) (show decode cL_law 266 = .ok (.iconst 1, 1) by decide +kernel) (by decide)) ?_
  refine Iff.trans (zw_iadd (show decode cL_law 267 = .ok (.iadd, 1) by decide +kernel)) ?_
  exact Iff.rfl

theorem bL_law_296 {d : Nat} {σ : zS} {Q : Option Value → zS → Prop} (hl : zLay σ) {x4 y0 y1 : Int32} {v5 v6 : Value} (hv5 : v5.category = 1) (hv6 : v6.category = 1) : zW (d + 1) kL_law 296 [.ref 0, .ref 1, .ref 131, .ref 164, .int x4, v5, v6] [.int y0, .int y1] σ Q ↔ (if y1 = y0 then zW (d + 1) kL_law 2094 [.ref 0, .ref 1, .ref 131, .ref 164, .int x4, v5, v6] [] σ Q else Q (some (.int 0)) σ) := by
  refine Iff.trans (zw_icmp_eq (t := 2094) (show decode cL_law 296 = .ok (.if_icmp .eq 1798, 3) by decide +kernel) (by decide)) ?_
  refine zw_ite ?_ ?_
  · exact Iff.rfl
  · refine Iff.trans (zw_iconst (x := 0) (show decode cL_law 299 = .ok (.iconst 0, 1) by decide +kernel) (by decide)) ?_
    exact zw_iret2c (show decode cL_law 300 = .ok (.ireturn, 1) by decide +kernel) rfl (Or.inl rfl)

theorem bL_law_301 {d : Nat} {σ : zS} {Q : Option Value → zS → Prop} (hl : zLay σ) {x4 : Int32} {v5 v6 : Value} (hv5 : v5.category = 1) (hv6 : v6.category = 1) : zW (d + 1) kL_law 301 [.ref 0, .ref 1, .ref 131, .ref 164, .int x4, v5, v6] [] σ Q ↔ zW (d + 1) kL_law 307 [.ref 0, .ref 1, .ref 131, .ref 164, .int x4, v5, v6] [.int (x4 + 1), .ref 0, .ref 1] σ Q := by
  refine Iff.trans (zw_aload_n (show decode cL_law 301 = .ok (.aload_n 1, 1) by decide +kernel) rfl) ?_
  refine Iff.trans (zw_aload_n (show decode cL_law 302 = .ok (.aload_n 0, 1) by decide +kernel) rfl) ?_
  refine Iff.trans (zw_iload (show decode cL_law 303 = .ok (.iload 4, 2) by decide +kernel) rfl) ?_
  refine Iff.trans (zw_iconst (x := 1) (show decode cL_law 305 = .ok (.iconst 1, 1) by decide +kernel) (by decide)) ?_
  refine Iff.trans (zw_iadd (show decode cL_law 306 = .ok (.iadd, 1) by decide +kernel)) ?_
  exact Iff.rfl

theorem bL_law_311 {d : Nat} {σ : zS} {Q : Option Value → zS → Prop} (hl : zLay σ) {x4 y0 : Int32} {v5 v6 : Value} (hv5 : v5.category = 1) (hv6 : v6.category = 1) : zW (d + 1) kL_law 311 [.ref 0, .ref 1, .ref 131, .ref 164, .int x4, v5, v6] [.int y0] σ Q ↔ zW (d + 1) kL_law 317 [.ref 0, .ref 1, .ref 131, .ref 164, .int x4, v5, v6] [.int (x4 + 1), .ref 0, .ref 131, .int y0] σ Q := by
  refine Iff.trans (zw_aload_n (show decode cL_law 311 = .ok (.aload_n 2, 1) by decide +kernel) rfl) ?_
  refine Iff.trans (zw_aload_n (show decode cL_law 312 = .ok (.aload_n 0, 1) by decide +kernel) rfl) ?_
  refine Iff.trans (zw_iload (show decode cL_law 313 = .ok (.iload 4, 2) by decide +kernel) rfl) ?_
  refine Iff.trans (zw_iconst (x := 1) (show decode cL_law 315 = .ok (.iconst 1, 1) by decide +kernel) (by decide)) ?_
  refine Iff.trans (zw_iadd (show decode cL_law 316 = .ok (.iadd, 1) by decide +kernel)) ?_
  exact Iff.rfl

theorem bL_law_321 {d : Nat} {σ : zS} {Q : Option Value → zS → Prop} (hl : zLay σ) {x4 y0 y1 : Int32} {v5 v6 : Value} (hv5 : v5.category = 1) (hv6 : v6.category = 1) : zW (d + 1) kL_law 321 [.ref 0, .ref 1, .ref 131, .ref 164, .int x4, v5, v6] [.int y0, .int y1] σ Q ↔ (if y1 = y0 then zW (d + 1) kL_law 2094 [.ref 0, .ref 1, .ref 131, .ref 164, .int x4, v5, v6] [] σ Q else Q (some (.int 0)) σ) := by
  refine Iff.trans (zw_icmp_eq (t := 2094) (show decode cL_law 321 = .ok (.if_icmp .eq 1773, 3) by decide +kernel) (by decide)) ?_
  refine zw_ite ?_ ?_
  · exact Iff.rfl
  · refine Iff.trans (zw_iconst (x := 0) (show decode cL_law 324 = .ok (.iconst 0, 1) by decide +kernel) (by decide)) ?_
    exact zw_iret2c (show decode cL_law 325 = .ok (.ireturn, 1) by decide +kernel) rfl (Or.inl rfl)

theorem bL_law_326 {d : Nat} {σ : zS} {Q : Option Value → zS → Prop} (hl : zLay σ) {x4 : Int32} {v5 v6 : Value} (hv5 : v5.category = 1) (hv6 : v6.category = 1) : zW (d + 1) kL_law 326 [.ref 0, .ref 1, .ref 131, .ref 164, .int x4, v5, v6] [] σ Q ↔ zW (d + 1) kL_law 332 [.ref 0, .ref 1, .ref 131, .ref 164, .int x4, v5, v6] [.int (x4 + 1), .ref 0, .ref 1] σ Q := by
  refine Iff.trans (zw_aload_n (show decode cL_law 326 = .ok (.aload_n 1, 1) by decide +kernel) rfl) ?_
  refine Iff.trans (zw_aload_n (show decode cL_law 327 = .ok (.aload_n 0, 1) by decide +kernel) rfl) ?_
  refine Iff.trans (zw_iload (show decode cL_law 328 = .ok (.iload 4, 2) by decide +kernel) rfl) ?_
  refine Iff.trans (zw_iconst (x := 1) (show decode cL_law 330 = .ok (.iconst 1, 1) by decide +kernel) (by decide)) ?_
  refine Iff.trans (zw_iadd (show decode cL_law 331 = .ok (.iadd, 1) by decide +kernel)) ?_
  exact Iff.rfl

theorem bL_law_336 {d : Nat} {σ : zS} {Q : Option Value → zS → Prop} (hl : zLay σ) {x4 y0 : Int32} {v5 v6 : Value} (hv5 : v5.category = 1) (hv6 : v6.category = 1) : zW (d + 1) kL_law 336 [.ref 0, .ref 1, .ref 131, .ref 164, .int x4, v5, v6] [.int y0] σ Q ↔ zW (d + 1) kL_law 342 [.ref 0, .ref 1, .ref 131, .ref 164, .int x4, v5, v6] [.int (x4 + 1), .ref 0, .ref 131, .int y0] σ Q := by
  refine Iff.trans (zw_aload_n (show decode cL_law 336 = .ok (.aload_n 2, 1) by decide +kernel) rfl) ?_
  refine Iff.trans (zw_aload_n (show decode cL_law 337 = .ok (.aload_n 0, 1) by decide +kernel) rfl) ?_
  refine Iff.trans (zw_iload (show decode cL_law 338 = .ok (.iload 4, 2) by decide +kernel) rfl) ?_
  refine Iff.trans (zw_iconst (x := 1) (show decode cL_law 340 = .ok (.iconst 1, 1) by decide +kernel) (by decide)) ?_
  refine Iff.trans (zw_iadd (show decode cL_law 341 = .ok (.iadd, 1) by decide +kernel)) ?_
  exact Iff.rfl

theorem bL_law_346 {d : Nat} {σ : zS} {Q : Option Value → zS → Prop} (hl : zLay σ) {x4 y0 y1 : Int32} {v5 v6 : Value} (hv5 : v5.category = 1) (hv6 : v6.category = 1) : zW (d + 1) kL_law 346 [.ref 0, .ref 1, .ref 131, .ref 164, .int x4, v5, v6] [.int y0, .int y1] σ Q ↔ (if y1 = y0 then zW (d + 1) kL_law 2094 [.ref 0, .ref 1, .ref 131, .ref 164, .int x4, v5, v6] [] σ Q else Q (some (.int 0)) σ) := by
  refine Iff.trans (zw_icmp_eq (t := 2094) (show decode cL_law 346 = .ok (.if_icmp .eq 1748, 3) by decide +kernel) (by decide)) ?_
  refine zw_ite ?_ ?_
  · exact Iff.rfl
  · refine Iff.trans (zw_iconst (x := 0) (show decode cL_law 349 = .ok (.iconst 0, 1) by decide +kernel) (by decide)) ?_
    exact zw_iret2c (show decode cL_law 350 = .ok (.ireturn, 1) by decide +kernel) rfl (Or.inl rfl)

theorem bL_law_351 {d : Nat} {σ : zS} {Q : Option Value → zS → Prop} (hl : zLay σ) {x4 : Int32} {v5 v6 : Value} (hv5 : v5.category = 1) (hv6 : v6.category = 1) : zW (d + 1) kL_law 351 [.ref 0, .ref 1, .ref 131, .ref 164, .int x4, v5, v6] [] σ Q ↔ zW (d + 1) kL_law 357 [.ref 0, .ref 1, .ref 131, .ref 164, .int x4, v5, v6] [.int (x4 + 1), .ref 0, .ref 1] σ Q := by
  refine Iff.trans (zw_aload_n (show decode cL_law 351 = .ok (.aload_n 1, 1) by decide +kernel) rfl) ?_
  refine Iff.trans (zw_aload_n (show decode cL_law 352 = .ok (.aload_n 0, 1) by decide +kernel) rfl) ?_
  refine Iff.trans (zw_iload (show decode cL_law 353 = .ok (.iload 4, 2) by decide +kernel) rfl) ?_
  refine Iff.trans (zw_iconst (x := 1) (show decode cL_law 355 = .ok (.iconst 1, 1) by decide +kernel) (by decide)) ?_
  refine Iff.trans (zw_iadd (show decode cL_law 356 = .ok (.iadd, 1) by decide +kernel)) ?_
  exact Iff.rfl

theorem bL_law_361 {d : Nat} {σ : zS} {Q : Option Value → zS → Prop} (hl : zLay σ) {x4 y0 : Int32} {v5 v6 : Value} (hv5 : v5.category = 1) (hv6 : v6.category = 1) : zW (d + 1) kL_law 361 [.ref 0, .ref 1, .ref 131, .ref 164, .int x4, v5, v6] [.int y0] σ Q ↔ zW (d + 1) kL_law 367 [.ref 0, .ref 1, .ref 131, .ref 164, .int x4, v5, v6] [.int (x4 + 1), .ref 0, .ref 131, .int y0] σ Q := by
  refine Iff.trans (zw_aload_n (show decode cL_law 361 = .ok (.aload_n 2, 1) by decide +kernel) rfl) ?_
  refine Iff.trans (zw_aload_n (show decode cL_law 362 = .ok (.aload_n 0, 1) by decide +kernel) rfl) ?_
  refine Iff.trans (zw_iload (show decode cL_law 363 = .ok (.iload 4, 2) by decide +kernel) rfl) ?_
  refine Iff.trans (zw_iconst (x := 1) (show decode cL_law 365 = .ok (.iconst 1, 1) by decide +kernel) (by decide)) ?_
  refine Iff.trans (zw_iadd (show decode cL_law 366 = .ok (.iadd, 1) by decide +kernel)) ?_
  exact Iff.rfl

theorem bL_law_371 {d : Nat} {σ : zS} {Q : Option Value → zS → Prop} (hl : zLay σ) {x4 y0 y1 : Int32} {v5 v6 : Value} (hv5 : v5.category = 1) (hv6 : v6.category = 1) : zW (d + 1) kL_law 371 [.ref 0, .ref 1, .ref 131, .ref 164, .int x4, v5, v6] [.int y0, .int y1] σ Q ↔ (if y1 = y0 then zW (d + 1) kL_law 2094 [.ref 0, .ref 1, .ref 131, .ref 164, .int x4, v5, v6] [] σ Q else Q (some (.int 0)) σ) := by
  refine Iff.trans (zw_icmp_eq (t := 2094) (show decode cL_law 371 = .ok (.if_icmp .eq 1723, 3) by decide +kernel) (by decide)) ?_
  refine zw_ite ?_ ?_
  · exact Iff.rfl
  · refine Iff.trans (zw_iconst (x := 0) (show decode cL_law 374 = .ok (.iconst 0, 1) by decide +kernel) (by decide)) ?_
    exact zw_iret2c (show decode cL_law 375 = .ok (.ireturn, 1) by decide +kernel) rfl (Or.inl rfl)

theorem bL_law_376 {d : Nat} {σ : zS} {Q : Option Value → zS → Prop} (hl : zLay σ) {x4 : Int32} {v5 v6 : Value} (hv5 : v5.category = 1) (hv6 : v6.category = 1) : zW (d + 1) kL_law 376 [.ref 0, .ref 1, .ref 131, .ref 164, .int x4, v5, v6] [] σ Q ↔ zW (d + 1) kL_law 382 [.ref 0, .ref 1, .ref 131, .ref 164, .int x4, v5, v6] [.int (x4 + 1), .ref 0, .ref 1] σ Q := by
  refine Iff.trans (zw_aload_n (show decode cL_law 376 = .ok (.aload_n 1, 1) by decide +kernel) rfl) ?_
  refine Iff.trans (zw_aload_n (show decode cL_law 377 = .ok (.aload_n 0, 1) by decide +kernel) rfl) ?_
  refine Iff.trans (zw_iload (show decode cL_law 378 = .ok (.iload 4, 2) by decide +kernel) rfl) ?_
  refine Iff.trans (zw_iconst (x := 1) (show decode cL_law 380 = .ok (.iconst 1, 1) by decide +kernel) (by decide)) ?_
  refine Iff.trans (zw_iadd (show decode cL_law 381 = .ok (.iadd, 1) by decide +kernel)) ?_
  exact Iff.rfl

theorem bL_law_393 {d : Nat} {σ : zS} {Q : Option Value → zS → Prop} (hl : zLay σ) {x4 y0 : Int32} {v5 v6 : Value} (hv5 : v5.category = 1) (hv6 : v6.category = 1) : zW (d + 1) kL_law 393 [.ref 0, .ref 1, .ref 131, .ref 164, .int x4, v5, v6] [.int y0] σ Q ↔ zW (d + 1) kL_law 401 [.ref 0, .ref 1, .ref 131, .ref 164, .int x4, .int y0, v6] [.int (x4 + 1), .ref 0, .ref 131] σ Q := by
  refine Iff.trans (zw_istore (ls' := [.ref 0, .ref 1, .ref 131, .ref 164, .int x4, .int y0, v6]) (show decode cL_law 393 = .ok (.istore 5, 2) by decide +kernel) (zset_s (Nat.le_of_ble_eq_true rfl) rfl)) ?_
  refine Iff.trans (zw_aload_n (show decode cL_law 395 = .ok (.aload_n 2, 1) by decide +kernel) rfl) ?_
  refine Iff.trans (zw_aload_n (show decode cL_law 396 = .ok (.aload_n 0, 1) by decide +kernel) rfl) ?_
  refine Iff.trans (zw_iload (show decode cL_law 397 = .ok (.iload 4, 2) by decide +kernel) rfl) ?_
  refine Iff.trans (zw_iconst (x := 1) (show decode cL_law 399 = .ok (.iconst 1, 1) by decide +kernel) (by decide)) ?_
  refine Iff.trans (zw_iadd (show decode cL_law 400 = .ok (.iadd, 1) by decide +kernel)) ?_
  exact Iff.rfl

theorem bL_law_411 {d : Nat} {σ : zS} {Q : Option Value → zS → Prop} (hl : zLay σ) {x4 x5 y0 : Int32} {v6 : Value} (hv6 : v6.category = 1) : zW (d + 1) kL_law 411 [.ref 0, .ref 1, .ref 131, .ref 164, .int x4, .int x5, v6] [.int y0] σ Q ↔ zCall d kX12_thrown [.ref 131] σ (fun r σ' => zisN r = true ∧ zW (d + 1) kL_law 417 [.ref 0, .ref 1, .ref 131, .ref 164, .int x4, .int x5, .int y0] (zRstk r ++ []) σ' Q) := by
  refine Iff.trans (zw_istore (ls' := [.ref 0, .ref 1, .ref 131, .ref 164, .int x4, .int x5, .int y0]) (show decode cL_law 411 = .ok (.istore 6, 2) by decide +kernel) (zset_s (Nat.le_of_ble_eq_true rfl) rfl)) ?_
  refine Iff.trans (zw_aload_n (show decode cL_law 413 = .ok (.aload_n 2, 1) by decide +kernel) rfl) ?_
  refine Iff.trans (zw_invV (K' := kX12_thrown) (as' := []) (rest := []) (show decode cL_law 414 = .ok (.invokevirtual 44, 3) by decide +kernel) (by rfl) rfl rfl rfl (hl.k2 zk_131) (by decide) (hl.n2 zk_131) ⟨Nat.le_of_ble_eq_true rfl, Nat.le_of_ble_eq_true rfl, Nat.le_of_ble_eq_true rfl⟩) ?_
  exact Iff.rfl

theorem bL_law_417 {d : Nat} {σ : zS} {Q : Option Value → zS → Prop} (hl : zLay σ) {x4 x5 x6 y0 : Int32} : zW (d + 1) kL_law 417 [.ref 0, .ref 1, .ref 131, .ref 164, .int x4, .int x5, .int x6] [.int y0] σ Q ↔ (if y0 = x5 then (if x5 = (0 : Int32) then (vp_in 0 1 ∧ (if (lg_cmp (zL σ 164 (0 : Int32).toNatClampNeg) ((x6 : Int32).toInt64)) = (0 : Int32) then zW (d + 1) kL_law 2094 [.ref 0, .ref 1, .ref 131, .ref 164, .int x4, .int x5, .int x6] [] σ Q else Q (some (.int 0)) σ)) else zW (d + 1) kL_law 2094 [.ref 0, .ref 1, .ref 131, .ref 164, .int x4, .int x5, .int x6] [] σ Q) else Q (some (.int 0)) σ) := by
  refine Iff.trans (zw_iload (show decode cL_law 417 = .ok (.iload 5, 2) by decide +kernel) rfl) ?_
  refine Iff.trans (zw_icmp_eq (t := 424) (show decode cL_law 419 = .ok (.if_icmp .eq 5, 3) by decide +kernel) (by decide)) ?_
  refine zw_ite ?_ ?_
  · refine Iff.trans (zw_iload (show decode cL_law 424 = .ok (.iload 5, 2) by decide +kernel) rfl) ?_
    refine Iff.trans (zw_if_ne (t := 441) (show decode cL_law 426 = .ok (.ifCond .ne 15, 3) by decide +kernel) (by decide)) ?_
    refine zw_ite ?_ ?_
    · refine Iff.trans (zw_aload_n (show decode cL_law 429 = .ok (.aload_n 3, 1) by decide +kernel) rfl) ?_
      refine Iff.trans (zw_iconst (x := 0) (show decode cL_law 430 = .ok (.iconst 0, 1) by decide +kernel) (by decide)) ?_
      refine Iff.trans (zw_lald (show decode cL_law 431 = .ok (.laload, 1) by decide +kernel) (hl.k2 zk_164) (hl.n2 zk_164) (hl.l2 zk_164 zl_164)) ?_
      refine zw_and ?_
      refine Iff.trans (zw_iload (show decode cL_law 432 = .ok (.iload 6, 2) by decide +kernel) rfl) ?_
      refine Iff.trans (zw_i2l (show decode cL_law 434 = .ok (.i2l, 1) by decide +kernel)) ?_
      refine Iff.trans (zw_lcmp (show decode cL_law 435 = .ok (.lcmp, 1) by decide +kernel)) ?_
      refine Iff.trans (zw_if_eq (t := 441) (show decode cL_law 436 = .ok (.ifCond .eq 5, 3) by decide +kernel) (by decide)) ?_
      refine zw_ite ?_ ?_
      · refine Iff.trans (zw_goto (t := 2094) (show decode cL_law 441 = .ok (.goto 1653, 3) by decide +kernel) (by decide)) ?_
        exact Iff.rfl
      · refine Iff.trans (zw_iconst (x := 0) (show decode cL_law 439 = .ok (.iconst 0, 1) by decide +kernel) (by decide)) ?_
        exact zw_iret2c (show decode cL_law 440 = .ok (.ireturn, 1) by decide +kernel) rfl (Or.inl rfl)
    · refine Iff.trans (zw_goto (t := 2094) (show decode cL_law 441 = .ok (.goto 1653, 3) by decide +kernel) (by decide)) ?_
      exact Iff.rfl
  · refine Iff.trans (zw_iconst (x := 0) (show decode cL_law 422 = .ok (.iconst 0, 1) by decide +kernel) (by decide)) ?_
    exact zw_iret2c (show decode cL_law 423 = .ok (.ireturn, 1) by decide +kernel) rfl (Or.inl rfl)

theorem bL_law_444 {d : Nat} {σ : zS} {Q : Option Value → zS → Prop} (hl : zLay σ) {x4 : Int32} {v5 v6 : Value} (hv5 : v5.category = 1) (hv6 : v6.category = 1) : zW (d + 1) kL_law 444 [.ref 0, .ref 1, .ref 131, .ref 164, .int x4, v5, v6] [] σ Q ↔ zW (d + 1) kL_law 450 [.ref 0, .ref 1, .ref 131, .ref 164, .int x4, v5, v6] [.int (x4 + 1), .ref 0, .ref 1] σ Q := by
  refine Iff.trans (zw_aload_n (show decode cL_law 444 = .ok (.aload_n 1, 1) by decide +kernel) rfl) ?_
  refine Iff.trans (zw_aload_n (show decode cL_law 445 = .ok (.aload_n 0, 1) by decide +kernel) rfl) ?_
  refine Iff.trans (zw_iload (show decode cL_law 446 = .ok (.iload 4, 2) by decide +kernel) rfl) ?_
  refine Iff.trans (zw_iconst (x := 1) (show decode cL_law 448 = .ok (.iconst 1, 1) by decide +kernel) (by decide)) ?_
  refine Iff.trans (zw_iadd (show decode cL_law 449 = .ok (.iadd, 1) by decide +kernel)) ?_
  exact Iff.rfl

theorem bL_law_466 {d : Nat} {σ : zS} {Q : Option Value → zS → Prop} (hl : zLay σ) {x4 y0 : Int32} {v5 v6 : Value} (hv5 : v5.category = 1) (hv6 : v6.category = 1) : zW (d + 1) kL_law 466 [.ref 0, .ref 1, .ref 131, .ref 164, .int x4, v5, v6] [.int y0] σ Q ↔ zW (d + 1) kL_law 472 [.ref 0, .ref 1, .ref 131, .ref 164, .int x4, v5, v6] [.int (x4 + 1), .ref 0, .ref 131, .int y0] σ Q := by
  refine Iff.trans (zw_aload_n (show decode cL_law 466 = .ok (.aload_n 2, 1) by decide +kernel) rfl) ?_
  refine Iff.trans (zw_aload_n (show decode cL_law 467 = .ok (.aload_n 0, 1) by decide +kernel) rfl) ?_
  refine Iff.trans (zw_iload (show decode cL_law 468 = .ok (.iload 4, 2) by decide +kernel) rfl) ?_
  refine Iff.trans (zw_iconst (x := 1) (show decode cL_law 470 = .ok (.iconst 1, 1) by decide +kernel) (by decide)) ?_
  refine Iff.trans (zw_iadd (show decode cL_law 471 = .ok (.iadd, 1) by decide +kernel)) ?_
  exact Iff.rfl

theorem bL_law_488 {d : Nat} {σ : zS} {Q : Option Value → zS → Prop} (hl : zLay σ) {x4 y0 y1 : Int32} {v5 v6 : Value} (hv5 : v5.category = 1) (hv6 : v6.category = 1) : zW (d + 1) kL_law 488 [.ref 0, .ref 1, .ref 131, .ref 164, .int x4, v5, v6] [.int y0, .int y1] σ Q ↔ (if y1 = y0 then zW (d + 1) kL_law 2094 [.ref 0, .ref 1, .ref 131, .ref 164, .int x4, v5, v6] [] σ Q else Q (some (.int 0)) σ) := by
  refine Iff.trans (zw_icmp_eq (t := 2094) (show decode cL_law 488 = .ok (.if_icmp .eq 1606, 3) by decide +kernel) (by decide)) ?_
  refine zw_ite ?_ ?_
  · exact Iff.rfl
  · refine Iff.trans (zw_iconst (x := 0) (show decode cL_law 491 = .ok (.iconst 0, 1) by decide +kernel) (by decide)) ?_
    exact zw_iret2c (show decode cL_law 492 = .ok (.ireturn, 1) by decide +kernel) rfl (Or.inl rfl)

theorem bL_law_493 {d : Nat} {σ : zS} {Q : Option Value → zS → Prop} (hl : zLay σ) {x4 : Int32} {v5 v6 : Value} (hv5 : v5.category = 1) (hv6 : v6.category = 1) : zW (d + 1) kL_law 493 [.ref 0, .ref 1, .ref 131, .ref 164, .int x4, v5, v6] [] σ Q ↔ zW (d + 1) kL_law 499 [.ref 0, .ref 1, .ref 131, .ref 164, .int x4, v5, v6] [.int (x4 + 1), .ref 0, .ref 1] σ Q := by
  refine Iff.trans (zw_aload_n (show decode cL_law 493 = .ok (.aload_n 1, 1) by decide +kernel) rfl) ?_
  refine Iff.trans (zw_aload_n (show decode cL_law 494 = .ok (.aload_n 0, 1) by decide +kernel) rfl) ?_
  refine Iff.trans (zw_iload (show decode cL_law 495 = .ok (.iload 4, 2) by decide +kernel) rfl) ?_
  refine Iff.trans (zw_iconst (x := 1) (show decode cL_law 497 = .ok (.iconst 1, 1) by decide +kernel) (by decide)) ?_
  refine Iff.trans (zw_iadd (show decode cL_law 498 = .ok (.iadd, 1) by decide +kernel)) ?_
  exact Iff.rfl

theorem bL_law_509 {d : Nat} {σ : zS} {Q : Option Value → zS → Prop} (hl : zLay σ) {x4 y0 : Int32} {v5 v6 : Value} (hv5 : v5.category = 1) (hv6 : v6.category = 1) : zW (d + 1) kL_law 509 [.ref 0, .ref 1, .ref 131, .ref 164, .int x4, v5, v6] [.int y0] σ Q ↔ zW (d + 1) kL_law 515 [.ref 0, .ref 1, .ref 131, .ref 164, .int x4, v5, v6] [.int (x4 + 1), .ref 0, .ref 131, .int y0] σ Q := by
  refine Iff.trans (zw_aload_n (show decode cL_law 509 = .ok (.aload_n 2, 1) by decide +kernel) rfl) ?_
  refine Iff.trans (zw_aload_n (show decode cL_law 510 = .ok (.aload_n 0, 1) by decide +kernel) rfl) ?_
  refine Iff.trans (zw_iload (show decode cL_law 511 = .ok (.iload 4, 2) by decide +kernel) rfl) ?_
  refine Iff.trans (zw_iconst (x := 1) (show decode cL_law 513 = .ok (.iconst 1, 1) by decide +kernel) (by decide)) ?_
  refine Iff.trans (zw_iadd (show decode cL_law 514 = .ok (.iadd, 1) by decide +kernel)) ?_
  exact Iff.rfl

theorem bL_law_525 {d : Nat} {σ : zS} {Q : Option Value → zS → Prop} (hl : zLay σ) {x4 y0 y1 : Int32} {v5 v6 : Value} (hv5 : v5.category = 1) (hv6 : v6.category = 1) : zW (d + 1) kL_law 525 [.ref 0, .ref 1, .ref 131, .ref 164, .int x4, v5, v6] [.int y0, .int y1] σ Q ↔ (if y1 = y0 then zW (d + 1) kL_law 2094 [.ref 0, .ref 1, .ref 131, .ref 164, .int x4, v5, v6] [] σ Q else Q (some (.int 0)) σ) := by
  refine Iff.trans (zw_icmp_eq (t := 2094) (show decode cL_law 525 = .ok (.if_icmp .eq 1569, 3) by decide +kernel) (by decide)) ?_
  refine zw_ite ?_ ?_
  · exact Iff.rfl
  · refine Iff.trans (zw_iconst (x := 0) (show decode cL_law 528 = .ok (.iconst 0, 1) by decide +kernel) (by decide)) ?_
    exact zw_iret2c (show decode cL_law 529 = .ok (.ireturn, 1) by decide +kernel) rfl (Or.inl rfl)

theorem bL_law_530 {d : Nat} {σ : zS} {Q : Option Value → zS → Prop} (hl : zLay σ) {x4 : Int32} {v5 v6 : Value} (hv5 : v5.category = 1) (hv6 : v6.category = 1) : zW (d + 1) kL_law 530 [.ref 0, .ref 1, .ref 131, .ref 164, .int x4, v5, v6] [] σ Q ↔ zW (d + 1) kL_law 536 [.ref 0, .ref 1, .ref 131, .ref 164, .int x4, v5, v6] [.int (x4 + 1), .ref 0, .ref 1] σ Q := by
  refine Iff.trans (zw_aload_n (show decode cL_law 530 = .ok (.aload_n 1, 1) by decide +kernel) rfl) ?_
  refine Iff.trans (zw_aload_n (show decode cL_law 531 = .ok (.aload_n 0, 1) by decide +kernel) rfl) ?_
  refine Iff.trans (zw_iload (show decode cL_law 532 = .ok (.iload 4, 2) by decide +kernel) rfl) ?_
  refine Iff.trans (zw_iconst (x := 1) (show decode cL_law 534 = .ok (.iconst 1, 1) by decide +kernel) (by decide)) ?_
  refine Iff.trans (zw_iadd (show decode cL_law 535 = .ok (.iadd, 1) by decide +kernel)) ?_
  exact Iff.rfl

theorem bL_law_546 {d : Nat} {σ : zS} {Q : Option Value → zS → Prop} (hl : zLay σ) {x4 y0 : Int32} {v5 v6 : Value} (hv5 : v5.category = 1) (hv6 : v6.category = 1) : zW (d + 1) kL_law 546 [.ref 0, .ref 1, .ref 131, .ref 164, .int x4, v5, v6] [.int y0] σ Q ↔ zW (d + 1) kL_law 552 [.ref 0, .ref 1, .ref 131, .ref 164, .int x4, v5, v6] [.int (x4 + 1), .ref 0, .ref 131, .int y0] σ Q := by
  refine Iff.trans (zw_aload_n (show decode cL_law 546 = .ok (.aload_n 2, 1) by decide +kernel) rfl) ?_
  refine Iff.trans (zw_aload_n (show decode cL_law 547 = .ok (.aload_n 0, 1) by decide +kernel) rfl) ?_
  refine Iff.trans (zw_iload (show decode cL_law 548 = .ok (.iload 4, 2) by decide +kernel) rfl) ?_
  refine Iff.trans (zw_iconst (x := 1) (show decode cL_law 550 = .ok (.iconst 1, 1) by decide +kernel) (by decide)) ?_
  refine Iff.trans (zw_iadd (show decode cL_law 551 = .ok (.iadd, 1) by decide +kernel)) ?_
  exact Iff.rfl

theorem bL_law_562 {d : Nat} {σ : zS} {Q : Option Value → zS → Prop} (hl : zLay σ) {x4 y0 y1 : Int32} {v5 v6 : Value} (hv5 : v5.category = 1) (hv6 : v6.category = 1) : zW (d + 1) kL_law 562 [.ref 0, .ref 1, .ref 131, .ref 164, .int x4, v5, v6] [.int y0, .int y1] σ Q ↔ (if y1 = y0 then zW (d + 1) kL_law 2094 [.ref 0, .ref 1, .ref 131, .ref 164, .int x4, v5, v6] [] σ Q else Q (some (.int 0)) σ) := by
  refine Iff.trans (zw_icmp_eq (t := 2094) (show decode cL_law 562 = .ok (.if_icmp .eq 1532, 3) by decide +kernel) (by decide)) ?_
  refine zw_ite ?_ ?_
  · exact Iff.rfl
  · refine Iff.trans (zw_iconst (x := 0) (show decode cL_law 565 = .ok (.iconst 0, 1) by decide +kernel) (by decide)) ?_
    exact zw_iret2c (show decode cL_law 566 = .ok (.ireturn, 1) by decide +kernel) rfl (Or.inl rfl)

theorem bL_law_567 {d : Nat} {σ : zS} {Q : Option Value → zS → Prop} (hl : zLay σ) {x4 : Int32} {v5 v6 : Value} (hv5 : v5.category = 1) (hv6 : v6.category = 1) : zW (d + 1) kL_law 567 [.ref 0, .ref 1, .ref 131, .ref 164, .int x4, v5, v6] [] σ Q ↔ zW (d + 1) kL_law 573 [.ref 0, .ref 1, .ref 131, .ref 164, .int x4, v5, v6] [.int (x4 + 1), .ref 0, .ref 1] σ Q := by
  refine Iff.trans (zw_aload_n (show decode cL_law 567 = .ok (.aload_n 1, 1) by decide +kernel) rfl) ?_
  refine Iff.trans (zw_aload_n (show decode cL_law 568 = .ok (.aload_n 0, 1) by decide +kernel) rfl) ?_
  refine Iff.trans (zw_iload (show decode cL_law 569 = .ok (.iload 4, 2) by decide +kernel) rfl) ?_
  refine Iff.trans (zw_iconst (x := 1) (show decode cL_law 571 = .ok (.iconst 1, 1) by decide +kernel) (by decide)) ?_
  refine Iff.trans (zw_iadd (show decode cL_law 572 = .ok (.iadd, 1) by decide +kernel)) ?_
  exact Iff.rfl

theorem bL_law_595 {d : Nat} {σ : zS} {Q : Option Value → zS → Prop} (hl : zLay σ) {x4 y0 : Int32} {v5 v6 : Value} (hv5 : v5.category = 1) (hv6 : v6.category = 1) : zW (d + 1) kL_law 595 [.ref 0, .ref 1, .ref 131, .ref 164, .int x4, v5, v6] [.int y0] σ Q ↔ zW (d + 1) kL_law 601 [.ref 0, .ref 1, .ref 131, .ref 164, .int x4, v5, v6] [.int (x4 + 1), .ref 0, .ref 131, .int y0] σ Q := by
  refine Iff.trans (zw_aload_n (show decode cL_law 595 = .ok (.aload_n 2, 1) by decide +kernel) rfl) ?_
  refine Iff.trans (zw_aload_n (show decode cL_law 596 = .ok (.aload_n 0, 1) by decide +kernel) rfl) ?_
  refine Iff.trans (zw_iload (show decode cL_law 597 = .ok (.iload 4, 2) by decide +kernel) rfl) ?_
  refine Iff.trans (zw_iconst (x := 1) (show decode cL_law 599 = .ok (.iconst 1, 1) by decide +kernel) (by decide)) ?_
  refine Iff.trans (zw_iadd (show decode cL_law 600 = .ok (.iadd, 1) by decide +kernel)) ?_
  exact Iff.rfl

theorem bL_law_623 {d : Nat} {σ : zS} {Q : Option Value → zS → Prop} (hl : zLay σ) {x4 y0 y1 : Int32} {v5 v6 : Value} (hv5 : v5.category = 1) (hv6 : v6.category = 1) : zW (d + 1) kL_law 623 [.ref 0, .ref 1, .ref 131, .ref 164, .int x4, v5, v6] [.int y0, .int y1] σ Q ↔ (if y1 = y0 then zW (d + 1) kL_law 2094 [.ref 0, .ref 1, .ref 131, .ref 164, .int x4, v5, v6] [] σ Q else Q (some (.int 0)) σ) := by
  refine Iff.trans (zw_icmp_eq (t := 2094) (show decode cL_law 623 = .ok (.if_icmp .eq 1471, 3) by decide +kernel) (by decide)) ?_
  refine zw_ite ?_ ?_
  · exact Iff.rfl
  · refine Iff.trans (zw_iconst (x := 0) (show decode cL_law 626 = .ok (.iconst 0, 1) by decide +kernel) (by decide)) ?_
    exact zw_iret2c (show decode cL_law 627 = .ok (.ireturn, 1) by decide +kernel) rfl (Or.inl rfl)

theorem bL_law_628 {d : Nat} {σ : zS} {Q : Option Value → zS → Prop} (hl : zLay σ) {x4 : Int32} {v5 v6 : Value} (hv5 : v5.category = 1) (hv6 : v6.category = 1) : zW (d + 1) kL_law 628 [.ref 0, .ref 1, .ref 131, .ref 164, .int x4, v5, v6] [] σ Q ↔ zW (d + 1) kL_law 634 [.ref 0, .ref 1, .ref 131, .ref 164, .int x4, v5, v6] [.int (x4 + 1), .ref 0, .ref 1] σ Q := by
  refine Iff.trans (zw_aload_n (show decode cL_law 628 = .ok (.aload_n 1, 1) by decide +kernel) rfl) ?_
  refine Iff.trans (zw_aload_n (show decode cL_law 629 = .ok (.aload_n 0, 1) by decide +kernel) rfl) ?_
  refine Iff.trans (zw_iload (show decode cL_law 630 = .ok (.iload 4, 2) by decide +kernel) rfl) ?_
  refine Iff.trans (zw_iconst (x := 1) (show decode cL_law 632 = .ok (.iconst 1, 1) by decide +kernel) (by decide)) ?_
  refine Iff.trans (zw_iadd (show decode cL_law 633 = .ok (.iadd, 1) by decide +kernel)) ?_
  exact Iff.rfl

theorem bL_law_638 {d : Nat} {σ : zS} {Q : Option Value → zS → Prop} (hl : zLay σ) {x4 y0 : Int32} {v5 v6 : Value} (hv5 : v5.category = 1) (hv6 : v6.category = 1) : zW (d + 1) kL_law 638 [.ref 0, .ref 1, .ref 131, .ref 164, .int x4, v5, v6] [.int y0] σ Q ↔ zW (d + 1) kL_law 644 [.ref 0, .ref 1, .ref 131, .ref 164, .int x4, v5, v6] [.int (x4 + 1), .ref 0, .ref 131, .int y0] σ Q := by
  refine Iff.trans (zw_aload_n (show decode cL_law 638 = .ok (.aload_n 2, 1) by decide +kernel) rfl) ?_
  refine Iff.trans (zw_aload_n (show decode cL_law 639 = .ok (.aload_n 0, 1) by decide +kernel) rfl) ?_
  refine Iff.trans (zw_iload (show decode cL_law 640 = .ok (.iload 4, 2) by decide +kernel) rfl) ?_
  refine Iff.trans (zw_iconst (x := 1) (show decode cL_law 642 = .ok (.iconst 1, 1) by decide +kernel) (by decide)) ?_
  refine Iff.trans (zw_iadd (show decode cL_law 643 = .ok (.iadd, 1) by decide +kernel)) ?_
  exact Iff.rfl

theorem bL_law_648 {d : Nat} {σ : zS} {Q : Option Value → zS → Prop} (hl : zLay σ) {x4 y0 y1 : Int32} {v5 v6 : Value} (hv5 : v5.category = 1) (hv6 : v6.category = 1) : zW (d + 1) kL_law 648 [.ref 0, .ref 1, .ref 131, .ref 164, .int x4, v5, v6] [.int y0, .int y1] σ Q ↔ (if y1 = y0 then zW (d + 1) kL_law 2094 [.ref 0, .ref 1, .ref 131, .ref 164, .int x4, v5, v6] [] σ Q else Q (some (.int 0)) σ) := by
  refine Iff.trans (zw_icmp_eq (t := 2094) (show decode cL_law 648 = .ok (.if_icmp .eq 1446, 3) by decide +kernel) (by decide)) ?_
  refine zw_ite ?_ ?_
  · exact Iff.rfl
  · refine Iff.trans (zw_iconst (x := 0) (show decode cL_law 651 = .ok (.iconst 0, 1) by decide +kernel) (by decide)) ?_
    exact zw_iret2c (show decode cL_law 652 = .ok (.ireturn, 1) by decide +kernel) rfl (Or.inl rfl)

theorem bL_law_653 {d : Nat} {σ : zS} {Q : Option Value → zS → Prop} (hl : zLay σ) {x4 : Int32} {v5 v6 : Value} (hv5 : v5.category = 1) (hv6 : v6.category = 1) : zW (d + 1) kL_law 653 [.ref 0, .ref 1, .ref 131, .ref 164, .int x4, v5, v6] [] σ Q ↔ zW (d + 1) kL_law 659 [.ref 0, .ref 1, .ref 131, .ref 164, .int x4, v5, v6] [.int (x4 + 1), .ref 0, .ref 1] σ Q := by
  refine Iff.trans (zw_aload_n (show decode cL_law 653 = .ok (.aload_n 1, 1) by decide +kernel) rfl) ?_
  refine Iff.trans (zw_aload_n (show decode cL_law 654 = .ok (.aload_n 0, 1) by decide +kernel) rfl) ?_
  refine Iff.trans (zw_iload (show decode cL_law 655 = .ok (.iload 4, 2) by decide +kernel) rfl) ?_
  refine Iff.trans (zw_iconst (x := 1) (show decode cL_law 657 = .ok (.iconst 1, 1) by decide +kernel) (by decide)) ?_
  refine Iff.trans (zw_iadd (show decode cL_law 658 = .ok (.iadd, 1) by decide +kernel)) ?_
  exact Iff.rfl

theorem bL_law_669 {d : Nat} {σ : zS} {Q : Option Value → zS → Prop} (hl : zLay σ) {x4 y0 : Int32} {v5 v6 : Value} (hv5 : v5.category = 1) (hv6 : v6.category = 1) : zW (d + 1) kL_law 669 [.ref 0, .ref 1, .ref 131, .ref 164, .int x4, v5, v6] [.int y0] σ Q ↔ zW (d + 1) kL_law 675 [.ref 0, .ref 1, .ref 131, .ref 164, .int x4, v5, v6] [.int (x4 + 1), .ref 0, .ref 131, .int y0] σ Q := by
  refine Iff.trans (zw_aload_n (show decode cL_law 669 = .ok (.aload_n 2, 1) by decide +kernel) rfl) ?_
  refine Iff.trans (zw_aload_n (show decode cL_law 670 = .ok (.aload_n 0, 1) by decide +kernel) rfl) ?_
  refine Iff.trans (zw_iload (show decode cL_law 671 = .ok (.iload 4, 2) by decide +kernel) rfl) ?_
  refine Iff.trans (zw_iconst (x := 1) (show decode cL_law 673 = .ok (.iconst 1, 1) by decide +kernel) (by decide)) ?_
  refine Iff.trans (zw_iadd (show decode cL_law 674 = .ok (.iadd, 1) by decide +kernel)) ?_
  exact Iff.rfl

theorem bL_law_685 {d : Nat} {σ : zS} {Q : Option Value → zS → Prop} (hl : zLay σ) {x4 y0 y1 : Int32} {v5 v6 : Value} (hv5 : v5.category = 1) (hv6 : v6.category = 1) : zW (d + 1) kL_law 685 [.ref 0, .ref 1, .ref 131, .ref 164, .int x4, v5, v6] [.int y0, .int y1] σ Q ↔ (if y1 = y0 then zW (d + 1) kL_law 2094 [.ref 0, .ref 1, .ref 131, .ref 164, .int x4, v5, v6] [] σ Q else Q (some (.int 0)) σ) := by
  refine Iff.trans (zw_icmp_eq (t := 2094) (show decode cL_law 685 = .ok (.if_icmp .eq 1409, 3) by decide +kernel) (by decide)) ?_
  refine zw_ite ?_ ?_
  · exact Iff.rfl
  · refine Iff.trans (zw_iconst (x := 0) (show decode cL_law 688 = .ok (.iconst 0, 1) by decide +kernel) (by decide)) ?_
    exact zw_iret2c (show decode cL_law 689 = .ok (.ireturn, 1) by decide +kernel) rfl (Or.inl rfl)

theorem bL_law_690 {d : Nat} {σ : zS} {Q : Option Value → zS → Prop} (hl : zLay σ) {x4 : Int32} {v5 v6 : Value} (hv5 : v5.category = 1) (hv6 : v6.category = 1) : zW (d + 1) kL_law 690 [.ref 0, .ref 1, .ref 131, .ref 164, .int x4, v5, v6] [] σ Q ↔ zW (d + 1) kL_law 696 [.ref 0, .ref 1, .ref 131, .ref 164, .int x4, v5, v6] [.int (x4 + 1), .ref 0, .ref 1] σ Q := by
  refine Iff.trans (zw_aload_n (show decode cL_law 690 = .ok (.aload_n 1, 1) by decide +kernel) rfl) ?_
  refine Iff.trans (zw_aload_n (show decode cL_law 691 = .ok (.aload_n 0, 1) by decide +kernel) rfl) ?_
  refine Iff.trans (zw_iload (show decode cL_law 692 = .ok (.iload 4, 2) by decide +kernel) rfl) ?_
  refine Iff.trans (zw_iconst (x := 1) (show decode cL_law 694 = .ok (.iconst 1, 1) by decide +kernel) (by decide)) ?_
  refine Iff.trans (zw_iadd (show decode cL_law 695 = .ok (.iadd, 1) by decide +kernel)) ?_
  exact Iff.rfl

theorem bL_law_716 {d : Nat} {σ : zS} {Q : Option Value → zS → Prop} (hl : zLay σ) {x4 y0 : Int32} {v5 v6 : Value} (hv5 : v5.category = 1) (hv6 : v6.category = 1) : zW (d + 1) kL_law 716 [.ref 0, .ref 1, .ref 131, .ref 164, .int x4, v5, v6] [.int y0] σ Q ↔ zW (d + 1) kL_law 722 [.ref 0, .ref 1, .ref 131, .ref 164, .int x4, v5, v6] [.int (x4 + 1), .ref 0, .ref 131, .int y0] σ Q := by
  refine Iff.trans (zw_aload_n (show decode cL_law 716 = .ok (.aload_n 2, 1) by decide +kernel) rfl) ?_
  refine Iff.trans (zw_aload_n (show decode cL_law 717 = .ok (.aload_n 0, 1) by decide +kernel) rfl) ?_
  refine Iff.trans (zw_iload (show decode cL_law 718 = .ok (.iload 4, 2) by decide +kernel) rfl) ?_
  refine Iff.trans (zw_iconst (x := 1) (show decode cL_law 720 = .ok (.iconst 1, 1) by decide +kernel) (by decide)) ?_
  refine Iff.trans (zw_iadd (show decode cL_law 721 = .ok (.iadd, 1) by decide +kernel)) ?_
  exact Iff.rfl

theorem bL_law_742 {d : Nat} {σ : zS} {Q : Option Value → zS → Prop} (hl : zLay σ) {x4 y0 y1 : Int32} {v5 v6 : Value} (hv5 : v5.category = 1) (hv6 : v6.category = 1) : zW (d + 1) kL_law 742 [.ref 0, .ref 1, .ref 131, .ref 164, .int x4, v5, v6] [.int y0, .int y1] σ Q ↔ (if y1 = y0 then zW (d + 1) kL_law 2094 [.ref 0, .ref 1, .ref 131, .ref 164, .int x4, v5, v6] [] σ Q else Q (some (.int 0)) σ) := by
  refine Iff.trans (zw_icmp_eq (t := 2094) (show decode cL_law 742 = .ok (.if_icmp .eq 1352, 3) by decide +kernel) (by decide)) ?_
  refine zw_ite ?_ ?_
  · exact Iff.rfl
  · refine Iff.trans (zw_iconst (x := 0) (show decode cL_law 745 = .ok (.iconst 0, 1) by decide +kernel) (by decide)) ?_
    exact zw_iret2c (show decode cL_law 746 = .ok (.ireturn, 1) by decide +kernel) rfl (Or.inl rfl)

theorem bL_law_747 {d : Nat} {σ : zS} {Q : Option Value → zS → Prop} (hl : zLay σ) {x4 : Int32} {v5 v6 : Value} (hv5 : v5.category = 1) (hv6 : v6.category = 1) : zW (d + 1) kL_law 747 [.ref 0, .ref 1, .ref 131, .ref 164, .int x4, v5, v6] [] σ Q ↔ zW (d + 1) kL_law 753 [.ref 0, .ref 1, .ref 131, .ref 164, .int x4, v5, v6] [.int (x4 + 1), .ref 0, .ref 1] σ Q := by
  refine Iff.trans (zw_aload_n (show decode cL_law 747 = .ok (.aload_n 1, 1) by decide +kernel) rfl) ?_
  refine Iff.trans (zw_aload_n (show decode cL_law 748 = .ok (.aload_n 0, 1) by decide +kernel) rfl) ?_
  refine Iff.trans (zw_iload (show decode cL_law 749 = .ok (.iload 4, 2) by decide +kernel) rfl) ?_
  refine Iff.trans (zw_iconst (x := 1) (show decode cL_law 751 = .ok (.iconst 1, 1) by decide +kernel) (by decide)) ?_
  refine Iff.trans (zw_iadd (show decode cL_law 752 = .ok (.iadd, 1) by decide +kernel)) ?_
  exact Iff.rfl

theorem bL_law_757 {d : Nat} {σ : zS} {Q : Option Value → zS → Prop} (hl : zLay σ) {x4 y0 : Int32} {v5 v6 : Value} (hv5 : v5.category = 1) (hv6 : v6.category = 1) : zW (d + 1) kL_law 757 [.ref 0, .ref 1, .ref 131, .ref 164, .int x4, v5, v6] [.int y0] σ Q ↔ zW (d + 1) kL_law 763 [.ref 0, .ref 1, .ref 131, .ref 164, .int x4, v5, v6] [.int (x4 + 1), .ref 0, .ref 131, .int y0] σ Q := by
  refine Iff.trans (zw_aload_n (show decode cL_law 757 = .ok (.aload_n 2, 1) by decide +kernel) rfl) ?_
  refine Iff.trans (zw_aload_n (show decode cL_law 758 = .ok (.aload_n 0, 1) by decide +kernel) rfl) ?_
  refine Iff.trans (zw_iload (show decode cL_law 759 = .ok (.iload 4, 2) by decide +kernel) rfl) ?_
  refine Iff.trans (zw_iconst (x := 1) (show decode cL_law 761 = .ok (.iconst 1, 1) by decide +kernel) (by decide)) ?_
  refine Iff.trans (zw_iadd (show decode cL_law 762 = .ok (.iadd, 1) by decide +kernel)) ?_
  exact Iff.rfl

theorem bL_law_767 {d : Nat} {σ : zS} {Q : Option Value → zS → Prop} (hl : zLay σ) {x4 y0 y1 : Int32} {v5 v6 : Value} (hv5 : v5.category = 1) (hv6 : v6.category = 1) : zW (d + 1) kL_law 767 [.ref 0, .ref 1, .ref 131, .ref 164, .int x4, v5, v6] [.int y0, .int y1] σ Q ↔ (if y1 = y0 then zW (d + 1) kL_law 2094 [.ref 0, .ref 1, .ref 131, .ref 164, .int x4, v5, v6] [] σ Q else Q (some (.int 0)) σ) := by
  refine Iff.trans (zw_icmp_eq (t := 2094) (show decode cL_law 767 = .ok (.if_icmp .eq 1327, 3) by decide +kernel) (by decide)) ?_
  refine zw_ite ?_ ?_
  · exact Iff.rfl
  · refine Iff.trans (zw_iconst (x := 0) (show decode cL_law 770 = .ok (.iconst 0, 1) by decide +kernel) (by decide)) ?_
    exact zw_iret2c (show decode cL_law 771 = .ok (.ireturn, 1) by decide +kernel) rfl (Or.inl rfl)

theorem bL_law_772 {d : Nat} {σ : zS} {Q : Option Value → zS → Prop} (hl : zLay σ) {x4 : Int32} {v5 v6 : Value} (hv5 : v5.category = 1) (hv6 : v6.category = 1) : zW (d + 1) kL_law 772 [.ref 0, .ref 1, .ref 131, .ref 164, .int x4, v5, v6] [] σ Q ↔ zW (d + 1) kL_law 778 [.ref 0, .ref 1, .ref 131, .ref 164, .int x4, v5, v6] [.int (x4 + 1), .ref 0, .ref 1] σ Q := by
  refine Iff.trans (zw_aload_n (show decode cL_law 772 = .ok (.aload_n 1, 1) by decide +kernel) rfl) ?_
  refine Iff.trans (zw_aload_n (show decode cL_law 773 = .ok (.aload_n 0, 1) by decide +kernel) rfl) ?_
  refine Iff.trans (zw_iload (show decode cL_law 774 = .ok (.iload 4, 2) by decide +kernel) rfl) ?_
  refine Iff.trans (zw_iconst (x := 1) (show decode cL_law 776 = .ok (.iconst 1, 1) by decide +kernel) (by decide)) ?_
  refine Iff.trans (zw_iadd (show decode cL_law 777 = .ok (.iadd, 1) by decide +kernel)) ?_
  exact Iff.rfl

theorem bL_law_788 {d : Nat} {σ : zS} {Q : Option Value → zS → Prop} (hl : zLay σ) {x4 y0 : Int32} {v5 v6 : Value} (hv5 : v5.category = 1) (hv6 : v6.category = 1) : zW (d + 1) kL_law 788 [.ref 0, .ref 1, .ref 131, .ref 164, .int x4, v5, v6] [.int y0] σ Q ↔ zW (d + 1) kL_law 794 [.ref 0, .ref 1, .ref 131, .ref 164, .int x4, v5, v6] [.int (x4 + 1), .ref 0, .ref 131, .int y0] σ Q := by
  refine Iff.trans (zw_aload_n (show decode cL_law 788 = .ok (.aload_n 2, 1) by decide +kernel) rfl) ?_
  refine Iff.trans (zw_aload_n (show decode cL_law 789 = .ok (.aload_n 0, 1) by decide +kernel) rfl) ?_
  refine Iff.trans (zw_iload (show decode cL_law 790 = .ok (.iload 4, 2) by decide +kernel) rfl) ?_
  refine Iff.trans (zw_iconst (x := 1) (show decode cL_law 792 = .ok (.iconst 1, 1) by decide +kernel) (by decide)) ?_
  refine Iff.trans (zw_iadd (show decode cL_law 793 = .ok (.iadd, 1) by decide +kernel)) ?_
  exact Iff.rfl

theorem bL_law_804 {d : Nat} {σ : zS} {Q : Option Value → zS → Prop} (hl : zLay σ) {x4 y0 y1 : Int32} {v5 v6 : Value} (hv5 : v5.category = 1) (hv6 : v6.category = 1) : zW (d + 1) kL_law 804 [.ref 0, .ref 1, .ref 131, .ref 164, .int x4, v5, v6] [.int y0, .int y1] σ Q ↔ (if y1 = y0 then zW (d + 1) kL_law 2094 [.ref 0, .ref 1, .ref 131, .ref 164, .int x4, v5, v6] [] σ Q else Q (some (.int 0)) σ) := by
  refine Iff.trans (zw_icmp_eq (t := 2094) (show decode cL_law 804 = .ok (.if_icmp .eq 1290, 3) by decide +kernel) (by decide)) ?_
  refine zw_ite ?_ ?_
  · exact Iff.rfl
  · refine Iff.trans (zw_iconst (x := 0) (show decode cL_law 807 = .ok (.iconst 0, 1) by decide +kernel) (by decide)) ?_
    exact zw_iret2c (show decode cL_law 808 = .ok (.ireturn, 1) by decide +kernel) rfl (Or.inl rfl)

theorem bL_law_809 {d : Nat} {σ : zS} {Q : Option Value → zS → Prop} (hl : zLay σ) {x4 : Int32} {v5 v6 : Value} (hv5 : v5.category = 1) (hv6 : v6.category = 1) : zW (d + 1) kL_law 809 [.ref 0, .ref 1, .ref 131, .ref 164, .int x4, v5, v6] [] σ Q ↔ zW (d + 1) kL_law 815 [.ref 0, .ref 1, .ref 131, .ref 164, .int x4, v5, v6] [.int (x4 + 1), .ref 0, .ref 1] σ Q := by
  refine Iff.trans (zw_aload_n (show decode cL_law 809 = .ok (.aload_n 1, 1) by decide +kernel) rfl) ?_
  refine Iff.trans (zw_aload_n (show decode cL_law 810 = .ok (.aload_n 0, 1) by decide +kernel) rfl) ?_
  refine Iff.trans (zw_iload (show decode cL_law 811 = .ok (.iload 4, 2) by decide +kernel) rfl) ?_
  refine Iff.trans (zw_iconst (x := 1) (show decode cL_law 813 = .ok (.iconst 1, 1) by decide +kernel) (by decide)) ?_
  refine Iff.trans (zw_iadd (show decode cL_law 814 = .ok (.iadd, 1) by decide +kernel)) ?_
  exact Iff.rfl

theorem bL_law_819 {d : Nat} {σ : zS} {Q : Option Value → zS → Prop} (hl : zLay σ) {x4 y0 : Int32} {v5 v6 : Value} (hv5 : v5.category = 1) (hv6 : v6.category = 1) : zW (d + 1) kL_law 819 [.ref 0, .ref 1, .ref 131, .ref 164, .int x4, v5, v6] [.int y0] σ Q ↔ zW (d + 1) kL_law 825 [.ref 0, .ref 1, .ref 131, .ref 164, .int x4, v5, v6] [.int (x4 + 1), .ref 0, .ref 131, .int y0] σ Q := by
  refine Iff.trans (zw_aload_n (show decode cL_law 819 = .ok (.aload_n 2, 1) by decide +kernel) rfl) ?_
  refine Iff.trans (zw_aload_n (show decode cL_law 820 = .ok (.aload_n 0, 1) by decide +kernel) rfl) ?_
  refine Iff.trans (zw_iload (show decode cL_law 821 = .ok (.iload 4, 2) by decide +kernel) rfl) ?_
  refine Iff.trans (zw_iconst (x := 1) (show decode cL_law 823 = .ok (.iconst 1, 1) by decide +kernel) (by decide)) ?_
  refine Iff.trans (zw_iadd (show decode cL_law 824 = .ok (.iadd, 1) by decide +kernel)) ?_
  exact Iff.rfl

theorem bL_law_829 {d : Nat} {σ : zS} {Q : Option Value → zS → Prop} (hl : zLay σ) {x4 y0 y1 : Int32} {v5 v6 : Value} (hv5 : v5.category = 1) (hv6 : v6.category = 1) : zW (d + 1) kL_law 829 [.ref 0, .ref 1, .ref 131, .ref 164, .int x4, v5, v6] [.int y0, .int y1] σ Q ↔ (if y1 = y0 then zW (d + 1) kL_law 2094 [.ref 0, .ref 1, .ref 131, .ref 164, .int x4, v5, v6] [] σ Q else Q (some (.int 0)) σ) := by
  refine Iff.trans (zw_icmp_eq (t := 2094) (show decode cL_law 829 = .ok (.if_icmp .eq 1265, 3) by decide +kernel) (by decide)) ?_
  refine zw_ite ?_ ?_
  · exact Iff.rfl
  · refine Iff.trans (zw_iconst (x := 0) (show decode cL_law 832 = .ok (.iconst 0, 1) by decide +kernel) (by decide)) ?_
    exact zw_iret2c (show decode cL_law 833 = .ok (.ireturn, 1) by decide +kernel) rfl (Or.inl rfl)

theorem bL_law_834 {d : Nat} {σ : zS} {Q : Option Value → zS → Prop} (hl : zLay σ) {x4 : Int32} {v5 v6 : Value} (hv5 : v5.category = 1) (hv6 : v6.category = 1) : zW (d + 1) kL_law 834 [.ref 0, .ref 1, .ref 131, .ref 164, .int x4, v5, v6] [] σ Q ↔ zW (d + 1) kL_law 840 [.ref 0, .ref 1, .ref 131, .ref 164, .int x4, v5, v6] [.int (x4 + 1), .ref 0, .ref 1] σ Q := by
  refine Iff.trans (zw_aload_n (show decode cL_law 834 = .ok (.aload_n 1, 1) by decide +kernel) rfl) ?_
  refine Iff.trans (zw_aload_n (show decode cL_law 835 = .ok (.aload_n 0, 1) by decide +kernel) rfl) ?_
  refine Iff.trans (zw_iload (show decode cL_law 836 = .ok (.iload 4, 2) by decide +kernel) rfl) ?_
  refine Iff.trans (zw_iconst (x := 1) (show decode cL_law 838 = .ok (.iconst 1, 1) by decide +kernel) (by decide)) ?_
  refine Iff.trans (zw_iadd (show decode cL_law 839 = .ok (.iadd, 1) by decide +kernel)) ?_
  exact Iff.rfl

theorem bL_law_850 {d : Nat} {σ : zS} {Q : Option Value → zS → Prop} (hl : zLay σ) {x4 y0 : Int32} {v5 v6 : Value} (hv5 : v5.category = 1) (hv6 : v6.category = 1) : zW (d + 1) kL_law 850 [.ref 0, .ref 1, .ref 131, .ref 164, .int x4, v5, v6] [.int y0] σ Q ↔ zW (d + 1) kL_law 856 [.ref 0, .ref 1, .ref 131, .ref 164, .int x4, v5, v6] [.int (x4 + 1), .ref 0, .ref 131, .int y0] σ Q := by
  refine Iff.trans (zw_aload_n (show decode cL_law 850 = .ok (.aload_n 2, 1) by decide +kernel) rfl) ?_
  refine Iff.trans (zw_aload_n (show decode cL_law 851 = .ok (.aload_n 0, 1) by decide +kernel) rfl) ?_
  refine Iff.trans (zw_iload (show decode cL_law 852 = .ok (.iload 4, 2) by decide +kernel) rfl) ?_
  refine Iff.trans (zw_iconst (x := 1) (show decode cL_law 854 = .ok (.iconst 1, 1) by decide +kernel) (by decide)) ?_
  refine Iff.trans (zw_iadd (show decode cL_law 855 = .ok (.iadd, 1) by decide +kernel)) ?_
  exact Iff.rfl

theorem bL_law_866 {d : Nat} {σ : zS} {Q : Option Value → zS → Prop} (hl : zLay σ) {x4 y0 y1 : Int32} {v5 v6 : Value} (hv5 : v5.category = 1) (hv6 : v6.category = 1) : zW (d + 1) kL_law 866 [.ref 0, .ref 1, .ref 131, .ref 164, .int x4, v5, v6] [.int y0, .int y1] σ Q ↔ (if y1 = y0 then zW (d + 1) kL_law 2094 [.ref 0, .ref 1, .ref 131, .ref 164, .int x4, v5, v6] [] σ Q else Q (some (.int 0)) σ) := by
  refine Iff.trans (zw_icmp_eq (t := 2094) (show decode cL_law 866 = .ok (.if_icmp .eq 1228, 3) by decide +kernel) (by decide)) ?_
  refine zw_ite ?_ ?_
  · exact Iff.rfl
  · refine Iff.trans (zw_iconst (x := 0) (show decode cL_law 869 = .ok (.iconst 0, 1) by decide +kernel) (by decide)) ?_
    exact zw_iret2c (show decode cL_law 870 = .ok (.ireturn, 1) by decide +kernel) rfl (Or.inl rfl)

theorem bL_law_871 {d : Nat} {σ : zS} {Q : Option Value → zS → Prop} (hl : zLay σ) {x4 : Int32} {v5 v6 : Value} (hv5 : v5.category = 1) (hv6 : v6.category = 1) : zW (d + 1) kL_law 871 [.ref 0, .ref 1, .ref 131, .ref 164, .int x4, v5, v6] [] σ Q ↔ zW (d + 1) kL_law 877 [.ref 0, .ref 1, .ref 131, .ref 164, .int x4, v5, v6] [.int (x4 + 1), .ref 0, .ref 1] σ Q := by
  refine Iff.trans (zw_aload_n (show decode cL_law 871 = .ok (.aload_n 1, 1) by decide +kernel) rfl) ?_
  refine Iff.trans (zw_aload_n (show decode cL_law 872 = .ok (.aload_n 0, 1) by decide +kernel) rfl) ?_
  refine Iff.trans (zw_iload (show decode cL_law 873 = .ok (.iload 4, 2) by decide +kernel) rfl) ?_
  refine Iff.trans (zw_iconst (x := 1) (show decode cL_law 875 = .ok (.iconst 1, 1) by decide +kernel) (by decide)) ?_
  refine Iff.trans (zw_iadd (show decode cL_law 876 = .ok (.iadd, 1) by decide +kernel)) ?_
  exact Iff.rfl

theorem bL_law_893 {d : Nat} {σ : zS} {Q : Option Value → zS → Prop} (hl : zLay σ) {x4 y0 : Int32} {v5 v6 : Value} (hv5 : v5.category = 1) (hv6 : v6.category = 1) : zW (d + 1) kL_law 893 [.ref 0, .ref 1, .ref 131, .ref 164, .int x4, v5, v6] [.int y0] σ Q ↔ zW (d + 1) kL_law 899 [.ref 0, .ref 1, .ref 131, .ref 164, .int x4, v5, v6] [.int (x4 + 1), .ref 0, .ref 131, .int y0] σ Q := by
  refine Iff.trans (zw_aload_n (show decode cL_law 893 = .ok (.aload_n 2, 1) by decide +kernel) rfl) ?_
  refine Iff.trans (zw_aload_n (show decode cL_law 894 = .ok (.aload_n 0, 1) by decide +kernel) rfl) ?_
  refine Iff.trans (zw_iload (show decode cL_law 895 = .ok (.iload 4, 2) by decide +kernel) rfl) ?_
  refine Iff.trans (zw_iconst (x := 1) (show decode cL_law 897 = .ok (.iconst 1, 1) by decide +kernel) (by decide)) ?_
  refine Iff.trans (zw_iadd (show decode cL_law 898 = .ok (.iadd, 1) by decide +kernel)) ?_
  exact Iff.rfl

theorem bL_law_915 {d : Nat} {σ : zS} {Q : Option Value → zS → Prop} (hl : zLay σ) {x4 y0 y1 : Int32} {v5 v6 : Value} (hv5 : v5.category = 1) (hv6 : v6.category = 1) : zW (d + 1) kL_law 915 [.ref 0, .ref 1, .ref 131, .ref 164, .int x4, v5, v6] [.int y0, .int y1] σ Q ↔ (if y1 = y0 then zW (d + 1) kL_law 2094 [.ref 0, .ref 1, .ref 131, .ref 164, .int x4, v5, v6] [] σ Q else Q (some (.int 0)) σ) := by
  refine Iff.trans (zw_icmp_eq (t := 2094) (show decode cL_law 915 = .ok (.if_icmp .eq 1179, 3) by decide +kernel) (by decide)) ?_
  refine zw_ite ?_ ?_
  · exact Iff.rfl
  · refine Iff.trans (zw_iconst (x := 0) (show decode cL_law 918 = .ok (.iconst 0, 1) by decide +kernel) (by decide)) ?_
    exact zw_iret2c (show decode cL_law 919 = .ok (.ireturn, 1) by decide +kernel) rfl (Or.inl rfl)

theorem bL_law_920 {d : Nat} {σ : zS} {Q : Option Value → zS → Prop} (hl : zLay σ) {x4 : Int32} {v5 v6 : Value} (hv5 : v5.category = 1) (hv6 : v6.category = 1) : zW (d + 1) kL_law 920 [.ref 0, .ref 1, .ref 131, .ref 164, .int x4, v5, v6] [] σ Q ↔ zW (d + 1) kL_law 926 [.ref 0, .ref 1, .ref 131, .ref 164, .int x4, v5, v6] [.int (x4 + 1), .ref 0, .ref 1] σ Q := by
  refine Iff.trans (zw_aload_n (show decode cL_law 920 = .ok (.aload_n 1, 1) by decide +kernel) rfl) ?_
  refine Iff.trans (zw_aload_n (show decode cL_law 921 = .ok (.aload_n 0, 1) by decide +kernel) rfl) ?_
  refine Iff.trans (zw_iload (show decode cL_law 922 = .ok (.iload 4, 2) by decide +kernel) rfl) ?_
  refine Iff.trans (zw_iconst (x := 1) (show decode cL_law 924 = .ok (.iconst 1, 1) by decide +kernel) (by decide)) ?_
  refine Iff.trans (zw_iadd (show decode cL_law 925 = .ok (.iadd, 1) by decide +kernel)) ?_
  exact Iff.rfl

theorem bL_law_964 {d : Nat} {σ : zS} {Q : Option Value → zS → Prop} (hl : zLay σ) {x4 y0 : Int32} {v5 v6 : Value} (hv5 : v5.category = 1) (hv6 : v6.category = 1) : zW (d + 1) kL_law 964 [.ref 0, .ref 1, .ref 131, .ref 164, .int x4, v5, v6] [.int y0] σ Q ↔ zW (d + 1) kL_law 970 [.ref 0, .ref 1, .ref 131, .ref 164, .int x4, v5, v6] [.int (x4 + 1), .ref 0, .ref 131, .int y0] σ Q := by
  refine Iff.trans (zw_aload_n (show decode cL_law 964 = .ok (.aload_n 2, 1) by decide +kernel) rfl) ?_
  refine Iff.trans (zw_aload_n (show decode cL_law 965 = .ok (.aload_n 0, 1) by decide +kernel) rfl) ?_
  refine Iff.trans (zw_iload (show decode cL_law 966 = .ok (.iload 4, 2) by decide +kernel) rfl) ?_
  refine Iff.trans (zw_iconst (x := 1) (show decode cL_law 968 = .ok (.iconst 1, 1) by decide +kernel) (by decide)) ?_
  refine Iff.trans (zw_iadd (show decode cL_law 969 = .ok (.iadd, 1) by decide +kernel)) ?_
  exact Iff.rfl

theorem bL_law_1008 {d : Nat} {σ : zS} {Q : Option Value → zS → Prop} (hl : zLay σ) {x4 y0 y1 : Int32} {v5 v6 : Value} (hv5 : v5.category = 1) (hv6 : v6.category = 1) : zW (d + 1) kL_law 1008 [.ref 0, .ref 1, .ref 131, .ref 164, .int x4, v5, v6] [.int y0, .int y1] σ Q ↔ (if y1 = y0 then zW (d + 1) kL_law 2094 [.ref 0, .ref 1, .ref 131, .ref 164, .int x4, v5, v6] [] σ Q else Q (some (.int 0)) σ) := by
  refine Iff.trans (zw_icmp_eq (t := 2094) (show decode cL_law 1008 = .ok (.if_icmp .eq 1086, 3) by decide +kernel) (by decide)) ?_
  refine zw_ite ?_ ?_
  · exact Iff.rfl
  · refine Iff.trans (zw_iconst (x := 0) (show decode cL_law 1011 = .ok (.iconst 0, 1) by decide +kernel) (by decide)) ?_
    exact zw_iret2c (show decode cL_law 1012 = .ok (.ireturn, 1) by decide +kernel) rfl (Or.inl rfl)

theorem bL_law_1013 {d : Nat} {σ : zS} {Q : Option Value → zS → Prop} (hl : zLay σ) {x4 : Int32} {v5 v6 : Value} (hv5 : v5.category = 1) (hv6 : v6.category = 1) : zW (d + 1) kL_law 1013 [.ref 0, .ref 1, .ref 131, .ref 164, .int x4, v5, v6] [] σ Q ↔ zW (d + 1) kL_law 1019 [.ref 0, .ref 1, .ref 131, .ref 164, .int x4, v5, v6] [.int (x4 + 1), .ref 0, .ref 1] σ Q := by
  refine Iff.trans (zw_aload_n (show decode cL_law 1013 = .ok (.aload_n 1, 1) by decide +kernel) rfl) ?_
  refine Iff.trans (zw_aload_n (show decode cL_law 1014 = .ok (.aload_n 0, 1) by decide +kernel) rfl) ?_
  refine Iff.trans (zw_iload (show decode cL_law 1015 = .ok (.iload 4, 2) by decide +kernel) rfl) ?_
  refine Iff.trans (zw_iconst (x := 1) (show decode cL_law 1017 = .ok (.iconst 1, 1) by decide +kernel) (by decide)) ?_
  refine Iff.trans (zw_iadd (show decode cL_law 1018 = .ok (.iadd, 1) by decide +kernel)) ?_
  exact Iff.rfl

theorem bL_law_1041 {d : Nat} {σ : zS} {Q : Option Value → zS → Prop} (hl : zLay σ) {x4 y0 : Int32} {v5 v6 : Value} (hv5 : v5.category = 1) (hv6 : v6.category = 1) : zW (d + 1) kL_law 1041 [.ref 0, .ref 1, .ref 131, .ref 164, .int x4, v5, v6] [.int y0] σ Q ↔ zW (d + 1) kL_law 1047 [.ref 0, .ref 1, .ref 131, .ref 164, .int x4, v5, v6] [.int (x4 + 1), .ref 0, .ref 131, .int y0] σ Q := by
  refine Iff.trans (zw_aload_n (show decode cL_law 1041 = .ok (.aload_n 2, 1) by decide +kernel) rfl) ?_
  refine Iff.trans (zw_aload_n (show decode cL_law 1042 = .ok (.aload_n 0, 1) by decide +kernel) rfl) ?_
  refine Iff.trans (zw_iload (show decode cL_law 1043 = .ok (.iload 4, 2) by decide +kernel) rfl) ?_
  refine Iff.trans (zw_iconst (x := 1) (show decode cL_law 1045 = .ok (.iconst 1, 1) by decide +kernel) (by decide)) ?_
  refine Iff.trans (zw_iadd (show decode cL_law 1046 = .ok (.iadd, 1) by decide +kernel)) ?_
  exact Iff.rfl

theorem bL_law_1069 {d : Nat} {σ : zS} {Q : Option Value → zS → Prop} (hl : zLay σ) {x4 y0 y1 : Int32} {v5 v6 : Value} (hv5 : v5.category = 1) (hv6 : v6.category = 1) : zW (d + 1) kL_law 1069 [.ref 0, .ref 1, .ref 131, .ref 164, .int x4, v5, v6] [.int y0, .int y1] σ Q ↔ (if y1 = y0 then zW (d + 1) kL_law 2094 [.ref 0, .ref 1, .ref 131, .ref 164, .int x4, v5, v6] [] σ Q else Q (some (.int 0)) σ) := by
  refine Iff.trans (zw_icmp_eq (t := 2094) (show decode cL_law 1069 = .ok (.if_icmp .eq 1025, 3) by decide +kernel) (by decide)) ?_
  refine zw_ite ?_ ?_
  · exact Iff.rfl
  · refine Iff.trans (zw_iconst (x := 0) (show decode cL_law 1072 = .ok (.iconst 0, 1) by decide +kernel) (by decide)) ?_
    exact zw_iret2c (show decode cL_law 1073 = .ok (.ireturn, 1) by decide +kernel) rfl (Or.inl rfl)

theorem bL_law_1074 {d : Nat} {σ : zS} {Q : Option Value → zS → Prop} (hl : zLay σ) {x4 : Int32} {v5 v6 : Value} (hv5 : v5.category = 1) (hv6 : v6.category = 1) : zW (d + 1) kL_law 1074 [.ref 0, .ref 1, .ref 131, .ref 164, .int x4, v5, v6] [] σ Q ↔ zW (d + 1) kL_law 1080 [.ref 0, .ref 1, .ref 131, .ref 164, .int x4, v5, v6] [.int (x4 + 1), .ref 0, .ref 1] σ Q := by
  refine Iff.trans (zw_aload_n (show decode cL_law 1074 = .ok (.aload_n 1, 1) by decide +kernel) rfl) ?_
  refine Iff.trans (zw_aload_n (show decode cL_law 1075 = .ok (.aload_n 0, 1) by decide +kernel) rfl) ?_
  refine Iff.trans (zw_iload (show decode cL_law 1076 = .ok (.iload 4, 2) by decide +kernel) rfl) ?_
  refine Iff.trans (zw_iconst (x := 1) (show decode cL_law 1078 = .ok (.iconst 1, 1) by decide +kernel) (by decide)) ?_
  refine Iff.trans (zw_iadd (show decode cL_law 1079 = .ok (.iadd, 1) by decide +kernel)) ?_
  exact Iff.rfl

theorem bL_law_1102 {d : Nat} {σ : zS} {Q : Option Value → zS → Prop} (hl : zLay σ) {x4 y0 : Int32} {v5 v6 : Value} (hv5 : v5.category = 1) (hv6 : v6.category = 1) : zW (d + 1) kL_law 1102 [.ref 0, .ref 1, .ref 131, .ref 164, .int x4, v5, v6] [.int y0] σ Q ↔ zW (d + 1) kL_law 1108 [.ref 0, .ref 1, .ref 131, .ref 164, .int x4, v5, v6] [.int (x4 + 1), .ref 0, .ref 131, .int y0] σ Q := by
  refine Iff.trans (zw_aload_n (show decode cL_law 1102 = .ok (.aload_n 2, 1) by decide +kernel) rfl) ?_
  refine Iff.trans (zw_aload_n (show decode cL_law 1103 = .ok (.aload_n 0, 1) by decide +kernel) rfl) ?_
  refine Iff.trans (zw_iload (show decode cL_law 1104 = .ok (.iload 4, 2) by decide +kernel) rfl) ?_
  refine Iff.trans (zw_iconst (x := 1) (show decode cL_law 1106 = .ok (.iconst 1, 1) by decide +kernel) (by decide)) ?_
  refine Iff.trans (zw_iadd (show decode cL_law 1107 = .ok (.iadd, 1) by decide +kernel)) ?_
  exact Iff.rfl

theorem bL_law_1130 {d : Nat} {σ : zS} {Q : Option Value → zS → Prop} (hl : zLay σ) {x4 y0 y1 : Int32} {v5 v6 : Value} (hv5 : v5.category = 1) (hv6 : v6.category = 1) : zW (d + 1) kL_law 1130 [.ref 0, .ref 1, .ref 131, .ref 164, .int x4, v5, v6] [.int y0, .int y1] σ Q ↔ (if y1 = y0 then zW (d + 1) kL_law 2094 [.ref 0, .ref 1, .ref 131, .ref 164, .int x4, v5, v6] [] σ Q else Q (some (.int 0)) σ) := by
  refine Iff.trans (zw_icmp_eq (t := 2094) (show decode cL_law 1130 = .ok (.if_icmp .eq 964, 3) by decide +kernel) (by decide)) ?_
  refine zw_ite ?_ ?_
  · exact Iff.rfl
  · refine Iff.trans (zw_iconst (x := 0) (show decode cL_law 1133 = .ok (.iconst 0, 1) by decide +kernel) (by decide)) ?_
    exact zw_iret2c (show decode cL_law 1134 = .ok (.ireturn, 1) by decide +kernel) rfl (Or.inl rfl)

theorem bL_law_1135 {d : Nat} {σ : zS} {Q : Option Value → zS → Prop} (hl : zLay σ) {x4 : Int32} {v5 v6 : Value} (hv5 : v5.category = 1) (hv6 : v6.category = 1) : zW (d + 1) kL_law 1135 [.ref 0, .ref 1, .ref 131, .ref 164, .int x4, v5, v6] [] σ Q ↔ zW (d + 1) kL_law 1141 [.ref 0, .ref 1, .ref 131, .ref 164, .int x4, v5, v6] [.int (x4 + 1), .ref 0, .ref 1] σ Q := by
  refine Iff.trans (zw_aload_n (show decode cL_law 1135 = .ok (.aload_n 1, 1) by decide +kernel) rfl) ?_
  refine Iff.trans (zw_aload_n (show decode cL_law 1136 = .ok (.aload_n 0, 1) by decide +kernel) rfl) ?_
  refine Iff.trans (zw_iload (show decode cL_law 1137 = .ok (.iload 4, 2) by decide +kernel) rfl) ?_
  refine Iff.trans (zw_iconst (x := 1) (show decode cL_law 1139 = .ok (.iconst 1, 1) by decide +kernel) (by decide)) ?_
  refine Iff.trans (zw_iadd (show decode cL_law 1140 = .ok (.iadd, 1) by decide +kernel)) ?_
  exact Iff.rfl

theorem bL_law_1169 {d : Nat} {σ : zS} {Q : Option Value → zS → Prop} (hl : zLay σ) {x4 y0 : Int32} {v5 v6 : Value} (hv5 : v5.category = 1) (hv6 : v6.category = 1) : zW (d + 1) kL_law 1169 [.ref 0, .ref 1, .ref 131, .ref 164, .int x4, v5, v6] [.int y0] σ Q ↔ zW (d + 1) kL_law 1175 [.ref 0, .ref 1, .ref 131, .ref 164, .int x4, v5, v6] [.int (x4 + 1), .ref 0, .ref 131, .int y0] σ Q := by
  refine Iff.trans (zw_aload_n (show decode cL_law 1169 = .ok (.aload_n 2, 1) by decide +kernel) rfl) ?_
  refine Iff.trans (zw_aload_n (show decode cL_law 1170 = .ok (.aload_n 0, 1) by decide +kernel) rfl) ?_
  refine Iff.trans (zw_iload (show decode cL_law 1171 = .ok (.iload 4, 2) by decide +kernel) rfl) ?_
  refine Iff.trans (zw_iconst (x := 1) (show decode cL_law 1173 = .ok (.iconst 1, 1) by decide +kernel) (by decide)) ?_
  refine Iff.trans (zw_iadd (show decode cL_law 1174 = .ok (.iadd, 1) by decide +kernel)) ?_
  exact Iff.rfl

theorem bL_law_1203 {d : Nat} {σ : zS} {Q : Option Value → zS → Prop} (hl : zLay σ) {x4 y0 y1 : Int32} {v5 v6 : Value} (hv5 : v5.category = 1) (hv6 : v6.category = 1) : zW (d + 1) kL_law 1203 [.ref 0, .ref 1, .ref 131, .ref 164, .int x4, v5, v6] [.int y0, .int y1] σ Q ↔ (if y1 = y0 then zW (d + 1) kL_law 2094 [.ref 0, .ref 1, .ref 131, .ref 164, .int x4, v5, v6] [] σ Q else Q (some (.int 0)) σ) := by
  refine Iff.trans (zw_icmp_eq (t := 2094) (show decode cL_law 1203 = .ok (.if_icmp .eq 891, 3) by decide +kernel) (by decide)) ?_
  refine zw_ite ?_ ?_
  · exact Iff.rfl
  · refine Iff.trans (zw_iconst (x := 0) (show decode cL_law 1206 = .ok (.iconst 0, 1) by decide +kernel) (by decide)) ?_
    exact zw_iret2c (show decode cL_law 1207 = .ok (.ireturn, 1) by decide +kernel) rfl (Or.inl rfl)

theorem bL_law_1208 {d : Nat} {σ : zS} {Q : Option Value → zS → Prop} (hl : zLay σ) {x4 : Int32} {v5 v6 : Value} (hv5 : v5.category = 1) (hv6 : v6.category = 1) : zW (d + 1) kL_law 1208 [.ref 0, .ref 1, .ref 131, .ref 164, .int x4, v5, v6] [] σ Q ↔ zW (d + 1) kL_law 1214 [.ref 0, .ref 1, .ref 131, .ref 164, .int x4, v5, v6] [.int (x4 + 1), .ref 0, .ref 1] σ Q := by
  refine Iff.trans (zw_aload_n (show decode cL_law 1208 = .ok (.aload_n 1, 1) by decide +kernel) rfl) ?_
  refine Iff.trans (zw_aload_n (show decode cL_law 1209 = .ok (.aload_n 0, 1) by decide +kernel) rfl) ?_
  refine Iff.trans (zw_iload (show decode cL_law 1210 = .ok (.iload 4, 2) by decide +kernel) rfl) ?_
  refine Iff.trans (zw_iconst (x := 1) (show decode cL_law 1212 = .ok (.iconst 1, 1) by decide +kernel) (by decide)) ?_
  refine Iff.trans (zw_iadd (show decode cL_law 1213 = .ok (.iadd, 1) by decide +kernel)) ?_
  exact Iff.rfl

theorem bL_law_1230 {d : Nat} {σ : zS} {Q : Option Value → zS → Prop} (hl : zLay σ) {x4 y0 : Int32} {v5 v6 : Value} (hv5 : v5.category = 1) (hv6 : v6.category = 1) : zW (d + 1) kL_law 1230 [.ref 0, .ref 1, .ref 131, .ref 164, .int x4, v5, v6] [.int y0] σ Q ↔ zW (d + 1) kL_law 1236 [.ref 0, .ref 1, .ref 131, .ref 164, .int x4, v5, v6] [.int (x4 + 1), .ref 0, .ref 131, .int y0] σ Q := by
  refine Iff.trans (zw_aload_n (show decode cL_law 1230 = .ok (.aload_n 2, 1) by decide +kernel) rfl) ?_
  refine Iff.trans (zw_aload_n (show decode cL_law 1231 = .ok (.aload_n 0, 1) by decide +kernel) rfl) ?_
  refine Iff.trans (zw_iload (show decode cL_law 1232 = .ok (.iload 4, 2) by decide +kernel) rfl) ?_
  refine Iff.trans (zw_iconst (x := 1) (show decode cL_law 1234 = .ok (.iconst 1, 1) by decide +kernel) (by decide)) ?_
  refine Iff.trans (zw_iadd (show decode cL_law 1235 = .ok (.iadd, 1) by decide +kernel)) ?_
  exact Iff.rfl

theorem bL_law_1252 {d : Nat} {σ : zS} {Q : Option Value → zS → Prop} (hl : zLay σ) {x4 y0 y1 : Int32} {v5 v6 : Value} (hv5 : v5.category = 1) (hv6 : v6.category = 1) : zW (d + 1) kL_law 1252 [.ref 0, .ref 1, .ref 131, .ref 164, .int x4, v5, v6] [.int y0, .int y1] σ Q ↔ (if y1 = y0 then zW (d + 1) kL_law 2094 [.ref 0, .ref 1, .ref 131, .ref 164, .int x4, v5, v6] [] σ Q else Q (some (.int 0)) σ) := by
  refine Iff.trans (zw_icmp_eq (t := 2094) (show decode cL_law 1252 = .ok (.if_icmp .eq 842, 3) by decide +kernel) (by decide)) ?_
  refine zw_ite ?_ ?_
  · exact Iff.rfl
  · refine Iff.trans (zw_iconst (x := 0) (show decode cL_law 1255 = .ok (.iconst 0, 1) by decide +kernel) (by decide)) ?_
    exact zw_iret2c (show decode cL_law 1256 = .ok (.ireturn, 1) by decide +kernel) rfl (Or.inl rfl)

theorem bL_law_1257 {d : Nat} {σ : zS} {Q : Option Value → zS → Prop} (hl : zLay σ) {x4 : Int32} {v5 v6 : Value} (hv5 : v5.category = 1) (hv6 : v6.category = 1) : zW (d + 1) kL_law 1257 [.ref 0, .ref 1, .ref 131, .ref 164, .int x4, v5, v6] [] σ Q ↔ zW (d + 1) kL_law 1263 [.ref 0, .ref 1, .ref 131, .ref 164, .int x4, v5, v6] [.int (x4 + 1), .ref 0, .ref 1] σ Q := by
  refine Iff.trans (zw_aload_n (show decode cL_law 1257 = .ok (.aload_n 1, 1) by decide +kernel) rfl) ?_
  refine Iff.trans (zw_aload_n (show decode cL_law 1258 = .ok (.aload_n 0, 1) by decide +kernel) rfl) ?_
  refine Iff.trans (zw_iload (show decode cL_law 1259 = .ok (.iload 4, 2) by decide +kernel) rfl) ?_
  refine Iff.trans (zw_iconst (x := 1) (show decode cL_law 1261 = .ok (.iconst 1, 1) by decide +kernel) (by decide)) ?_
  refine Iff.trans (zw_iadd (show decode cL_law 1262 = .ok (.iadd, 1) by decide +kernel)) ?_
  exact Iff.rfl

theorem bL_law_1285 {d : Nat} {σ : zS} {Q : Option Value → zS → Prop} (hl : zLay σ) {x4 y0 : Int32} {v5 v6 : Value} (hv5 : v5.category = 1) (hv6 : v6.category = 1) : zW (d + 1) kL_law 1285 [.ref 0, .ref 1, .ref 131, .ref 164, .int x4, v5, v6] [.int y0] σ Q ↔ zW (d + 1) kL_law 1291 [.ref 0, .ref 1, .ref 131, .ref 164, .int x4, v5, v6] [.int (x4 + 1), .ref 0, .ref 131, .int y0] σ Q := by
  refine Iff.trans (zw_aload_n (show decode cL_law 1285 = .ok (.aload_n 2, 1) by decide +kernel) rfl) ?_
  refine Iff.trans (zw_aload_n (show decode cL_law 1286 = .ok (.aload_n 0, 1) by decide +kernel) rfl) ?_
  refine Iff.trans (zw_iload (show decode cL_law 1287 = .ok (.iload 4, 2) by decide +kernel) rfl) ?_
  refine Iff.trans (zw_iconst (x := 1) (show decode cL_law 1289 = .ok (.iconst 1, 1) by decide +kernel) (by decide)) ?_
  refine Iff.trans (zw_iadd (show decode cL_law 1290 = .ok (.iadd, 1) by decide +kernel)) ?_
  exact Iff.rfl

theorem bL_law_1313 {d : Nat} {σ : zS} {Q : Option Value → zS → Prop} (hl : zLay σ) {x4 y0 y1 : Int32} {v5 v6 : Value} (hv5 : v5.category = 1) (hv6 : v6.category = 1) : zW (d + 1) kL_law 1313 [.ref 0, .ref 1, .ref 131, .ref 164, .int x4, v5, v6] [.int y0, .int y1] σ Q ↔ (if y1 = y0 then zW (d + 1) kL_law 2094 [.ref 0, .ref 1, .ref 131, .ref 164, .int x4, v5, v6] [] σ Q else Q (some (.int 0)) σ) := by
  refine Iff.trans (zw_icmp_eq (t := 2094) (show decode cL_law 1313 = .ok (.if_icmp .eq 781, 3) by decide +kernel) (by decide)) ?_
  refine zw_ite ?_ ?_
  · exact Iff.rfl
  · refine Iff.trans (zw_iconst (x := 0) (show decode cL_law 1316 = .ok (.iconst 0, 1) by decide +kernel) (by decide)) ?_
    exact zw_iret2c (show decode cL_law 1317 = .ok (.ireturn, 1) by decide +kernel) rfl (Or.inl rfl)

theorem bL_law_1318 {d : Nat} {σ : zS} {Q : Option Value → zS → Prop} (hl : zLay σ) {x4 : Int32} {v5 v6 : Value} (hv5 : v5.category = 1) (hv6 : v6.category = 1) : zW (d + 1) kL_law 1318 [.ref 0, .ref 1, .ref 131, .ref 164, .int x4, v5, v6] [] σ Q ↔ zW (d + 1) kL_law 1324 [.ref 0, .ref 1, .ref 131, .ref 164, .int x4, v5, v6] [.int (x4 + 1), .ref 0, .ref 1] σ Q := by
  refine Iff.trans (zw_aload_n (show decode cL_law 1318 = .ok (.aload_n 1, 1) by decide +kernel) rfl) ?_
  refine Iff.trans (zw_aload_n (show decode cL_law 1319 = .ok (.aload_n 0, 1) by decide +kernel) rfl) ?_
  refine Iff.trans (zw_iload (show decode cL_law 1320 = .ok (.iload 4, 2) by decide +kernel) rfl) ?_
  refine Iff.trans (zw_iconst (x := 1) (show decode cL_law 1322 = .ok (.iconst 1, 1) by decide +kernel) (by decide)) ?_
  refine Iff.trans (zw_iadd (show decode cL_law 1323 = .ok (.iadd, 1) by decide +kernel)) ?_
  exact Iff.rfl

theorem bL_law_1340 {d : Nat} {σ : zS} {Q : Option Value → zS → Prop} (hl : zLay σ) {x4 y0 : Int32} {v5 v6 : Value} (hv5 : v5.category = 1) (hv6 : v6.category = 1) : zW (d + 1) kL_law 1340 [.ref 0, .ref 1, .ref 131, .ref 164, .int x4, v5, v6] [.int y0] σ Q ↔ zW (d + 1) kL_law 1346 [.ref 0, .ref 1, .ref 131, .ref 164, .int x4, v5, v6] [.int (x4 + 1), .ref 0, .ref 131, .int y0] σ Q := by
  refine Iff.trans (zw_aload_n (show decode cL_law 1340 = .ok (.aload_n 2, 1) by decide +kernel) rfl) ?_
  refine Iff.trans (zw_aload_n (show decode cL_law 1341 = .ok (.aload_n 0, 1) by decide +kernel) rfl) ?_
  refine Iff.trans (zw_iload (show decode cL_law 1342 = .ok (.iload 4, 2) by decide +kernel) rfl) ?_
  refine Iff.trans (zw_iconst (x := 1) (show decode cL_law 1344 = .ok (.iconst 1, 1) by decide +kernel) (by decide)) ?_
  refine Iff.trans (zw_iadd (show decode cL_law 1345 = .ok (.iadd, 1) by decide +kernel)) ?_
  exact Iff.rfl

theorem bL_law_1362 {d : Nat} {σ : zS} {Q : Option Value → zS → Prop} (hl : zLay σ) {x4 y0 y1 : Int32} {v5 v6 : Value} (hv5 : v5.category = 1) (hv6 : v6.category = 1) : zW (d + 1) kL_law 1362 [.ref 0, .ref 1, .ref 131, .ref 164, .int x4, v5, v6] [.int y0, .int y1] σ Q ↔ (if y1 = y0 then zW (d + 1) kL_law 2094 [.ref 0, .ref 1, .ref 131, .ref 164, .int x4, v5, v6] [] σ Q else Q (some (.int 0)) σ) := by
  refine Iff.trans (zw_icmp_eq (t := 2094) (show decode cL_law 1362 = .ok (.if_icmp .eq 732, 3) by decide +kernel) (by decide)) ?_
  refine zw_ite ?_ ?_
  · exact Iff.rfl
  · refine Iff.trans (zw_iconst (x := 0) (show decode cL_law 1365 = .ok (.iconst 0, 1) by decide +kernel) (by decide)) ?_
    exact zw_iret2c (show decode cL_law 1366 = .ok (.ireturn, 1) by decide +kernel) rfl (Or.inl rfl)

theorem bL_law_1367 {d : Nat} {σ : zS} {Q : Option Value → zS → Prop} (hl : zLay σ) {x4 : Int32} {v5 v6 : Value} (hv5 : v5.category = 1) (hv6 : v6.category = 1) : zW (d + 1) kL_law 1367 [.ref 0, .ref 1, .ref 131, .ref 164, .int x4, v5, v6] [] σ Q ↔ zW (d + 1) kL_law 1373 [.ref 0, .ref 1, .ref 131, .ref 164, .int x4, v5, v6] [.int (x4 + 1), .ref 0, .ref 1] σ Q := by
  refine Iff.trans (zw_aload_n (show decode cL_law 1367 = .ok (.aload_n 1, 1) by decide +kernel) rfl) ?_
  refine Iff.trans (zw_aload_n (show decode cL_law 1368 = .ok (.aload_n 0, 1) by decide +kernel) rfl) ?_
  refine Iff.trans (zw_iload (show decode cL_law 1369 = .ok (.iload 4, 2) by decide +kernel) rfl) ?_
  refine Iff.trans (zw_iconst (x := 1) (show decode cL_law 1371 = .ok (.iconst 1, 1) by decide +kernel) (by decide)) ?_
  refine Iff.trans (zw_iadd (show decode cL_law 1372 = .ok (.iadd, 1) by decide +kernel)) ?_
  exact Iff.rfl

theorem bL_law_1389 {d : Nat} {σ : zS} {Q : Option Value → zS → Prop} (hl : zLay σ) {x4 y0 : Int32} {v5 v6 : Value} (hv5 : v5.category = 1) (hv6 : v6.category = 1) : zW (d + 1) kL_law 1389 [.ref 0, .ref 1, .ref 131, .ref 164, .int x4, v5, v6] [.int y0] σ Q ↔ zW (d + 1) kL_law 1395 [.ref 0, .ref 1, .ref 131, .ref 164, .int x4, v5, v6] [.int (x4 + 1), .ref 0, .ref 131, .int y0] σ Q := by
  refine Iff.trans (zw_aload_n (show decode cL_law 1389 = .ok (.aload_n 2, 1) by decide +kernel) rfl) ?_
  refine Iff.trans (zw_aload_n (show decode cL_law 1390 = .ok (.aload_n 0, 1) by decide +kernel) rfl) ?_
  refine Iff.trans (zw_iload (show decode cL_law 1391 = .ok (.iload 4, 2) by decide +kernel) rfl) ?_
  refine Iff.trans (zw_iconst (x := 1) (show decode cL_law 1393 = .ok (.iconst 1, 1) by decide +kernel) (by decide)) ?_
  refine Iff.trans (zw_iadd (show decode cL_law 1394 = .ok (.iadd, 1) by decide +kernel)) ?_
  exact Iff.rfl

theorem bL_law_1411 {d : Nat} {σ : zS} {Q : Option Value → zS → Prop} (hl : zLay σ) {x4 y0 y1 : Int32} {v5 v6 : Value} (hv5 : v5.category = 1) (hv6 : v6.category = 1) : zW (d + 1) kL_law 1411 [.ref 0, .ref 1, .ref 131, .ref 164, .int x4, v5, v6] [.int y0, .int y1] σ Q ↔ (if y1 = y0 then zW (d + 1) kL_law 2094 [.ref 0, .ref 1, .ref 131, .ref 164, .int x4, v5, v6] [] σ Q else Q (some (.int 0)) σ) := by
  refine Iff.trans (zw_icmp_eq (t := 2094) (show decode cL_law 1411 = .ok (.if_icmp .eq 683, 3) by decide +kernel) (by decide)) ?_
  refine zw_ite ?_ ?_
  · exact Iff.rfl
  · refine Iff.trans (zw_iconst (x := 0) (show decode cL_law 1414 = .ok (.iconst 0, 1) by decide +kernel) (by decide)) ?_
    exact zw_iret2c (show decode cL_law 1415 = .ok (.ireturn, 1) by decide +kernel) rfl (Or.inl rfl)

theorem bL_law_1416 {d : Nat} {σ : zS} {Q : Option Value → zS → Prop} (hl : zLay σ) {x4 : Int32} {v5 v6 : Value} (hv5 : v5.category = 1) (hv6 : v6.category = 1) : zW (d + 1) kL_law 1416 [.ref 0, .ref 1, .ref 131, .ref 164, .int x4, v5, v6] [] σ Q ↔ zW (d + 1) kL_law 1422 [.ref 0, .ref 1, .ref 131, .ref 164, .int x4, v5, v6] [.int (x4 + 1), .ref 0, .ref 1] σ Q := by
  refine Iff.trans (zw_aload_n (show decode cL_law 1416 = .ok (.aload_n 1, 1) by decide +kernel) rfl) ?_
  refine Iff.trans (zw_aload_n (show decode cL_law 1417 = .ok (.aload_n 0, 1) by decide +kernel) rfl) ?_
  refine Iff.trans (zw_iload (show decode cL_law 1418 = .ok (.iload 4, 2) by decide +kernel) rfl) ?_
  refine Iff.trans (zw_iconst (x := 1) (show decode cL_law 1420 = .ok (.iconst 1, 1) by decide +kernel) (by decide)) ?_
  refine Iff.trans (zw_iadd (show decode cL_law 1421 = .ok (.iadd, 1) by decide +kernel)) ?_
  exact Iff.rfl

theorem bL_law_1432 {d : Nat} {σ : zS} {Q : Option Value → zS → Prop} (hl : zLay σ) {x4 y0 : Int32} {v5 v6 : Value} (hv5 : v5.category = 1) (hv6 : v6.category = 1) : zW (d + 1) kL_law 1432 [.ref 0, .ref 1, .ref 131, .ref 164, .int x4, v5, v6] [.int y0] σ Q ↔ zW (d + 1) kL_law 1438 [.ref 0, .ref 1, .ref 131, .ref 164, .int x4, v5, v6] [.int (x4 + 1), .ref 0, .ref 131, .int y0] σ Q := by
  refine Iff.trans (zw_aload_n (show decode cL_law 1432 = .ok (.aload_n 2, 1) by decide +kernel) rfl) ?_
  refine Iff.trans (zw_aload_n (show decode cL_law 1433 = .ok (.aload_n 0, 1) by decide +kernel) rfl) ?_
  refine Iff.trans (zw_iload (show decode cL_law 1434 = .ok (.iload 4, 2) by decide +kernel) rfl) ?_
  refine Iff.trans (zw_iconst (x := 1) (show decode cL_law 1436 = .ok (.iconst 1, 1) by decide +kernel) (by decide)) ?_
  refine Iff.trans (zw_iadd (show decode cL_law 1437 = .ok (.iadd, 1) by decide +kernel)) ?_
  exact Iff.rfl

theorem bL_law_1448 {d : Nat} {σ : zS} {Q : Option Value → zS → Prop} (hl : zLay σ) {x4 y0 y1 : Int32} {v5 v6 : Value} (hv5 : v5.category = 1) (hv6 : v6.category = 1) : zW (d + 1) kL_law 1448 [.ref 0, .ref 1, .ref 131, .ref 164, .int x4, v5, v6] [.int y0, .int y1] σ Q ↔ (if y1 = y0 then zW (d + 1) kL_law 2094 [.ref 0, .ref 1, .ref 131, .ref 164, .int x4, v5, v6] [] σ Q else Q (some (.int 0)) σ) := by
  refine Iff.trans (zw_icmp_eq (t := 2094) (show decode cL_law 1448 = .ok (.if_icmp .eq 646, 3) by decide +kernel) (by decide)) ?_
  refine zw_ite ?_ ?_
  · exact Iff.rfl
  · refine Iff.trans (zw_iconst (x := 0) (show decode cL_law 1451 = .ok (.iconst 0, 1) by decide +kernel) (by decide)) ?_
    exact zw_iret2c (show decode cL_law 1452 = .ok (.ireturn, 1) by decide +kernel) rfl (Or.inl rfl)

theorem bL_law_1453 {d : Nat} {σ : zS} {Q : Option Value → zS → Prop} (hl : zLay σ) {x4 : Int32} {v5 v6 : Value} (hv5 : v5.category = 1) (hv6 : v6.category = 1) : zW (d + 1) kL_law 1453 [.ref 0, .ref 1, .ref 131, .ref 164, .int x4, v5, v6] [] σ Q ↔ zW (d + 1) kL_law 1459 [.ref 0, .ref 1, .ref 131, .ref 164, .int x4, v5, v6] [.int (x4 + 1), .ref 0, .ref 1] σ Q := by
  refine Iff.trans (zw_aload_n (show decode cL_law 1453 = .ok (.aload_n 1, 1) by decide +kernel) rfl) ?_
  refine Iff.trans (zw_aload_n (show decode cL_law 1454 = .ok (.aload_n 0, 1) by decide +kernel) rfl) ?_
  refine Iff.trans (zw_iload (show decode cL_law 1455 = .ok (.iload 4, 2) by decide +kernel) rfl) ?_
  refine Iff.trans (zw_iconst (x := 1) (show decode cL_law 1457 = .ok (.iconst 1, 1) by decide +kernel) (by decide)) ?_
  refine Iff.trans (zw_iadd (show decode cL_law 1458 = .ok (.iadd, 1) by decide +kernel)) ?_
  exact Iff.rfl

theorem bL_law_1475 {d : Nat} {σ : zS} {Q : Option Value → zS → Prop} (hl : zLay σ) {x4 y0 : Int32} {v5 v6 : Value} (hv5 : v5.category = 1) (hv6 : v6.category = 1) : zW (d + 1) kL_law 1475 [.ref 0, .ref 1, .ref 131, .ref 164, .int x4, v5, v6] [.int y0] σ Q ↔ zW (d + 1) kL_law 1481 [.ref 0, .ref 1, .ref 131, .ref 164, .int x4, v5, v6] [.int (x4 + 1), .ref 0, .ref 131, .int y0] σ Q := by
  refine Iff.trans (zw_aload_n (show decode cL_law 1475 = .ok (.aload_n 2, 1) by decide +kernel) rfl) ?_
  refine Iff.trans (zw_aload_n (show decode cL_law 1476 = .ok (.aload_n 0, 1) by decide +kernel) rfl) ?_
  refine Iff.trans (zw_iload (show decode cL_law 1477 = .ok (.iload 4, 2) by decide +kernel) rfl) ?_
  refine Iff.trans (zw_iconst (x := 1) (show decode cL_law 1479 = .ok (.iconst 1, 1) by decide +kernel) (by decide)) ?_
  refine Iff.trans (zw_iadd (show decode cL_law 1480 = .ok (.iadd, 1) by decide +kernel)) ?_
  exact Iff.rfl

theorem bL_law_1497 {d : Nat} {σ : zS} {Q : Option Value → zS → Prop} (hl : zLay σ) {x4 y0 y1 : Int32} {v5 v6 : Value} (hv5 : v5.category = 1) (hv6 : v6.category = 1) : zW (d + 1) kL_law 1497 [.ref 0, .ref 1, .ref 131, .ref 164, .int x4, v5, v6] [.int y0, .int y1] σ Q ↔ (if y1 = y0 then zW (d + 1) kL_law 2094 [.ref 0, .ref 1, .ref 131, .ref 164, .int x4, v5, v6] [] σ Q else Q (some (.int 0)) σ) := by
  refine Iff.trans (zw_icmp_eq (t := 2094) (show decode cL_law 1497 = .ok (.if_icmp .eq 597, 3) by decide +kernel) (by decide)) ?_
  refine zw_ite ?_ ?_
  · exact Iff.rfl
  · refine Iff.trans (zw_iconst (x := 0) (show decode cL_law 1500 = .ok (.iconst 0, 1) by decide +kernel) (by decide)) ?_
    exact zw_iret2c (show decode cL_law 1501 = .ok (.ireturn, 1) by decide +kernel) rfl (Or.inl rfl)

theorem bL_law_1502 {d : Nat} {σ : zS} {Q : Option Value → zS → Prop} (hl : zLay σ) {x4 : Int32} {v5 v6 : Value} (hv5 : v5.category = 1) (hv6 : v6.category = 1) : zW (d + 1) kL_law 1502 [.ref 0, .ref 1, .ref 131, .ref 164, .int x4, v5, v6] [] σ Q ↔ zCall d kX11_agree [.ref 1] σ (fun r σ' => zisN r = true ∧ zW (d + 1) kL_law 1506 [.ref 0, .ref 1, .ref 131, .ref 164, .int x4, v5, v6] (zRstk r ++ []) σ' Q) := by
  refine Iff.trans (zw_aload_n (show decode cL_law 1502 = .ok (.aload_n 1, 1) by decide +kernel) rfl) ?_
  refine Iff.trans (zw_invV (K' := kX11_agree) (as' := []) (rest := []) (show decode cL_law 1503 = .ok (.invokevirtual 143, 3) by decide +kernel) (by rfl) rfl rfl rfl (hl.k2 zk_1) (by decide) (hl.n2 zk_1) ⟨Nat.le_of_ble_eq_true rfl, Nat.le_of_ble_eq_true rfl, Nat.le_of_ble_eq_true rfl⟩) ?_
  exact Iff.rfl

theorem bL_law_1506 {d : Nat} {σ : zS} {Q : Option Value → zS → Prop} (hl : zLay σ) {x4 y0 : Int32} {v5 v6 : Value} (hv5 : v5.category = 1) (hv6 : v6.category = 1) : zW (d + 1) kL_law 1506 [.ref 0, .ref 1, .ref 131, .ref 164, .int x4, v5, v6] [.int y0] σ Q ↔ zCall d kX12_agree [.ref 131] σ (fun r σ' => zisN r = true ∧ zW (d + 1) kL_law 1510 [.ref 0, .ref 1, .ref 131, .ref 164, .int x4, v5, v6] (zRstk r ++ [.int y0]) σ' Q) := by
  refine Iff.trans (zw_aload_n (show decode cL_law 1506 = .ok (.aload_n 2, 1) by decide +kernel) rfl) ?_
  refine Iff.trans (zw_invV (K' := kX12_agree) (as' := []) (rest := [.int y0]) (show decode cL_law 1507 = .ok (.invokevirtual 146, 3) by decide +kernel) (by rfl) rfl rfl rfl (hl.k2 zk_131) (by decide) (hl.n2 zk_131) ⟨Nat.le_of_ble_eq_true rfl, Nat.le_of_ble_eq_true rfl, Nat.le_of_ble_eq_true rfl⟩) ?_
  exact Iff.rfl

theorem bL_law_1510 {d : Nat} {σ : zS} {Q : Option Value → zS → Prop} (hl : zLay σ) {x4 y0 y1 : Int32} {v5 v6 : Value} (hv5 : v5.category = 1) (hv6 : v6.category = 1) : zW (d + 1) kL_law 1510 [.ref 0, .ref 1, .ref 131, .ref 164, .int x4, v5, v6] [.int y0, .int y1] σ Q ↔ (if y1 = y0 then zW (d + 1) kL_law 2094 [.ref 0, .ref 1, .ref 131, .ref 164, .int x4, v5, v6] [] σ Q else Q (some (.int 0)) σ) := by
  refine Iff.trans (zw_icmp_eq (t := 2094) (show decode cL_law 1510 = .ok (.if_icmp .eq 584, 3) by decide +kernel) (by decide)) ?_
  refine zw_ite ?_ ?_
  · exact Iff.rfl
  · refine Iff.trans (zw_iconst (x := 0) (show decode cL_law 1513 = .ok (.iconst 0, 1) by decide +kernel) (by decide)) ?_
    exact zw_iret2c (show decode cL_law 1514 = .ok (.ireturn, 1) by decide +kernel) rfl (Or.inl rfl)

theorem bL_law_1515 {d : Nat} {σ : zS} {Q : Option Value → zS → Prop} (hl : zLay σ) {x4 : Int32} {v5 v6 : Value} (hv5 : v5.category = 1) (hv6 : v6.category = 1) : zW (d + 1) kL_law 1515 [.ref 0, .ref 1, .ref 131, .ref 164, .int x4, v5, v6] [] σ Q ↔ zW (d + 1) kL_law 1521 [.ref 0, .ref 1, .ref 131, .ref 164, .int x4, v5, v6] [.int (x4 + 1), .ref 0, .ref 1] σ Q := by
  refine Iff.trans (zw_aload_n (show decode cL_law 1515 = .ok (.aload_n 1, 1) by decide +kernel) rfl) ?_
  refine Iff.trans (zw_aload_n (show decode cL_law 1516 = .ok (.aload_n 0, 1) by decide +kernel) rfl) ?_
  refine Iff.trans (zw_iload (show decode cL_law 1517 = .ok (.iload 4, 2) by decide +kernel) rfl) ?_
  refine Iff.trans (zw_iconst (x := 1) (show decode cL_law 1519 = .ok (.iconst 1, 1) by decide +kernel) (by decide)) ?_
  refine Iff.trans (zw_iadd (show decode cL_law 1520 = .ok (.iadd, 1) by decide +kernel)) ?_
  exact Iff.rfl

theorem bL_law_1531 {d : Nat} {σ : zS} {Q : Option Value → zS → Prop} (hl : zLay σ) {x4 y0 : Int32} {v5 v6 : Value} (hv5 : v5.category = 1) (hv6 : v6.category = 1) : zW (d + 1) kL_law 1531 [.ref 0, .ref 1, .ref 131, .ref 164, .int x4, v5, v6] [.int y0] σ Q ↔ zW (d + 1) kL_law 1537 [.ref 0, .ref 1, .ref 131, .ref 164, .int x4, v5, v6] [.int (x4 + 1), .ref 0, .ref 131, .int y0] σ Q := by
  refine Iff.trans (zw_aload_n (show decode cL_law 1531 = .ok (.aload_n 2, 1) by decide +kernel) rfl) ?_
  refine Iff.trans (zw_aload_n (show decode cL_law 1532 = .ok (.aload_n 0, 1) by decide +kernel) rfl) ?_
  refine Iff.trans (zw_iload (show decode cL_law 1533 = .ok (.iload 4, 2) by decide +kernel) rfl) ?_
  refine Iff.trans (zw_iconst (x := 1) (show decode cL_law 1535 = .ok (.iconst 1, 1) by decide +kernel) (by decide)) ?_
  refine Iff.trans (zw_iadd (show decode cL_law 1536 = .ok (.iadd, 1) by decide +kernel)) ?_
  exact Iff.rfl

theorem bL_law_1547 {d : Nat} {σ : zS} {Q : Option Value → zS → Prop} (hl : zLay σ) {x4 y0 y1 : Int32} {v5 v6 : Value} (hv5 : v5.category = 1) (hv6 : v6.category = 1) : zW (d + 1) kL_law 1547 [.ref 0, .ref 1, .ref 131, .ref 164, .int x4, v5, v6] [.int y0, .int y1] σ Q ↔ (if y1 = y0 then zW (d + 1) kL_law 2094 [.ref 0, .ref 1, .ref 131, .ref 164, .int x4, v5, v6] [] σ Q else Q (some (.int 0)) σ) := by
  refine Iff.trans (zw_icmp_eq (t := 2094) (show decode cL_law 1547 = .ok (.if_icmp .eq 547, 3) by decide +kernel) (by decide)) ?_
  refine zw_ite ?_ ?_
  · exact Iff.rfl
  · refine Iff.trans (zw_iconst (x := 0) (show decode cL_law 1550 = .ok (.iconst 0, 1) by decide +kernel) (by decide)) ?_
    exact zw_iret2c (show decode cL_law 1551 = .ok (.ireturn, 1) by decide +kernel) rfl (Or.inl rfl)

theorem bL_law_1552 {d : Nat} {σ : zS} {Q : Option Value → zS → Prop} (hl : zLay σ) {x4 : Int32} {v5 v6 : Value} (hv5 : v5.category = 1) (hv6 : v6.category = 1) : zW (d + 1) kL_law 1552 [.ref 0, .ref 1, .ref 131, .ref 164, .int x4, v5, v6] [] σ Q ↔ zW (d + 1) kL_law 1558 [.ref 0, .ref 1, .ref 131, .ref 164, .int x4, v5, v6] [.int (x4 + 1), .ref 0, .ref 1] σ Q := by
  refine Iff.trans (zw_aload_n (show decode cL_law 1552 = .ok (.aload_n 1, 1) by decide +kernel) rfl) ?_
  refine Iff.trans (zw_aload_n (show decode cL_law 1553 = .ok (.aload_n 0, 1) by decide +kernel) rfl) ?_
  refine Iff.trans (zw_iload (show decode cL_law 1554 = .ok (.iload 4, 2) by decide +kernel) rfl) ?_
  refine Iff.trans (zw_iconst (x := 1) (show decode cL_law 1556 = .ok (.iconst 1, 1) by decide +kernel) (by decide)) ?_
  refine Iff.trans (zw_iadd (show decode cL_law 1557 = .ok (.iadd, 1) by decide +kernel)) ?_
  exact Iff.rfl

theorem bL_law_1580 {d : Nat} {σ : zS} {Q : Option Value → zS → Prop} (hl : zLay σ) {x4 y0 : Int32} {v5 v6 : Value} (hv5 : v5.category = 1) (hv6 : v6.category = 1) : zW (d + 1) kL_law 1580 [.ref 0, .ref 1, .ref 131, .ref 164, .int x4, v5, v6] [.int y0] σ Q ↔ zW (d + 1) kL_law 1586 [.ref 0, .ref 1, .ref 131, .ref 164, .int x4, v5, v6] [.int (x4 + 1), .ref 0, .ref 131, .int y0] σ Q := by
  refine Iff.trans (zw_aload_n (show decode cL_law 1580 = .ok (.aload_n 2, 1) by decide +kernel) rfl) ?_
  refine Iff.trans (zw_aload_n (show decode cL_law 1581 = .ok (.aload_n 0, 1) by decide +kernel) rfl) ?_
  refine Iff.trans (zw_iload (show decode cL_law 1582 = .ok (.iload 4, 2) by decide +kernel) rfl) ?_
  refine Iff.trans (zw_iconst (x := 1) (show decode cL_law 1584 = .ok (.iconst 1, 1) by decide +kernel) (by decide)) ?_
  refine Iff.trans (zw_iadd (show decode cL_law 1585 = .ok (.iadd, 1) by decide +kernel)) ?_
  exact Iff.rfl

theorem bL_law_1608 {d : Nat} {σ : zS} {Q : Option Value → zS → Prop} (hl : zLay σ) {x4 y0 y1 : Int32} {v5 v6 : Value} (hv5 : v5.category = 1) (hv6 : v6.category = 1) : zW (d + 1) kL_law 1608 [.ref 0, .ref 1, .ref 131, .ref 164, .int x4, v5, v6] [.int y0, .int y1] σ Q ↔ (if y1 = y0 then zW (d + 1) kL_law 2094 [.ref 0, .ref 1, .ref 131, .ref 164, .int x4, v5, v6] [] σ Q else Q (some (.int 0)) σ) := by
  refine Iff.trans (zw_icmp_eq (t := 2094) (show decode cL_law 1608 = .ok (.if_icmp .eq 486, 3) by decide +kernel) (by decide)) ?_
  refine zw_ite ?_ ?_
  · exact Iff.rfl
  · refine Iff.trans (zw_iconst (x := 0) (show decode cL_law 1611 = .ok (.iconst 0, 1) by decide +kernel) (by decide)) ?_
    exact zw_iret2c (show decode cL_law 1612 = .ok (.ireturn, 1) by decide +kernel) rfl (Or.inl rfl)

theorem bL_law_1613 {d : Nat} {σ : zS} {Q : Option Value → zS → Prop} (hl : zLay σ) {x4 : Int32} {v5 v6 : Value} (hv5 : v5.category = 1) (hv6 : v6.category = 1) : zW (d + 1) kL_law 1613 [.ref 0, .ref 1, .ref 131, .ref 164, .int x4, v5, v6] [] σ Q ↔ zCall d kX11_image [.ref 1] σ (fun r σ' => zisN r = true ∧ zW (d + 1) kL_law 1617 [.ref 0, .ref 1, .ref 131, .ref 164, .int x4, v5, v6] (zRstk r ++ []) σ' Q) := by
  refine Iff.trans (zw_aload_n (show decode cL_law 1613 = .ok (.aload_n 1, 1) by decide +kernel) rfl) ?_
  refine Iff.trans (zw_invV (K' := kX11_image) (as' := []) (rest := []) (show decode cL_law 1614 = .ok (.invokevirtual 155, 3) by decide +kernel) (by rfl) rfl rfl rfl (hl.k2 zk_1) (by decide) (hl.n2 zk_1) ⟨Nat.le_of_ble_eq_true rfl, Nat.le_of_ble_eq_true rfl, Nat.le_of_ble_eq_true rfl⟩) ?_
  exact Iff.rfl

theorem bL_law_1617 {d : Nat} {σ : zS} {Q : Option Value → zS → Prop} (hl : zLay σ) {x4 y0 : Int32} {v5 v6 : Value} (hv5 : v5.category = 1) (hv6 : v6.category = 1) : zW (d + 1) kL_law 1617 [.ref 0, .ref 1, .ref 131, .ref 164, .int x4, v5, v6] [.int y0] σ Q ↔ zCall d kX12_image [.ref 131] σ (fun r σ' => zisN r = true ∧ zW (d + 1) kL_law 1621 [.ref 0, .ref 1, .ref 131, .ref 164, .int x4, v5, v6] (zRstk r ++ [.int y0]) σ' Q) := by
  refine Iff.trans (zw_aload_n (show decode cL_law 1617 = .ok (.aload_n 2, 1) by decide +kernel) rfl) ?_
  refine Iff.trans (zw_invV (K' := kX12_image) (as' := []) (rest := [.int y0]) (show decode cL_law 1618 = .ok (.invokevirtual 158, 3) by decide +kernel) (by rfl) rfl rfl rfl (hl.k2 zk_131) (by decide) (hl.n2 zk_131) ⟨Nat.le_of_ble_eq_true rfl, Nat.le_of_ble_eq_true rfl, Nat.le_of_ble_eq_true rfl⟩) ?_
  exact Iff.rfl

theorem bL_law_1621 {d : Nat} {σ : zS} {Q : Option Value → zS → Prop} (hl : zLay σ) {x4 y0 y1 : Int32} {v5 v6 : Value} (hv5 : v5.category = 1) (hv6 : v6.category = 1) : zW (d + 1) kL_law 1621 [.ref 0, .ref 1, .ref 131, .ref 164, .int x4, v5, v6] [.int y0, .int y1] σ Q ↔ (if y1 = y0 then zW (d + 1) kL_law 2094 [.ref 0, .ref 1, .ref 131, .ref 164, .int x4, v5, v6] [] σ Q else Q (some (.int 0)) σ) := by
  refine Iff.trans (zw_icmp_eq (t := 2094) (show decode cL_law 1621 = .ok (.if_icmp .eq 473, 3) by decide +kernel) (by decide)) ?_
  refine zw_ite ?_ ?_
  · exact Iff.rfl
  · refine Iff.trans (zw_iconst (x := 0) (show decode cL_law 1624 = .ok (.iconst 0, 1) by decide +kernel) (by decide)) ?_
    exact zw_iret2c (show decode cL_law 1625 = .ok (.ireturn, 1) by decide +kernel) rfl (Or.inl rfl)

theorem bL_law_1626 {d : Nat} {σ : zS} {Q : Option Value → zS → Prop} (hl : zLay σ) {x4 : Int32} {v5 v6 : Value} (hv5 : v5.category = 1) (hv6 : v6.category = 1) : zW (d + 1) kL_law 1626 [.ref 0, .ref 1, .ref 131, .ref 164, .int x4, v5, v6] [] σ Q ↔ zCall d kX11_back [.ref 1] σ (fun r σ' => zisN r = true ∧ zW (d + 1) kL_law 1630 [.ref 0, .ref 1, .ref 131, .ref 164, .int x4, v5, v6] (zRstk r ++ []) σ' Q) := by
  refine Iff.trans (zw_aload_n (show decode cL_law 1626 = .ok (.aload_n 1, 1) by decide +kernel) rfl) ?_
  refine Iff.trans (zw_invV (K' := kX11_back) (as' := []) (rest := []) (show decode cL_law 1627 = .ok (.invokevirtual 159, 3) by decide +kernel) (by rfl) rfl rfl rfl (hl.k2 zk_1) (by decide) (hl.n2 zk_1) ⟨Nat.le_of_ble_eq_true rfl, Nat.le_of_ble_eq_true rfl, Nat.le_of_ble_eq_true rfl⟩) ?_
  exact Iff.rfl

theorem bL_law_1630 {d : Nat} {σ : zS} {Q : Option Value → zS → Prop} (hl : zLay σ) {x4 y0 : Int32} {v5 v6 : Value} (hv5 : v5.category = 1) (hv6 : v6.category = 1) : zW (d + 1) kL_law 1630 [.ref 0, .ref 1, .ref 131, .ref 164, .int x4, v5, v6] [.int y0] σ Q ↔ zCall d kX12_back [.ref 131] σ (fun r σ' => zisN r = true ∧ zW (d + 1) kL_law 1634 [.ref 0, .ref 1, .ref 131, .ref 164, .int x4, v5, v6] (zRstk r ++ [.int y0]) σ' Q) := by
  refine Iff.trans (zw_aload_n (show decode cL_law 1630 = .ok (.aload_n 2, 1) by decide +kernel) rfl) ?_
  refine Iff.trans (zw_invV (K' := kX12_back) (as' := []) (rest := [.int y0]) (show decode cL_law 1631 = .ok (.invokevirtual 162, 3) by decide +kernel) (by rfl) rfl rfl rfl (hl.k2 zk_131) (by decide) (hl.n2 zk_131) ⟨Nat.le_of_ble_eq_true rfl, Nat.le_of_ble_eq_true rfl, Nat.le_of_ble_eq_true rfl⟩) ?_
  exact Iff.rfl

theorem bL_law_1634 {d : Nat} {σ : zS} {Q : Option Value → zS → Prop} (hl : zLay σ) {x4 y0 y1 : Int32} {v5 v6 : Value} (hv5 : v5.category = 1) (hv6 : v6.category = 1) : zW (d + 1) kL_law 1634 [.ref 0, .ref 1, .ref 131, .ref 164, .int x4, v5, v6] [.int y0, .int y1] σ Q ↔ (if y1 = y0 then zW (d + 1) kL_law 2094 [.ref 0, .ref 1, .ref 131, .ref 164, .int x4, v5, v6] [] σ Q else Q (some (.int 0)) σ) := by
  refine Iff.trans (zw_icmp_eq (t := 2094) (show decode cL_law 1634 = .ok (.if_icmp .eq 460, 3) by decide +kernel) (by decide)) ?_
  refine zw_ite ?_ ?_
  · exact Iff.rfl
  · refine Iff.trans (zw_iconst (x := 0) (show decode cL_law 1637 = .ok (.iconst 0, 1) by decide +kernel) (by decide)) ?_
    exact zw_iret2c (show decode cL_law 1638 = .ok (.ireturn, 1) by decide +kernel) rfl (Or.inl rfl)

theorem bL_law_1639 {d : Nat} {σ : zS} {Q : Option Value → zS → Prop} (hl : zLay σ) {x4 : Int32} {v5 v6 : Value} (hv5 : v5.category = 1) (hv6 : v6.category = 1) : zW (d + 1) kL_law 1639 [.ref 0, .ref 1, .ref 131, .ref 164, .int x4, v5, v6] [] σ Q ↔ zW (d + 1) kL_law 1645 [.ref 0, .ref 1, .ref 131, .ref 164, .int x4, v5, v6] [.int (x4 + 1), .ref 0, .ref 1] σ Q := by
  refine Iff.trans (zw_aload_n (show decode cL_law 1639 = .ok (.aload_n 1, 1) by decide +kernel) rfl) ?_
  refine Iff.trans (zw_aload_n (show decode cL_law 1640 = .ok (.aload_n 0, 1) by decide +kernel) rfl) ?_
  refine Iff.trans (zw_iload (show decode cL_law 1641 = .ok (.iload 4, 2) by decide +kernel) rfl) ?_
  refine Iff.trans (zw_iconst (x := 1) (show decode cL_law 1643 = .ok (.iconst 1, 1) by decide +kernel) (by decide)) ?_
  refine Iff.trans (zw_iadd (show decode cL_law 1644 = .ok (.iadd, 1) by decide +kernel)) ?_
  exact Iff.rfl

theorem bL_law_1661 {d : Nat} {σ : zS} {Q : Option Value → zS → Prop} (hl : zLay σ) {x4 y0 : Int32} {v5 v6 : Value} (hv5 : v5.category = 1) (hv6 : v6.category = 1) : zW (d + 1) kL_law 1661 [.ref 0, .ref 1, .ref 131, .ref 164, .int x4, v5, v6] [.int y0] σ Q ↔ zW (d + 1) kL_law 1667 [.ref 0, .ref 1, .ref 131, .ref 164, .int x4, v5, v6] [.int (x4 + 1), .ref 0, .ref 131, .int y0] σ Q := by
  refine Iff.trans (zw_aload_n (show decode cL_law 1661 = .ok (.aload_n 2, 1) by decide +kernel) rfl) ?_
  refine Iff.trans (zw_aload_n (show decode cL_law 1662 = .ok (.aload_n 0, 1) by decide +kernel) rfl) ?_
  refine Iff.trans (zw_iload (show decode cL_law 1663 = .ok (.iload 4, 2) by decide +kernel) rfl) ?_
  refine Iff.trans (zw_iconst (x := 1) (show decode cL_law 1665 = .ok (.iconst 1, 1) by decide +kernel) (by decide)) ?_
  refine Iff.trans (zw_iadd (show decode cL_law 1666 = .ok (.iadd, 1) by decide +kernel)) ?_
  exact Iff.rfl

theorem bL_law_1683 {d : Nat} {σ : zS} {Q : Option Value → zS → Prop} (hl : zLay σ) {x4 y0 y1 : Int32} {v5 v6 : Value} (hv5 : v5.category = 1) (hv6 : v6.category = 1) : zW (d + 1) kL_law 1683 [.ref 0, .ref 1, .ref 131, .ref 164, .int x4, v5, v6] [.int y0, .int y1] σ Q ↔ (if y1 = y0 then zW (d + 1) kL_law 2094 [.ref 0, .ref 1, .ref 131, .ref 164, .int x4, v5, v6] [] σ Q else Q (some (.int 0)) σ) := by
  refine Iff.trans (zw_icmp_eq (t := 2094) (show decode cL_law 1683 = .ok (.if_icmp .eq 411, 3) by decide +kernel) (by decide)) ?_
  refine zw_ite ?_ ?_
  · exact Iff.rfl
  · refine Iff.trans (zw_iconst (x := 0) (show decode cL_law 1686 = .ok (.iconst 0, 1) by decide +kernel) (by decide)) ?_
    exact zw_iret2c (show decode cL_law 1687 = .ok (.ireturn, 1) by decide +kernel) rfl (Or.inl rfl)

theorem bL_law_1688 {d : Nat} {σ : zS} {Q : Option Value → zS → Prop} (hl : zLay σ) {x4 : Int32} {v5 v6 : Value} (hv5 : v5.category = 1) (hv6 : v6.category = 1) : zW (d + 1) kL_law 1688 [.ref 0, .ref 1, .ref 131, .ref 164, .int x4, v5, v6] [] σ Q ↔ zW (d + 1) kL_law 1694 [.ref 0, .ref 1, .ref 131, .ref 164, .int x4, v5, v6] [.int (x4 + 1), .ref 0, .ref 1] σ Q := by
  refine Iff.trans (zw_aload_n (show decode cL_law 1688 = .ok (.aload_n 1, 1) by decide +kernel) rfl) ?_
  refine Iff.trans (zw_aload_n (show decode cL_law 1689 = .ok (.aload_n 0, 1) by decide +kernel) rfl) ?_
  refine Iff.trans (zw_iload (show decode cL_law 1690 = .ok (.iload 4, 2) by decide +kernel) rfl) ?_
  refine Iff.trans (zw_iconst (x := 1) (show decode cL_law 1692 = .ok (.iconst 1, 1) by decide +kernel) (by decide)) ?_
  refine Iff.trans (zw_iadd (show decode cL_law 1693 = .ok (.iadd, 1) by decide +kernel)) ?_
  exact Iff.rfl

theorem bL_law_1704 {d : Nat} {σ : zS} {Q : Option Value → zS → Prop} (hl : zLay σ) {x4 y0 : Int32} {v5 v6 : Value} (hv5 : v5.category = 1) (hv6 : v6.category = 1) : zW (d + 1) kL_law 1704 [.ref 0, .ref 1, .ref 131, .ref 164, .int x4, v5, v6] [.int y0] σ Q ↔ zW (d + 1) kL_law 1710 [.ref 0, .ref 1, .ref 131, .ref 164, .int x4, v5, v6] [.int (x4 + 1), .ref 0, .ref 131, .int y0] σ Q := by
  refine Iff.trans (zw_aload_n (show decode cL_law 1704 = .ok (.aload_n 2, 1) by decide +kernel) rfl) ?_
  refine Iff.trans (zw_aload_n (show decode cL_law 1705 = .ok (.aload_n 0, 1) by decide +kernel) rfl) ?_
  refine Iff.trans (zw_iload (show decode cL_law 1706 = .ok (.iload 4, 2) by decide +kernel) rfl) ?_
  refine Iff.trans (zw_iconst (x := 1) (show decode cL_law 1708 = .ok (.iconst 1, 1) by decide +kernel) (by decide)) ?_
  refine Iff.trans (zw_iadd (show decode cL_law 1709 = .ok (.iadd, 1) by decide +kernel)) ?_
  exact Iff.rfl

theorem bL_law_1720 {d : Nat} {σ : zS} {Q : Option Value → zS → Prop} (hl : zLay σ) {x4 y0 y1 : Int32} {v5 v6 : Value} (hv5 : v5.category = 1) (hv6 : v6.category = 1) : zW (d + 1) kL_law 1720 [.ref 0, .ref 1, .ref 131, .ref 164, .int x4, v5, v6] [.int y0, .int y1] σ Q ↔ (if y1 = y0 then zW (d + 1) kL_law 2094 [.ref 0, .ref 1, .ref 131, .ref 164, .int x4, v5, v6] [] σ Q else Q (some (.int 0)) σ) := by
  refine Iff.trans (zw_icmp_eq (t := 2094) (show decode cL_law 1720 = .ok (.if_icmp .eq 374, 3) by decide +kernel) (by decide)) ?_
  refine zw_ite ?_ ?_
  · exact Iff.rfl
  · refine Iff.trans (zw_iconst (x := 0) (show decode cL_law 1723 = .ok (.iconst 0, 1) by decide +kernel) (by decide)) ?_
    exact zw_iret2c (show decode cL_law 1724 = .ok (.ireturn, 1) by decide +kernel) rfl (Or.inl rfl)

theorem bL_law_1725 {d : Nat} {σ : zS} {Q : Option Value → zS → Prop} (hl : zLay σ) {x4 : Int32} {v5 v6 : Value} (hv5 : v5.category = 1) (hv6 : v6.category = 1) : zW (d + 1) kL_law 1725 [.ref 0, .ref 1, .ref 131, .ref 164, .int x4, v5, v6] [] σ Q ↔ zW (d + 1) kL_law 1731 [.ref 0, .ref 1, .ref 131, .ref 164, .int x4, v5, v6] [.int (x4 + 1), .ref 0, .ref 1] σ Q := by
  refine Iff.trans (zw_aload_n (show decode cL_law 1725 = .ok (.aload_n 1, 1) by decide +kernel) rfl) ?_
  refine Iff.trans (zw_aload_n (show decode cL_law 1726 = .ok (.aload_n 0, 1) by decide +kernel) rfl) ?_
  refine Iff.trans (zw_iload (show decode cL_law 1727 = .ok (.iload 4, 2) by decide +kernel) rfl) ?_
  refine Iff.trans (zw_iconst (x := 1) (show decode cL_law 1729 = .ok (.iconst 1, 1) by decide +kernel) (by decide)) ?_
  refine Iff.trans (zw_iadd (show decode cL_law 1730 = .ok (.iadd, 1) by decide +kernel)) ?_
  exact Iff.rfl

theorem bL_law_1735 {d : Nat} {σ : zS} {Q : Option Value → zS → Prop} (hl : zLay σ) {x4 y0 : Int32} {v5 v6 : Value} (hv5 : v5.category = 1) (hv6 : v6.category = 1) : zW (d + 1) kL_law 1735 [.ref 0, .ref 1, .ref 131, .ref 164, .int x4, v5, v6] [.int y0] σ Q ↔ zW (d + 1) kL_law 1741 [.ref 0, .ref 1, .ref 131, .ref 164, .int x4, v5, v6] [.int (x4 + 1), .ref 0, .ref 131, .int y0] σ Q := by
  refine Iff.trans (zw_aload_n (show decode cL_law 1735 = .ok (.aload_n 2, 1) by decide +kernel) rfl) ?_
  refine Iff.trans (zw_aload_n (show decode cL_law 1736 = .ok (.aload_n 0, 1) by decide +kernel) rfl) ?_
  refine Iff.trans (zw_iload (show decode cL_law 1737 = .ok (.iload 4, 2) by decide +kernel) rfl) ?_
  refine Iff.trans (zw_iconst (x := 1) (show decode cL_law 1739 = .ok (.iconst 1, 1) by decide +kernel) (by decide)) ?_
  refine Iff.trans (zw_iadd (show decode cL_law 1740 = .ok (.iadd, 1) by decide +kernel)) ?_
  exact Iff.rfl

theorem bL_law_1745 {d : Nat} {σ : zS} {Q : Option Value → zS → Prop} (hl : zLay σ) {x4 y0 y1 : Int32} {v5 v6 : Value} (hv5 : v5.category = 1) (hv6 : v6.category = 1) : zW (d + 1) kL_law 1745 [.ref 0, .ref 1, .ref 131, .ref 164, .int x4, v5, v6] [.int y0, .int y1] σ Q ↔ (if y1 = y0 then zW (d + 1) kL_law 2094 [.ref 0, .ref 1, .ref 131, .ref 164, .int x4, v5, v6] [] σ Q else Q (some (.int 0)) σ) := by
  refine Iff.trans (zw_icmp_eq (t := 2094) (show decode cL_law 1745 = .ok (.if_icmp .eq 349, 3) by decide +kernel) (by decide)) ?_
  refine zw_ite ?_ ?_
  · exact Iff.rfl
  · refine Iff.trans (zw_iconst (x := 0) (show decode cL_law 1748 = .ok (.iconst 0, 1) by decide +kernel) (by decide)) ?_
    exact zw_iret2c (show decode cL_law 1749 = .ok (.ireturn, 1) by decide +kernel) rfl (Or.inl rfl)

theorem bL_law_1750 {d : Nat} {σ : zS} {Q : Option Value → zS → Prop} (hl : zLay σ) {x4 : Int32} {v5 v6 : Value} (hv5 : v5.category = 1) (hv6 : v6.category = 1) : zW (d + 1) kL_law 1750 [.ref 0, .ref 1, .ref 131, .ref 164, .int x4, v5, v6] [] σ Q ↔ zW (d + 1) kL_law 1756 [.ref 0, .ref 1, .ref 131, .ref 164, .int x4, v5, v6] [.int (x4 + 1), .ref 0, .ref 1] σ Q := by
  refine Iff.trans (zw_aload_n (show decode cL_law 1750 = .ok (.aload_n 1, 1) by decide +kernel) rfl) ?_
  refine Iff.trans (zw_aload_n (show decode cL_law 1751 = .ok (.aload_n 0, 1) by decide +kernel) rfl) ?_
  refine Iff.trans (zw_iload (show decode cL_law 1752 = .ok (.iload 4, 2) by decide +kernel) rfl) ?_
  refine Iff.trans (zw_iconst (x := 1) (show decode cL_law 1754 = .ok (.iconst 1, 1) by decide +kernel) (by decide)) ?_
  refine Iff.trans (zw_iadd (show decode cL_law 1755 = .ok (.iadd, 1) by decide +kernel)) ?_
  exact Iff.rfl

theorem bL_law_1760 {d : Nat} {σ : zS} {Q : Option Value → zS → Prop} (hl : zLay σ) {x4 y0 : Int32} {v5 v6 : Value} (hv5 : v5.category = 1) (hv6 : v6.category = 1) : zW (d + 1) kL_law 1760 [.ref 0, .ref 1, .ref 131, .ref 164, .int x4, v5, v6] [.int y0] σ Q ↔ zW (d + 1) kL_law 1766 [.ref 0, .ref 1, .ref 131, .ref 164, .int x4, v5, v6] [.int (x4 + 1), .ref 0, .ref 131, .int y0] σ Q := by
  refine Iff.trans (zw_aload_n (show decode cL_law 1760 = .ok (.aload_n 2, 1) by decide +kernel) rfl) ?_
  refine Iff.trans (zw_aload_n (show decode cL_law 1761 = .ok (.aload_n 0, 1) by decide +kernel) rfl) ?_
  refine Iff.trans (zw_iload (show decode cL_law 1762 = .ok (.iload 4, 2) by decide +kernel) rfl) ?_
  refine Iff.trans (zw_iconst (x := 1) (show decode cL_law 1764 = .ok (.iconst 1, 1) by decide +kernel) (by decide)) ?_
  refine Iff.trans (zw_iadd (show decode cL_law 1765 = .ok (.iadd, 1) by decide +kernel)) ?_
  exact Iff.rfl

theorem bL_law_1770 {d : Nat} {σ : zS} {Q : Option Value → zS → Prop} (hl : zLay σ) {x4 y0 y1 : Int32} {v5 v6 : Value} (hv5 : v5.category = 1) (hv6 : v6.category = 1) : zW (d + 1) kL_law 1770 [.ref 0, .ref 1, .ref 131, .ref 164, .int x4, v5, v6] [.int y0, .int y1] σ Q ↔ (if y1 = y0 then zW (d + 1) kL_law 2094 [.ref 0, .ref 1, .ref 131, .ref 164, .int x4, v5, v6] [] σ Q else Q (some (.int 0)) σ) := by
  refine Iff.trans (zw_icmp_eq (t := 2094) (show decode cL_law 1770 = .ok (.if_icmp .eq 324, 3) by decide +kernel) (by decide)) ?_
  refine zw_ite ?_ ?_
  · exact Iff.rfl
  · refine Iff.trans (zw_iconst (x := 0) (show decode cL_law 1773 = .ok (.iconst 0, 1) by decide +kernel) (by decide)) ?_
    exact zw_iret2c (show decode cL_law 1774 = .ok (.ireturn, 1) by decide +kernel) rfl (Or.inl rfl)

theorem bL_law_1775 {d : Nat} {σ : zS} {Q : Option Value → zS → Prop} (hl : zLay σ) {x4 : Int32} {v5 v6 : Value} (hv5 : v5.category = 1) (hv6 : v6.category = 1) : zW (d + 1) kL_law 1775 [.ref 0, .ref 1, .ref 131, .ref 164, .int x4, v5, v6] [] σ Q ↔ zW (d + 1) kL_law 1781 [.ref 0, .ref 1, .ref 131, .ref 164, .int x4, v5, v6] [.int (x4 + 1), .ref 0, .ref 1] σ Q := by
  refine Iff.trans (zw_aload_n (show decode cL_law 1775 = .ok (.aload_n 1, 1) by decide +kernel) rfl) ?_
  refine Iff.trans (zw_aload_n (show decode cL_law 1776 = .ok (.aload_n 0, 1) by decide +kernel) rfl) ?_
  refine Iff.trans (zw_iload (show decode cL_law 1777 = .ok (.iload 4, 2) by decide +kernel) rfl) ?_
  refine Iff.trans (zw_iconst (x := 1) (show decode cL_law 1779 = .ok (.iconst 1, 1) by decide +kernel) (by decide)) ?_
  refine Iff.trans (zw_iadd (show decode cL_law 1780 = .ok (.iadd, 1) by decide +kernel)) ?_
  exact Iff.rfl

theorem bL_law_1785 {d : Nat} {σ : zS} {Q : Option Value → zS → Prop} (hl : zLay σ) {x4 y0 : Int32} {v5 v6 : Value} (hv5 : v5.category = 1) (hv6 : v6.category = 1) : zW (d + 1) kL_law 1785 [.ref 0, .ref 1, .ref 131, .ref 164, .int x4, v5, v6] [.int y0] σ Q ↔ zW (d + 1) kL_law 1791 [.ref 0, .ref 1, .ref 131, .ref 164, .int x4, v5, v6] [.int (x4 + 1), .ref 0, .ref 131, .int y0] σ Q := by
  refine Iff.trans (zw_aload_n (show decode cL_law 1785 = .ok (.aload_n 2, 1) by decide +kernel) rfl) ?_
  refine Iff.trans (zw_aload_n (show decode cL_law 1786 = .ok (.aload_n 0, 1) by decide +kernel) rfl) ?_
  refine Iff.trans (zw_iload (show decode cL_law 1787 = .ok (.iload 4, 2) by decide +kernel) rfl) ?_
  refine Iff.trans (zw_iconst (x := 1) (show decode cL_law 1789 = .ok (.iconst 1, 1) by decide +kernel) (by decide)) ?_
  refine Iff.trans (zw_iadd (show decode cL_law 1790 = .ok (.iadd, 1) by decide +kernel)) ?_
  exact Iff.rfl

theorem bL_law_1795 {d : Nat} {σ : zS} {Q : Option Value → zS → Prop} (hl : zLay σ) {x4 y0 y1 : Int32} {v5 v6 : Value} (hv5 : v5.category = 1) (hv6 : v6.category = 1) : zW (d + 1) kL_law 1795 [.ref 0, .ref 1, .ref 131, .ref 164, .int x4, v5, v6] [.int y0, .int y1] σ Q ↔ (if y1 = y0 then zW (d + 1) kL_law 2094 [.ref 0, .ref 1, .ref 131, .ref 164, .int x4, v5, v6] [] σ Q else Q (some (.int 0)) σ) := by
  refine Iff.trans (zw_icmp_eq (t := 2094) (show decode cL_law 1795 = .ok (.if_icmp .eq 299, 3) by decide +kernel) (by decide)) ?_
  refine zw_ite ?_ ?_
  · exact Iff.rfl
  · refine Iff.trans (zw_iconst (x := 0) (show decode cL_law 1798 = .ok (.iconst 0, 1) by decide +kernel) (by decide)) ?_
    exact zw_iret2c (show decode cL_law 1799 = .ok (.ireturn, 1) by decide +kernel) rfl (Or.inl rfl)

theorem bL_law_1800 {d : Nat} {σ : zS} {Q : Option Value → zS → Prop} (hl : zLay σ) {x4 : Int32} {v5 v6 : Value} (hv5 : v5.category = 1) (hv6 : v6.category = 1) : zW (d + 1) kL_law 1800 [.ref 0, .ref 1, .ref 131, .ref 164, .int x4, v5, v6] [] σ Q ↔ zW (d + 1) kL_law 1806 [.ref 0, .ref 1, .ref 131, .ref 164, .int x4, v5, v6] [.int (x4 + 1), .ref 0, .ref 1] σ Q := by
  refine Iff.trans (zw_aload_n (show decode cL_law 1800 = .ok (.aload_n 1, 1) by decide +kernel) rfl) ?_
  refine Iff.trans (zw_aload_n (show decode cL_law 1801 = .ok (.aload_n 0, 1) by decide +kernel) rfl) ?_
  refine Iff.trans (zw_iload (show decode cL_law 1802 = .ok (.iload 4, 2) by decide +kernel) rfl) ?_
  refine Iff.trans (zw_iconst (x := 1) (show decode cL_law 1804 = .ok (.iconst 1, 1) by decide +kernel) (by decide)) ?_
  refine Iff.trans (zw_iadd (show decode cL_law 1805 = .ok (.iadd, 1) by decide +kernel)) ?_
  exact Iff.rfl

theorem bL_law_1822 {d : Nat} {σ : zS} {Q : Option Value → zS → Prop} (hl : zLay σ) {x4 y0 : Int32} {v5 v6 : Value} (hv5 : v5.category = 1) (hv6 : v6.category = 1) : zW (d + 1) kL_law 1822 [.ref 0, .ref 1, .ref 131, .ref 164, .int x4, v5, v6] [.int y0] σ Q ↔ zW (d + 1) kL_law 1828 [.ref 0, .ref 1, .ref 131, .ref 164, .int x4, v5, v6] [.int (x4 + 1), .ref 0, .ref 131, .int y0] σ Q := by
  refine Iff.trans (zw_aload_n (show decode cL_law 1822 = .ok (.aload_n 2, 1) by decide +kernel) rfl) ?_
  refine Iff.trans (zw_aload_n (show decode cL_law 1823 = .ok (.aload_n 0, 1) by decide +kernel) rfl) ?_
  refine Iff.trans (zw_iload (show decode cL_law 1824 = .ok (.iload 4, 2) by decide +kernel) rfl) ?_
  refine Iff.trans (zw_iconst (x := 1) (show decode cL_law 1826 = .ok (.iconst 1, 1) by decide +kernel) (by decide)) ?_
  refine Iff.trans (zw_iadd (show decode cL_law 1827 = .ok (.iadd, 1) by decide +kernel)) ?_
  exact Iff.rfl

theorem bL_law_1844 {d : Nat} {σ : zS} {Q : Option Value → zS → Prop} (hl : zLay σ) {x4 y0 y1 : Int32} {v5 v6 : Value} (hv5 : v5.category = 1) (hv6 : v6.category = 1) : zW (d + 1) kL_law 1844 [.ref 0, .ref 1, .ref 131, .ref 164, .int x4, v5, v6] [.int y0, .int y1] σ Q ↔ (if y1 = y0 then zW (d + 1) kL_law 2094 [.ref 0, .ref 1, .ref 131, .ref 164, .int x4, v5, v6] [] σ Q else Q (some (.int 0)) σ) := by
  refine Iff.trans (zw_icmp_eq (t := 2094) (show decode cL_law 1844 = .ok (.if_icmp .eq 250, 3) by decide +kernel) (by decide)) ?_
  refine zw_ite ?_ ?_
  · exact Iff.rfl
  · refine Iff.trans (zw_iconst (x := 0) (show decode cL_law 1847 = .ok (.iconst 0, 1) by decide +kernel) (by decide)) ?_
    exact zw_iret2c (show decode cL_law 1848 = .ok (.ireturn, 1) by decide +kernel) rfl (Or.inl rfl)

theorem bL_law_1849 {d : Nat} {σ : zS} {Q : Option Value → zS → Prop} (hl : zLay σ) {x4 : Int32} {v5 v6 : Value} (hv5 : v5.category = 1) (hv6 : v6.category = 1) : zW (d + 1) kL_law 1849 [.ref 0, .ref 1, .ref 131, .ref 164, .int x4, v5, v6] [] σ Q ↔ zW (d + 1) kL_law 1855 [.ref 0, .ref 1, .ref 131, .ref 164, .int x4, v5, v6] [.int (x4 + 1), .ref 0, .ref 1] σ Q := by
  refine Iff.trans (zw_aload_n (show decode cL_law 1849 = .ok (.aload_n 1, 1) by decide +kernel) rfl) ?_
  refine Iff.trans (zw_aload_n (show decode cL_law 1850 = .ok (.aload_n 0, 1) by decide +kernel) rfl) ?_
  refine Iff.trans (zw_iload (show decode cL_law 1851 = .ok (.iload 4, 2) by decide +kernel) rfl) ?_
  refine Iff.trans (zw_iconst (x := 1) (show decode cL_law 1853 = .ok (.iconst 1, 1) by decide +kernel) (by decide)) ?_
  refine Iff.trans (zw_iadd (show decode cL_law 1854 = .ok (.iadd, 1) by decide +kernel)) ?_
  exact Iff.rfl

theorem bL_law_1877 {d : Nat} {σ : zS} {Q : Option Value → zS → Prop} (hl : zLay σ) {x4 y0 : Int32} {v5 v6 : Value} (hv5 : v5.category = 1) (hv6 : v6.category = 1) : zW (d + 1) kL_law 1877 [.ref 0, .ref 1, .ref 131, .ref 164, .int x4, v5, v6] [.int y0] σ Q ↔ zW (d + 1) kL_law 1883 [.ref 0, .ref 1, .ref 131, .ref 164, .int x4, v5, v6] [.int (x4 + 1), .ref 0, .ref 131, .int y0] σ Q := by
  refine Iff.trans (zw_aload_n (show decode cL_law 1877 = .ok (.aload_n 2, 1) by decide +kernel) rfl) ?_
  refine Iff.trans (zw_aload_n (show decode cL_law 1878 = .ok (.aload_n 0, 1) by decide +kernel) rfl) ?_
  refine Iff.trans (zw_iload (show decode cL_law 1879 = .ok (.iload 4, 2) by decide +kernel) rfl) ?_
  refine Iff.trans (zw_iconst (x := 1) (show decode cL_law 1881 = .ok (.iconst 1, 1) by decide +kernel) (by decide)) ?_
  refine Iff.trans (zw_iadd (show decode cL_law 1882 = .ok (.iadd, 1) by decide +kernel)) ?_
  exact Iff.rfl

theorem bL_law_1905 {d : Nat} {σ : zS} {Q : Option Value → zS → Prop} (hl : zLay σ) {x4 y0 y1 : Int32} {v5 v6 : Value} (hv5 : v5.category = 1) (hv6 : v6.category = 1) : zW (d + 1) kL_law 1905 [.ref 0, .ref 1, .ref 131, .ref 164, .int x4, v5, v6] [.int y0, .int y1] σ Q ↔ (if y1 = y0 then zW (d + 1) kL_law 2094 [.ref 0, .ref 1, .ref 131, .ref 164, .int x4, v5, v6] [] σ Q else Q (some (.int 0)) σ) := by
  refine Iff.trans (zw_icmp_eq (t := 2094) (show decode cL_law 1905 = .ok (.if_icmp .eq 189, 3) by decide +kernel) (by decide)) ?_
  refine zw_ite ?_ ?_
  · exact Iff.rfl
  · refine Iff.trans (zw_iconst (x := 0) (show decode cL_law 1908 = .ok (.iconst 0, 1) by decide +kernel) (by decide)) ?_
    exact zw_iret2c (show decode cL_law 1909 = .ok (.ireturn, 1) by decide +kernel) rfl (Or.inl rfl)

theorem bL_law_1910 {d : Nat} {σ : zS} {Q : Option Value → zS → Prop} (hl : zLay σ) {x4 : Int32} {v5 v6 : Value} (hv5 : v5.category = 1) (hv6 : v6.category = 1) : zW (d + 1) kL_law 1910 [.ref 0, .ref 1, .ref 131, .ref 164, .int x4, v5, v6] [] σ Q ↔ zW (d + 1) kL_law 1916 [.ref 0, .ref 1, .ref 131, .ref 164, .int x4, v5, v6] [.int (x4 + 1), .ref 0, .ref 1] σ Q := by
  refine Iff.trans (zw_aload_n (show decode cL_law 1910 = .ok (.aload_n 1, 1) by decide +kernel) rfl) ?_
  refine Iff.trans (zw_aload_n (show decode cL_law 1911 = .ok (.aload_n 0, 1) by decide +kernel) rfl) ?_
  refine Iff.trans (zw_iload (show decode cL_law 1912 = .ok (.iload 4, 2) by decide +kernel) rfl) ?_
  refine Iff.trans (zw_iconst (x := 1) (show decode cL_law 1914 = .ok (.iconst 1, 1) by decide +kernel) (by decide)) ?_
  refine Iff.trans (zw_iadd (show decode cL_law 1915 = .ok (.iadd, 1) by decide +kernel)) ?_
  exact Iff.rfl

theorem bL_law_1938 {d : Nat} {σ : zS} {Q : Option Value → zS → Prop} (hl : zLay σ) {x4 y0 : Int32} {v5 v6 : Value} (hv5 : v5.category = 1) (hv6 : v6.category = 1) : zW (d + 1) kL_law 1938 [.ref 0, .ref 1, .ref 131, .ref 164, .int x4, v5, v6] [.int y0] σ Q ↔ zW (d + 1) kL_law 1944 [.ref 0, .ref 1, .ref 131, .ref 164, .int x4, v5, v6] [.int (x4 + 1), .ref 0, .ref 131, .int y0] σ Q := by
  refine Iff.trans (zw_aload_n (show decode cL_law 1938 = .ok (.aload_n 2, 1) by decide +kernel) rfl) ?_
  refine Iff.trans (zw_aload_n (show decode cL_law 1939 = .ok (.aload_n 0, 1) by decide +kernel) rfl) ?_
  refine Iff.trans (zw_iload (show decode cL_law 1940 = .ok (.iload 4, 2) by decide +kernel) rfl) ?_
  refine Iff.trans (zw_iconst (x := 1) (show decode cL_law 1942 = .ok (.iconst 1, 1) by decide +kernel) (by decide)) ?_
  refine Iff.trans (zw_iadd (show decode cL_law 1943 = .ok (.iadd, 1) by decide +kernel)) ?_
  exact Iff.rfl

theorem bL_law_1966 {d : Nat} {σ : zS} {Q : Option Value → zS → Prop} (hl : zLay σ) {x4 y0 y1 : Int32} {v5 v6 : Value} (hv5 : v5.category = 1) (hv6 : v6.category = 1) : zW (d + 1) kL_law 1966 [.ref 0, .ref 1, .ref 131, .ref 164, .int x4, v5, v6] [.int y0, .int y1] σ Q ↔ (if y1 = y0 then zW (d + 1) kL_law 2094 [.ref 0, .ref 1, .ref 131, .ref 164, .int x4, v5, v6] [] σ Q else Q (some (.int 0)) σ) := by
  refine Iff.trans (zw_icmp_eq (t := 2094) (show decode cL_law 1966 = .ok (.if_icmp .eq 128, 3) by decide +kernel) (by decide)) ?_
  refine zw_ite ?_ ?_
  · exact Iff.rfl
  · refine Iff.trans (zw_iconst (x := 0) (show decode cL_law 1969 = .ok (.iconst 0, 1) by decide +kernel) (by decide)) ?_
    exact zw_iret2c (show decode cL_law 1970 = .ok (.ireturn, 1) by decide +kernel) rfl (Or.inl rfl)

theorem bL_law_1971 {d : Nat} {σ : zS} {Q : Option Value → zS → Prop} (hl : zLay σ) {x4 : Int32} {v5 v6 : Value} (hv5 : v5.category = 1) (hv6 : v6.category = 1) : zW (d + 1) kL_law 1971 [.ref 0, .ref 1, .ref 131, .ref 164, .int x4, v5, v6] [] σ Q ↔ zW (d + 1) kL_law 1977 [.ref 0, .ref 1, .ref 131, .ref 164, .int x4, v5, v6] [.int (x4 + 1), .ref 0, .ref 1] σ Q := by
  refine Iff.trans (zw_aload_n (show decode cL_law 1971 = .ok (.aload_n 1, 1) by decide +kernel) rfl) ?_
  refine Iff.trans (zw_aload_n (show decode cL_law 1972 = .ok (.aload_n 0, 1) by decide +kernel) rfl) ?_
  refine Iff.trans (zw_iload (show decode cL_law 1973 = .ok (.iload 4, 2) by decide +kernel) rfl) ?_
  refine Iff.trans (zw_iconst (x := 1) (show decode cL_law 1975 = .ok (.iconst 1, 1) by decide +kernel) (by decide)) ?_
  refine Iff.trans (zw_iadd (show decode cL_law 1976 = .ok (.iadd, 1) by decide +kernel)) ?_
  exact Iff.rfl

theorem bL_law_2005 {d : Nat} {σ : zS} {Q : Option Value → zS → Prop} (hl : zLay σ) {x4 y0 : Int32} {v5 v6 : Value} (hv5 : v5.category = 1) (hv6 : v6.category = 1) : zW (d + 1) kL_law 2005 [.ref 0, .ref 1, .ref 131, .ref 164, .int x4, v5, v6] [.int y0] σ Q ↔ zW (d + 1) kL_law 2011 [.ref 0, .ref 1, .ref 131, .ref 164, .int x4, v5, v6] [.int (x4 + 1), .ref 0, .ref 131, .int y0] σ Q := by
  refine Iff.trans (zw_aload_n (show decode cL_law 2005 = .ok (.aload_n 2, 1) by decide +kernel) rfl) ?_
  refine Iff.trans (zw_aload_n (show decode cL_law 2006 = .ok (.aload_n 0, 1) by decide +kernel) rfl) ?_
  refine Iff.trans (zw_iload (show decode cL_law 2007 = .ok (.iload 4, 2) by decide +kernel) rfl) ?_
  refine Iff.trans (zw_iconst (x := 1) (show decode cL_law 2009 = .ok (.iconst 1, 1) by decide +kernel) (by decide)) ?_
  refine Iff.trans (zw_iadd (show decode cL_law 2010 = .ok (.iadd, 1) by decide +kernel)) ?_
  exact Iff.rfl

theorem bL_law_2039 {d : Nat} {σ : zS} {Q : Option Value → zS → Prop} (hl : zLay σ) {x4 y0 y1 : Int32} {v5 v6 : Value} (hv5 : v5.category = 1) (hv6 : v6.category = 1) : zW (d + 1) kL_law 2039 [.ref 0, .ref 1, .ref 131, .ref 164, .int x4, v5, v6] [.int y0, .int y1] σ Q ↔ (if y1 = y0 then zW (d + 1) kL_law 2094 [.ref 0, .ref 1, .ref 131, .ref 164, .int x4, v5, v6] [] σ Q else Q (some (.int 0)) σ) := by
  refine Iff.trans (zw_icmp_eq (t := 2094) (show decode cL_law 2039 = .ok (.if_icmp .eq 55, 3) by decide +kernel) (by decide)) ?_
  refine zw_ite ?_ ?_
  · exact Iff.rfl
  · refine Iff.trans (zw_iconst (x := 0) (show decode cL_law 2042 = .ok (.iconst 0, 1) by decide +kernel) (by decide)) ?_
    exact zw_iret2c (show decode cL_law 2043 = .ok (.ireturn, 1) by decide +kernel) rfl (Or.inl rfl)

theorem bL_law_2044 {d : Nat} {σ : zS} {Q : Option Value → zS → Prop} (hl : zLay σ) {x4 : Int32} {v5 v6 : Value} (hv5 : v5.category = 1) (hv6 : v6.category = 1) : zW (d + 1) kL_law 2044 [.ref 0, .ref 1, .ref 131, .ref 164, .int x4, v5, v6] [] σ Q ↔ zW (d + 1) kL_law 2050 [.ref 0, .ref 1, .ref 131, .ref 164, .int x4, v5, v6] [.int (x4 + 1), .ref 0, .ref 1] σ Q := by
  refine Iff.trans (zw_aload_n (show decode cL_law 2044 = .ok (.aload_n 1, 1) by decide +kernel) rfl) ?_
  refine Iff.trans (zw_aload_n (show decode cL_law 2045 = .ok (.aload_n 0, 1) by decide +kernel) rfl) ?_
  refine Iff.trans (zw_iload (show decode cL_law 2046 = .ok (.iload 4, 2) by decide +kernel) rfl) ?_
  refine Iff.trans (zw_iconst (x := 1) (show decode cL_law 2048 = .ok (.iconst 1, 1) by decide +kernel) (by decide)) ?_
  refine Iff.trans (zw_iadd (show decode cL_law 2049 = .ok (.iadd, 1) by decide +kernel)) ?_
  exact Iff.rfl

theorem bL_law_2054 {d : Nat} {σ : zS} {Q : Option Value → zS → Prop} (hl : zLay σ) {x4 y0 : Int32} {v5 v6 : Value} (hv5 : v5.category = 1) (hv6 : v6.category = 1) : zW (d + 1) kL_law 2054 [.ref 0, .ref 1, .ref 131, .ref 164, .int x4, v5, v6] [.int y0] σ Q ↔ zW (d + 1) kL_law 2060 [.ref 0, .ref 1, .ref 131, .ref 164, .int x4, v5, v6] [.int (x4 + 1), .ref 0, .ref 131, .int y0] σ Q := by
  refine Iff.trans (zw_aload_n (show decode cL_law 2054 = .ok (.aload_n 2, 1) by decide +kernel) rfl) ?_
  refine Iff.trans (zw_aload_n (show decode cL_law 2055 = .ok (.aload_n 0, 1) by decide +kernel) rfl) ?_
  refine Iff.trans (zw_iload (show decode cL_law 2056 = .ok (.iload 4, 2) by decide +kernel) rfl) ?_
  refine Iff.trans (zw_iconst (x := 1) (show decode cL_law 2058 = .ok (.iconst 1, 1) by decide +kernel) (by decide)) ?_
  refine Iff.trans (zw_iadd (show decode cL_law 2059 = .ok (.iadd, 1) by decide +kernel)) ?_
  exact Iff.rfl

theorem bL_law_2064 {d : Nat} {σ : zS} {Q : Option Value → zS → Prop} (hl : zLay σ) {x4 y0 y1 : Int32} {v5 v6 : Value} (hv5 : v5.category = 1) (hv6 : v6.category = 1) : zW (d + 1) kL_law 2064 [.ref 0, .ref 1, .ref 131, .ref 164, .int x4, v5, v6] [.int y0, .int y1] σ Q ↔ (if y1 = y0 then zW (d + 1) kL_law 2094 [.ref 0, .ref 1, .ref 131, .ref 164, .int x4, v5, v6] [] σ Q else Q (some (.int 0)) σ) := by
  refine Iff.trans (zw_icmp_eq (t := 2094) (show decode cL_law 2064 = .ok (.if_icmp .eq 30, 3) by decide +kernel) (by decide)) ?_
  refine zw_ite ?_ ?_
  · exact Iff.rfl
  · refine Iff.trans (zw_iconst (x := 0) (show decode cL_law 2067 = .ok (.iconst 0, 1) by decide +kernel) (by decide)) ?_
    exact zw_iret2c (show decode cL_law 2068 = .ok (.ireturn, 1) by decide +kernel) rfl (Or.inl rfl)

theorem bL_law_2069 {d : Nat} {σ : zS} {Q : Option Value → zS → Prop} (hl : zLay σ) {x4 : Int32} {v5 v6 : Value} (hv5 : v5.category = 1) (hv6 : v6.category = 1) : zW (d + 1) kL_law 2069 [.ref 0, .ref 1, .ref 131, .ref 164, .int x4, v5, v6] [] σ Q ↔ zW (d + 1) kL_law 2075 [.ref 0, .ref 1, .ref 131, .ref 164, .int x4, v5, v6] [.int (x4 + 1), .ref 0, .ref 1] σ Q := by
  refine Iff.trans (zw_aload_n (show decode cL_law 2069 = .ok (.aload_n 1, 1) by decide +kernel) rfl) ?_
  refine Iff.trans (zw_aload_n (show decode cL_law 2070 = .ok (.aload_n 0, 1) by decide +kernel) rfl) ?_
  refine Iff.trans (zw_iload (show decode cL_law 2071 = .ok (.iload 4, 2) by decide +kernel) rfl) ?_
  refine Iff.trans (zw_iconst (x := 1) (show decode cL_law 2073 = .ok (.iconst 1, 1) by decide +kernel) (by decide)) ?_
  refine Iff.trans (zw_iadd (show decode cL_law 2074 = .ok (.iadd, 1) by decide +kernel)) ?_
  exact Iff.rfl

theorem bL_law_2079 {d : Nat} {σ : zS} {Q : Option Value → zS → Prop} (hl : zLay σ) {x4 y0 : Int32} {v5 v6 : Value} (hv5 : v5.category = 1) (hv6 : v6.category = 1) : zW (d + 1) kL_law 2079 [.ref 0, .ref 1, .ref 131, .ref 164, .int x4, v5, v6] [.int y0] σ Q ↔ zW (d + 1) kL_law 2085 [.ref 0, .ref 1, .ref 131, .ref 164, .int x4, v5, v6] [.int (x4 + 1), .ref 0, .ref 131, .int y0] σ Q := by
  refine Iff.trans (zw_aload_n (show decode cL_law 2079 = .ok (.aload_n 2, 1) by decide +kernel) rfl) ?_
  refine Iff.trans (zw_aload_n (show decode cL_law 2080 = .ok (.aload_n 0, 1) by decide +kernel) rfl) ?_
  refine Iff.trans (zw_iload (show decode cL_law 2081 = .ok (.iload 4, 2) by decide +kernel) rfl) ?_
  refine Iff.trans (zw_iconst (x := 1) (show decode cL_law 2083 = .ok (.iconst 1, 1) by decide +kernel) (by decide)) ?_
  refine Iff.trans (zw_iadd (show decode cL_law 2084 = .ok (.iadd, 1) by decide +kernel)) ?_
  exact Iff.rfl

theorem bL_law_2089 {d : Nat} {σ : zS} {Q : Option Value → zS → Prop} (hl : zLay σ) {x4 y0 y1 : Int32} {v5 v6 : Value} (hv5 : v5.category = 1) (hv6 : v6.category = 1) : zW (d + 1) kL_law 2089 [.ref 0, .ref 1, .ref 131, .ref 164, .int x4, v5, v6] [.int y0, .int y1] σ Q ↔ (if y1 = y0 then zW (d + 1) kL_law 2094 [.ref 0, .ref 1, .ref 131, .ref 164, .int x4, v5, v6] [] σ Q else Q (some (.int 0)) σ) := by
  refine Iff.trans (zw_icmp_eq (t := 2094) (show decode cL_law 2089 = .ok (.if_icmp .eq 5, 3) by decide +kernel) (by decide)) ?_
  refine zw_ite ?_ ?_
  · exact Iff.rfl
  · refine Iff.trans (zw_iconst (x := 0) (show decode cL_law 2092 = .ok (.iconst 0, 1) by decide +kernel) (by decide)) ?_
    exact zw_iret2c (show decode cL_law 2093 = .ok (.ireturn, 1) by decide +kernel) rfl (Or.inl rfl)

theorem bL_law_2094 {d : Nat} {σ : zS} {Q : Option Value → zS → Prop} (hl : zLay σ) {x4 : Int32} {v5 v6 : Value} (hv5 : v5.category = 1) (hv6 : v6.category = 1) : zW (d + 1) kL_law 2094 [.ref 0, .ref 1, .ref 131, .ref 164, .int x4, v5, v6] [] σ Q ↔ zW (d + 1) kL_law 23 [.ref 0, .ref 1, .ref 131, .ref 164, .int (x4 + 6), v5, v6] [] σ Q := by
  refine Iff.trans (zw_iinc (w := 6) (ls' := [.ref 0, .ref 1, .ref 131, .ref 164, .int (x4 + 6), v5, v6]) (show decode cL_law 2094 = .ok (.iinc 4 6, 3) by decide +kernel) rfl (by decide) (zset_s (Nat.le_of_ble_eq_true rfl) rfl)) ?_
  refine Iff.trans (zw_goto (t := 23) (show decode cL_law 2097 = .ok (.goto (-2074), 3) by decide +kernel) (by decide)) ?_
  exact Iff.rfl

