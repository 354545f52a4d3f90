/-! the law's rows with the script's loads in them (wip/whole/gen_law.py) -/
def lwB (σ : zS) (L : Nat) (xs : Nat → Int32) : Prop := zkind σ 0 = 99 ∧ zlen σ 0 = L ∧ zI σ 0 = xs
def lwQ (L : Nat) (x : Int32) : Prop := vp_in x L ∧ vp_in (x + 1) L ∧ vp_in (x + 2) L ∧ vp_in (x + 3) L ∧ vp_in (x + 4) L ∧ vp_in (x + 5) L
theorem zw_isl {d : Nat} {K : zK} {pc : Nat} {ls st : List Value} {σ : zS} {Q : Option Value → zS → Prop} {L : Nat} {xs : Nat → Int32} {j : Int32} (hd : decode (zKcode K) pc = .ok (.iaload, 1)) (hs : lwB σ L xs) (hl : zLay σ) (hq : vp_in j L) : zW d K pc ls (.int j :: .ref 0 :: st) σ Q ↔ zW d K (pc + 1) ls (.int (xs j.toNatClampNeg) :: st) σ Q := by
  obtain ⟨h1, h2, rfl⟩ := hs
  exact zw_isld hd h1 (Nat.lt_trans Nat.zero_lt_one (hl.n2 zk_1)) h2 hq

theorem bQ_L_law_228 {d : Nat} {σ : zS} {Q : Option Value → zS → Prop} (hl : zLay σ) {x4 : Int32} {v5 v6 : Value} {L : Nat} {xs : Nat → Int32} (hs : lwB σ L xs) (hq : lwQ L x4) (hv5 : v5.category = 1) (hv6 : v6.category = 1) : zW (d + 1) kL_law 228 [.ref 0, .ref 1, .ref 131, .ref 164, .int x4, v5, v6] [] σ Q ↔ zCall d kX11_feed [.ref 1, .int (xs (x4 + 1 : Int32).toNatClampNeg), .int (xs (x4 + 2 : Int32).toNatClampNeg), .int (xs (x4 + 3 : Int32).toNatClampNeg), .int (xs (x4 + 4 : Int32).toNatClampNeg), .int (xs (x4 + 5 : Int32).toNatClampNeg)] σ (fun r σ' => zisN r = true ∧ zW (d + 1) kL_law 262 [.ref 0, .ref 1, .ref 131, .ref 164, .int x4, v5, v6] (zRstk r ++ []) σ' Q) := by
  refine Iff.trans (zw_aload_n (show decode cL_law 228 = .ok (.aload_n 1, 1) by decide +kernel) rfl) ?_
  refine Iff.trans (zw_aload_n (show decode cL_law 229 = .ok (.aload_n 0, 1) by decide +kernel) rfl) ?_
  refine Iff.trans (zw_iload (show decode cL_law 230 = .ok (.iload 4, 2) by decide +kernel) rfl) ?_
  refine Iff.trans (zw_iconst (x := 1) (show decode cL_law 232 = .ok (.iconst 1, 1) by decide +kernel) (by decide)) ?_
  refine Iff.trans (zw_iadd (show decode cL_law 233 = .ok (.iadd, 1) by decide +kernel)) ?_
  refine Iff.trans (zw_isl (show decode cL_law 234 = .ok (.iaload, 1) by decide +kernel) hs hl hq.2.1) ?_
  refine Iff.trans (zw_aload_n (show decode cL_law 235 = .ok (.aload_n 0, 1) by decide +kernel) rfl) ?_
  refine Iff.trans (zw_iload (show decode cL_law 236 = .ok (.iload 4, 2) by decide +kernel) rfl) ?_
  refine Iff.trans (zw_iconst (x := 2) (show decode cL_law 238 = .ok (.iconst 2, 1) by decide +kernel) (by decide)) ?_
  refine Iff.trans (zw_iadd (show decode cL_law 239 = .ok (.iadd, 1) by decide +kernel)) ?_
  refine Iff.trans (zw_isl (show decode cL_law 240 = .ok (.iaload, 1) by decide +kernel) hs hl hq.2.2.1) ?_
  refine Iff.trans (zw_aload_n (show decode cL_law 241 = .ok (.aload_n 0, 1) by decide +kernel) rfl) ?_
  refine Iff.trans (zw_iload (show decode cL_law 242 = .ok (.iload 4, 2) by decide +kernel) rfl) ?_
  refine Iff.trans (zw_iconst (x := 3) (show decode cL_law 244 = .ok (.iconst 3, 1) by decide +kernel) (by decide)) ?_
  refine Iff.trans (zw_iadd (show decode cL_law 245 = .ok (.iadd, 1) by decide +kernel)) ?_
  refine Iff.trans (zw_isl (show decode cL_law 246 = .ok (.iaload, 1) by decide +kernel) hs hl hq.2.2.2.1) ?_
  refine Iff.trans (zw_aload_n (show decode cL_law 247 = .ok (.aload_n 0, 1) by decide +kernel) rfl) ?_
  refine Iff.trans (zw_iload (show decode cL_law 248 = .ok (.iload 4, 2) by decide +kernel) rfl) ?_
  refine Iff.trans (zw_iconst (x := 4) (show decode cL_law 250 = .ok (.iconst 4, 1) by decide +kernel) (by decide)) ?_
  refine Iff.trans (zw_iadd (show decode cL_law 251 = .ok (.iadd, 1) by decide +kernel)) ?_
  refine Iff.trans (zw_isl (show decode cL_law 252 = .ok (.iaload, 1) by decide +kernel) hs hl hq.2.2.2.2.1) ?_
  refine Iff.trans (zw_aload_n (show decode cL_law 253 = .ok (.aload_n 0, 1) by decide +kernel) rfl) ?_
  refine Iff.trans (zw_iload (show decode cL_law 254 = .ok (.iload 4, 2) by decide +kernel) rfl) ?_
  refine Iff.trans (zw_iconst (x := 5) (show decode cL_law 256 = .ok (.iconst 5, 1) by decide +kernel) (by decide)) ?_
  refine Iff.trans (zw_iadd (show decode cL_law 257 = .ok (.iadd, 1) by decide +kernel)) ?_
  refine Iff.trans (zw_isl (show decode cL_law 258 = .ok (.iaload, 1) by decide +kernel) hs hl hq.2.2.2.2.2) ?_
  refine Iff.trans (zw_invV (K' := kX11_feed) (as' := [.int (xs (x4 + 1 : Int32).toNatClampNeg), .int (xs (x4 + 2 : Int32).toNatClampNeg), .int (xs (x4 + 3 : Int32).toNatClampNeg), .int (xs (x4 + 4 : Int32).toNatClampNeg), .int (xs (x4 + 5 : Int32).toNatClampNeg)]) (rest := []) (show decode cL_law 259 = .ok (.invokevirtual 19, 3) by decide +kernel) (by rfl) rfl rfl rfl (hl.k2 zk_1) (by decide) (hl.n2 zk_1) ⟨Nat.le_of_ble_eq_true rfl, Nat.le_of_ble_eq_true rfl, Nat.le_of_ble_eq_true rfl⟩) ?_
  exact Iff.rfl

theorem bQ_L_law_262 {d : Nat} {σ : zS} {Q : Option Value → zS → Prop} (hl : zLay σ) {x4 y0 : Int32} {v5 v6 : Value} {L : Nat} {xs : Nat → Int32} (hs : lwB σ L xs) (hq : lwQ L x4) (hv5 : v5.category = 1) (hv6 : v6.category = 1) : zW (d + 1) kL_law 262 [.ref 0, .ref 1, .ref 131, .ref 164, .int x4, v5, v6] [.int y0] σ Q ↔ zCall d kX12_feed [.ref 131, .int (xs (x4 + 1 : Int32).toNatClampNeg), .int (xs (x4 + 2 : Int32).toNatClampNeg), .int (xs (x4 + 3 : Int32).toNatClampNeg), .int (xs (x4 + 4 : Int32).toNatClampNeg), .int (xs (x4 + 5 : Int32).toNatClampNeg)] σ (fun r σ' => zisN r = true ∧ zW (d + 1) kL_law 296 [.ref 0, .ref 1, .ref 131, .ref 164, .int x4, v5, v6] (zRstk r ++ [.int y0]) σ' Q) := by
  refine Iff.trans (zw_aload_n (show decode cL_law 262 = .ok (.aload_n 2, 1) by decide +kernel) rfl) ?_
  refine Iff.trans (zw_aload_n (show decode cL_law 263 = .ok (.aload_n 0, 1) by decide +kernel) rfl) ?_
  refine Iff.trans (zw_iload (show decode cL_law 264 = .ok (.iload 4, 2) by decide +kernel) rfl) ?_
  refine Iff.trans (zw_iconst (x := 1) (show decode cL_law 266 = .ok (.iconst 1, 1) by decide +kernel) (by decide)) ?_
  refine Iff.trans (zw_iadd (show decode cL_law 267 = .ok (.iadd, 1) by decide +kernel)) ?_
  refine Iff.trans (zw_isl (show decode cL_law 268 = .ok (.iaload, 1) by decide +kernel) hs hl hq.2.1) ?_
  refine Iff.trans (zw_aload_n (show decode cL_law 269 = .ok (.aload_n 0, 1) by decide +kernel) rfl) ?_
  refine Iff.trans (zw_iload (show decode cL_law 270 = .ok (.iload 4, 2) by decide +kernel) rfl) ?_
  refine Iff.trans (zw_iconst (x := 2) (show decode cL_law 272 = .ok (.iconst 2, 1) by decide +kernel) (by decide)) ?_
  refine Iff.trans (zw_iadd (show decode cL_law 273 = .ok (.iadd, 1) by decide +kernel)) ?_
  refine Iff.trans (zw_isl (show decode cL_law 274 = .ok (.iaload, 1) by decide +kernel) hs hl hq.2.2.1) ?_
  refine Iff.trans (zw_aload_n (show decode cL_law 275 = .ok (.aload_n 0, 1) by decide +kernel) rfl) ?_
  refine Iff.trans (zw_iload (show decode cL_law 276 = .ok (.iload 4, 2) by decide +kernel) rfl) ?_
  refine Iff.trans (zw_iconst (x := 3) (show decode cL_law 278 = .ok (.iconst 3, 1) by decide +kernel) (by decide)) ?_
  refine Iff.trans (zw_iadd (show decode cL_law 279 = .ok (.iadd, 1) by decide +kernel)) ?_
  refine Iff.trans (zw_isl (show decode cL_law 280 = .ok (.iaload, 1) by decide +kernel) hs hl hq.2.2.2.1) ?_
  refine Iff.trans (zw_aload_n (show decode cL_law 281 = .ok (.aload_n 0, 1) by decide +kernel) rfl) ?_
  refine Iff.trans (zw_iload (show decode cL_law 282 = .ok (.iload 4, 2) by decide +kernel) rfl) ?_
  refine Iff.trans (zw_iconst (x := 4) (show decode cL_law 284 = .ok (.iconst 4, 1) by decide +kernel) (by decide)) ?_
  refine Iff.trans (zw_iadd (show decode cL_law 285 = .ok (.iadd, 1) by decide +kernel)) ?_
  refine Iff.trans (zw_isl (show decode cL_law 286 = .ok (.iaload, 1) by decide +kernel) hs hl hq.2.2.2.2.1) ?_
  refine Iff.trans (zw_aload_n (show decode cL_law 287 = .ok (.aload_n 0, 1) by decide +kernel) rfl) ?_
  refine Iff.trans (zw_iload (show decode cL_law 288 = .ok (.iload 4, 2) by decide +kernel) rfl) ?_
  refine Iff.trans (zw_iconst (x := 5) (show decode cL_law 290 = .ok (.iconst 5, 1) by decide +kernel) (by decide)) ?_
  refine Iff.trans (zw_iadd (show decode cL_law 291 = .ok (.iadd, 1) by decide +kernel)) ?_
  refine Iff.trans (zw_isl (show decode cL_law 292 = .ok (.iaload, 1) by decide +kernel) hs hl hq.2.2.2.2.2) ?_
  refine Iff.trans (zw_invV (K' := kX12_feed) (as' := [.int (xs (x4 + 1 : Int32).toNatClampNeg), .int (xs (x4 + 2 : Int32).toNatClampNeg), .int (xs (x4 + 3 : Int32).toNatClampNeg), .int (xs (x4 + 4 : Int32).toNatClampNeg), .int (xs (x4 + 5 : Int32).toNatClampNeg)]) (rest := [.int y0]) (show decode cL_law 293 = .ok (.invokevirtual 23, 3) by decide +kernel) (by rfl) rfl rfl rfl (hl.k2 zk_131) (by decide) (hl.n2 zk_131) ⟨Nat.le_of_ble_eq_true rfl, Nat.le_of_ble_eq_true rfl, Nat.le_of_ble_eq_true rfl⟩) ?_
  exact Iff.rfl

theorem bQ_L_law_301 {d : Nat} {σ : zS} {Q : Option Value → zS → Prop} (hl : zLay σ) {x4 : Int32} {v5 v6 : Value} {L : Nat} {xs : Nat → Int32} (hs : lwB σ L xs) (hq : lwQ L x4) (hv5 : v5.category = 1) (hv6 : v6.category = 1) : zW (d + 1) kL_law 301 [.ref 0, .ref 1, .ref 131, .ref 164, .int x4, v5, v6] [] σ Q ↔ zCall d kX11_end [.ref 1, .int (xs (x4 + 1 : Int32).toNatClampNeg)] σ (fun r σ' => zisN r = true ∧ zW (d + 1) kL_law 311 [.ref 0, .ref 1, .ref 131, .ref 164, .int x4, v5, v6] (zRstk r ++ []) σ' Q) := by
  refine Iff.trans (zw_aload_n (show decode cL_law 301 = .ok (.aload_n 1, 1) by decide +kernel) rfl) ?_
  refine Iff.trans (zw_aload_n (show decode cL_law 302 = .ok (.aload_n 0, 1) by decide +kernel) rfl) ?_
  refine Iff.trans (zw_iload (show decode cL_law 303 = .ok (.iload 4, 2) by decide +kernel) rfl) ?_
  refine Iff.trans (zw_iconst (x := 1) (show decode cL_law 305 = .ok (.iconst 1, 1) by decide +kernel) (by decide)) ?_
  refine Iff.trans (zw_iadd (show decode cL_law 306 = .ok (.iadd, 1) by decide +kernel)) ?_
  refine Iff.trans (zw_isl (show decode cL_law 307 = .ok (.iaload, 1) by decide +kernel) hs hl hq.2.1) ?_
  refine Iff.trans (zw_invV (K' := kX11_end) (as' := [.int (xs (x4 + 1 : Int32).toNatClampNeg)]) (rest := []) (show decode cL_law 308 = .ok (.invokevirtual 24, 3) by decide +kernel) (by rfl) rfl rfl rfl (hl.k2 zk_1) (by decide) (hl.n2 zk_1) ⟨Nat.le_of_ble_eq_true rfl, Nat.le_of_ble_eq_true rfl, Nat.le_of_ble_eq_true rfl⟩) ?_
  exact Iff.rfl

theorem bQ_L_law_311 {d : Nat} {σ : zS} {Q : Option Value → zS → Prop} (hl : zLay σ) {x4 y0 : Int32} {v5 v6 : Value} {L : Nat} {xs : Nat → Int32} (hs : lwB σ L xs) (hq : lwQ L x4) (hv5 : v5.category = 1) (hv6 : v6.category = 1) : zW (d + 1) kL_law 311 [.ref 0, .ref 1, .ref 131, .ref 164, .int x4, v5, v6] [.int y0] σ Q ↔ zCall d kX12_end [.ref 131, .int (xs (x4 + 1 : Int32).toNatClampNeg)] σ (fun r σ' => zisN r = true ∧ zW (d + 1) kL_law 321 [.ref 0, .ref 1, .ref 131, .ref 164, .int x4, v5, v6] (zRstk r ++ [.int y0]) σ' Q) := by
  refine Iff.trans (zw_aload_n (show decode cL_law 311 = .ok (.aload_n 2, 1) by decide +kernel) rfl) ?_
  refine Iff.trans (zw_aload_n (show decode cL_law 312 = .ok (.aload_n 0, 1) by decide +kernel) rfl) ?_
  refine Iff.trans (zw_iload (show decode cL_law 313 = .ok (.iload 4, 2) by decide +kernel) rfl) ?_
  refine Iff.trans (zw_iconst (x := 1) (show decode cL_law 315 = .ok (.iconst 1, 1) by decide +kernel) (by decide)) ?_
  refine Iff.trans (zw_iadd (show decode cL_law 316 = .ok (.iadd, 1) by decide +kernel)) ?_
  refine Iff.trans (zw_isl (show decode cL_law 317 = .ok (.iaload, 1) by decide +kernel) hs hl hq.2.1) ?_
  refine Iff.trans (zw_invV (K' := kX12_end) (as' := [.int (xs (x4 + 1 : Int32).toNatClampNeg)]) (rest := [.int y0]) (show decode cL_law 318 = .ok (.invokevirtual 28, 3) by decide +kernel) (by rfl) rfl rfl rfl (hl.k2 zk_131) (by decide) (hl.n2 zk_131) ⟨Nat.le_of_ble_eq_true rfl, Nat.le_of_ble_eq_true rfl, Nat.le_of_ble_eq_true rfl⟩) ?_
  exact Iff.rfl

theorem bQ_L_law_326 {d : Nat} {σ : zS} {Q : Option Value → zS → Prop} (hl : zLay σ) {x4 : Int32} {v5 v6 : Value} {L : Nat} {xs : Nat → Int32} (hs : lwB σ L xs) (hq : lwQ L x4) (hv5 : v5.category = 1) (hv6 : v6.category = 1) : zW (d + 1) kL_law 326 [.ref 0, .ref 1, .ref 131, .ref 164, .int x4, v5, v6] [] σ Q ↔ zCall d kX11_fault [.ref 1, .int (xs (x4 + 1 : Int32).toNatClampNeg)] σ (fun r σ' => zisN r = true ∧ zW (d + 1) kL_law 336 [.ref 0, .ref 1, .ref 131, .ref 164, .int x4, v5, v6] (zRstk r ++ []) σ' Q) := by
  refine Iff.trans (zw_aload_n (show decode cL_law 326 = .ok (.aload_n 1, 1) by decide +kernel) rfl) ?_
  refine Iff.trans (zw_aload_n (show decode cL_law 327 = .ok (.aload_n 0, 1) by decide +kernel) rfl) ?_
  refine Iff.trans (zw_iload (show decode cL_law 328 = .ok (.iload 4, 2) by decide +kernel) rfl) ?_
  refine Iff.trans (zw_iconst (x := 1) (show decode cL_law 330 = .ok (.iconst 1, 1) by decide +kernel) (by decide)) ?_
  refine Iff.trans (zw_iadd (show decode cL_law 331 = .ok (.iadd, 1) by decide +kernel)) ?_
  refine Iff.trans (zw_isl (show decode cL_law 332 = .ok (.iaload, 1) by decide +kernel) hs hl hq.2.1) ?_
  refine Iff.trans (zw_invV (K' := kX11_fault) (as' := [.int (xs (x4 + 1 : Int32).toNatClampNeg)]) (rest := []) (show decode cL_law 333 = .ok (.invokevirtual 29, 3) by decide +kernel) (by rfl) rfl rfl rfl (hl.k2 zk_1) (by decide) (hl.n2 zk_1) ⟨Nat.le_of_ble_eq_true rfl, Nat.le_of_ble_eq_true rfl, Nat.le_of_ble_eq_true rfl⟩) ?_
  exact Iff.rfl

theorem bQ_L_law_336 {d : Nat} {σ : zS} {Q : Option Value → zS → Prop} (hl : zLay σ) {x4 y0 : Int32} {v5 v6 : Value} {L : Nat} {xs : Nat → Int32} (hs : lwB σ L xs) (hq : lwQ L x4) (hv5 : v5.category = 1) (hv6 : v6.category = 1) : zW (d + 1) kL_law 336 [.ref 0, .ref 1, .ref 131, .ref 164, .int x4, v5, v6] [.int y0] σ Q ↔ zCall d kX12_fault [.ref 131, .int (xs (x4 + 1 : Int32).toNatClampNeg)] σ (fun r σ' => zisN r = true ∧ zW (d + 1) kL_law 346 [.ref 0, .ref 1, .ref 131, .ref 164, .int x4, v5, v6] (zRstk r ++ [.int y0]) σ' Q) := by
  refine Iff.trans (zw_aload_n (show decode cL_law 336 = .ok (.aload_n 2, 1) by decide +kernel) rfl) ?_
  refine Iff.trans (zw_aload_n (show decode cL_law 337 = .ok (.aload_n 0, 1) by decide +kernel) rfl) ?_
  refine Iff.trans (zw_iload (show decode cL_law 338 = .ok (.iload 4, 2) by decide +kernel) rfl) ?_
  refine Iff.trans (zw_iconst (x := 1) (show decode cL_law 340 = .ok (.iconst 1, 1) by decide +kernel) (by decide)) ?_
  refine Iff.trans (zw_iadd (show decode cL_law 341 = .ok (.iadd, 1) by decide +kernel)) ?_
  refine Iff.trans (zw_isl (show decode cL_law 342 = .ok (.iaload, 1) by decide +kernel) hs hl hq.2.1) ?_
  refine Iff.trans (zw_invV (K' := kX12_fault) (as' := [.int (xs (x4 + 1 : Int32).toNatClampNeg)]) (rest := [.int y0]) (show decode cL_law 343 = .ok (.invokevirtual 33, 3) by decide +kernel) (by rfl) rfl rfl rfl (hl.k2 zk_131) (by decide) (hl.n2 zk_131) ⟨Nat.le_of_ble_eq_true rfl, Nat.le_of_ble_eq_true rfl, Nat.le_of_ble_eq_true rfl⟩) ?_
  exact Iff.rfl

theorem bQ_L_law_351 {d : Nat} {σ : zS} {Q : Option Value → zS → Prop} (hl : zLay σ) {x4 : Int32} {v5 v6 : Value} {L : Nat} {xs : Nat → Int32} (hs : lwB σ L xs) (hq : lwQ L x4) (hv5 : v5.category = 1) (hv6 : v6.category = 1) : zW (d + 1) kL_law 351 [.ref 0, .ref 1, .ref 131, .ref 164, .int x4, v5, v6] [] σ Q ↔ zCall d kX11_text [.ref 1, .int (xs (x4 + 1 : Int32).toNatClampNeg)] σ (fun r σ' => zisN r = true ∧ zW (d + 1) kL_law 361 [.ref 0, .ref 1, .ref 131, .ref 164, .int x4, v5, v6] (zRstk r ++ []) σ' Q) := by
  refine Iff.trans (zw_aload_n (show decode cL_law 351 = .ok (.aload_n 1, 1) by decide +kernel) rfl) ?_
  refine Iff.trans (zw_aload_n (show decode cL_law 352 = .ok (.aload_n 0, 1) by decide +kernel) rfl) ?_
  refine Iff.trans (zw_iload (show decode cL_law 353 = .ok (.iload 4, 2) by decide +kernel) rfl) ?_
  refine Iff.trans (zw_iconst (x := 1) (show decode cL_law 355 = .ok (.iconst 1, 1) by decide +kernel) (by decide)) ?_
  refine Iff.trans (zw_iadd (show decode cL_law 356 = .ok (.iadd, 1) by decide +kernel)) ?_
  refine Iff.trans (zw_isl (show decode cL_law 357 = .ok (.iaload, 1) by decide +kernel) hs hl hq.2.1) ?_
  refine Iff.trans (zw_invV (K' := kX11_text) (as' := [.int (xs (x4 + 1 : Int32).toNatClampNeg)]) (rest := []) (show decode cL_law 358 = .ok (.invokevirtual 34, 3) by decide +kernel) (by rfl) rfl rfl rfl (hl.k2 zk_1) (by decide) (hl.n2 zk_1) ⟨Nat.le_of_ble_eq_true rfl, Nat.le_of_ble_eq_true rfl, Nat.le_of_ble_eq_true rfl⟩) ?_
  exact Iff.rfl

theorem bQ_L_law_361 {d : Nat} {σ : zS} {Q : Option Value → zS → Prop} (hl : zLay σ) {x4 y0 : Int32} {v5 v6 : Value} {L : Nat} {xs : Nat → Int32} (hs : lwB σ L xs) (hq : lwQ L x4) (hv5 : v5.category = 1) (hv6 : v6.category = 1) : zW (d + 1) kL_law 361 [.ref 0, .ref 1, .ref 131, .ref 164, .int x4, v5, v6] [.int y0] σ Q ↔ zCall d kX12_text [.ref 131, .int (xs (x4 + 1 : Int32).toNatClampNeg)] σ (fun r σ' => zisN r = true ∧ zW (d + 1) kL_law 371 [.ref 0, .ref 1, .ref 131, .ref 164, .int x4, v5, v6] (zRstk r ++ [.int y0]) σ' Q) := by
  refine Iff.trans (zw_aload_n (show decode cL_law 361 = .ok (.aload_n 2, 1) by decide +kernel) rfl) ?_
  refine Iff.trans (zw_aload_n (show decode cL_law 362 = .ok (.aload_n 0, 1) by decide +kernel) rfl) ?_
  refine Iff.trans (zw_iload (show decode cL_law 363 = .ok (.iload 4, 2) by decide +kernel) rfl) ?_
  refine Iff.trans (zw_iconst (x := 1) (show decode cL_law 365 = .ok (.iconst 1, 1) by decide +kernel) (by decide)) ?_
  refine Iff.trans (zw_iadd (show decode cL_law 366 = .ok (.iadd, 1) by decide +kernel)) ?_
  refine Iff.trans (zw_isl (show decode cL_law 367 = .ok (.iaload, 1) by decide +kernel) hs hl hq.2.1) ?_
  refine Iff.trans (zw_invV (K' := kX12_text) (as' := [.int (xs (x4 + 1 : Int32).toNatClampNeg)]) (rest := [.int y0]) (show decode cL_law 368 = .ok (.invokevirtual 37, 3) by decide +kernel) (by rfl) rfl rfl rfl (hl.k2 zk_131) (by decide) (hl.n2 zk_131) ⟨Nat.le_of_ble_eq_true rfl, Nat.le_of_ble_eq_true rfl, Nat.le_of_ble_eq_true rfl⟩) ?_
  exact Iff.rfl

theorem bQ_L_law_376 {d : Nat} {σ : zS} {Q : Option Value → zS → Prop} (hl : zLay σ) {x4 : Int32} {v5 v6 : Value} {L : Nat} {xs : Nat → Int32} (hs : lwB σ L xs) (hq : lwQ L x4) (hv5 : v5.category = 1) (hv6 : v6.category = 1) : zW (d + 1) kL_law 376 [.ref 0, .ref 1, .ref 131, .ref 164, .int x4, v5, v6] [] σ Q ↔ zW (d + 1) kL_law 390 [.ref 0, .ref 1, .ref 131, .ref 164, .int x4, v5, v6] [.ref 164, .int (xs (x4 + 2 : Int32).toNatClampNeg), .int (xs (x4 + 1 : Int32).toNatClampNeg), .ref 1] σ Q := by
  refine Iff.trans (zw_aload_n (show decode cL_law 376 = .ok (.aload_n 1, 1) by decide +kernel) rfl) ?_
  refine Iff.trans (zw_aload_n (show decode cL_law 377 = .ok (.aload_n 0, 1) by decide +kernel) rfl) ?_
  refine Iff.trans (zw_iload (show decode cL_law 378 = .ok (.iload 4, 2) by decide +kernel) rfl) ?_
  refine Iff.trans (zw_iconst (x := 1) (show decode cL_law 380 = .ok (.iconst 1, 1) by decide +kernel) (by decide)) ?_
  refine Iff.trans (zw_iadd (show decode cL_law 381 = .ok (.iadd, 1) by decide +kernel)) ?_
  refine Iff.trans (zw_isl (show decode cL_law 382 = .ok (.iaload, 1) by decide +kernel) hs hl hq.2.1) ?_
  refine Iff.trans (zw_aload_n (show decode cL_law 383 = .ok (.aload_n 0, 1) by decide +kernel) rfl) ?_
  refine Iff.trans (zw_iload (show decode cL_law 384 = .ok (.iload 4, 2) by decide +kernel) rfl) ?_
  refine Iff.trans (zw_iconst (x := 2) (show decode cL_law 386 = .ok (.iconst 2, 1) by decide +kernel) (by decide)) ?_
  refine Iff.trans (zw_iadd (show decode cL_law 387 = .ok (.iadd, 1) by decide +kernel)) ?_
  refine Iff.trans (zw_isl (show decode cL_law 388 = .ok (.iaload, 1) by decide +kernel) hs hl hq.2.2.1) ?_
  refine Iff.trans (zw_aload_n (show decode cL_law 389 = .ok (.aload_n 3, 1) by decide +kernel) rfl) ?_
  exact Iff.rfl

theorem bQ_L_law_393 {d : Nat} {σ : zS} {Q : Option Value → zS → Prop} (hl : zLay σ) {x4 y0 : Int32} {v5 v6 : Value} {L : Nat} {xs : Nat → Int32} (hs : lwB σ L xs) (hq : lwQ L x4) (hv5 : v5.category = 1) (hv6 : v6.category = 1) : zW (d + 1) kL_law 393 [.ref 0, .ref 1, .ref 131, .ref 164, .int x4, v5, v6] [.int y0] σ Q ↔ zCall d kX12_brook [.ref 131, .int (xs (x4 + 1 : Int32).toNatClampNeg), .int (xs (x4 + 2 : Int32).toNatClampNeg)] σ (fun r σ' => zisN r = true ∧ zW (d + 1) kL_law 411 [.ref 0, .ref 1, .ref 131, .ref 164, .int x4, .int y0, v6] (zRstk r ++ []) σ' Q) := by
  refine Iff.trans (zw_istore (ls' := [.ref 0, .ref 1, .ref 131, .ref 164, .int x4, .int y0, v6]) (show decode cL_law 393 = .ok (.istore 5, 2) by decide +kernel) (zset_s (Nat.le_of_ble_eq_true rfl) rfl)) ?_
  refine Iff.trans (zw_aload_n (show decode cL_law 395 = .ok (.aload_n 2, 1) by decide +kernel) rfl) ?_
  refine Iff.trans (zw_aload_n (show decode cL_law 396 = .ok (.aload_n 0, 1) by decide +kernel) rfl) ?_
  refine Iff.trans (zw_iload (show decode cL_law 397 = .ok (.iload 4, 2) by decide +kernel) rfl) ?_
  refine Iff.trans (zw_iconst (x := 1) (show decode cL_law 399 = .ok (.iconst 1, 1) by decide +kernel) (by decide)) ?_
  refine Iff.trans (zw_iadd (show decode cL_law 400 = .ok (.iadd, 1) by decide +kernel)) ?_
  refine Iff.trans (zw_isl (show decode cL_law 401 = .ok (.iaload, 1) by decide +kernel) hs hl hq.2.1) ?_
  refine Iff.trans (zw_aload_n (show decode cL_law 402 = .ok (.aload_n 0, 1) by decide +kernel) rfl) ?_
  refine Iff.trans (zw_iload (show decode cL_law 403 = .ok (.iload 4, 2) by decide +kernel) rfl) ?_
  refine Iff.trans (zw_iconst (x := 2) (show decode cL_law 405 = .ok (.iconst 2, 1) by decide +kernel) (by decide)) ?_
  refine Iff.trans (zw_iadd (show decode cL_law 406 = .ok (.iadd, 1) by decide +kernel)) ?_
  refine Iff.trans (zw_isl (show decode cL_law 407 = .ok (.iaload, 1) by decide +kernel) hs hl hq.2.2.1) ?_
  refine Iff.trans (zw_invV (K' := kX12_brook) (as' := [.int (xs (x4 + 1 : Int32).toNatClampNeg), .int (xs (x4 + 2 : Int32).toNatClampNeg)]) (rest := []) (show decode cL_law 408 = .ok (.invokevirtual 43, 3) by decide +kernel) (by rfl) rfl rfl rfl (hl.k2 zk_131) (by decide) (hl.n2 zk_131) ⟨Nat.le_of_ble_eq_true rfl, Nat.le_of_ble_eq_true rfl, Nat.le_of_ble_eq_true rfl⟩) ?_
  exact Iff.rfl

theorem bQ_L_law_444 {d : Nat} {σ : zS} {Q : Option Value → zS → Prop} (hl : zLay σ) {x4 : Int32} {v5 v6 : Value} {L : Nat} {xs : Nat → Int32} (hs : lwB σ L xs) (hq : lwQ L x4) (hv5 : v5.category = 1) (hv6 : v6.category = 1) : zW (d + 1) kL_law 444 [.ref 0, .ref 1, .ref 131, .ref 164, .int x4, v5, v6] [] σ Q ↔ zCall d kX11_pace [.ref 1, .int (xs (x4 + 1 : Int32).toNatClampNeg), .int (xs (x4 + 2 : Int32).toNatClampNeg), .int (xs (x4 + 3 : Int32).toNatClampNeg)] σ (fun r σ' => zisN r = true ∧ zW (d + 1) kL_law 466 [.ref 0, .ref 1, .ref 131, .ref 164, .int x4, v5, v6] (zRstk r ++ []) σ' Q) := by
  refine Iff.trans (zw_aload_n (show decode cL_law 444 = .ok (.aload_n 1, 1) by decide +kernel) rfl) ?_
  refine Iff.trans (zw_aload_n (show decode cL_law 445 = .ok (.aload_n 0, 1) by decide +kernel) rfl) ?_
  refine Iff.trans (zw_iload (show decode cL_law 446 = .ok (.iload 4, 2) by decide +kernel) rfl) ?_
  refine Iff.trans (zw_iconst (x := 1) (show decode cL_law 448 = .ok (.iconst 1, 1) by decide +kernel) (by decide)) ?_
  refine Iff.trans (zw_iadd (show decode cL_law 449 = .ok (.iadd, 1) by decide +kernel)) ?_
  refine Iff.trans (zw_isl (show decode cL_law 450 = .ok (.iaload, 1) by decide +kernel) hs hl hq.2.1) ?_
  refine Iff.trans (zw_aload_n (show decode cL_law 451 = .ok (.aload_n 0, 1) by decide +kernel) rfl) ?_
  refine Iff.trans (zw_iload (show decode cL_law 452 = .ok (.iload 4, 2) by decide +kernel) rfl) ?_
  refine Iff.trans (zw_iconst (x := 2) (show decode cL_law 454 = .ok (.iconst 2, 1) by decide +kernel) (by decide)) ?_
  refine Iff.trans (zw_iadd (show decode cL_law 455 = .ok (.iadd, 1) by decide +kernel)) ?_
  refine Iff.trans (zw_isl (show decode cL_law 456 = .ok (.iaload, 1) by decide +kernel) hs hl hq.2.2.1) ?_
  refine Iff.trans (zw_aload_n (show decode cL_law 457 = .ok (.aload_n 0, 1) by decide +kernel) rfl) ?_
  refine Iff.trans (zw_iload (show decode cL_law 458 = .ok (.iload 4, 2) by decide +kernel) rfl) ?_
  refine Iff.trans (zw_iconst (x := 3) (show decode cL_law 460 = .ok (.iconst 3, 1) by decide +kernel) (by decide)) ?_
  refine Iff.trans (zw_iadd (show decode cL_law 461 = .ok (.iadd, 1) by decide +kernel)) ?_
  refine Iff.trans (zw_isl (show decode cL_law 462 = .ok (.iaload, 1) by decide +kernel) hs hl hq.2.2.2.1) ?_
  refine Iff.trans (zw_invV (K' := kX11_pace) (as' := [.int (xs (x4 + 1 : Int32).toNatClampNeg), .int (xs (x4 + 2 : Int32).toNatClampNeg), .int (xs (x4 + 3 : Int32).toNatClampNeg)]) (rest := []) (show decode cL_law 463 = .ok (.invokevirtual 48, 3) by decide +kernel) (by rfl) rfl rfl rfl (hl.k2 zk_1) (by decide) (hl.n2 zk_1) ⟨Nat.le_of_ble_eq_true rfl, Nat.le_of_ble_eq_true rfl, Nat.le_of_ble_eq_true rfl⟩) ?_
  exact Iff.rfl

theorem bQ_L_law_466 {d : Nat} {σ : zS} {Q : Option Value → zS → Prop} (hl : zLay σ) {x4 y0 : Int32} {v5 v6 : Value} {L : Nat} {xs : Nat → Int32} (hs : lwB σ L xs) (hq : lwQ L x4) (hv5 : v5.category = 1) (hv6 : v6.category = 1) : zW (d + 1) kL_law 466 [.ref 0, .ref 1, .ref 131, .ref 164, .int x4, v5, v6] [.int y0] σ Q ↔ zCall d kX12_pace [.ref 131, .int (xs (x4 + 1 : Int32).toNatClampNeg), .int (xs (x4 + 2 : Int32).toNatClampNeg), .int (xs (x4 + 3 : Int32).toNatClampNeg)] σ (fun r σ' => zisN r = true ∧ zW (d + 1) kL_law 488 [.ref 0, .ref 1, .ref 131, .ref 164, .int x4, v5, v6] (zRstk r ++ [.int y0]) σ' Q) := by
  refine Iff.trans (zw_aload_n (show decode cL_law 466 = .ok (.aload_n 2, 1) by decide +kernel) rfl) ?_
  refine Iff.trans (zw_aload_n (show decode cL_law 467 = .ok (.aload_n 0, 1) by decide +kernel) rfl) ?_
  refine Iff.trans (zw_iload (show decode cL_law 468 = .ok (.iload 4, 2) by decide +kernel) rfl) ?_
  refine Iff.trans (zw_iconst (x := 1) (show decode cL_law 470 = .ok (.iconst 1, 1) by decide +kernel) (by decide)) ?_
  refine Iff.trans (zw_iadd (show decode cL_law 471 = .ok (.iadd, 1) by decide +kernel)) ?_
  refine Iff.trans (zw_isl (show decode cL_law 472 = .ok (.iaload, 1) by decide +kernel) hs hl hq.2.1) ?_
  refine Iff.trans (zw_aload_n (show decode cL_law 473 = .ok (.aload_n 0, 1) by decide +kernel) rfl) ?_
  refine Iff.trans (zw_iload (show decode cL_law 474 = .ok (.iload 4, 2) by decide +kernel) rfl) ?_
  refine Iff.trans (zw_iconst (x := 2) (show decode cL_law 476 = .ok (.iconst 2, 1) by decide +kernel) (by decide)) ?_
  refine Iff.trans (zw_iadd (show decode cL_law 477 = .ok (.iadd, 1) by decide +kernel)) ?_
  refine Iff.trans (zw_isl (show decode cL_law 478 = .ok (.iaload, 1) by decide +kernel) hs hl hq.2.2.1) ?_
  refine Iff.trans (zw_aload_n (show decode cL_law 479 = .ok (.aload_n 0, 1) by decide +kernel) rfl) ?_
  refine Iff.trans (zw_iload (show decode cL_law 480 = .ok (.iload 4, 2) by decide +kernel) rfl) ?_
  refine Iff.trans (zw_iconst (x := 3) (show decode cL_law 482 = .ok (.iconst 3, 1) by decide +kernel) (by decide)) ?_
  refine Iff.trans (zw_iadd (show decode cL_law 483 = .ok (.iadd, 1) by decide +kernel)) ?_
  refine Iff.trans (zw_isl (show decode cL_law 484 = .ok (.iaload, 1) by decide +kernel) hs hl hq.2.2.2.1) ?_
  refine Iff.trans (zw_invV (K' := kX12_pace) (as' := [.int (xs (x4 + 1 : Int32).toNatClampNeg), .int (xs (x4 + 2 : Int32).toNatClampNeg), .int (xs (x4 + 3 : Int32).toNatClampNeg)]) (rest := [.int y0]) (show decode cL_law 485 = .ok (.invokevirtual 52, 3) by decide +kernel) (by rfl) rfl rfl rfl (hl.k2 zk_131) (by decide) (hl.n2 zk_131) ⟨Nat.le_of_ble_eq_true rfl, Nat.le_of_ble_eq_true rfl, Nat.le_of_ble_eq_true rfl⟩) ?_
  exact Iff.rfl

theorem bQ_L_law_493 {d : Nat} {σ : zS} {Q : Option Value → zS → Prop} (hl : zLay σ) {x4 : Int32} {v5 v6 : Value} {L : Nat} {xs : Nat → Int32} (hs : lwB σ L xs) (hq : lwQ L x4) (hv5 : v5.category = 1) (hv6 : v6.category = 1) : zW (d + 1) kL_law 493 [.ref 0, .ref 1, .ref 131, .ref 164, .int x4, v5, v6] [] σ Q ↔ zCall d kX11_stick [.ref 1, .int (xs (x4 + 1 : Int32).toNatClampNeg), .int (xs (x4 + 2 : Int32).toNatClampNeg)] σ (fun r σ' => zisN r = true ∧ zW (d + 1) kL_law 509 [.ref 0, .ref 1, .ref 131, .ref 164, .int x4, v5, v6] (zRstk r ++ []) σ' Q) := by
  refine Iff.trans (zw_aload_n (show decode cL_law 493 = .ok (.aload_n 1, 1) by decide +kernel) rfl) ?_
  refine Iff.trans (zw_aload_n (show decode cL_law 494 = .ok (.aload_n 0, 1) by decide +kernel) rfl) ?_
  refine Iff.trans (zw_iload (show decode cL_law 495 = .ok (.iload 4, 2) by decide +kernel) rfl) ?_
  refine Iff.trans (zw_iconst (x := 1) (show decode cL_law 497 = .ok (.iconst 1, 1) by decide +kernel) (by decide)) ?_
  refine Iff.trans (zw_iadd (show decode cL_law 498 = .ok (.iadd, 1) by decide +kernel)) ?_
  refine Iff.trans (zw_isl (show decode cL_law 499 = .ok (.iaload, 1) by decide +kernel) hs hl hq.2.1) ?_
  refine Iff.trans (zw_aload_n (show decode cL_law 500 = .ok (.aload_n 0, 1) by decide +kernel) rfl) ?_
  refine Iff.trans (zw_iload (show decode cL_law 501 = .ok (.iload 4, 2) by decide +kernel) rfl) ?_
  refine Iff.trans (zw_iconst (x := 2) (show decode cL_law 503 = .ok (.iconst 2, 1) by decide +kernel) (by decide)) ?_
  refine Iff.trans (zw_iadd (show decode cL_law 504 = .ok (.iadd, 1) by decide +kernel)) ?_
  refine Iff.trans (zw_isl (show decode cL_law 505 = .ok (.iaload, 1) by decide +kernel) hs hl hq.2.2.1) ?_
  refine Iff.trans (zw_invV (K' := kX11_stick) (as' := [.int (xs (x4 + 1 : Int32).toNatClampNeg), .int (xs (x4 + 2 : Int32).toNatClampNeg)]) (rest := []) (show decode cL_law 506 = .ok (.invokevirtual 53, 3) by decide +kernel) (by rfl) rfl rfl rfl (hl.k2 zk_1) (by decide) (hl.n2 zk_1) ⟨Nat.le_of_ble_eq_true rfl, Nat.le_of_ble_eq_true rfl, Nat.le_of_ble_eq_true rfl⟩) ?_
  exact Iff.rfl

theorem bQ_L_law_509 {d : Nat} {σ : zS} {Q : Option Value → zS → Prop} (hl : zLay σ) {x4 y0 : Int32} {v5 v6 : Value} {L : Nat} {xs : Nat → Int32} (hs : lwB σ L xs) (hq : lwQ L x4) (hv5 : v5.category = 1) (hv6 : v6.category = 1) : zW (d + 1) kL_law 509 [.ref 0, .ref 1, .ref 131, .ref 164, .int x4, v5, v6] [.int y0] σ Q ↔ zCall d kX12_stick [.ref 131, .int (xs (x4 + 1 : Int32).toNatClampNeg), .int (xs (x4 + 2 : Int32).toNatClampNeg)] σ (fun r σ' => zisN r = true ∧ zW (d + 1) kL_law 525 [.ref 0, .ref 1, .ref 131, .ref 164, .int x4, v5, v6] (zRstk r ++ [.int y0]) σ' Q) := by
  refine Iff.trans (zw_aload_n (show decode cL_law 509 = .ok (.aload_n 2, 1) by decide +kernel) rfl) ?_
  refine Iff.trans (zw_aload_n (show decode cL_law 510 = .ok (.aload_n 0, 1) by decide +kernel) rfl) ?_
  refine Iff.trans (zw_iload (show decode cL_law 511 = .ok (.iload 4, 2) by decide +kernel) rfl) ?_
  refine Iff.trans (zw_iconst (x := 1) (show decode cL_law 513 = .ok (.iconst 1, 1) by decide +kernel) (by decide)) ?_
  refine Iff.trans (zw_iadd (show decode cL_law 514 = .ok (.iadd, 1) by decide +kernel)) ?_
  refine Iff.trans (zw_isl (show decode cL_law 515 = .ok (.iaload, 1) by decide +kernel) hs hl hq.2.1) ?_
  refine Iff.trans (zw_aload_n (show decode cL_law 516 = .ok (.aload_n 0, 1) by decide +kernel) rfl) ?_
  refine Iff.trans (zw_iload (show decode cL_law 517 = .ok (.iload 4, 2) by decide +kernel) rfl) ?_
  refine Iff.trans (zw_iconst (x := 2) (show decode cL_law 519 = .ok (.iconst 2, 1) by decide +kernel) (by decide)) ?_
  refine Iff.trans (zw_iadd (show decode cL_law 520 = .ok (.iadd, 1) by decide +kernel)) ?_
  refine Iff.trans (zw_isl (show decode cL_law 521 = .ok (.iaload, 1) by decide +kernel) hs hl hq.2.2.1) ?_
  refine Iff.trans (zw_invV (K' := kX12_stick) (as' := [.int (xs (x4 + 1 : Int32).toNatClampNeg), .int (xs (x4 + 2 : Int32).toNatClampNeg)]) (rest := [.int y0]) (show decode cL_law 522 = .ok (.invokevirtual 56, 3) by decide +kernel) (by rfl) rfl rfl rfl (hl.k2 zk_131) (by decide) (hl.n2 zk_131) ⟨Nat.le_of_ble_eq_true rfl, Nat.le_of_ble_eq_true rfl, Nat.le_of_ble_eq_true rfl⟩) ?_
  exact Iff.rfl

theorem bQ_L_law_530 {d : Nat} {σ : zS} {Q : Option Value → zS → Prop} (hl : zLay σ) {x4 : Int32} {v5 v6 : Value} {L : Nat} {xs : Nat → Int32} (hs : lwB σ L xs) (hq : lwQ L x4) (hv5 : v5.category = 1) (hv6 : v6.category = 1) : zW (d + 1) kL_law 530 [.ref 0, .ref 1, .ref 131, .ref 164, .int x4, v5, v6] [] σ Q ↔ zCall d kX11_weather [.ref 1, .int (xs (x4 + 1 : Int32).toNatClampNeg), .int (xs (x4 + 2 : Int32).toNatClampNeg)] σ (fun r σ' => zisN r = true ∧ zW (d + 1) kL_law 546 [.ref 0, .ref 1, .ref 131, .ref 164, .int x4, v5, v6] (zRstk r ++ []) σ' Q) := by
  refine Iff.trans (zw_aload_n (show decode cL_law 530 = .ok (.aload_n 1, 1) by decide +kernel) rfl) ?_
  refine Iff.trans (zw_aload_n (show decode cL_law 531 = .ok (.aload_n 0, 1) by decide +kernel) rfl) ?_
  refine Iff.trans (zw_iload (show decode cL_law 532 = .ok (.iload 4, 2) by decide +kernel) rfl) ?_
  refine Iff.trans (zw_iconst (x := 1) (show decode cL_law 534 = .ok (.iconst 1, 1) by decide +kernel) (by decide)) ?_
  refine Iff.trans (zw_iadd (show decode cL_law 535 = .ok (.iadd, 1) by decide +kernel)) ?_
  refine Iff.trans (zw_isl (show decode cL_law 536 = .ok (.iaload, 1) by decide +kernel) hs hl hq.2.1) ?_
  refine Iff.trans (zw_aload_n (show decode cL_law 537 = .ok (.aload_n 0, 1) by decide +kernel) rfl) ?_
  refine Iff.trans (zw_iload (show decode cL_law 538 = .ok (.iload 4, 2) by decide +kernel) rfl) ?_
  refine Iff.trans (zw_iconst (x := 2) (show decode cL_law 540 = .ok (.iconst 2, 1) by decide +kernel) (by decide)) ?_
  refine Iff.trans (zw_iadd (show decode cL_law 541 = .ok (.iadd, 1) by decide +kernel)) ?_
  refine Iff.trans (zw_isl (show decode cL_law 542 = .ok (.iaload, 1) by decide +kernel) hs hl hq.2.2.1) ?_
  refine Iff.trans (zw_invV (K' := kX11_weather) (as' := [.int (xs (x4 + 1 : Int32).toNatClampNeg), .int (xs (x4 + 2 : Int32).toNatClampNeg)]) (rest := []) (show decode cL_law 543 = .ok (.invokevirtual 57, 3) by decide +kernel) (by rfl) rfl rfl rfl (hl.k2 zk_1) (by decide) (hl.n2 zk_1) ⟨Nat.le_of_ble_eq_true rfl, Nat.le_of_ble_eq_true rfl, Nat.le_of_ble_eq_true rfl⟩) ?_
  exact Iff.rfl

theorem bQ_L_law_546 {d : Nat} {σ : zS} {Q : Option Value → zS → Prop} (hl : zLay σ) {x4 y0 : Int32} {v5 v6 : Value} {L : Nat} {xs : Nat → Int32} (hs : lwB σ L xs) (hq : lwQ L x4) (hv5 : v5.category = 1) (hv6 : v6.category = 1) : zW (d + 1) kL_law 546 [.ref 0, .ref 1, .ref 131, .ref 164, .int x4, v5, v6] [.int y0] σ Q ↔ zCall d kX12_weather [.ref 131, .int (xs (x4 + 1 : Int32).toNatClampNeg), .int (xs (x4 + 2 : Int32).toNatClampNeg)] σ (fun r σ' => zisN r = true ∧ zW (d + 1) kL_law 562 [.ref 0, .ref 1, .ref 131, .ref 164, .int x4, v5, v6] (zRstk r ++ [.int y0]) σ' Q) := by
  refine Iff.trans (zw_aload_n (show decode cL_law 546 = .ok (.aload_n 2, 1) by decide +kernel) rfl) ?_
  refine Iff.trans (zw_aload_n (show decode cL_law 547 = .ok (.aload_n 0, 1) by decide +kernel) rfl) ?_
  refine Iff.trans (zw_iload (show decode cL_law 548 = .ok (.iload 4, 2) by decide +kernel) rfl) ?_
  refine Iff.trans (zw_iconst (x := 1) (show decode cL_law 550 = .ok (.iconst 1, 1) by decide +kernel) (by decide)) ?_
  refine Iff.trans (zw_iadd (show decode cL_law 551 = .ok (.iadd, 1) by decide +kernel)) ?_
  refine Iff.trans (zw_isl (show decode cL_law 552 = .ok (.iaload, 1) by decide +kernel) hs hl hq.2.1) ?_
  refine Iff.trans (zw_aload_n (show decode cL_law 553 = .ok (.aload_n 0, 1) by decide +kernel) rfl) ?_
  refine Iff.trans (zw_iload (show decode cL_law 554 = .ok (.iload 4, 2) by decide +kernel) rfl) ?_
  refine Iff.trans (zw_iconst (x := 2) (show decode cL_law 556 = .ok (.iconst 2, 1) by decide +kernel) (by decide)) ?_
  refine Iff.trans (zw_iadd (show decode cL_law 557 = .ok (.iadd, 1) by decide +kernel)) ?_
  refine Iff.trans (zw_isl (show decode cL_law 558 = .ok (.iaload, 1) by decide +kernel) hs hl hq.2.2.1) ?_
  refine Iff.trans (zw_invV (K' := kX12_weather) (as' := [.int (xs (x4 + 1 : Int32).toNatClampNeg), .int (xs (x4 + 2 : Int32).toNatClampNeg)]) (rest := [.int y0]) (show decode cL_law 559 = .ok (.invokevirtual 61, 3) by decide +kernel) (by rfl) rfl rfl rfl (hl.k2 zk_131) (by decide) (hl.n2 zk_131) ⟨Nat.le_of_ble_eq_true rfl, Nat.le_of_ble_eq_true rfl, Nat.le_of_ble_eq_true rfl⟩) ?_
  exact Iff.rfl

theorem bQ_L_law_567 {d : Nat} {σ : zS} {Q : Option Value → zS → Prop} (hl : zLay σ) {x4 : Int32} {v5 v6 : Value} {L : Nat} {xs : Nat → Int32} (hs : lwB σ L xs) (hq : lwQ L x4) (hv5 : v5.category = 1) (hv6 : v6.category = 1) : zW (d + 1) kL_law 567 [.ref 0, .ref 1, .ref 131, .ref 164, .int x4, v5, v6] [] σ Q ↔ zCall d kX11_can [.ref 1, .int (xs (x4 + 1 : Int32).toNatClampNeg), .int (xs (x4 + 2 : Int32).toNatClampNeg), .int (xs (x4 + 3 : Int32).toNatClampNeg), .int (xs (x4 + 4 : Int32).toNatClampNeg)] σ (fun r σ' => zisN r = true ∧ zW (d + 1) kL_law 595 [.ref 0, .ref 1, .ref 131, .ref 164, .int x4, v5, v6] (zRstk r ++ []) σ' Q) := by
  refine Iff.trans (zw_aload_n (show decode cL_law 567 = .ok (.aload_n 1, 1) by decide +kernel) rfl) ?_
  refine Iff.trans (zw_aload_n (show decode cL_law 568 = .ok (.aload_n 0, 1) by decide +kernel) rfl) ?_
  refine Iff.trans (zw_iload (show decode cL_law 569 = .ok (.iload 4, 2) by decide +kernel) rfl) ?_
  refine Iff.trans (zw_iconst (x := 1) (show decode cL_law 571 = .ok (.iconst 1, 1) by decide +kernel) (by decide)) ?_
  refine Iff.trans (zw_iadd (show decode cL_law 572 = .ok (.iadd, 1) by decide +kernel)) ?_
  refine Iff.trans (zw_isl (show decode cL_law 573 = .ok (.iaload, 1) by decide +kernel) hs hl hq.2.1) ?_
  refine Iff.trans (zw_aload_n (show decode cL_law 574 = .ok (.aload_n 0, 1) by decide +kernel) rfl) ?_
  refine Iff.trans (zw_iload (show decode cL_law 575 = .ok (.iload 4, 2) by decide +kernel) rfl) ?_
  refine Iff.trans (zw_iconst (x := 2) (show decode cL_law 577 = .ok (.iconst 2, 1) by decide +kernel) (by decide)) ?_
  refine Iff.trans (zw_iadd (show decode cL_law 578 = .ok (.iadd, 1) by decide +kernel)) ?_
  refine Iff.trans (zw_isl (show decode cL_law 579 = .ok (.iaload, 1) by decide +kernel) hs hl hq.2.2.1) ?_
  refine Iff.trans (zw_aload_n (show decode cL_law 580 = .ok (.aload_n 0, 1) by decide +kernel) rfl) ?_
  refine Iff.trans (zw_iload (show decode cL_law 581 = .ok (.iload 4, 2) by decide +kernel) rfl) ?_
  refine Iff.trans (zw_iconst (x := 3) (show decode cL_law 583 = .ok (.iconst 3, 1) by decide +kernel) (by decide)) ?_
  refine Iff.trans (zw_iadd (show decode cL_law 584 = .ok (.iadd, 1) by decide +kernel)) ?_
  refine Iff.trans (zw_isl (show decode cL_law 585 = .ok (.iaload, 1) by decide +kernel) hs hl hq.2.2.2.1) ?_
  refine Iff.trans (zw_aload_n (show decode cL_law 586 = .ok (.aload_n 0, 1) by decide +kernel) rfl) ?_
  refine Iff.trans (zw_iload (show decode cL_law 587 = .ok (.iload 4, 2) by decide +kernel) rfl) ?_
  refine Iff.trans (zw_iconst (x := 4) (show decode cL_law 589 = .ok (.iconst 4, 1) by decide +kernel) (by decide)) ?_
  refine Iff.trans (zw_iadd (show decode cL_law 590 = .ok (.iadd, 1) by decide +kernel)) ?_
  refine Iff.trans (zw_isl (show decode cL_law 591 = .ok (.iaload, 1) by decide +kernel) hs hl hq.2.2.2.2.1) ?_
  refine Iff.trans (zw_invV (K' := kX11_can) (as' := [.int (xs (x4 + 1 : Int32).toNatClampNeg), .int (xs (x4 + 2 : Int32).toNatClampNeg), .int (xs (x4 + 3 : Int32).toNatClampNeg), .int (xs (x4 + 4 : Int32).toNatClampNeg)]) (rest := []) (show decode cL_law 592 = .ok (.invokevirtual 62, 3) by decide +kernel) (by rfl) rfl rfl rfl (hl.k2 zk_1) (by decide) (hl.n2 zk_1) ⟨Nat.le_of_ble_eq_true rfl, Nat.le_of_ble_eq_true rfl, Nat.le_of_ble_eq_true rfl⟩) ?_
  exact Iff.rfl

theorem bQ_L_law_595 {d : Nat} {σ : zS} {Q : Option Value → zS → Prop} (hl : zLay σ) {x4 y0 : Int32} {v5 v6 : Value} {L : Nat} {xs : Nat → Int32} (hs : lwB σ L xs) (hq : lwQ L x4) (hv5 : v5.category = 1) (hv6 : v6.category = 1) : zW (d + 1) kL_law 595 [.ref 0, .ref 1, .ref 131, .ref 164, .int x4, v5, v6] [.int y0] σ Q ↔ zCall d kX12_can [.ref 131, .int (xs (x4 + 1 : Int32).toNatClampNeg), .int (xs (x4 + 2 : Int32).toNatClampNeg), .int (xs (x4 + 3 : Int32).toNatClampNeg), .int (xs (x4 + 4 : Int32).toNatClampNeg)] σ (fun r σ' => zisN r = true ∧ zW (d + 1) kL_law 623 [.ref 0, .ref 1, .ref 131, .ref 164, .int x4, v5, v6] (zRstk r ++ [.int y0]) σ' Q) := by
  refine Iff.trans (zw_aload_n (show decode cL_law 595 = .ok (.aload_n 2, 1) by decide +kernel) rfl) ?_
  refine Iff.trans (zw_aload_n (show decode cL_law 596 = .ok (.aload_n 0, 1) by decide +kernel) rfl) ?_
  refine Iff.trans (zw_iload (show decode cL_law 597 = .ok (.iload 4, 2) by decide +kernel) rfl) ?_
  refine Iff.trans (zw_iconst (x := 1) (show decode cL_law 599 = .ok (.iconst 1, 1) by decide +kernel) (by decide)) ?_
  refine Iff.trans (zw_iadd (show decode cL_law 600 = .ok (.iadd, 1) by decide +kernel)) ?_
  refine Iff.trans (zw_isl (show decode cL_law 601 = .ok (.iaload, 1) by decide +kernel) hs hl hq.2.1) ?_
  refine Iff.trans (zw_aload_n (show decode cL_law 602 = .ok (.aload_n 0, 1) by decide +kernel) rfl) ?_
  refine Iff.trans (zw_iload (show decode cL_law 603 = .ok (.iload 4, 2) by decide +kernel) rfl) ?_
  refine Iff.trans (zw_iconst (x := 2) (show decode cL_law 605 = .ok (.iconst 2, 1) by decide +kernel) (by decide)) ?_
  refine Iff.trans (zw_iadd (show decode cL_law 606 = .ok (.iadd, 1) by decide +kernel)) ?_
  refine Iff.trans (zw_isl (show decode cL_law 607 = .ok (.iaload, 1) by decide +kernel) hs hl hq.2.2.1) ?_
  refine Iff.trans (zw_aload_n (show decode cL_law 608 = .ok (.aload_n 0, 1) by decide +kernel) rfl) ?_
  refine Iff.trans (zw_iload (show decode cL_law 609 = .ok (.iload 4, 2) by decide +kernel) rfl) ?_
  refine Iff.trans (zw_iconst (x := 3) (show decode cL_law 611 = .ok (.iconst 3, 1) by decide +kernel) (by decide)) ?_
  refine Iff.trans (zw_iadd (show decode cL_law 612 = .ok (.iadd, 1) by decide +kernel)) ?_
  refine Iff.trans (zw_isl (show decode cL_law 613 = .ok (.iaload, 1) by decide +kernel) hs hl hq.2.2.2.1) ?_
  refine Iff.trans (zw_aload_n (show decode cL_law 614 = .ok (.aload_n 0, 1) by decide +kernel) rfl) ?_
  refine Iff.trans (zw_iload (show decode cL_law 615 = .ok (.iload 4, 2) by decide +kernel) rfl) ?_
  refine Iff.trans (zw_iconst (x := 4) (show decode cL_law 617 = .ok (.iconst 4, 1) by decide +kernel) (by decide)) ?_
  refine Iff.trans (zw_iadd (show decode cL_law 618 = .ok (.iadd, 1) by decide +kernel)) ?_
  refine Iff.trans (zw_isl (show decode cL_law 619 = .ok (.iaload, 1) by decide +kernel) hs hl hq.2.2.2.2.1) ?_
  refine Iff.trans (zw_invV (K' := kX12_can) (as' := [.int (xs (x4 + 1 : Int32).toNatClampNeg), .int (xs (x4 + 2 : Int32).toNatClampNeg), .int (xs (x4 + 3 : Int32).toNatClampNeg), .int (xs (x4 + 4 : Int32).toNatClampNeg)]) (rest := [.int y0]) (show decode cL_law 620 = .ok (.invokevirtual 66, 3) by decide +kernel) (by rfl) rfl rfl rfl (hl.k2 zk_131) (by decide) (hl.n2 zk_131) ⟨Nat.le_of_ble_eq_true rfl, Nat.le_of_ble_eq_true rfl, Nat.le_of_ble_eq_true rfl⟩) ?_
  exact Iff.rfl

theorem bQ_L_law_628 {d : Nat} {σ : zS} {Q : Option Value → zS → Prop} (hl : zLay σ) {x4 : Int32} {v5 v6 : Value} {L : Nat} {xs : Nat → Int32} (hs : lwB σ L xs) (hq : lwQ L x4) (hv5 : v5.category = 1) (hv6 : v6.category = 1) : zW (d + 1) kL_law 628 [.ref 0, .ref 1, .ref 131, .ref 164, .int x4, v5, v6] [] σ Q ↔ zCall d kX11_on [.ref 1, .int (xs (x4 + 1 : Int32).toNatClampNeg)] σ (fun r σ' => zisN r = true ∧ zW (d + 1) kL_law 638 [.ref 0, .ref 1, .ref 131, .ref 164, .int x4, v5, v6] (zRstk r ++ []) σ' Q) := by
  refine Iff.trans (zw_aload_n (show decode cL_law 628 = .ok (.aload_n 1, 1) by decide +kernel) rfl) ?_
  refine Iff.trans (zw_aload_n (show decode cL_law 629 = .ok (.aload_n 0, 1) by decide +kernel) rfl) ?_
  refine Iff.trans (zw_iload (show decode cL_law 630 = .ok (.iload 4, 2) by decide +kernel) rfl) ?_
  refine Iff.trans (zw_iconst (x := 1) (show decode cL_law 632 = .ok (.iconst 1, 1) by decide +kernel) (by decide)) ?_
  refine Iff.trans (zw_iadd (show decode cL_law 633 = .ok (.iadd, 1) by decide +kernel)) ?_
  refine Iff.trans (zw_isl (show decode cL_law 634 = .ok (.iaload, 1) by decide +kernel) hs hl hq.2.1) ?_
  refine Iff.trans (zw_invV (K' := kX11_on) (as' := [.int (xs (x4 + 1 : Int32).toNatClampNeg)]) (rest := []) (show decode cL_law 635 = .ok (.invokevirtual 67, 3) by decide +kernel) (by rfl) rfl rfl rfl (hl.k2 zk_1) (by decide) (hl.n2 zk_1) ⟨Nat.le_of_ble_eq_true rfl, Nat.le_of_ble_eq_true rfl, Nat.le_of_ble_eq_true rfl⟩) ?_
  exact Iff.rfl

theorem bQ_L_law_638 {d : Nat} {σ : zS} {Q : Option Value → zS → Prop} (hl : zLay σ) {x4 y0 : Int32} {v5 v6 : Value} {L : Nat} {xs : Nat → Int32} (hs : lwB σ L xs) (hq : lwQ L x4) (hv5 : v5.category = 1) (hv6 : v6.category = 1) : zW (d + 1) kL_law 638 [.ref 0, .ref 1, .ref 131, .ref 164, .int x4, v5, v6] [.int y0] σ Q ↔ zCall d kX12_on [.ref 131, .int (xs (x4 + 1 : Int32).toNatClampNeg)] σ (fun r σ' => zisN r = true ∧ zW (d + 1) kL_law 648 [.ref 0, .ref 1, .ref 131, .ref 164, .int x4, v5, v6] (zRstk r ++ [.int y0]) σ' Q) := by
  refine Iff.trans (zw_aload_n (show decode cL_law 638 = .ok (.aload_n 2, 1) by decide +kernel) rfl) ?_
  refine Iff.trans (zw_aload_n (show decode cL_law 639 = .ok (.aload_n 0, 1) by decide +kernel) rfl) ?_
  refine Iff.trans (zw_iload (show decode cL_law 640 = .ok (.iload 4, 2) by decide +kernel) rfl) ?_
  refine Iff.trans (zw_iconst (x := 1) (show decode cL_law 642 = .ok (.iconst 1, 1) by decide +kernel) (by decide)) ?_
  refine Iff.trans (zw_iadd (show decode cL_law 643 = .ok (.iadd, 1) by decide +kernel)) ?_
  refine Iff.trans (zw_isl (show decode cL_law 644 = .ok (.iaload, 1) by decide +kernel) hs hl hq.2.1) ?_
  refine Iff.trans (zw_invV (K' := kX12_on) (as' := [.int (xs (x4 + 1 : Int32).toNatClampNeg)]) (rest := [.int y0]) (show decode cL_law 645 = .ok (.invokevirtual 70, 3) by decide +kernel) (by rfl) rfl rfl rfl (hl.k2 zk_131) (by decide) (hl.n2 zk_131) ⟨Nat.le_of_ble_eq_true rfl, Nat.le_of_ble_eq_true rfl, Nat.le_of_ble_eq_true rfl⟩) ?_
  exact Iff.rfl

theorem bQ_L_law_653 {d : Nat} {σ : zS} {Q : Option Value → zS → Prop} (hl : zLay σ) {x4 : Int32} {v5 v6 : Value} {L : Nat} {xs : Nat → Int32} (hs : lwB σ L xs) (hq : lwQ L x4) (hv5 : v5.category = 1) (hv6 : v6.category = 1) : zW (d + 1) kL_law 653 [.ref 0, .ref 1, .ref 131, .ref 164, .int x4, v5, v6] [] σ Q ↔ zCall d kX11_runner [.ref 1, .int (xs (x4 + 1 : Int32).toNatClampNeg), .int (xs (x4 + 2 : Int32).toNatClampNeg)] σ (fun r σ' => zisN r = true ∧ zW (d + 1) kL_law 669 [.ref 0, .ref 1, .ref 131, .ref 164, .int x4, v5, v6] (zRstk r ++ []) σ' Q) := by
  refine Iff.trans (zw_aload_n (show decode cL_law 653 = .ok (.aload_n 1, 1) by decide +kernel) rfl) ?_
  refine Iff.trans (zw_aload_n (show decode cL_law 654 = .ok (.aload_n 0, 1) by decide +kernel) rfl) ?_
  refine Iff.trans (zw_iload (show decode cL_law 655 = .ok (.iload 4, 2) by decide +kernel) rfl) ?_
  refine Iff.trans (zw_iconst (x := 1) (show decode cL_law 657 = .ok (.iconst 1, 1) by decide +kernel) (by decide)) ?_
  refine Iff.trans (zw_iadd (show decode cL_law 658 = .ok (.iadd, 1) by decide +kernel)) ?_
  refine Iff.trans (zw_isl (show decode cL_law 659 = .ok (.iaload, 1) by decide +kernel) hs hl hq.2.1) ?_
  refine Iff.trans (zw_aload_n (show decode cL_law 660 = .ok (.aload_n 0, 1) by decide +kernel) rfl) ?_
  refine Iff.trans (zw_iload (show decode cL_law 661 = .ok (.iload 4, 2) by decide +kernel) rfl) ?_
  refine Iff.trans (zw_iconst (x := 2) (show decode cL_law 663 = .ok (.iconst 2, 1) by decide +kernel) (by decide)) ?_
  refine Iff.trans (zw_iadd (show decode cL_law 664 = .ok (.iadd, 1) by decide +kernel)) ?_
  refine Iff.trans (zw_isl (show decode cL_law 665 = .ok (.iaload, 1) by decide +kernel) hs hl hq.2.2.1) ?_
  refine Iff.trans (zw_invV (K' := kX11_runner) (as' := [.int (xs (x4 + 1 : Int32).toNatClampNeg), .int (xs (x4 + 2 : Int32).toNatClampNeg)]) (rest := []) (show decode cL_law 666 = .ok (.invokevirtual 71, 3) by decide +kernel) (by rfl) rfl rfl rfl (hl.k2 zk_1) (by decide) (hl.n2 zk_1) ⟨Nat.le_of_ble_eq_true rfl, Nat.le_of_ble_eq_true rfl, Nat.le_of_ble_eq_true rfl⟩) ?_
  exact Iff.rfl

theorem bQ_L_law_669 {d : Nat} {σ : zS} {Q : Option Value → zS → Prop} (hl : zLay σ) {x4 y0 : Int32} {v5 v6 : Value} {L : Nat} {xs : Nat → Int32} (hs : lwB σ L xs) (hq : lwQ L x4) (hv5 : v5.category = 1) (hv6 : v6.category = 1) : zW (d + 1) kL_law 669 [.ref 0, .ref 1, .ref 131, .ref 164, .int x4, v5, v6] [.int y0] σ Q ↔ zCall d kX12_runner [.ref 131, .int (xs (x4 + 1 : Int32).toNatClampNeg), .int (xs (x4 + 2 : Int32).toNatClampNeg)] σ (fun r σ' => zisN r = true ∧ zW (d + 1) kL_law 685 [.ref 0, .ref 1, .ref 131, .ref 164, .int x4, v5, v6] (zRstk r ++ [.int y0]) σ' Q) := by
  refine Iff.trans (zw_aload_n (show decode cL_law 669 = .ok (.aload_n 2, 1) by decide +kernel) rfl) ?_
  refine Iff.trans (zw_aload_n (show decode cL_law 670 = .ok (.aload_n 0, 1) by decide +kernel) rfl) ?_
  refine Iff.trans (zw_iload (show decode cL_law 671 = .ok (.iload 4, 2) by decide +kernel) rfl) ?_
  refine Iff.trans (zw_iconst (x := 1) (show decode cL_law 673 = .ok (.iconst 1, 1) by decide +kernel) (by decide)) ?_
  refine Iff.trans (zw_iadd (show decode cL_law 674 = .ok (.iadd, 1) by decide +kernel)) ?_
  refine Iff.trans (zw_isl (show decode cL_law 675 = .ok (.iaload, 1) by decide +kernel) hs hl hq.2.1) ?_
  refine Iff.trans (zw_aload_n (show decode cL_law 676 = .ok (.aload_n 0, 1) by decide +kernel) rfl) ?_
  refine Iff.trans (zw_iload (show decode cL_law 677 = .ok (.iload 4, 2) by decide +kernel) rfl) ?_
  refine Iff.trans (zw_iconst (x := 2) (show decode cL_law 679 = .ok (.iconst 2, 1) by decide +kernel) (by decide)) ?_
  refine Iff.trans (zw_iadd (show decode cL_law 680 = .ok (.iadd, 1) by decide +kernel)) ?_
  refine Iff.trans (zw_isl (show decode cL_law 681 = .ok (.iaload, 1) by decide +kernel) hs hl hq.2.2.1) ?_
  refine Iff.trans (zw_invV (K' := kX12_runner) (as' := [.int (xs (x4 + 1 : Int32).toNatClampNeg), .int (xs (x4 + 2 : Int32).toNatClampNeg)]) (rest := [.int y0]) (show decode cL_law 682 = .ok (.invokevirtual 74, 3) by decide +kernel) (by rfl) rfl rfl rfl (hl.k2 zk_131) (by decide) (hl.n2 zk_131) ⟨Nat.le_of_ble_eq_true rfl, Nat.le_of_ble_eq_true rfl, Nat.le_of_ble_eq_true rfl⟩) ?_
  exact Iff.rfl

theorem bQ_L_law_690 {d : Nat} {σ : zS} {Q : Option Value → zS → Prop} (hl : zLay σ) {x4 : Int32} {v5 v6 : Value} {L : Nat} {xs : Nat → Int32} (hs : lwB σ L xs) (hq : lwQ L x4) (hv5 : v5.category = 1) (hv6 : v6.category = 1) : zW (d + 1) kL_law 690 [.ref 0, .ref 1, .ref 131, .ref 164, .int x4, v5, v6] [] σ Q ↔ zCall d kX11_start [.ref 1, .long (((((xs (x4 + 1 : Int32).toNatClampNeg) : Int32).toInt64) <<< ((32 : Int32).toInt64 &&& 63)) ||| ((((xs (x4 + 2 : Int32).toNatClampNeg) : Int32).toInt64) &&& 4294967295))] σ (fun r σ' => zisN r = true ∧ zW (d + 1) kL_law 716 [.ref 0, .ref 1, .ref 131, .ref 164, .int x4, v5, v6] (zRstk r ++ []) σ' Q) := by
  refine Iff.trans (zw_aload_n (show decode cL_law 690 = .ok (.aload_n 1, 1) by decide +kernel) rfl) ?_
  refine Iff.trans (zw_aload_n (show decode cL_law 691 = .ok (.aload_n 0, 1) by decide +kernel) rfl) ?_
  refine Iff.trans (zw_iload (show decode cL_law 692 = .ok (.iload 4, 2) by decide +kernel) rfl) ?_
  refine Iff.trans (zw_iconst (x := 1) (show decode cL_law 694 = .ok (.iconst 1, 1) by decide +kernel) (by decide)) ?_
  refine Iff.trans (zw_iadd (show decode cL_law 695 = .ok (.iadd, 1) by decide +kernel)) ?_
  refine Iff.trans (zw_isl (show decode cL_law 696 = .ok (.iaload, 1) by decide +kernel) hs hl hq.2.1) ?_
  refine Iff.trans (zw_i2l (show decode cL_law 697 = .ok (.i2l, 1) by decide +kernel)) ?_
  refine Iff.trans (zw_bipush (x := 32) (show decode cL_law 698 = .ok (.bipush 32, 2) by decide +kernel) (by decide)) ?_
  refine Iff.trans (zw_lshl (show decode cL_law 700 = .ok (.lshl, 1) by decide +kernel)) ?_
  refine Iff.trans (zw_aload_n (show decode cL_law 701 = .ok (.aload_n 0, 1) by decide +kernel) rfl) ?_
  refine Iff.trans (zw_iload (show decode cL_law 702 = .ok (.iload 4, 2) by decide +kernel) rfl) ?_
  refine Iff.trans (zw_iconst (x := 2) (show decode cL_law 704 = .ok (.iconst 2, 1) by decide +kernel) (by decide)) ?_
  refine Iff.trans (zw_iadd (show decode cL_law 705 = .ok (.iadd, 1) by decide +kernel)) ?_
  refine Iff.trans (zw_isl (show decode cL_law 706 = .ok (.iaload, 1) by decide +kernel) hs hl hq.2.2.1) ?_
  refine Iff.trans (zw_i2l (show decode cL_law 707 = .ok (.i2l, 1) by decide +kernel)) ?_
  refine Iff.trans (zw_ldc2_w (x := 4294967295) (show decode cL_law 708 = .ok (.ldc2_w 75, 3) by decide +kernel) (by decide +kernel)) ?_
  refine Iff.trans (zw_land (show decode cL_law 711 = .ok (.land, 1) by decide +kernel)) ?_
  refine Iff.trans (zw_lor (show decode cL_law 712 = .ok (.lor, 1) by decide +kernel)) ?_
  refine Iff.trans (zw_invV (K' := kX11_start) (as' := [.long (((((xs (x4 + 1 : Int32).toNatClampNeg) : Int32).toInt64) <<< ((32 : Int32).toInt64 &&& 63)) ||| ((((xs (x4 + 2 : Int32).toNatClampNeg) : Int32).toInt64) &&& 4294967295))]) (rest := []) (show decode cL_law 713 = .ok (.invokevirtual 77, 3) by decide +kernel) (by rfl) rfl rfl rfl (hl.k2 zk_1) (by decide) (hl.n2 zk_1) ⟨Nat.le_of_ble_eq_true rfl, Nat.le_of_ble_eq_true rfl, Nat.le_of_ble_eq_true rfl⟩) ?_
  exact Iff.rfl

theorem bQ_L_law_716 {d : Nat} {σ : zS} {Q : Option Value → zS → Prop} (hl : zLay σ) {x4 y0 : Int32} {v5 v6 : Value} {L : Nat} {xs : Nat → Int32} (hs : lwB σ L xs) (hq : lwQ L x4) (hv5 : v5.category = 1) (hv6 : v6.category = 1) : zW (d + 1) kL_law 716 [.ref 0, .ref 1, .ref 131, .ref 164, .int x4, v5, v6] [.int y0] σ Q ↔ zCall d kX12_start [.ref 131, .long (((((xs (x4 + 1 : Int32).toNatClampNeg) : Int32).toInt64) <<< ((32 : Int32).toInt64 &&& 63)) ||| ((((xs (x4 + 2 : Int32).toNatClampNeg) : Int32).toInt64) &&& 4294967295))] σ (fun r σ' => zisN r = true ∧ zW (d + 1) kL_law 742 [.ref 0, .ref 1, .ref 131, .ref 164, .int x4, v5, v6] (zRstk r ++ [.int y0]) σ' Q) := by
  refine Iff.trans (zw_aload_n (show decode cL_law 716 = .ok (.aload_n 2, 1) by decide +kernel) rfl) ?_
  refine Iff.trans (zw_aload_n (show decode cL_law 717 = .ok (.aload_n 0, 1) by decide +kernel) rfl) ?_
  refine Iff.trans (zw_iload (show decode cL_law 718 = .ok (.iload 4, 2) by decide +kernel) rfl) ?_
  refine Iff.trans (zw_iconst (x := 1) (show decode cL_law 720 = .ok (.iconst 1, 1) by decide +kernel) (by decide)) ?_
  refine Iff.trans (zw_iadd (show decode cL_law 721 = .ok (.iadd, 1) by decide +kernel)) ?_
  refine Iff.trans (zw_isl (show decode cL_law 722 = .ok (.iaload, 1) by decide +kernel) hs hl hq.2.1) ?_
  refine Iff.trans (zw_i2l (show decode cL_law 723 = .ok (.i2l, 1) by decide +kernel)) ?_
  refine Iff.trans (zw_bipush (x := 32) (show decode cL_law 724 = .ok (.bipush 32, 2) by decide +kernel) (by decide)) ?_
  refine Iff.trans (zw_lshl (show decode cL_law 726 = .ok (.lshl, 1) by decide +kernel)) ?_
  refine Iff.trans (zw_aload_n (show decode cL_law 727 = .ok (.aload_n 0, 1) by decide +kernel) rfl) ?_
  refine Iff.trans (zw_iload (show decode cL_law 728 = .ok (.iload 4, 2) by decide +kernel) rfl) ?_
  refine Iff.trans (zw_iconst (x := 2) (show decode cL_law 730 = .ok (.iconst 2, 1) by decide +kernel) (by decide)) ?_
  refine Iff.trans (zw_iadd (show decode cL_law 731 = .ok (.iadd, 1) by decide +kernel)) ?_
  refine Iff.trans (zw_isl (show decode cL_law 732 = .ok (.iaload, 1) by decide +kernel) hs hl hq.2.2.1) ?_
  refine Iff.trans (zw_i2l (show decode cL_law 733 = .ok (.i2l, 1) by decide +kernel)) ?_
  refine Iff.trans (zw_ldc2_w (x := 4294967295) (show decode cL_law 734 = .ok (.ldc2_w 75, 3) by decide +kernel) (by decide +kernel)) ?_
  refine Iff.trans (zw_land (show decode cL_law 737 = .ok (.land, 1) by decide +kernel)) ?_
  refine Iff.trans (zw_lor (show decode cL_law 738 = .ok (.lor, 1) by decide +kernel)) ?_
  refine Iff.trans (zw_invV (K' := kX12_start) (as' := [.long (((((xs (x4 + 1 : Int32).toNatClampNeg) : Int32).toInt64) <<< ((32 : Int32).toInt64 &&& 63)) ||| ((((xs (x4 + 2 : Int32).toNatClampNeg) : Int32).toInt64) &&& 4294967295))]) (rest := [.int y0]) (show decode cL_law 739 = .ok (.invokevirtual 81, 3) by decide +kernel) (by rfl) rfl rfl rfl (hl.k2 zk_131) (by decide) (hl.n2 zk_131) ⟨Nat.le_of_ble_eq_true rfl, Nat.le_of_ble_eq_true rfl, Nat.le_of_ble_eq_true rfl⟩) ?_
  exact Iff.rfl

theorem bQ_L_law_747 {d : Nat} {σ : zS} {Q : Option Value → zS → Prop} (hl : zLay σ) {x4 : Int32} {v5 v6 : Value} {L : Nat} {xs : Nat → Int32} (hs : lwB σ L xs) (hq : lwQ L x4) (hv5 : v5.category = 1) (hv6 : v6.category = 1) : zW (d + 1) kL_law 747 [.ref 0, .ref 1, .ref 131, .ref 164, .int x4, v5, v6] [] σ Q ↔ zCall d kX11_tick [.ref 1, .int (xs (x4 + 1 : Int32).toNatClampNeg)] σ (fun r σ' => zisN r = true ∧ zW (d + 1) kL_law 757 [.ref 0, .ref 1, .ref 131, .ref 164, .int x4, v5, v6] (zRstk r ++ []) σ' Q) := by
  refine Iff.trans (zw_aload_n (show decode cL_law 747 = .ok (.aload_n 1, 1) by decide +kernel) rfl) ?_
  refine Iff.trans (zw_aload_n (show decode cL_law 748 = .ok (.aload_n 0, 1) by decide +kernel) rfl) ?_
  refine Iff.trans (zw_iload (show decode cL_law 749 = .ok (.iload 4, 2) by decide +kernel) rfl) ?_
  refine Iff.trans (zw_iconst (x := 1) (show decode cL_law 751 = .ok (.iconst 1, 1) by decide +kernel) (by decide)) ?_
  refine Iff.trans (zw_iadd (show decode cL_law 752 = .ok (.iadd, 1) by decide +kernel)) ?_
  refine Iff.trans (zw_isl (show decode cL_law 753 = .ok (.iaload, 1) by decide +kernel) hs hl hq.2.1) ?_
  refine Iff.trans (zw_invV (K' := kX11_tick) (as' := [.int (xs (x4 + 1 : Int32).toNatClampNeg)]) (rest := []) (show decode cL_law 754 = .ok (.invokevirtual 82, 3) by decide +kernel) (by rfl) rfl rfl rfl (hl.k2 zk_1) (by decide) (hl.n2 zk_1) ⟨Nat.le_of_ble_eq_true rfl, Nat.le_of_ble_eq_true rfl, Nat.le_of_ble_eq_true rfl⟩) ?_
  exact Iff.rfl

theorem bQ_L_law_757 {d : Nat} {σ : zS} {Q : Option Value → zS → Prop} (hl : zLay σ) {x4 y0 : Int32} {v5 v6 : Value} {L : Nat} {xs : Nat → Int32} (hs : lwB σ L xs) (hq : lwQ L x4) (hv5 : v5.category = 1) (hv6 : v6.category = 1) : zW (d + 1) kL_law 757 [.ref 0, .ref 1, .ref 131, .ref 164, .int x4, v5, v6] [.int y0] σ Q ↔ zCall d kX12_tick [.ref 131, .int (xs (x4 + 1 : Int32).toNatClampNeg)] σ (fun r σ' => zisN r = true ∧ zW (d + 1) kL_law 767 [.ref 0, .ref 1, .ref 131, .ref 164, .int x4, v5, v6] (zRstk r ++ [.int y0]) σ' Q) := by
  refine Iff.trans (zw_aload_n (show decode cL_law 757 = .ok (.aload_n 2, 1) by decide +kernel) rfl) ?_
  refine Iff.trans (zw_aload_n (show decode cL_law 758 = .ok (.aload_n 0, 1) by decide +kernel) rfl) ?_
  refine Iff.trans (zw_iload (show decode cL_law 759 = .ok (.iload 4, 2) by decide +kernel) rfl) ?_
  refine Iff.trans (zw_iconst (x := 1) (show decode cL_law 761 = .ok (.iconst 1, 1) by decide +kernel) (by decide)) ?_
  refine Iff.trans (zw_iadd (show decode cL_law 762 = .ok (.iadd, 1) by decide +kernel)) ?_
  refine Iff.trans (zw_isl (show decode cL_law 763 = .ok (.iaload, 1) by decide +kernel) hs hl hq.2.1) ?_
  refine Iff.trans (zw_invV (K' := kX12_tick) (as' := [.int (xs (x4 + 1 : Int32).toNatClampNeg)]) (rest := [.int y0]) (show decode cL_law 764 = .ok (.invokevirtual 85, 3) by decide +kernel) (by rfl) rfl rfl rfl (hl.k2 zk_131) (by decide) (hl.n2 zk_131) ⟨Nat.le_of_ble_eq_true rfl, Nat.le_of_ble_eq_true rfl, Nat.le_of_ble_eq_true rfl⟩) ?_
  exact Iff.rfl

theorem bQ_L_law_772 {d : Nat} {σ : zS} {Q : Option Value → zS → Prop} (hl : zLay σ) {x4 : Int32} {v5 v6 : Value} {L : Nat} {xs : Nat → Int32} (hs : lwB σ L xs) (hq : lwQ L x4) (hv5 : v5.category = 1) (hv6 : v6.category = 1) : zW (d + 1) kL_law 772 [.ref 0, .ref 1, .ref 131, .ref 164, .int x4, v5, v6] [] σ Q ↔ zCall d kX11_look [.ref 1, .int (xs (x4 + 1 : Int32).toNatClampNeg), .int (xs (x4 + 2 : Int32).toNatClampNeg)] σ (fun r σ' => zisN r = true ∧ zW (d + 1) kL_law 788 [.ref 0, .ref 1, .ref 131, .ref 164, .int x4, v5, v6] (zRstk r ++ []) σ' Q) := by
  refine Iff.trans (zw_aload_n (show decode cL_law 772 = .ok (.aload_n 1, 1) by decide +kernel) rfl) ?_
  refine Iff.trans (zw_aload_n (show decode cL_law 773 = .ok (.aload_n 0, 1) by decide +kernel) rfl) ?_
  refine Iff.trans (zw_iload (show decode cL_law 774 = .ok (.iload 4, 2) by decide +kernel) rfl) ?_
  refine Iff.trans (zw_iconst (x := 1) (show decode cL_law 776 = .ok (.iconst 1, 1) by decide +kernel) (by decide)) ?_
  refine Iff.trans (zw_iadd (show decode cL_law 777 = .ok (.iadd, 1) by decide +kernel)) ?_
  refine Iff.trans (zw_isl (show decode cL_law 778 = .ok (.iaload, 1) by decide +kernel) hs hl hq.2.1) ?_
  refine Iff.trans (zw_aload_n (show decode cL_law 779 = .ok (.aload_n 0, 1) by decide +kernel) rfl) ?_
  refine Iff.trans (zw_iload (show decode cL_law 780 = .ok (.iload 4, 2) by decide +kernel) rfl) ?_
  refine Iff.trans (zw_iconst (x := 2) (show decode cL_law 782 = .ok (.iconst 2, 1) by decide +kernel) (by decide)) ?_
  refine Iff.trans (zw_iadd (show decode cL_law 783 = .ok (.iadd, 1) by decide +kernel)) ?_
  refine Iff.trans (zw_isl (show decode cL_law 784 = .ok (.iaload, 1) by decide +kernel) hs hl hq.2.2.1) ?_
  refine Iff.trans (zw_invV (K' := kX11_look) (as' := [.int (xs (x4 + 1 : Int32).toNatClampNeg), .int (xs (x4 + 2 : Int32).toNatClampNeg)]) (rest := []) (show decode cL_law 785 = .ok (.invokevirtual 86, 3) by decide +kernel) (by rfl) rfl rfl rfl (hl.k2 zk_1) (by decide) (hl.n2 zk_1) ⟨Nat.le_of_ble_eq_true rfl, Nat.le_of_ble_eq_true rfl, Nat.le_of_ble_eq_true rfl⟩) ?_
  exact Iff.rfl

theorem bQ_L_law_788 {d : Nat} {σ : zS} {Q : Option Value → zS → Prop} (hl : zLay σ) {x4 y0 : Int32} {v5 v6 : Value} {L : Nat} {xs : Nat → Int32} (hs : lwB σ L xs) (hq : lwQ L x4) (hv5 : v5.category = 1) (hv6 : v6.category = 1) : zW (d + 1) kL_law 788 [.ref 0, .ref 1, .ref 131, .ref 164, .int x4, v5, v6] [.int y0] σ Q ↔ zCall d kX12_look_ [.ref 131, .int (xs (x4 + 1 : Int32).toNatClampNeg), .int (xs (x4 + 2 : Int32).toNatClampNeg)] σ (fun r σ' => zisN r = true ∧ zW (d + 1) kL_law 804 [.ref 0, .ref 1, .ref 131, .ref 164, .int x4, v5, v6] (zRstk r ++ [.int y0]) σ' Q) := by
  refine Iff.trans (zw_aload_n (show decode cL_law 788 = .ok (.aload_n 2, 1) by decide +kernel) rfl) ?_
  refine Iff.trans (zw_aload_n (show decode cL_law 789 = .ok (.aload_n 0, 1) by decide +kernel) rfl) ?_
  refine Iff.trans (zw_iload (show decode cL_law 790 = .ok (.iload 4, 2) by decide +kernel) rfl) ?_
  refine Iff.trans (zw_iconst (x := 1) (show decode cL_law 792 = .ok (.iconst 1, 1) by decide +kernel) (by decide)) ?_
  refine Iff.trans (zw_iadd (show decode cL_law 793 = .ok (.iadd, 1) by decide +kernel)) ?_
  refine Iff.trans (zw_isl (show decode cL_law 794 = .ok (.iaload, 1) by decide +kernel) hs hl hq.2.1) ?_
  refine Iff.trans (zw_aload_n (show decode cL_law 795 = .ok (.aload_n 0, 1) by decide +kernel) rfl) ?_
  refine Iff.trans (zw_iload (show decode cL_law 796 = .ok (.iload 4, 2) by decide +kernel) rfl) ?_
  refine Iff.trans (zw_iconst (x := 2) (show decode cL_law 798 = .ok (.iconst 2, 1) by decide +kernel) (by decide)) ?_
  refine Iff.trans (zw_iadd (show decode cL_law 799 = .ok (.iadd, 1) by decide +kernel)) ?_
  refine Iff.trans (zw_isl (show decode cL_law 800 = .ok (.iaload, 1) by decide +kernel) hs hl hq.2.2.1) ?_
  refine Iff.trans (zw_invV (K' := kX12_look_) (as' := [.int (xs (x4 + 1 : Int32).toNatClampNeg), .int (xs (x4 + 2 : Int32).toNatClampNeg)]) (rest := [.int y0]) (show decode cL_law 801 = .ok (.invokevirtual 89, 3) by decide +kernel) (by rfl) rfl rfl rfl (hl.k2 zk_131) (by decide) (hl.n2 zk_131) ⟨Nat.le_of_ble_eq_true rfl, Nat.le_of_ble_eq_true rfl, Nat.le_of_ble_eq_true rfl⟩) ?_
  exact Iff.rfl

theorem bQ_L_law_809 {d : Nat} {σ : zS} {Q : Option Value → zS → Prop} (hl : zLay σ) {x4 : Int32} {v5 v6 : Value} {L : Nat} {xs : Nat → Int32} (hs : lwB σ L xs) (hq : lwQ L x4) (hv5 : v5.category = 1) (hv6 : v6.category = 1) : zW (d + 1) kL_law 809 [.ref 0, .ref 1, .ref 131, .ref 164, .int x4, v5, v6] [] σ Q ↔ zCall d kX11_pull [.ref 1, .int (xs (x4 + 1 : Int32).toNatClampNeg)] σ (fun r σ' => zisN r = true ∧ zW (d + 1) kL_law 819 [.ref 0, .ref 1, .ref 131, .ref 164, .int x4, v5, v6] (zRstk r ++ []) σ' Q) := by
  refine Iff.trans (zw_aload_n (show decode cL_law 809 = .ok (.aload_n 1, 1) by decide +kernel) rfl) ?_
  refine Iff.trans (zw_aload_n (show decode cL_law 810 = .ok (.aload_n 0, 1) by decide +kernel) rfl) ?_
  refine Iff.trans (zw_iload (show decode cL_law 811 = .ok (.iload 4, 2) by decide +kernel) rfl) ?_
  refine Iff.trans (zw_iconst (x := 1) (show decode cL_law 813 = .ok (.iconst 1, 1) by decide +kernel) (by decide)) ?_
  refine Iff.trans (zw_iadd (show decode cL_law 814 = .ok (.iadd, 1) by decide +kernel)) ?_
  refine Iff.trans (zw_isl (show decode cL_law 815 = .ok (.iaload, 1) by decide +kernel) hs hl hq.2.1) ?_
  refine Iff.trans (zw_invV (K' := kX11_pull) (as' := [.int (xs (x4 + 1 : Int32).toNatClampNeg)]) (rest := []) (show decode cL_law 816 = .ok (.invokevirtual 90, 3) by decide +kernel) (by rfl) rfl rfl rfl (hl.k2 zk_1) (by decide) (hl.n2 zk_1) ⟨Nat.le_of_ble_eq_true rfl, Nat.le_of_ble_eq_true rfl, Nat.le_of_ble_eq_true rfl⟩) ?_
  exact Iff.rfl

theorem bQ_L_law_819 {d : Nat} {σ : zS} {Q : Option Value → zS → Prop} (hl : zLay σ) {x4 y0 : Int32} {v5 v6 : Value} {L : Nat} {xs : Nat → Int32} (hs : lwB σ L xs) (hq : lwQ L x4) (hv5 : v5.category = 1) (hv6 : v6.category = 1) : zW (d + 1) kL_law 819 [.ref 0, .ref 1, .ref 131, .ref 164, .int x4, v5, v6] [.int y0] σ Q ↔ zCall d kX12_pull [.ref 131, .int (xs (x4 + 1 : Int32).toNatClampNeg)] σ (fun r σ' => zisN r = true ∧ zW (d + 1) kL_law 829 [.ref 0, .ref 1, .ref 131, .ref 164, .int x4, v5, v6] (zRstk r ++ [.int y0]) σ' Q) := by
  refine Iff.trans (zw_aload_n (show decode cL_law 819 = .ok (.aload_n 2, 1) by decide +kernel) rfl) ?_
  refine Iff.trans (zw_aload_n (show decode cL_law 820 = .ok (.aload_n 0, 1) by decide +kernel) rfl) ?_
  refine Iff.trans (zw_iload (show decode cL_law 821 = .ok (.iload 4, 2) by decide +kernel) rfl) ?_
  refine Iff.trans (zw_iconst (x := 1) (show decode cL_law 823 = .ok (.iconst 1, 1) by decide +kernel) (by decide)) ?_
  refine Iff.trans (zw_iadd (show decode cL_law 824 = .ok (.iadd, 1) by decide +kernel)) ?_
  refine Iff.trans (zw_isl (show decode cL_law 825 = .ok (.iaload, 1) by decide +kernel) hs hl hq.2.1) ?_
  refine Iff.trans (zw_invV (K' := kX12_pull) (as' := [.int (xs (x4 + 1 : Int32).toNatClampNeg)]) (rest := [.int y0]) (show decode cL_law 826 = .ok (.invokevirtual 93, 3) by decide +kernel) (by rfl) rfl rfl rfl (hl.k2 zk_131) (by decide) (hl.n2 zk_131) ⟨Nat.le_of_ble_eq_true rfl, Nat.le_of_ble_eq_true rfl, Nat.le_of_ble_eq_true rfl⟩) ?_
  exact Iff.rfl

theorem bQ_L_law_834 {d : Nat} {σ : zS} {Q : Option Value → zS → Prop} (hl : zLay σ) {x4 : Int32} {v5 v6 : Value} {L : Nat} {xs : Nat → Int32} (hs : lwB σ L xs) (hq : lwQ L x4) (hv5 : v5.category = 1) (hv6 : v6.category = 1) : zW (d + 1) kL_law 834 [.ref 0, .ref 1, .ref 131, .ref 164, .int x4, v5, v6] [] σ Q ↔ zCall d kX11_lies [.ref 1, .int (xs (x4 + 1 : Int32).toNatClampNeg), .int (xs (x4 + 2 : Int32).toNatClampNeg)] σ (fun r σ' => zisN r = true ∧ zW (d + 1) kL_law 850 [.ref 0, .ref 1, .ref 131, .ref 164, .int x4, v5, v6] (zRstk r ++ []) σ' Q) := by
  refine Iff.trans (zw_aload_n (show decode cL_law 834 = .ok (.aload_n 1, 1) by decide +kernel) rfl) ?_
  refine Iff.trans (zw_aload_n (show decode cL_law 835 = .ok (.aload_n 0, 1) by decide +kernel) rfl) ?_
  refine Iff.trans (zw_iload (show decode cL_law 836 = .ok (.iload 4, 2) by decide +kernel) rfl) ?_
  refine Iff.trans (zw_iconst (x := 1) (show decode cL_law 838 = .ok (.iconst 1, 1) by decide +kernel) (by decide)) ?_
  refine Iff.trans (zw_iadd (show decode cL_law 839 = .ok (.iadd, 1) by decide +kernel)) ?_
  refine Iff.trans (zw_isl (show decode cL_law 840 = .ok (.iaload, 1) by decide +kernel) hs hl hq.2.1) ?_
  refine Iff.trans (zw_aload_n (show decode cL_law 841 = .ok (.aload_n 0, 1) by decide +kernel) rfl) ?_
  refine Iff.trans (zw_iload (show decode cL_law 842 = .ok (.iload 4, 2) by decide +kernel) rfl) ?_
  refine Iff.trans (zw_iconst (x := 2) (show decode cL_law 844 = .ok (.iconst 2, 1) by decide +kernel) (by decide)) ?_
  refine Iff.trans (zw_iadd (show decode cL_law 845 = .ok (.iadd, 1) by decide +kernel)) ?_
  refine Iff.trans (zw_isl (show decode cL_law 846 = .ok (.iaload, 1) by decide +kernel) hs hl hq.2.2.1) ?_
  refine Iff.trans (zw_invV (K' := kX11_lies) (as' := [.int (xs (x4 + 1 : Int32).toNatClampNeg), .int (xs (x4 + 2 : Int32).toNatClampNeg)]) (rest := []) (show decode cL_law 847 = .ok (.invokevirtual 94, 3) by decide +kernel) (by rfl) rfl rfl rfl (hl.k2 zk_1) (by decide) (hl.n2 zk_1) ⟨Nat.le_of_ble_eq_true rfl, Nat.le_of_ble_eq_true rfl, Nat.le_of_ble_eq_true rfl⟩) ?_
  exact Iff.rfl

theorem bQ_L_law_850 {d : Nat} {σ : zS} {Q : Option Value → zS → Prop} (hl : zLay σ) {x4 y0 : Int32} {v5 v6 : Value} {L : Nat} {xs : Nat → Int32} (hs : lwB σ L xs) (hq : lwQ L x4) (hv5 : v5.category = 1) (hv6 : v6.category = 1) : zW (d + 1) kL_law 850 [.ref 0, .ref 1, .ref 131, .ref 164, .int x4, v5, v6] [.int y0] σ Q ↔ zCall d kX12_lies [.ref 131, .int (xs (x4 + 1 : Int32).toNatClampNeg), .int (xs (x4 + 2 : Int32).toNatClampNeg)] σ (fun r σ' => zisN r = true ∧ zW (d + 1) kL_law 866 [.ref 0, .ref 1, .ref 131, .ref 164, .int x4, v5, v6] (zRstk r ++ [.int y0]) σ' Q) := by
  refine Iff.trans (zw_aload_n (show decode cL_law 850 = .ok (.aload_n 2, 1) by decide +kernel) rfl) ?_
  refine Iff.trans (zw_aload_n (show decode cL_law 851 = .ok (.aload_n 0, 1) by decide +kernel) rfl) ?_
  refine Iff.trans (zw_iload (show decode cL_law 852 = .ok (.iload 4, 2) by decide +kernel) rfl) ?_
  refine Iff.trans (zw_iconst (x := 1) (show decode cL_law 854 = .ok (.iconst 1, 1) by decide +kernel) (by decide)) ?_
  refine Iff.trans (zw_iadd (show decode cL_law 855 = .ok (.iadd, 1) by decide +kernel)) ?_
  refine Iff.trans (zw_isl (show decode cL_law 856 = .ok (.iaload, 1) by decide +kernel) hs hl hq.2.1) ?_
  refine Iff.trans (zw_aload_n (show decode cL_law 857 = .ok (.aload_n 0, 1) by decide +kernel) rfl) ?_
  refine Iff.trans (zw_iload (show decode cL_law 858 = .ok (.iload 4, 2) by decide +kernel) rfl) ?_
  refine Iff.trans (zw_iconst (x := 2) (show decode cL_law 860 = .ok (.iconst 2, 1) by decide +kernel) (by decide)) ?_
  refine Iff.trans (zw_iadd (show decode cL_law 861 = .ok (.iadd, 1) by decide +kernel)) ?_
  refine Iff.trans (zw_isl (show decode cL_law 862 = .ok (.iaload, 1) by decide +kernel) hs hl hq.2.2.1) ?_
  refine Iff.trans (zw_invV (K' := kX12_lies) (as' := [.int (xs (x4 + 1 : Int32).toNatClampNeg), .int (xs (x4 + 2 : Int32).toNatClampNeg)]) (rest := [.int y0]) (show decode cL_law 863 = .ok (.invokevirtual 97, 3) by decide +kernel) (by rfl) rfl rfl rfl (hl.k2 zk_131) (by decide) (hl.n2 zk_131) ⟨Nat.le_of_ble_eq_true rfl, Nat.le_of_ble_eq_true rfl, Nat.le_of_ble_eq_true rfl⟩) ?_
  exact Iff.rfl

theorem bQ_L_law_871 {d : Nat} {σ : zS} {Q : Option Value → zS → Prop} (hl : zLay σ) {x4 : Int32} {v5 v6 : Value} {L : Nat} {xs : Nat → Int32} (hs : lwB σ L xs) (hq : lwQ L x4) (hv5 : v5.category = 1) (hv6 : v6.category = 1) : zW (d + 1) kL_law 871 [.ref 0, .ref 1, .ref 131, .ref 164, .int x4, v5, v6] [] σ Q ↔ zCall d kX11_odds [.ref 1, .int (xs (x4 + 1 : Int32).toNatClampNeg), .int (xs (x4 + 2 : Int32).toNatClampNeg), .int (xs (x4 + 3 : Int32).toNatClampNeg)] σ (fun r σ' => zisN r = true ∧ zW (d + 1) kL_law 893 [.ref 0, .ref 1, .ref 131, .ref 164, .int x4, v5, v6] (zRstk r ++ []) σ' Q) := by
  refine Iff.trans (zw_aload_n (show decode cL_law 871 = .ok (.aload_n 1, 1) by decide +kernel) rfl) ?_
  refine Iff.trans (zw_aload_n (show decode cL_law 872 = .ok (.aload_n 0, 1) by decide +kernel) rfl) ?_
  refine Iff.trans (zw_iload (show decode cL_law 873 = .ok (.iload 4, 2) by decide +kernel) rfl) ?_
  refine Iff.trans (zw_iconst (x := 1) (show decode cL_law 875 = .ok (.iconst 1, 1) by decide +kernel) (by decide)) ?_
  refine Iff.trans (zw_iadd (show decode cL_law 876 = .ok (.iadd, 1) by decide +kernel)) ?_
  refine Iff.trans (zw_isl (show decode cL_law 877 = .ok (.iaload, 1) by decide +kernel) hs hl hq.2.1) ?_
  refine Iff.trans (zw_aload_n (show decode cL_law 878 = .ok (.aload_n 0, 1) by decide +kernel) rfl) ?_
  refine Iff.trans (zw_iload (show decode cL_law 879 = .ok (.iload 4, 2) by decide +kernel) rfl) ?_
  refine Iff.trans (zw_iconst (x := 2) (show decode cL_law 881 = .ok (.iconst 2, 1) by decide +kernel) (by decide)) ?_
  refine Iff.trans (zw_iadd (show decode cL_law 882 = .ok (.iadd, 1) by decide +kernel)) ?_
  refine Iff.trans (zw_isl (show decode cL_law 883 = .ok (.iaload, 1) by decide +kernel) hs hl hq.2.2.1) ?_
  refine Iff.trans (zw_aload_n (show decode cL_law 884 = .ok (.aload_n 0, 1) by decide +kernel) rfl) ?_
  refine Iff.trans (zw_iload (show decode cL_law 885 = .ok (.iload 4, 2) by decide +kernel) rfl) ?_
  refine Iff.trans (zw_iconst (x := 3) (show decode cL_law 887 = .ok (.iconst 3, 1) by decide +kernel) (by decide)) ?_
  refine Iff.trans (zw_iadd (show decode cL_law 888 = .ok (.iadd, 1) by decide +kernel)) ?_
  refine Iff.trans (zw_isl (show decode cL_law 889 = .ok (.iaload, 1) by decide +kernel) hs hl hq.2.2.2.1) ?_
  refine Iff.trans (zw_invV (K' := kX11_odds) (as' := [.int (xs (x4 + 1 : Int32).toNatClampNeg), .int (xs (x4 + 2 : Int32).toNatClampNeg), .int (xs (x4 + 3 : Int32).toNatClampNeg)]) (rest := []) (show decode cL_law 890 = .ok (.invokevirtual 98, 3) by decide +kernel) (by rfl) rfl rfl rfl (hl.k2 zk_1) (by decide) (hl.n2 zk_1) ⟨Nat.le_of_ble_eq_true rfl, Nat.le_of_ble_eq_true rfl, Nat.le_of_ble_eq_true rfl⟩) ?_
  exact Iff.rfl

theorem bQ_L_law_893 {d : Nat} {σ : zS} {Q : Option Value → zS → Prop} (hl : zLay σ) {x4 y0 : Int32} {v5 v6 : Value} {L : Nat} {xs : Nat → Int32} (hs : lwB σ L xs) (hq : lwQ L x4) (hv5 : v5.category = 1) (hv6 : v6.category = 1) : zW (d + 1) kL_law 893 [.ref 0, .ref 1, .ref 131, .ref 164, .int x4, v5, v6] [.int y0] σ Q ↔ zCall d kX12_odds [.ref 131, .int (xs (x4 + 1 : Int32).toNatClampNeg), .int (xs (x4 + 2 : Int32).toNatClampNeg), .int (xs (x4 + 3 : Int32).toNatClampNeg)] σ (fun r σ' => zisN r = true ∧ zW (d + 1) kL_law 915 [.ref 0, .ref 1, .ref 131, .ref 164, .int x4, v5, v6] (zRstk r ++ [.int y0]) σ' Q) := by
  refine Iff.trans (zw_aload_n (show decode cL_law 893 = .ok (.aload_n 2, 1) by decide +kernel) rfl) ?_
  refine Iff.trans (zw_aload_n (show decode cL_law 894 = .ok (.aload_n 0, 1) by decide +kernel) rfl) ?_
  refine Iff.trans (zw_iload (show decode cL_law 895 = .ok (.iload 4, 2) by decide +kernel) rfl) ?_
  refine Iff.trans (zw_iconst (x := 1) (show decode cL_law 897 = .ok (.iconst 1, 1) by decide +kernel) (by decide)) ?_
  refine Iff.trans (zw_iadd (show decode cL_law 898 = .ok (.iadd, 1) by decide +kernel)) ?_
  refine Iff.trans (zw_isl (show decode cL_law 899 = .ok (.iaload, 1) by decide +kernel) hs hl hq.2.1) ?_
  refine Iff.trans (zw_aload_n (show decode cL_law 900 = .ok (.aload_n 0, 1) by decide +kernel) rfl) ?_
  refine Iff.trans (zw_iload (show decode cL_law 901 = .ok (.iload 4, 2) by decide +kernel) rfl) ?_
  refine Iff.trans (zw_iconst (x := 2) (show decode cL_law 903 = .ok (.iconst 2, 1) by decide +kernel) (by decide)) ?_
  refine Iff.trans (zw_iadd (show decode cL_law 904 = .ok (.iadd, 1) by decide +kernel)) ?_
  refine Iff.trans (zw_isl (show decode cL_law 905 = .ok (.iaload, 1) by decide +kernel) hs hl hq.2.2.1) ?_
  refine Iff.trans (zw_aload_n (show decode cL_law 906 = .ok (.aload_n 0, 1) by decide +kernel) rfl) ?_
  refine Iff.trans (zw_iload (show decode cL_law 907 = .ok (.iload 4, 2) by decide +kernel) rfl) ?_
  refine Iff.trans (zw_iconst (x := 3) (show decode cL_law 909 = .ok (.iconst 3, 1) by decide +kernel) (by decide)) ?_
  refine Iff.trans (zw_iadd (show decode cL_law 910 = .ok (.iadd, 1) by decide +kernel)) ?_
  refine Iff.trans (zw_isl (show decode cL_law 911 = .ok (.iaload, 1) by decide +kernel) hs hl hq.2.2.2.1) ?_
  refine Iff.trans (zw_invV (K' := kX12_odds) (as' := [.int (xs (x4 + 1 : Int32).toNatClampNeg), .int (xs (x4 + 2 : Int32).toNatClampNeg), .int (xs (x4 + 3 : Int32).toNatClampNeg)]) (rest := [.int y0]) (show decode cL_law 912 = .ok (.invokevirtual 101, 3) by decide +kernel) (by rfl) rfl rfl rfl (hl.k2 zk_131) (by decide) (hl.n2 zk_131) ⟨Nat.le_of_ble_eq_true rfl, Nat.le_of_ble_eq_true rfl, Nat.le_of_ble_eq_true rfl⟩) ?_
  exact Iff.rfl

theorem bQ_L_law_920 {d : Nat} {σ : zS} {Q : Option Value → zS → Prop} (hl : zLay σ) {x4 : Int32} {v5 v6 : Value} {L : Nat} {xs : Nat → Int32} (hs : lwB σ L xs) (hq : lwQ L x4) (hv5 : v5.category = 1) (hv6 : v6.category = 1) : zW (d + 1) kL_law 920 [.ref 0, .ref 1, .ref 131, .ref 164, .int x4, v5, v6] [] σ Q ↔ zCall d kX11_alone [.ref 1, .int (xs (x4 + 1 : Int32).toNatClampNeg), .int (xs (x4 + 2 : Int32).toNatClampNeg), .int (xs (x4 + 3 : Int32).toNatClampNeg), .long (((((xs (x4 + 4 : Int32).toNatClampNeg) : Int32).toInt64) <<< ((32 : Int32).toInt64 &&& 63)) ||| ((((xs (x4 + 5 : Int32).toNatClampNeg) : Int32).toInt64) &&& 4294967295))] σ (fun r σ' => zisN r = true ∧ zW (d + 1) kL_law 964 [.ref 0, .ref 1, .ref 131, .ref 164, .int x4, v5, v6] (zRstk r ++ []) σ' Q) := by
  refine Iff.trans (zw_aload_n (show decode cL_law 920 = .ok (.aload_n 1, 1) by decide +kernel) rfl) ?_
  refine Iff.trans (zw_aload_n (show decode cL_law 921 = .ok (.aload_n 0, 1) by decide +kernel) rfl) ?_
  refine Iff.trans (zw_iload (show decode cL_law 922 = .ok (.iload 4, 2) by decide +kernel) rfl) ?_
  refine Iff.trans (zw_iconst (x := 1) (show decode cL_law 924 = .ok (.iconst 1, 1) by decide +kernel) (by decide)) ?_
  refine Iff.trans (zw_iadd (show decode cL_law 925 = .ok (.iadd, 1) by decide +kernel)) ?_
  refine Iff.trans (zw_isl (show decode cL_law 926 = .ok (.iaload, 1) by decide +kernel) hs hl hq.2.1) ?_
  refine Iff.trans (zw_aload_n (show decode cL_law 927 = .ok (.aload_n 0, 1) by decide +kernel) rfl) ?_
  refine Iff.trans (zw_iload (show decode cL_law 928 = .ok (.iload 4, 2) by decide +kernel) rfl) ?_
  refine Iff.trans (zw_iconst (x := 2) (show decode cL_law 930 = .ok (.iconst 2, 1) by decide +kernel) (by decide)) ?_
  refine Iff.trans (zw_iadd (show decode cL_law 931 = .ok (.iadd, 1) by decide +kernel)) ?_
  refine Iff.trans (zw_isl (show decode cL_law 932 = .ok (.iaload, 1) by decide +kernel) hs hl hq.2.2.1) ?_
  refine Iff.trans (zw_aload_n (show decode cL_law 933 = .ok (.aload_n 0, 1) by decide +kernel) rfl) ?_
  refine Iff.trans (zw_iload (show decode cL_law 934 = .ok (.iload 4, 2) by decide +kernel) rfl) ?_
  refine Iff.trans (zw_iconst (x := 3) (show decode cL_law 936 = .ok (.iconst 3, 1) by decide +kernel) (by decide)) ?_
  refine Iff.trans (zw_iadd (show decode cL_law 937 = .ok (.iadd, 1) by decide +kernel)) ?_
  refine Iff.trans (zw_isl (show decode cL_law 938 = .ok (.iaload, 1) by decide +kernel) hs hl hq.2.2.2.1) ?_
  refine Iff.trans (zw_aload_n (show decode cL_law 939 = .ok (.aload_n 0, 1) by decide +kernel) rfl) ?_
  refine Iff.trans (zw_iload (show decode cL_law 940 = .ok (.iload 4, 2) by decide +kernel) rfl) ?_
  refine Iff.trans (zw_iconst (x := 4) (show decode cL_law 942 = .ok (.iconst 4, 1) by decide +kernel) (by decide)) ?_
  refine Iff.trans (zw_iadd (show decode cL_law 943 = .ok (.iadd, 1) by decide +kernel)) ?_
  refine Iff.trans (zw_isl (show decode cL_law 944 = .ok (.iaload, 1) by decide +kernel) hs hl hq.2.2.2.2.1) ?_
  refine Iff.trans (zw_i2l (show decode cL_law 945 = .ok (.i2l, 1) by decide +kernel)) ?_
  refine Iff.trans (zw_bipush (x := 32) (show decode cL_law 946 = .ok (.bipush 32, 2) by decide +kernel) (by decide)) ?_
  refine Iff.trans (zw_lshl (show decode cL_law 948 = .ok (.lshl, 1) by decide +kernel)) ?_
  refine Iff.trans (zw_aload_n (show decode cL_law 949 = .ok (.aload_n 0, 1) by decide +kernel) rfl) ?_
  refine Iff.trans (zw_iload (show decode cL_law 950 = .ok (.iload 4, 2) by decide +kernel) rfl) ?_
  refine Iff.trans (zw_iconst (x := 5) (show decode cL_law 952 = .ok (.iconst 5, 1) by decide +kernel) (by decide)) ?_
  refine Iff.trans (zw_iadd (show decode cL_law 953 = .ok (.iadd, 1) by decide +kernel)) ?_
  refine Iff.trans (zw_isl (show decode cL_law 954 = .ok (.iaload, 1) by decide +kernel) hs hl hq.2.2.2.2.2) ?_
  refine Iff.trans (zw_i2l (show decode cL_law 955 = .ok (.i2l, 1) by decide +kernel)) ?_
  refine Iff.trans (zw_ldc2_w (x := 4294967295) (show decode cL_law 956 = .ok (.ldc2_w 75, 3) by decide +kernel) (by decide +kernel)) ?_
  refine Iff.trans (zw_land (show decode cL_law 959 = .ok (.land, 1) by decide +kernel)) ?_
  refine Iff.trans (zw_lor (show decode cL_law 960 = .ok (.lor, 1) by decide +kernel)) ?_
  refine Iff.trans (zw_invV (K' := kX11_alone) (as' := [.int (xs (x4 + 1 : Int32).toNatClampNeg), .int (xs (x4 + 2 : Int32).toNatClampNeg), .int (xs (x4 + 3 : Int32).toNatClampNeg), .long (((((xs (x4 + 4 : Int32).toNatClampNeg) : Int32).toInt64) <<< ((32 : Int32).toInt64 &&& 63)) ||| ((((xs (x4 + 5 : Int32).toNatClampNeg) : Int32).toInt64) &&& 4294967295))]) (rest := []) (show decode cL_law 961 = .ok (.invokevirtual 102, 3) by decide +kernel) (by rfl) rfl rfl rfl (hl.k2 zk_1) (by decide) (hl.n2 zk_1) ⟨Nat.le_of_ble_eq_true rfl, Nat.le_of_ble_eq_true rfl, Nat.le_of_ble_eq_true rfl⟩) ?_
  exact Iff.rfl

theorem bQ_L_law_964 {d : Nat} {σ : zS} {Q : Option Value → zS → Prop} (hl : zLay σ) {x4 y0 : Int32} {v5 v6 : Value} {L : Nat} {xs : Nat → Int32} (hs : lwB σ L xs) (hq : lwQ L x4) (hv5 : v5.category = 1) (hv6 : v6.category = 1) : zW (d + 1) kL_law 964 [.ref 0, .ref 1, .ref 131, .ref 164, .int x4, v5, v6] [.int y0] σ Q ↔ zCall d kX12_alone [.ref 131, .int (xs (x4 + 1 : Int32).toNatClampNeg), .int (xs (x4 + 2 : Int32).toNatClampNeg), .int (xs (x4 + 3 : Int32).toNatClampNeg), .long (((((xs (x4 + 4 : Int32).toNatClampNeg) : Int32).toInt64) <<< ((32 : Int32).toInt64 &&& 63)) ||| ((((xs (x4 + 5 : Int32).toNatClampNeg) : Int32).toInt64) &&& 4294967295))] σ (fun r σ' => zisN r = true ∧ zW (d + 1) kL_law 1008 [.ref 0, .ref 1, .ref 131, .ref 164, .int x4, v5, v6] (zRstk r ++ [.int y0]) σ' Q) := by
  refine Iff.trans (zw_aload_n (show decode cL_law 964 = .ok (.aload_n 2, 1) by decide +kernel) rfl) ?_
  refine Iff.trans (zw_aload_n (show decode cL_law 965 = .ok (.aload_n 0, 1) by decide +kernel) rfl) ?_
  refine Iff.trans (zw_iload (show decode cL_law 966 = .ok (.iload 4, 2) by decide +kernel) rfl) ?_
  refine Iff.trans (zw_iconst (x := 1) (show decode cL_law 968 = .ok (.iconst 1, 1) by decide +kernel) (by decide)) ?_
  refine Iff.trans (zw_iadd (show decode cL_law 969 = .ok (.iadd, 1) by decide +kernel)) ?_
  refine Iff.trans (zw_isl (show decode cL_law 970 = .ok (.iaload, 1) by decide +kernel) hs hl hq.2.1) ?_
  refine Iff.trans (zw_aload_n (show decode cL_law 971 = .ok (.aload_n 0, 1) by decide +kernel) rfl) ?_
  refine Iff.trans (zw_iload (show decode cL_law 972 = .ok (.iload 4, 2) by decide +kernel) rfl) ?_
  refine Iff.trans (zw_iconst (x := 2) (show decode cL_law 974 = .ok (.iconst 2, 1) by decide +kernel) (by decide)) ?_
  refine Iff.trans (zw_iadd (show decode cL_law 975 = .ok (.iadd, 1) by decide +kernel)) ?_
  refine Iff.trans (zw_isl (show decode cL_law 976 = .ok (.iaload, 1) by decide +kernel) hs hl hq.2.2.1) ?_
  refine Iff.trans (zw_aload_n (show decode cL_law 977 = .ok (.aload_n 0, 1) by decide +kernel) rfl) ?_
  refine Iff.trans (zw_iload (show decode cL_law 978 = .ok (.iload 4, 2) by decide +kernel) rfl) ?_
  refine Iff.trans (zw_iconst (x := 3) (show decode cL_law 980 = .ok (.iconst 3, 1) by decide +kernel) (by decide)) ?_
  refine Iff.trans (zw_iadd (show decode cL_law 981 = .ok (.iadd, 1) by decide +kernel)) ?_
  refine Iff.trans (zw_isl (show decode cL_law 982 = .ok (.iaload, 1) by decide +kernel) hs hl hq.2.2.2.1) ?_
  refine Iff.trans (zw_aload_n (show decode cL_law 983 = .ok (.aload_n 0, 1) by decide +kernel) rfl) ?_
  refine Iff.trans (zw_iload (show decode cL_law 984 = .ok (.iload 4, 2) by decide +kernel) rfl) ?_
  refine Iff.trans (zw_iconst (x := 4) (show decode cL_law 986 = .ok (.iconst 4, 1) by decide +kernel) (by decide)) ?_
  refine Iff.trans (zw_iadd (show decode cL_law 987 = .ok (.iadd, 1) by decide +kernel)) ?_
  refine Iff.trans (zw_isl (show decode cL_law 988 = .ok (.iaload, 1) by decide +kernel) hs hl hq.2.2.2.2.1) ?_
  refine Iff.trans (zw_i2l (show decode cL_law 989 = .ok (.i2l, 1) by decide +kernel)) ?_
  refine Iff.trans (zw_bipush (x := 32) (show decode cL_law 990 = .ok (.bipush 32, 2) by decide +kernel) (by decide)) ?_
  refine Iff.trans (zw_lshl (show decode cL_law 992 = .ok (.lshl, 1) by decide +kernel)) ?_
  refine Iff.trans (zw_aload_n (show decode cL_law 993 = .ok (.aload_n 0, 1) by decide +kernel) rfl) ?_
  refine Iff.trans (zw_iload (show decode cL_law 994 = .ok (.iload 4, 2) by decide +kernel) rfl) ?_
  refine Iff.trans (zw_iconst (x := 5) (show decode cL_law 996 = .ok (.iconst 5, 1) by decide +kernel) (by decide)) ?_
  refine Iff.trans (zw_iadd (show decode cL_law 997 = .ok (.iadd, 1) by decide +kernel)) ?_
  refine Iff.trans (zw_isl (show decode cL_law 998 = .ok (.iaload, 1) by decide +kernel) hs hl hq.2.2.2.2.2) ?_
  refine Iff.trans (zw_i2l (show decode cL_law 999 = .ok (.i2l, 1) by decide +kernel)) ?_
  refine Iff.trans (zw_ldc2_w (x := 4294967295) (show decode cL_law 1000 = .ok (.ldc2_w 75, 3) by decide +kernel) (by decide +kernel)) ?_
  refine Iff.trans (zw_land (show decode cL_law 1003 = .ok (.land, 1) by decide +kernel)) ?_
  refine Iff.trans (zw_lor (show decode cL_law 1004 = .ok (.lor, 1) by decide +kernel)) ?_
  refine Iff.trans (zw_invV (K' := kX12_alone) (as' := [.int (xs (x4 + 1 : Int32).toNatClampNeg), .int (xs (x4 + 2 : Int32).toNatClampNeg), .int (xs (x4 + 3 : Int32).toNatClampNeg), .long (((((xs (x4 + 4 : Int32).toNatClampNeg) : Int32).toInt64) <<< ((32 : Int32).toInt64 &&& 63)) ||| ((((xs (x4 + 5 : Int32).toNatClampNeg) : Int32).toInt64) &&& 4294967295))]) (rest := [.int y0]) (show decode cL_law 1005 = .ok (.invokevirtual 106, 3) by decide +kernel) (by rfl) rfl rfl rfl (hl.k2 zk_131) (by decide) (hl.n2 zk_131) ⟨Nat.le_of_ble_eq_true rfl, Nat.le_of_ble_eq_true rfl, Nat.le_of_ble_eq_true rfl⟩) ?_
  exact Iff.rfl

theorem bQ_L_law_1013 {d : Nat} {σ : zS} {Q : Option Value → zS → Prop} (hl : zLay σ) {x4 : Int32} {v5 v6 : Value} {L : Nat} {xs : Nat → Int32} (hs : lwB σ L xs) (hq : lwQ L x4) (hv5 : v5.category = 1) (hv6 : v6.category = 1) : zW (d + 1) kL_law 1013 [.ref 0, .ref 1, .ref 131, .ref 164, .int x4, v5, v6] [] σ Q ↔ zCall d kX11_luck [.ref 1, .int (xs (x4 + 1 : Int32).toNatClampNeg), .int (xs (x4 + 2 : Int32).toNatClampNeg), .int (xs (x4 + 3 : Int32).toNatClampNeg), .int (xs (x4 + 4 : Int32).toNatClampNeg)] σ (fun r σ' => zisN r = true ∧ zW (d + 1) kL_law 1041 [.ref 0, .ref 1, .ref 131, .ref 164, .int x4, v5, v6] (zRstk r ++ []) σ' Q) := by
  refine Iff.trans (zw_aload_n (show decode cL_law 1013 = .ok (.aload_n 1, 1) by decide +kernel) rfl) ?_
  refine Iff.trans (zw_aload_n (show decode cL_law 1014 = .ok (.aload_n 0, 1) by decide +kernel) rfl) ?_
  refine Iff.trans (zw_iload (show decode cL_law 1015 = .ok (.iload 4, 2) by decide +kernel) rfl) ?_
  refine Iff.trans (zw_iconst (x := 1) (show decode cL_law 1017 = .ok (.iconst 1, 1) by decide +kernel) (by decide)) ?_
  refine Iff.trans (zw_iadd (show decode cL_law 1018 = .ok (.iadd, 1) by decide +kernel)) ?_
  refine Iff.trans (zw_isl (show decode cL_law 1019 = .ok (.iaload, 1) by decide +kernel) hs hl hq.2.1) ?_
  refine Iff.trans (zw_aload_n (show decode cL_law 1020 = .ok (.aload_n 0, 1) by decide +kernel) rfl) ?_
  refine Iff.trans (zw_iload (show decode cL_law 1021 = .ok (.iload 4, 2) by decide +kernel) rfl) ?_
  refine Iff.trans (zw_iconst (x := 2) (show decode cL_law 1023 = .ok (.iconst 2, 1) by decide +kernel) (by decide)) ?_
  refine Iff.trans (zw_iadd (show decode cL_law 1024 = .ok (.iadd, 1) by decide +kernel)) ?_
  refine Iff.trans (zw_isl (show decode cL_law 1025 = .ok (.iaload, 1) by decide +kernel) hs hl hq.2.2.1) ?_
  refine Iff.trans (zw_aload_n (show decode cL_law 1026 = .ok (.aload_n 0, 1) by decide +kernel) rfl) ?_
  refine Iff.trans (zw_iload (show decode cL_law 1027 = .ok (.iload 4, 2) by decide +kernel) rfl) ?_
  refine Iff.trans (zw_iconst (x := 3) (show decode cL_law 1029 = .ok (.iconst 3, 1) by decide +kernel) (by decide)) ?_
  refine Iff.trans (zw_iadd (show decode cL_law 1030 = .ok (.iadd, 1) by decide +kernel)) ?_
  refine Iff.trans (zw_isl (show decode cL_law 1031 = .ok (.iaload, 1) by decide +kernel) hs hl hq.2.2.2.1) ?_
  refine Iff.trans (zw_aload_n (show decode cL_law 1032 = .ok (.aload_n 0, 1) by decide +kernel) rfl) ?_
  refine Iff.trans (zw_iload (show decode cL_law 1033 = .ok (.iload 4, 2) by decide +kernel) rfl) ?_
  refine Iff.trans (zw_iconst (x := 4) (show decode cL_law 1035 = .ok (.iconst 4, 1) by decide +kernel) (by decide)) ?_
  refine Iff.trans (zw_iadd (show decode cL_law 1036 = .ok (.iadd, 1) by decide +kernel)) ?_
  refine Iff.trans (zw_isl (show decode cL_law 1037 = .ok (.iaload, 1) by decide +kernel) hs hl hq.2.2.2.2.1) ?_
  refine Iff.trans (zw_invV (K' := kX11_luck) (as' := [.int (xs (x4 + 1 : Int32).toNatClampNeg), .int (xs (x4 + 2 : Int32).toNatClampNeg), .int (xs (x4 + 3 : Int32).toNatClampNeg), .int (xs (x4 + 4 : Int32).toNatClampNeg)]) (rest := []) (show decode cL_law 1038 = .ok (.invokevirtual 107, 3) by decide +kernel) (by rfl) rfl rfl rfl (hl.k2 zk_1) (by decide) (hl.n2 zk_1) ⟨Nat.le_of_ble_eq_true rfl, Nat.le_of_ble_eq_true rfl, Nat.le_of_ble_eq_true rfl⟩) ?_
  exact Iff.rfl

theorem bQ_L_law_1041 {d : Nat} {σ : zS} {Q : Option Value → zS → Prop} (hl : zLay σ) {x4 y0 : Int32} {v5 v6 : Value} {L : Nat} {xs : Nat → Int32} (hs : lwB σ L xs) (hq : lwQ L x4) (hv5 : v5.category = 1) (hv6 : v6.category = 1) : zW (d + 1) kL_law 1041 [.ref 0, .ref 1, .ref 131, .ref 164, .int x4, v5, v6] [.int y0] σ Q ↔ zCall d kX12_luck [.ref 131, .int (xs (x4 + 1 : Int32).toNatClampNeg), .int (xs (x4 + 2 : Int32).toNatClampNeg), .int (xs (x4 + 3 : Int32).toNatClampNeg), .int (xs (x4 + 4 : Int32).toNatClampNeg)] σ (fun r σ' => zisN r = true ∧ zW (d + 1) kL_law 1069 [.ref 0, .ref 1, .ref 131, .ref 164, .int x4, v5, v6] (zRstk r ++ [.int y0]) σ' Q) := by
  refine Iff.trans (zw_aload_n (show decode cL_law 1041 = .ok (.aload_n 2, 1) by decide +kernel) rfl) ?_
  refine Iff.trans (zw_aload_n (show decode cL_law 1042 = .ok (.aload_n 0, 1) by decide +kernel) rfl) ?_
  refine Iff.trans (zw_iload (show decode cL_law 1043 = .ok (.iload 4, 2) by decide +kernel) rfl) ?_
  refine Iff.trans (zw_iconst (x := 1) (show decode cL_law 1045 = .ok (.iconst 1, 1) by decide +kernel) (by decide)) ?_
  refine Iff.trans (zw_iadd (show decode cL_law 1046 = .ok (.iadd, 1) by decide +kernel)) ?_
  refine Iff.trans (zw_isl (show decode cL_law 1047 = .ok (.iaload, 1) by decide +kernel) hs hl hq.2.1) ?_
  refine Iff.trans (zw_aload_n (show decode cL_law 1048 = .ok (.aload_n 0, 1) by decide +kernel) rfl) ?_
  refine Iff.trans (zw_iload (show decode cL_law 1049 = .ok (.iload 4, 2) by decide +kernel) rfl) ?_
  refine Iff.trans (zw_iconst (x := 2) (show decode cL_law 1051 = .ok (.iconst 2, 1) by decide +kernel) (by decide)) ?_
  refine Iff.trans (zw_iadd (show decode cL_law 1052 = .ok (.iadd, 1) by decide +kernel)) ?_
  refine Iff.trans (zw_isl (show decode cL_law 1053 = .ok (.iaload, 1) by decide +kernel) hs hl hq.2.2.1) ?_
  refine Iff.trans (zw_aload_n (show decode cL_law 1054 = .ok (.aload_n 0, 1) by decide +kernel) rfl) ?_
  refine Iff.trans (zw_iload (show decode cL_law 1055 = .ok (.iload 4, 2) by decide +kernel) rfl) ?_
  refine Iff.trans (zw_iconst (x := 3) (show decode cL_law 1057 = .ok (.iconst 3, 1) by decide +kernel) (by decide)) ?_
  refine Iff.trans (zw_iadd (show decode cL_law 1058 = .ok (.iadd, 1) by decide +kernel)) ?_
  refine Iff.trans (zw_isl (show decode cL_law 1059 = .ok (.iaload, 1) by decide +kernel) hs hl hq.2.2.2.1) ?_
  refine Iff.trans (zw_aload_n (show decode cL_law 1060 = .ok (.aload_n 0, 1) by decide +kernel) rfl) ?_
  refine Iff.trans (zw_iload (show decode cL_law 1061 = .ok (.iload 4, 2) by decide +kernel) rfl) ?_
  refine Iff.trans (zw_iconst (x := 4) (show decode cL_law 1063 = .ok (.iconst 4, 1) by decide +kernel) (by decide)) ?_
  refine Iff.trans (zw_iadd (show decode cL_law 1064 = .ok (.iadd, 1) by decide +kernel)) ?_
  refine Iff.trans (zw_isl (show decode cL_law 1065 = .ok (.iaload, 1) by decide +kernel) hs hl hq.2.2.2.2.1) ?_
  refine Iff.trans (zw_invV (K' := kX12_luck) (as' := [.int (xs (x4 + 1 : Int32).toNatClampNeg), .int (xs (x4 + 2 : Int32).toNatClampNeg), .int (xs (x4 + 3 : Int32).toNatClampNeg), .int (xs (x4 + 4 : Int32).toNatClampNeg)]) (rest := [.int y0]) (show decode cL_law 1066 = .ok (.invokevirtual 110, 3) by decide +kernel) (by rfl) rfl rfl rfl (hl.k2 zk_131) (by decide) (hl.n2 zk_131) ⟨Nat.le_of_ble_eq_true rfl, Nat.le_of_ble_eq_true rfl, Nat.le_of_ble_eq_true rfl⟩) ?_
  exact Iff.rfl

theorem bQ_L_law_1074 {d : Nat} {σ : zS} {Q : Option Value → zS → Prop} (hl : zLay σ) {x4 : Int32} {v5 v6 : Value} {L : Nat} {xs : Nat → Int32} (hs : lwB σ L xs) (hq : lwQ L x4) (hv5 : v5.category = 1) (hv6 : v6.category = 1) : zW (d + 1) kL_law 1074 [.ref 0, .ref 1, .ref 131, .ref 164, .int x4, v5, v6] [] σ Q ↔ zCall d kX11_best [.ref 1, .int (xs (x4 + 1 : Int32).toNatClampNeg), .int (xs (x4 + 2 : Int32).toNatClampNeg), .int (xs (x4 + 3 : Int32).toNatClampNeg), .int (xs (x4 + 4 : Int32).toNatClampNeg)] σ (fun r σ' => zisN r = true ∧ zW (d + 1) kL_law 1102 [.ref 0, .ref 1, .ref 131, .ref 164, .int x4, v5, v6] (zRstk r ++ []) σ' Q) := by
  refine Iff.trans (zw_aload_n (show decode cL_law 1074 = .ok (.aload_n 1, 1) by decide +kernel) rfl) ?_
  refine Iff.trans (zw_aload_n (show decode cL_law 1075 = .ok (.aload_n 0, 1) by decide +kernel) rfl) ?_
  refine Iff.trans (zw_iload (show decode cL_law 1076 = .ok (.iload 4, 2) by decide +kernel) rfl) ?_
  refine Iff.trans (zw_iconst (x := 1) (show decode cL_law 1078 = .ok (.iconst 1, 1) by decide +kernel) (by decide)) ?_
  refine Iff.trans (zw_iadd (show decode cL_law 1079 = .ok (.iadd, 1) by decide +kernel)) ?_
  refine Iff.trans (zw_isl (show decode cL_law 1080 = .ok (.iaload, 1) by decide +kernel) hs hl hq.2.1) ?_
  refine Iff.trans (zw_aload_n (show decode cL_law 1081 = .ok (.aload_n 0, 1) by decide +kernel) rfl) ?_
  refine Iff.trans (zw_iload (show decode cL_law 1082 = .ok (.iload 4, 2) by decide +kernel) rfl) ?_
  refine Iff.trans (zw_iconst (x := 2) (show decode cL_law 1084 = .ok (.iconst 2, 1) by decide +kernel) (by decide)) ?_
  refine Iff.trans (zw_iadd (show decode cL_law 1085 = .ok (.iadd, 1) by decide +kernel)) ?_
  refine Iff.trans (zw_isl (show decode cL_law 1086 = .ok (.iaload, 1) by decide +kernel) hs hl hq.2.2.1) ?_
  refine Iff.trans (zw_aload_n (show decode cL_law 1087 = .ok (.aload_n 0, 1) by decide +kernel) rfl) ?_
  refine Iff.trans (zw_iload (show decode cL_law 1088 = .ok (.iload 4, 2) by decide +kernel) rfl) ?_
  refine Iff.trans (zw_iconst (x := 3) (show decode cL_law 1090 = .ok (.iconst 3, 1) by decide +kernel) (by decide)) ?_
  refine Iff.trans (zw_iadd (show decode cL_law 1091 = .ok (.iadd, 1) by decide +kernel)) ?_
  refine Iff.trans (zw_isl (show decode cL_law 1092 = .ok (.iaload, 1) by decide +kernel) hs hl hq.2.2.2.1) ?_
  refine Iff.trans (zw_aload_n (show decode cL_law 1093 = .ok (.aload_n 0, 1) by decide +kernel) rfl) ?_
  refine Iff.trans (zw_iload (show decode cL_law 1094 = .ok (.iload 4, 2) by decide +kernel) rfl) ?_
  refine Iff.trans (zw_iconst (x := 4) (show decode cL_law 1096 = .ok (.iconst 4, 1) by decide +kernel) (by decide)) ?_
  refine Iff.trans (zw_iadd (show decode cL_law 1097 = .ok (.iadd, 1) by decide +kernel)) ?_
  refine Iff.trans (zw_isl (show decode cL_law 1098 = .ok (.iaload, 1) by decide +kernel) hs hl hq.2.2.2.2.1) ?_
  refine Iff.trans (zw_invV (K' := kX11_best) (as' := [.int (xs (x4 + 1 : Int32).toNatClampNeg), .int (xs (x4 + 2 : Int32).toNatClampNeg), .int (xs (x4 + 3 : Int32).toNatClampNeg), .int (xs (x4 + 4 : Int32).toNatClampNeg)]) (rest := []) (show decode cL_law 1099 = .ok (.invokevirtual 111, 3) by decide +kernel) (by rfl) rfl rfl rfl (hl.k2 zk_1) (by decide) (hl.n2 zk_1) ⟨Nat.le_of_ble_eq_true rfl, Nat.le_of_ble_eq_true rfl, Nat.le_of_ble_eq_true rfl⟩) ?_
  exact Iff.rfl

theorem bQ_L_law_1102 {d : Nat} {σ : zS} {Q : Option Value → zS → Prop} (hl : zLay σ) {x4 y0 : Int32} {v5 v6 : Value} {L : Nat} {xs : Nat → Int32} (hs : lwB σ L xs) (hq : lwQ L x4) (hv5 : v5.category = 1) (hv6 : v6.category = 1) : zW (d + 1) kL_law 1102 [.ref 0, .ref 1, .ref 131, .ref 164, .int x4, v5, v6] [.int y0] σ Q ↔ zCall d kX12_best [.ref 131, .int (xs (x4 + 1 : Int32).toNatClampNeg), .int (xs (x4 + 2 : Int32).toNatClampNeg), .int (xs (x4 + 3 : Int32).toNatClampNeg), .int (xs (x4 + 4 : Int32).toNatClampNeg)] σ (fun r σ' => zisN r = true ∧ zW (d + 1) kL_law 1130 [.ref 0, .ref 1, .ref 131, .ref 164, .int x4, v5, v6] (zRstk r ++ [.int y0]) σ' Q) := by
  refine Iff.trans (zw_aload_n (show decode cL_law 1102 = .ok (.aload_n 2, 1) by decide +kernel) rfl) ?_
  refine Iff.trans (zw_aload_n (show decode cL_law 1103 = .ok (.aload_n 0, 1) by decide +kernel) rfl) ?_
  refine Iff.trans (zw_iload (show decode cL_law 1104 = .ok (.iload 4, 2) by decide +kernel) rfl) ?_
  refine Iff.trans (zw_iconst (x := 1) (show decode cL_law 1106 = .ok (.iconst 1, 1) by decide +kernel) (by decide)) ?_
  refine Iff.trans (zw_iadd (show decode cL_law 1107 = .ok (.iadd, 1) by decide +kernel)) ?_
  refine Iff.trans (zw_isl (show decode cL_law 1108 = .ok (.iaload, 1) by decide +kernel) hs hl hq.2.1) ?_
  refine Iff.trans (zw_aload_n (show decode cL_law 1109 = .ok (.aload_n 0, 1) by decide +kernel) rfl) ?_
  refine Iff.trans (zw_iload (show decode cL_law 1110 = .ok (.iload 4, 2) by decide +kernel) rfl) ?_
  refine Iff.trans (zw_iconst (x := 2) (show decode cL_law 1112 = .ok (.iconst 2, 1) by decide +kernel) (by decide)) ?_
  refine Iff.trans (zw_iadd (show decode cL_law 1113 = .ok (.iadd, 1) by decide +kernel)) ?_
  refine Iff.trans (zw_isl (show decode cL_law 1114 = .ok (.iaload, 1) by decide +kernel) hs hl hq.2.2.1) ?_
  refine Iff.trans (zw_aload_n (show decode cL_law 1115 = .ok (.aload_n 0, 1) by decide +kernel) rfl) ?_
  refine Iff.trans (zw_iload (show decode cL_law 1116 = .ok (.iload 4, 2) by decide +kernel) rfl) ?_
  refine Iff.trans (zw_iconst (x := 3) (show decode cL_law 1118 = .ok (.iconst 3, 1) by decide +kernel) (by decide)) ?_
  refine Iff.trans (zw_iadd (show decode cL_law 1119 = .ok (.iadd, 1) by decide +kernel)) ?_
  refine Iff.trans (zw_isl (show decode cL_law 1120 = .ok (.iaload, 1) by decide +kernel) hs hl hq.2.2.2.1) ?_
  refine Iff.trans (zw_aload_n (show decode cL_law 1121 = .ok (.aload_n 0, 1) by decide +kernel) rfl) ?_
  refine Iff.trans (zw_iload (show decode cL_law 1122 = .ok (.iload 4, 2) by decide +kernel) rfl) ?_
  refine Iff.trans (zw_iconst (x := 4) (show decode cL_law 1124 = .ok (.iconst 4, 1) by decide +kernel) (by decide)) ?_
  refine Iff.trans (zw_iadd (show decode cL_law 1125 = .ok (.iadd, 1) by decide +kernel)) ?_
  refine Iff.trans (zw_isl (show decode cL_law 1126 = .ok (.iaload, 1) by decide +kernel) hs hl hq.2.2.2.2.1) ?_
  refine Iff.trans (zw_invV (K' := kX12_best) (as' := [.int (xs (x4 + 1 : Int32).toNatClampNeg), .int (xs (x4 + 2 : Int32).toNatClampNeg), .int (xs (x4 + 3 : Int32).toNatClampNeg), .int (xs (x4 + 4 : Int32).toNatClampNeg)]) (rest := [.int y0]) (show decode cL_law 1127 = .ok (.invokevirtual 114, 3) by decide +kernel) (by rfl) rfl rfl rfl (hl.k2 zk_131) (by decide) (hl.n2 zk_131) ⟨Nat.le_of_ble_eq_true rfl, Nat.le_of_ble_eq_true rfl, Nat.le_of_ble_eq_true rfl⟩) ?_
  exact Iff.rfl

theorem bQ_L_law_1135 {d : Nat} {σ : zS} {Q : Option Value → zS → Prop} (hl : zLay σ) {x4 : Int32} {v5 v6 : Value} {L : Nat} {xs : Nat → Int32} (hs : lwB σ L xs) (hq : lwQ L x4) (hv5 : v5.category = 1) (hv6 : v6.category = 1) : zW (d + 1) kL_law 1135 [.ref 0, .ref 1, .ref 131, .ref 164, .int x4, v5, v6] [] σ Q ↔ zCall d kX11_choice [.ref 1, .int (xs (x4 + 1 : Int32).toNatClampNeg), .int (xs (x4 + 2 : Int32).toNatClampNeg), .int (xs (x4 + 3 : Int32).toNatClampNeg), .int (xs (x4 + 4 : Int32).toNatClampNeg), .int (xs (x4 + 5 : Int32).toNatClampNeg)] σ (fun r σ' => zisN r = true ∧ zW (d + 1) kL_law 1169 [.ref 0, .ref 1, .ref 131, .ref 164, .int x4, v5, v6] (zRstk r ++ []) σ' Q) := by
  refine Iff.trans (zw_aload_n (show decode cL_law 1135 = .ok (.aload_n 1, 1) by decide +kernel) rfl) ?_
  refine Iff.trans (zw_aload_n (show decode cL_law 1136 = .ok (.aload_n 0, 1) by decide +kernel) rfl) ?_
  refine Iff.trans (zw_iload (show decode cL_law 1137 = .ok (.iload 4, 2) by decide +kernel) rfl) ?_
  refine Iff.trans (zw_iconst (x := 1) (show decode cL_law 1139 = .ok (.iconst 1, 1) by decide +kernel) (by decide)) ?_
  refine Iff.trans (zw_iadd (show decode cL_law 1140 = .ok (.iadd, 1) by decide +kernel)) ?_
  refine Iff.trans (zw_isl (show decode cL_law 1141 = .ok (.iaload, 1) by decide +kernel) hs hl hq.2.1) ?_
  refine Iff.trans (zw_aload_n (show decode cL_law 1142 = .ok (.aload_n 0, 1) by decide +kernel) rfl) ?_
  refine Iff.trans (zw_iload (show decode cL_law 1143 = .ok (.iload 4, 2) by decide +kernel) rfl) ?_
  refine Iff.trans (zw_iconst (x := 2) (show decode cL_law 1145 = .ok (.iconst 2, 1) by decide +kernel) (by decide)) ?_
  refine Iff.trans (zw_iadd (show decode cL_law 1146 = .ok (.iadd, 1) by decide +kernel)) ?_
  refine Iff.trans (zw_isl (show decode cL_law 1147 = .ok (.iaload, 1) by decide +kernel) hs hl hq.2.2.1) ?_
  refine Iff.trans (zw_aload_n (show decode cL_law 1148 = .ok (.aload_n 0, 1) by decide +kernel) rfl) ?_
  refine Iff.trans (zw_iload (show decode cL_law 1149 = .ok (.iload 4, 2) by decide +kernel) rfl) ?_
  refine Iff.trans (zw_iconst (x := 3) (show decode cL_law 1151 = .ok (.iconst 3, 1) by decide +kernel) (by decide)) ?_
  refine Iff.trans (zw_iadd (show decode cL_law 1152 = .ok (.iadd, 1) by decide +kernel)) ?_
  refine Iff.trans (zw_isl (show decode cL_law 1153 = .ok (.iaload, 1) by decide +kernel) hs hl hq.2.2.2.1) ?_
  refine Iff.trans (zw_aload_n (show decode cL_law 1154 = .ok (.aload_n 0, 1) by decide +kernel) rfl) ?_
  refine Iff.trans (zw_iload (show decode cL_law 1155 = .ok (.iload 4, 2) by decide +kernel) rfl) ?_
  refine Iff.trans (zw_iconst (x := 4) (show decode cL_law 1157 = .ok (.iconst 4, 1) by decide +kernel) (by decide)) ?_
  refine Iff.trans (zw_iadd (show decode cL_law 1158 = .ok (.iadd, 1) by decide +kernel)) ?_
  refine Iff.trans (zw_isl (show decode cL_law 1159 = .ok (.iaload, 1) by decide +kernel) hs hl hq.2.2.2.2.1) ?_
  refine Iff.trans (zw_aload_n (show decode cL_law 1160 = .ok (.aload_n 0, 1) by decide +kernel) rfl) ?_
  refine Iff.trans (zw_iload (show decode cL_law 1161 = .ok (.iload 4, 2) by decide +kernel) rfl) ?_
  refine Iff.trans (zw_iconst (x := 5) (show decode cL_law 1163 = .ok (.iconst 5, 1) by decide +kernel) (by decide)) ?_
  refine Iff.trans (zw_iadd (show decode cL_law 1164 = .ok (.iadd, 1) by decide +kernel)) ?_
  refine Iff.trans (zw_isl (show decode cL_law 1165 = .ok (.iaload, 1) by decide +kernel) hs hl hq.2.2.2.2.2) ?_
  refine Iff.trans (zw_invV (K' := kX11_choice) (as' := [.int (xs (x4 + 1 : Int32).toNatClampNeg), .int (xs (x4 + 2 : Int32).toNatClampNeg), .int (xs (x4 + 3 : Int32).toNatClampNeg), .int (xs (x4 + 4 : Int32).toNatClampNeg), .int (xs (x4 + 5 : Int32).toNatClampNeg)]) (rest := []) (show decode cL_law 1166 = .ok (.invokevirtual 115, 3) by decide +kernel) (by rfl) rfl rfl rfl (hl.k2 zk_1) (by decide) (hl.n2 zk_1) ⟨Nat.le_of_ble_eq_true rfl, Nat.le_of_ble_eq_true rfl, Nat.le_of_ble_eq_true rfl⟩) ?_
  exact Iff.rfl

theorem bQ_L_law_1169 {d : Nat} {σ : zS} {Q : Option Value → zS → Prop} (hl : zLay σ) {x4 y0 : Int32} {v5 v6 : Value} {L : Nat} {xs : Nat → Int32} (hs : lwB σ L xs) (hq : lwQ L x4) (hv5 : v5.category = 1) (hv6 : v6.category = 1) : zW (d + 1) kL_law 1169 [.ref 0, .ref 1, .ref 131, .ref 164, .int x4, v5, v6] [.int y0] σ Q ↔ zCall d kX12_choice [.ref 131, .int (xs (x4 + 1 : Int32).toNatClampNeg), .int (xs (x4 + 2 : Int32).toNatClampNeg), .int (xs (x4 + 3 : Int32).toNatClampNeg), .int (xs (x4 + 4 : Int32).toNatClampNeg), .int (xs (x4 + 5 : Int32).toNatClampNeg)] σ (fun r σ' => zisN r = true ∧ zW (d + 1) kL_law 1203 [.ref 0, .ref 1, .ref 131, .ref 164, .int x4, v5, v6] (zRstk r ++ [.int y0]) σ' Q) := by
  refine Iff.trans (zw_aload_n (show decode cL_law 1169 = .ok (.aload_n 2, 1) by decide +kernel) rfl) ?_
  refine Iff.trans (zw_aload_n (show decode cL_law 1170 = .ok (.aload_n 0, 1) by decide +kernel) rfl) ?_
  refine Iff.trans (zw_iload (show decode cL_law 1171 = .ok (.iload 4, 2) by decide +kernel) rfl) ?_
  refine Iff.trans (zw_iconst (x := 1) (show decode cL_law 1173 = .ok (.iconst 1, 1) by decide +kernel) (by decide)) ?_
  refine Iff.trans (zw_iadd (show decode cL_law 1174 = .ok (.iadd, 1) by decide +kernel)) ?_
  refine Iff.trans (zw_isl (show decode cL_law 1175 = .ok (.iaload, 1) by decide +kernel) hs hl hq.2.1) ?_
  refine Iff.trans (zw_aload_n (show decode cL_law 1176 = .ok (.aload_n 0, 1) by decide +kernel) rfl) ?_
  refine Iff.trans (zw_iload (show decode cL_law 1177 = .ok (.iload 4, 2) by decide +kernel) rfl) ?_
  refine Iff.trans (zw_iconst (x := 2) (show decode cL_law 1179 = .ok (.iconst 2, 1) by decide +kernel) (by decide)) ?_
  refine Iff.trans (zw_iadd (show decode cL_law 1180 = .ok (.iadd, 1) by decide +kernel)) ?_
  refine Iff.trans (zw_isl (show decode cL_law 1181 = .ok (.iaload, 1) by decide +kernel) hs hl hq.2.2.1) ?_
  refine Iff.trans (zw_aload_n (show decode cL_law 1182 = .ok (.aload_n 0, 1) by decide +kernel) rfl) ?_
  refine Iff.trans (zw_iload (show decode cL_law 1183 = .ok (.iload 4, 2) by decide +kernel) rfl) ?_
  refine Iff.trans (zw_iconst (x := 3) (show decode cL_law 1185 = .ok (.iconst 3, 1) by decide +kernel) (by decide)) ?_
  refine Iff.trans (zw_iadd (show decode cL_law 1186 = .ok (.iadd, 1) by decide +kernel)) ?_
  refine Iff.trans (zw_isl (show decode cL_law 1187 = .ok (.iaload, 1) by decide +kernel) hs hl hq.2.2.2.1) ?_
  refine Iff.trans (zw_aload_n (show decode cL_law 1188 = .ok (.aload_n 0, 1) by decide +kernel) rfl) ?_
  refine Iff.trans (zw_iload (show decode cL_law 1189 = .ok (.iload 4, 2) by decide +kernel) rfl) ?_
  refine Iff.trans (zw_iconst (x := 4) (show decode cL_law 1191 = .ok (.iconst 4, 1) by decide +kernel) (by decide)) ?_
  refine Iff.trans (zw_iadd (show decode cL_law 1192 = .ok (.iadd, 1) by decide +kernel)) ?_
  refine Iff.trans (zw_isl (show decode cL_law 1193 = .ok (.iaload, 1) by decide +kernel) hs hl hq.2.2.2.2.1) ?_
  refine Iff.trans (zw_aload_n (show decode cL_law 1194 = .ok (.aload_n 0, 1) by decide +kernel) rfl) ?_
  refine Iff.trans (zw_iload (show decode cL_law 1195 = .ok (.iload 4, 2) by decide +kernel) rfl) ?_
  refine Iff.trans (zw_iconst (x := 5) (show decode cL_law 1197 = .ok (.iconst 5, 1) by decide +kernel) (by decide)) ?_
  refine Iff.trans (zw_iadd (show decode cL_law 1198 = .ok (.iadd, 1) by decide +kernel)) ?_
  refine Iff.trans (zw_isl (show decode cL_law 1199 = .ok (.iaload, 1) by decide +kernel) hs hl hq.2.2.2.2.2) ?_
  refine Iff.trans (zw_invV (K' := kX12_choice) (as' := [.int (xs (x4 + 1 : Int32).toNatClampNeg), .int (xs (x4 + 2 : Int32).toNatClampNeg), .int (xs (x4 + 3 : Int32).toNatClampNeg), .int (xs (x4 + 4 : Int32).toNatClampNeg), .int (xs (x4 + 5 : Int32).toNatClampNeg)]) (rest := [.int y0]) (show decode cL_law 1200 = .ok (.invokevirtual 118, 3) by decide +kernel) (by rfl) rfl rfl rfl (hl.k2 zk_131) (by decide) (hl.n2 zk_131) ⟨Nat.le_of_ble_eq_true rfl, Nat.le_of_ble_eq_true rfl, Nat.le_of_ble_eq_true rfl⟩) ?_
  exact Iff.rfl

theorem bQ_L_law_1208 {d : Nat} {σ : zS} {Q : Option Value → zS → Prop} (hl : zLay σ) {x4 : Int32} {v5 v6 : Value} {L : Nat} {xs : Nat → Int32} (hs : lwB σ L xs) (hq : lwQ L x4) (hv5 : v5.category = 1) (hv6 : v6.category = 1) : zW (d + 1) kL_law 1208 [.ref 0, .ref 1, .ref 131, .ref 164, .int x4, v5, v6] [] σ Q ↔ zCall d kX11_same [.ref 1, .int (xs (x4 + 1 : Int32).toNatClampNeg), .int (xs (x4 + 2 : Int32).toNatClampNeg), .int (xs (x4 + 3 : Int32).toNatClampNeg)] σ (fun r σ' => zisN r = true ∧ zW (d + 1) kL_law 1230 [.ref 0, .ref 1, .ref 131, .ref 164, .int x4, v5, v6] (zRstk r ++ []) σ' Q) := by
  refine Iff.trans (zw_aload_n (show decode cL_law 1208 = .ok (.aload_n 1, 1) by decide +kernel) rfl) ?_
  refine Iff.trans (zw_aload_n (show decode cL_law 1209 = .ok (.aload_n 0, 1) by decide +kernel) rfl) ?_
  refine Iff.trans (zw_iload (show decode cL_law 1210 = .ok (.iload 4, 2) by decide +kernel) rfl) ?_
  refine Iff.trans (zw_iconst (x := 1) (show decode cL_law 1212 = .ok (.iconst 1, 1) by decide +kernel) (by decide)) ?_
  refine Iff.trans (zw_iadd (show decode cL_law 1213 = .ok (.iadd, 1) by decide +kernel)) ?_
  refine Iff.trans (zw_isl (show decode cL_law 1214 = .ok (.iaload, 1) by decide +kernel) hs hl hq.2.1) ?_
  refine Iff.trans (zw_aload_n (show decode cL_law 1215 = .ok (.aload_n 0, 1) by decide +kernel) rfl) ?_
  refine Iff.trans (zw_iload (show decode cL_law 1216 = .ok (.iload 4, 2) by decide +kernel) rfl) ?_
  refine Iff.trans (zw_iconst (x := 2) (show decode cL_law 1218 = .ok (.iconst 2, 1) by decide +kernel) (by decide)) ?_
  refine Iff.trans (zw_iadd (show decode cL_law 1219 = .ok (.iadd, 1) by decide +kernel)) ?_
  refine Iff.trans (zw_isl (show decode cL_law 1220 = .ok (.iaload, 1) by decide +kernel) hs hl hq.2.2.1) ?_
  refine Iff.trans (zw_aload_n (show decode cL_law 1221 = .ok (.aload_n 0, 1) by decide +kernel) rfl) ?_
  refine Iff.trans (zw_iload (show decode cL_law 1222 = .ok (.iload 4, 2) by decide +kernel) rfl) ?_
  refine Iff.trans (zw_iconst (x := 3) (show decode cL_law 1224 = .ok (.iconst 3, 1) by decide +kernel) (by decide)) ?_
  refine Iff.trans (zw_iadd (show decode cL_law 1225 = .ok (.iadd, 1) by decide +kernel)) ?_
  refine Iff.trans (zw_isl (show decode cL_law 1226 = .ok (.iaload, 1) by decide +kernel) hs hl hq.2.2.2.1) ?_
  refine Iff.trans (zw_invV (K' := kX11_same) (as' := [.int (xs (x4 + 1 : Int32).toNatClampNeg), .int (xs (x4 + 2 : Int32).toNatClampNeg), .int (xs (x4 + 3 : Int32).toNatClampNeg)]) (rest := []) (show decode cL_law 1227 = .ok (.invokevirtual 119, 3) by decide +kernel) (by rfl) rfl rfl rfl (hl.k2 zk_1) (by decide) (hl.n2 zk_1) ⟨Nat.le_of_ble_eq_true rfl, Nat.le_of_ble_eq_true rfl, Nat.le_of_ble_eq_true rfl⟩) ?_
  exact Iff.rfl

theorem bQ_L_law_1230 {d : Nat} {σ : zS} {Q : Option Value → zS → Prop} (hl : zLay σ) {x4 y0 : Int32} {v5 v6 : Value} {L : Nat} {xs : Nat → Int32} (hs : lwB σ L xs) (hq : lwQ L x4) (hv5 : v5.category = 1) (hv6 : v6.category = 1) : zW (d + 1) kL_law 1230 [.ref 0, .ref 1, .ref 131, .ref 164, .int x4, v5, v6] [.int y0] σ Q ↔ zCall d kX12_same [.ref 131, .int (xs (x4 + 1 : Int32).toNatClampNeg), .int (xs (x4 + 2 : Int32).toNatClampNeg), .int (xs (x4 + 3 : Int32).toNatClampNeg)] σ (fun r σ' => zisN r = true ∧ zW (d + 1) kL_law 1252 [.ref 0, .ref 1, .ref 131, .ref 164, .int x4, v5, v6] (zRstk r ++ [.int y0]) σ' Q) := by
  refine Iff.trans (zw_aload_n (show decode cL_law 1230 = .ok (.aload_n 2, 1) by decide +kernel) rfl) ?_
  refine Iff.trans (zw_aload_n (show decode cL_law 1231 = .ok (.aload_n 0, 1) by decide +kernel) rfl) ?_
  refine Iff.trans (zw_iload (show decode cL_law 1232 = .ok (.iload 4, 2) by decide +kernel) rfl) ?_
  refine Iff.trans (zw_iconst (x := 1) (show decode cL_law 1234 = .ok (.iconst 1, 1) by decide +kernel) (by decide)) ?_
  refine Iff.trans (zw_iadd (show decode cL_law 1235 = .ok (.iadd, 1) by decide +kernel)) ?_
  refine Iff.trans (zw_isl (show decode cL_law 1236 = .ok (.iaload, 1) by decide +kernel) hs hl hq.2.1) ?_
  refine Iff.trans (zw_aload_n (show decode cL_law 1237 = .ok (.aload_n 0, 1) by decide +kernel) rfl) ?_
  refine Iff.trans (zw_iload (show decode cL_law 1238 = .ok (.iload 4, 2) by decide +kernel) rfl) ?_
  refine Iff.trans (zw_iconst (x := 2) (show decode cL_law 1240 = .ok (.iconst 2, 1) by decide +kernel) (by decide)) ?_
  refine Iff.trans (zw_iadd (show decode cL_law 1241 = .ok (.iadd, 1) by decide +kernel)) ?_
  refine Iff.trans (zw_isl (show decode cL_law 1242 = .ok (.iaload, 1) by decide +kernel) hs hl hq.2.2.1) ?_
  refine Iff.trans (zw_aload_n (show decode cL_law 1243 = .ok (.aload_n 0, 1) by decide +kernel) rfl) ?_
  refine Iff.trans (zw_iload (show decode cL_law 1244 = .ok (.iload 4, 2) by decide +kernel) rfl) ?_
  refine Iff.trans (zw_iconst (x := 3) (show decode cL_law 1246 = .ok (.iconst 3, 1) by decide +kernel) (by decide)) ?_
  refine Iff.trans (zw_iadd (show decode cL_law 1247 = .ok (.iadd, 1) by decide +kernel)) ?_
  refine Iff.trans (zw_isl (show decode cL_law 1248 = .ok (.iaload, 1) by decide +kernel) hs hl hq.2.2.2.1) ?_
  refine Iff.trans (zw_invV (K' := kX12_same) (as' := [.int (xs (x4 + 1 : Int32).toNatClampNeg), .int (xs (x4 + 2 : Int32).toNatClampNeg), .int (xs (x4 + 3 : Int32).toNatClampNeg)]) (rest := [.int y0]) (show decode cL_law 1249 = .ok (.invokevirtual 122, 3) by decide +kernel) (by rfl) rfl rfl rfl (hl.k2 zk_131) (by decide) (hl.n2 zk_131) ⟨Nat.le_of_ble_eq_true rfl, Nat.le_of_ble_eq_true rfl, Nat.le_of_ble_eq_true rfl⟩) ?_
  exact Iff.rfl

theorem bQ_L_law_1257 {d : Nat} {σ : zS} {Q : Option Value → zS → Prop} (hl : zLay σ) {x4 : Int32} {v5 v6 : Value} {L : Nat} {xs : Nat → Int32} (hs : lwB σ L xs) (hq : lwQ L x4) (hv5 : v5.category = 1) (hv6 : v6.category = 1) : zW (d + 1) kL_law 1257 [.ref 0, .ref 1, .ref 131, .ref 164, .int x4, v5, v6] [] σ Q ↔ zCall d kX11_carved [.ref 1, .int (xs (x4 + 1 : Int32).toNatClampNeg), .int (xs (x4 + 2 : Int32).toNatClampNeg), .int (xs (x4 + 3 : Int32).toNatClampNeg), .int (xs (x4 + 4 : Int32).toNatClampNeg)] σ (fun r σ' => zisN r = true ∧ zW (d + 1) kL_law 1285 [.ref 0, .ref 1, .ref 131, .ref 164, .int x4, v5, v6] (zRstk r ++ []) σ' Q) := by
  refine Iff.trans (zw_aload_n (show decode cL_law 1257 = .ok (.aload_n 1, 1) by decide +kernel) rfl) ?_
  refine Iff.trans (zw_aload_n (show decode cL_law 1258 = .ok (.aload_n 0, 1) by decide +kernel) rfl) ?_
  refine Iff.trans (zw_iload (show decode cL_law 1259 = .ok (.iload 4, 2) by decide +kernel) rfl) ?_
  refine Iff.trans (zw_iconst (x := 1) (show decode cL_law 1261 = .ok (.iconst 1, 1) by decide +kernel) (by decide)) ?_
  refine Iff.trans (zw_iadd (show decode cL_law 1262 = .ok (.iadd, 1) by decide +kernel)) ?_
  refine Iff.trans (zw_isl (show decode cL_law 1263 = .ok (.iaload, 1) by decide +kernel) hs hl hq.2.1) ?_
  refine Iff.trans (zw_aload_n (show decode cL_law 1264 = .ok (.aload_n 0, 1) by decide +kernel) rfl) ?_
  refine Iff.trans (zw_iload (show decode cL_law 1265 = .ok (.iload 4, 2) by decide +kernel) rfl) ?_
  refine Iff.trans (zw_iconst (x := 2) (show decode cL_law 1267 = .ok (.iconst 2, 1) by decide +kernel) (by decide)) ?_
  refine Iff.trans (zw_iadd (show decode cL_law 1268 = .ok (.iadd, 1) by decide +kernel)) ?_
  refine Iff.trans (zw_isl (show decode cL_law 1269 = .ok (.iaload, 1) by decide +kernel) hs hl hq.2.2.1) ?_
  refine Iff.trans (zw_aload_n (show decode cL_law 1270 = .ok (.aload_n 0, 1) by decide +kernel) rfl) ?_
  refine Iff.trans (zw_iload (show decode cL_law 1271 = .ok (.iload 4, 2) by decide +kernel) rfl) ?_
  refine Iff.trans (zw_iconst (x := 3) (show decode cL_law 1273 = .ok (.iconst 3, 1) by decide +kernel) (by decide)) ?_
  refine Iff.trans (zw_iadd (show decode cL_law 1274 = .ok (.iadd, 1) by decide +kernel)) ?_
  refine Iff.trans (zw_isl (show decode cL_law 1275 = .ok (.iaload, 1) by decide +kernel) hs hl hq.2.2.2.1) ?_
  refine Iff.trans (zw_aload_n (show decode cL_law 1276 = .ok (.aload_n 0, 1) by decide +kernel) rfl) ?_
  refine Iff.trans (zw_iload (show decode cL_law 1277 = .ok (.iload 4, 2) by decide +kernel) rfl) ?_
  refine Iff.trans (zw_iconst (x := 4) (show decode cL_law 1279 = .ok (.iconst 4, 1) by decide +kernel) (by decide)) ?_
  refine Iff.trans (zw_iadd (show decode cL_law 1280 = .ok (.iadd, 1) by decide +kernel)) ?_
  refine Iff.trans (zw_isl (show decode cL_law 1281 = .ok (.iaload, 1) by decide +kernel) hs hl hq.2.2.2.2.1) ?_
  refine Iff.trans (zw_invV (K' := kX11_carved) (as' := [.int (xs (x4 + 1 : Int32).toNatClampNeg), .int (xs (x4 + 2 : Int32).toNatClampNeg), .int (xs (x4 + 3 : Int32).toNatClampNeg), .int (xs (x4 + 4 : Int32).toNatClampNeg)]) (rest := []) (show decode cL_law 1282 = .ok (.invokevirtual 123, 3) by decide +kernel) (by rfl) rfl rfl rfl (hl.k2 zk_1) (by decide) (hl.n2 zk_1) ⟨Nat.le_of_ble_eq_true rfl, Nat.le_of_ble_eq_true rfl, Nat.le_of_ble_eq_true rfl⟩) ?_
  exact Iff.rfl

theorem bQ_L_law_1285 {d : Nat} {σ : zS} {Q : Option Value → zS → Prop} (hl : zLay σ) {x4 y0 : Int32} {v5 v6 : Value} {L : Nat} {xs : Nat → Int32} (hs : lwB σ L xs) (hq : lwQ L x4) (hv5 : v5.category = 1) (hv6 : v6.category = 1) : zW (d + 1) kL_law 1285 [.ref 0, .ref 1, .ref 131, .ref 164, .int x4, v5, v6] [.int y0] σ Q ↔ zCall d kX12_carved [.ref 131, .int (xs (x4 + 1 : Int32).toNatClampNeg), .int (xs (x4 + 2 : Int32).toNatClampNeg), .int (xs (x4 + 3 : Int32).toNatClampNeg), .int (xs (x4 + 4 : Int32).toNatClampNeg)] σ (fun r σ' => zisN r = true ∧ zW (d + 1) kL_law 1313 [.ref 0, .ref 1, .ref 131, .ref 164, .int x4, v5, v6] (zRstk r ++ [.int y0]) σ' Q) := by
  refine Iff.trans (zw_aload_n (show decode cL_law 1285 = .ok (.aload_n 2, 1) by decide +kernel) rfl) ?_
  refine Iff.trans (zw_aload_n (show decode cL_law 1286 = .ok (.aload_n 0, 1) by decide +kernel) rfl) ?_
  refine Iff.trans (zw_iload (show decode cL_law 1287 = .ok (.iload 4, 2) by decide +kernel) rfl) ?_
  refine Iff.trans (zw_iconst (x := 1) (show decode cL_law 1289 = .ok (.iconst 1, 1) by decide +kernel) (by decide)) ?_
  refine Iff.trans (zw_iadd (show decode cL_law 1290 = .ok (.iadd, 1) by decide +kernel)) ?_
  refine Iff.trans (zw_isl (show decode cL_law 1291 = .ok (.iaload, 1) by decide +kernel) hs hl hq.2.1) ?_
  refine Iff.trans (zw_aload_n (show decode cL_law 1292 = .ok (.aload_n 0, 1) by decide +kernel) rfl) ?_
  refine Iff.trans (zw_iload (show decode cL_law 1293 = .ok (.iload 4, 2) by decide +kernel) rfl) ?_
  refine Iff.trans (zw_iconst (x := 2) (show decode cL_law 1295 = .ok (.iconst 2, 1) by decide +kernel) (by decide)) ?_
  refine Iff.trans (zw_iadd (show decode cL_law 1296 = .ok (.iadd, 1) by decide +kernel)) ?_
  refine Iff.trans (zw_isl (show decode cL_law 1297 = .ok (.iaload, 1) by decide +kernel) hs hl hq.2.2.1) ?_
  refine Iff.trans (zw_aload_n (show decode cL_law 1298 = .ok (.aload_n 0, 1) by decide +kernel) rfl) ?_
  refine Iff.trans (zw_iload (show decode cL_law 1299 = .ok (.iload 4, 2) by decide +kernel) rfl) ?_
  refine Iff.trans (zw_iconst (x := 3) (show decode cL_law 1301 = .ok (.iconst 3, 1) by decide +kernel) (by decide)) ?_
  refine Iff.trans (zw_iadd (show decode cL_law 1302 = .ok (.iadd, 1) by decide +kernel)) ?_
  refine Iff.trans (zw_isl (show decode cL_law 1303 = .ok (.iaload, 1) by decide +kernel) hs hl hq.2.2.2.1) ?_
  refine Iff.trans (zw_aload_n (show decode cL_law 1304 = .ok (.aload_n 0, 1) by decide +kernel) rfl) ?_
  refine Iff.trans (zw_iload (show decode cL_law 1305 = .ok (.iload 4, 2) by decide +kernel) rfl) ?_
  refine Iff.trans (zw_iconst (x := 4) (show decode cL_law 1307 = .ok (.iconst 4, 1) by decide +kernel) (by decide)) ?_
  refine Iff.trans (zw_iadd (show decode cL_law 1308 = .ok (.iadd, 1) by decide +kernel)) ?_
  refine Iff.trans (zw_isl (show decode cL_law 1309 = .ok (.iaload, 1) by decide +kernel) hs hl hq.2.2.2.2.1) ?_
  refine Iff.trans (zw_invV (K' := kX12_carved) (as' := [.int (xs (x4 + 1 : Int32).toNatClampNeg), .int (xs (x4 + 2 : Int32).toNatClampNeg), .int (xs (x4 + 3 : Int32).toNatClampNeg), .int (xs (x4 + 4 : Int32).toNatClampNeg)]) (rest := [.int y0]) (show decode cL_law 1310 = .ok (.invokevirtual 126, 3) by decide +kernel) (by rfl) rfl rfl rfl (hl.k2 zk_131) (by decide) (hl.n2 zk_131) ⟨Nat.le_of_ble_eq_true rfl, Nat.le_of_ble_eq_true rfl, Nat.le_of_ble_eq_true rfl⟩) ?_
  exact Iff.rfl

theorem bQ_L_law_1318 {d : Nat} {σ : zS} {Q : Option Value → zS → Prop} (hl : zLay σ) {x4 : Int32} {v5 v6 : Value} {L : Nat} {xs : Nat → Int32} (hs : lwB σ L xs) (hq : lwQ L x4) (hv5 : v5.category = 1) (hv6 : v6.category = 1) : zW (d + 1) kL_law 1318 [.ref 0, .ref 1, .ref 131, .ref 164, .int x4, v5, v6] [] σ Q ↔ zCall d kX11_trials [.ref 1, .int (xs (x4 + 1 : Int32).toNatClampNeg), .int (xs (x4 + 2 : Int32).toNatClampNeg), .int (xs (x4 + 3 : Int32).toNatClampNeg)] σ (fun r σ' => zisN r = true ∧ zW (d + 1) kL_law 1340 [.ref 0, .ref 1, .ref 131, .ref 164, .int x4, v5, v6] (zRstk r ++ []) σ' Q) := by
  refine Iff.trans (zw_aload_n (show decode cL_law 1318 = .ok (.aload_n 1, 1) by decide +kernel) rfl) ?_
  refine Iff.trans (zw_aload_n (show decode cL_law 1319 = .ok (.aload_n 0, 1) by decide +kernel) rfl) ?_
  refine Iff.trans (zw_iload (show decode cL_law 1320 = .ok (.iload 4, 2) by decide +kernel) rfl) ?_
  refine Iff.trans (zw_iconst (x := 1) (show decode cL_law 1322 = .ok (.iconst 1, 1) by decide +kernel) (by decide)) ?_
  refine Iff.trans (zw_iadd (show decode cL_law 1323 = .ok (.iadd, 1) by decide +kernel)) ?_
  refine Iff.trans (zw_isl (show decode cL_law 1324 = .ok (.iaload, 1) by decide +kernel) hs hl hq.2.1) ?_
  refine Iff.trans (zw_aload_n (show decode cL_law 1325 = .ok (.aload_n 0, 1) by decide +kernel) rfl) ?_
  refine Iff.trans (zw_iload (show decode cL_law 1326 = .ok (.iload 4, 2) by decide +kernel) rfl) ?_
  refine Iff.trans (zw_iconst (x := 2) (show decode cL_law 1328 = .ok (.iconst 2, 1) by decide +kernel) (by decide)) ?_
  refine Iff.trans (zw_iadd (show decode cL_law 1329 = .ok (.iadd, 1) by decide +kernel)) ?_
  refine Iff.trans (zw_isl (show decode cL_law 1330 = .ok (.iaload, 1) by decide +kernel) hs hl hq.2.2.1) ?_
  refine Iff.trans (zw_aload_n (show decode cL_law 1331 = .ok (.aload_n 0, 1) by decide +kernel) rfl) ?_
  refine Iff.trans (zw_iload (show decode cL_law 1332 = .ok (.iload 4, 2) by decide +kernel) rfl) ?_
  refine Iff.trans (zw_iconst (x := 3) (show decode cL_law 1334 = .ok (.iconst 3, 1) by decide +kernel) (by decide)) ?_
  refine Iff.trans (zw_iadd (show decode cL_law 1335 = .ok (.iadd, 1) by decide +kernel)) ?_
  refine Iff.trans (zw_isl (show decode cL_law 1336 = .ok (.iaload, 1) by decide +kernel) hs hl hq.2.2.2.1) ?_
  refine Iff.trans (zw_invV (K' := kX11_trials) (as' := [.int (xs (x4 + 1 : Int32).toNatClampNeg), .int (xs (x4 + 2 : Int32).toNatClampNeg), .int (xs (x4 + 3 : Int32).toNatClampNeg)]) (rest := []) (show decode cL_law 1337 = .ok (.invokevirtual 127, 3) by decide +kernel) (by rfl) rfl rfl rfl (hl.k2 zk_1) (by decide) (hl.n2 zk_1) ⟨Nat.le_of_ble_eq_true rfl, Nat.le_of_ble_eq_true rfl, Nat.le_of_ble_eq_true rfl⟩) ?_
  exact Iff.rfl

theorem bQ_L_law_1340 {d : Nat} {σ : zS} {Q : Option Value → zS → Prop} (hl : zLay σ) {x4 y0 : Int32} {v5 v6 : Value} {L : Nat} {xs : Nat → Int32} (hs : lwB σ L xs) (hq : lwQ L x4) (hv5 : v5.category = 1) (hv6 : v6.category = 1) : zW (d + 1) kL_law 1340 [.ref 0, .ref 1, .ref 131, .ref 164, .int x4, v5, v6] [.int y0] σ Q ↔ zCall d kX12_trials [.ref 131, .int (xs (x4 + 1 : Int32).toNatClampNeg), .int (xs (x4 + 2 : Int32).toNatClampNeg), .int (xs (x4 + 3 : Int32).toNatClampNeg)] σ (fun r σ' => zisN r = true ∧ zW (d + 1) kL_law 1362 [.ref 0, .ref 1, .ref 131, .ref 164, .int x4, v5, v6] (zRstk r ++ [.int y0]) σ' Q) := by
  refine Iff.trans (zw_aload_n (show decode cL_law 1340 = .ok (.aload_n 2, 1) by decide +kernel) rfl) ?_
  refine Iff.trans (zw_aload_n (show decode cL_law 1341 = .ok (.aload_n 0, 1) by decide +kernel) rfl) ?_
  refine Iff.trans (zw_iload (show decode cL_law 1342 = .ok (.iload 4, 2) by decide +kernel) rfl) ?_
  refine Iff.trans (zw_iconst (x := 1) (show decode cL_law 1344 = .ok (.iconst 1, 1) by decide +kernel) (by decide)) ?_
  refine Iff.trans (zw_iadd (show decode cL_law 1345 = .ok (.iadd, 1) by decide +kernel)) ?_
  refine Iff.trans (zw_isl (show decode cL_law 1346 = .ok (.iaload, 1) by decide +kernel) hs hl hq.2.1) ?_
  refine Iff.trans (zw_aload_n (show decode cL_law 1347 = .ok (.aload_n 0, 1) by decide +kernel) rfl) ?_
  refine Iff.trans (zw_iload (show decode cL_law 1348 = .ok (.iload 4, 2) by decide +kernel) rfl) ?_
  refine Iff.trans (zw_iconst (x := 2) (show decode cL_law 1350 = .ok (.iconst 2, 1) by decide +kernel) (by decide)) ?_
  refine Iff.trans (zw_iadd (show decode cL_law 1351 = .ok (.iadd, 1) by decide +kernel)) ?_
  refine Iff.trans (zw_isl (show decode cL_law 1352 = .ok (.iaload, 1) by decide +kernel) hs hl hq.2.2.1) ?_
  refine Iff.trans (zw_aload_n (show decode cL_law 1353 = .ok (.aload_n 0, 1) by decide +kernel) rfl) ?_
  refine Iff.trans (zw_iload (show decode cL_law 1354 = .ok (.iload 4, 2) by decide +kernel) rfl) ?_
  refine Iff.trans (zw_iconst (x := 3) (show decode cL_law 1356 = .ok (.iconst 3, 1) by decide +kernel) (by decide)) ?_
  refine Iff.trans (zw_iadd (show decode cL_law 1357 = .ok (.iadd, 1) by decide +kernel)) ?_
  refine Iff.trans (zw_isl (show decode cL_law 1358 = .ok (.iaload, 1) by decide +kernel) hs hl hq.2.2.2.1) ?_
  refine Iff.trans (zw_invV (K' := kX12_trials) (as' := [.int (xs (x4 + 1 : Int32).toNatClampNeg), .int (xs (x4 + 2 : Int32).toNatClampNeg), .int (xs (x4 + 3 : Int32).toNatClampNeg)]) (rest := [.int y0]) (show decode cL_law 1359 = .ok (.invokevirtual 130, 3) by decide +kernel) (by rfl) rfl rfl rfl (hl.k2 zk_131) (by decide) (hl.n2 zk_131) ⟨Nat.le_of_ble_eq_true rfl, Nat.le_of_ble_eq_true rfl, Nat.le_of_ble_eq_true rfl⟩) ?_
  exact Iff.rfl

theorem bQ_L_law_1367 {d : Nat} {σ : zS} {Q : Option Value → zS → Prop} (hl : zLay σ) {x4 : Int32} {v5 v6 : Value} {L : Nat} {xs : Nat → Int32} (hs : lwB σ L xs) (hq : lwQ L x4) (hv5 : v5.category = 1) (hv6 : v6.category = 1) : zW (d + 1) kL_law 1367 [.ref 0, .ref 1, .ref 131, .ref 164, .int x4, v5, v6] [] σ Q ↔ zCall d kX11_plan [.ref 1, .int (xs (x4 + 1 : Int32).toNatClampNeg), .int (xs (x4 + 2 : Int32).toNatClampNeg), .int (xs (x4 + 3 : Int32).toNatClampNeg)] σ (fun r σ' => zisN r = true ∧ zW (d + 1) kL_law 1389 [.ref 0, .ref 1, .ref 131, .ref 164, .int x4, v5, v6] (zRstk r ++ []) σ' Q) := by
  refine Iff.trans (zw_aload_n (show decode cL_law 1367 = .ok (.aload_n 1, 1) by decide +kernel) rfl) ?_
  refine Iff.trans (zw_aload_n (show decode cL_law 1368 = .ok (.aload_n 0, 1) by decide +kernel) rfl) ?_
  refine Iff.trans (zw_iload (show decode cL_law 1369 = .ok (.iload 4, 2) by decide +kernel) rfl) ?_
  refine Iff.trans (zw_iconst (x := 1) (show decode cL_law 1371 = .ok (.iconst 1, 1) by decide +kernel) (by decide)) ?_
  refine Iff.trans (zw_iadd (show decode cL_law 1372 = .ok (.iadd, 1) by decide +kernel)) ?_
  refine Iff.trans (zw_isl (show decode cL_law 1373 = .ok (.iaload, 1) by decide +kernel) hs hl hq.2.1) ?_
  refine Iff.trans (zw_aload_n (show decode cL_law 1374 = .ok (.aload_n 0, 1) by decide +kernel) rfl) ?_
  refine Iff.trans (zw_iload (show decode cL_law 1375 = .ok (.iload 4, 2) by decide +kernel) rfl) ?_
  refine Iff.trans (zw_iconst (x := 2) (show decode cL_law 1377 = .ok (.iconst 2, 1) by decide +kernel) (by decide)) ?_
  refine Iff.trans (zw_iadd (show decode cL_law 1378 = .ok (.iadd, 1) by decide +kernel)) ?_
  refine Iff.trans (zw_isl (show decode cL_law 1379 = .ok (.iaload, 1) by decide +kernel) hs hl hq.2.2.1) ?_
  refine Iff.trans (zw_aload_n (show decode cL_law 1380 = .ok (.aload_n 0, 1) by decide +kernel) rfl) ?_
  refine Iff.trans (zw_iload (show decode cL_law 1381 = .ok (.iload 4, 2) by decide +kernel) rfl) ?_
  refine Iff.trans (zw_iconst (x := 3) (show decode cL_law 1383 = .ok (.iconst 3, 1) by decide +kernel) (by decide)) ?_
  refine Iff.trans (zw_iadd (show decode cL_law 1384 = .ok (.iadd, 1) by decide +kernel)) ?_
  refine Iff.trans (zw_isl (show decode cL_law 1385 = .ok (.iaload, 1) by decide +kernel) hs hl hq.2.2.2.1) ?_
  refine Iff.trans (zw_invV (K' := kX11_plan) (as' := [.int (xs (x4 + 1 : Int32).toNatClampNeg), .int (xs (x4 + 2 : Int32).toNatClampNeg), .int (xs (x4 + 3 : Int32).toNatClampNeg)]) (rest := []) (show decode cL_law 1386 = .ok (.invokevirtual 131, 3) by decide +kernel) (by rfl) rfl rfl rfl (hl.k2 zk_1) (by decide) (hl.n2 zk_1) ⟨Nat.le_of_ble_eq_true rfl, Nat.le_of_ble_eq_true rfl, Nat.le_of_ble_eq_true rfl⟩) ?_
  exact Iff.rfl

theorem bQ_L_law_1389 {d : Nat} {σ : zS} {Q : Option Value → zS → Prop} (hl : zLay σ) {x4 y0 : Int32} {v5 v6 : Value} {L : Nat} {xs : Nat → Int32} (hs : lwB σ L xs) (hq : lwQ L x4) (hv5 : v5.category = 1) (hv6 : v6.category = 1) : zW (d + 1) kL_law 1389 [.ref 0, .ref 1, .ref 131, .ref 164, .int x4, v5, v6] [.int y0] σ Q ↔ zCall d kX12_plan [.ref 131, .int (xs (x4 + 1 : Int32).toNatClampNeg), .int (xs (x4 + 2 : Int32).toNatClampNeg), .int (xs (x4 + 3 : Int32).toNatClampNeg)] σ (fun r σ' => zisN r = true ∧ zW (d + 1) kL_law 1411 [.ref 0, .ref 1, .ref 131, .ref 164, .int x4, v5, v6] (zRstk r ++ [.int y0]) σ' Q) := by
  refine Iff.trans (zw_aload_n (show decode cL_law 1389 = .ok (.aload_n 2, 1) by decide +kernel) rfl) ?_
  refine Iff.trans (zw_aload_n (show decode cL_law 1390 = .ok (.aload_n 0, 1) by decide +kernel) rfl) ?_
  refine Iff.trans (zw_iload (show decode cL_law 1391 = .ok (.iload 4, 2) by decide +kernel) rfl) ?_
  refine Iff.trans (zw_iconst (x := 1) (show decode cL_law 1393 = .ok (.iconst 1, 1) by decide +kernel) (by decide)) ?_
  refine Iff.trans (zw_iadd (show decode cL_law 1394 = .ok (.iadd, 1) by decide +kernel)) ?_
  refine Iff.trans (zw_isl (show decode cL_law 1395 = .ok (.iaload, 1) by decide +kernel) hs hl hq.2.1) ?_
  refine Iff.trans (zw_aload_n (show decode cL_law 1396 = .ok (.aload_n 0, 1) by decide +kernel) rfl) ?_
  refine Iff.trans (zw_iload (show decode cL_law 1397 = .ok (.iload 4, 2) by decide +kernel) rfl) ?_
  refine Iff.trans (zw_iconst (x := 2) (show decode cL_law 1399 = .ok (.iconst 2, 1) by decide +kernel) (by decide)) ?_
  refine Iff.trans (zw_iadd (show decode cL_law 1400 = .ok (.iadd, 1) by decide +kernel)) ?_
  refine Iff.trans (zw_isl (show decode cL_law 1401 = .ok (.iaload, 1) by decide +kernel) hs hl hq.2.2.1) ?_
  refine Iff.trans (zw_aload_n (show decode cL_law 1402 = .ok (.aload_n 0, 1) by decide +kernel) rfl) ?_
  refine Iff.trans (zw_iload (show decode cL_law 1403 = .ok (.iload 4, 2) by decide +kernel) rfl) ?_
  refine Iff.trans (zw_iconst (x := 3) (show decode cL_law 1405 = .ok (.iconst 3, 1) by decide +kernel) (by decide)) ?_
  refine Iff.trans (zw_iadd (show decode cL_law 1406 = .ok (.iadd, 1) by decide +kernel)) ?_
  refine Iff.trans (zw_isl (show decode cL_law 1407 = .ok (.iaload, 1) by decide +kernel) hs hl hq.2.2.2.1) ?_
  refine Iff.trans (zw_invV (K' := kX12_plan) (as' := [.int (xs (x4 + 1 : Int32).toNatClampNeg), .int (xs (x4 + 2 : Int32).toNatClampNeg), .int (xs (x4 + 3 : Int32).toNatClampNeg)]) (rest := [.int y0]) (show decode cL_law 1408 = .ok (.invokevirtual 134, 3) by decide +kernel) (by rfl) rfl rfl rfl (hl.k2 zk_131) (by decide) (hl.n2 zk_131) ⟨Nat.le_of_ble_eq_true rfl, Nat.le_of_ble_eq_true rfl, Nat.le_of_ble_eq_true rfl⟩) ?_
  exact Iff.rfl

theorem bQ_L_law_1416 {d : Nat} {σ : zS} {Q : Option Value → zS → Prop} (hl : zLay σ) {x4 : Int32} {v5 v6 : Value} {L : Nat} {xs : Nat → Int32} (hs : lwB σ L xs) (hq : lwQ L x4) (hv5 : v5.category = 1) (hv6 : v6.category = 1) : zW (d + 1) kL_law 1416 [.ref 0, .ref 1, .ref 131, .ref 164, .int x4, v5, v6] [] σ Q ↔ zCall d kX11_fewest [.ref 1, .int (xs (x4 + 1 : Int32).toNatClampNeg), .int (xs (x4 + 2 : Int32).toNatClampNeg)] σ (fun r σ' => zisN r = true ∧ zW (d + 1) kL_law 1432 [.ref 0, .ref 1, .ref 131, .ref 164, .int x4, v5, v6] (zRstk r ++ []) σ' Q) := by
  refine Iff.trans (zw_aload_n (show decode cL_law 1416 = .ok (.aload_n 1, 1) by decide +kernel) rfl) ?_
  refine Iff.trans (zw_aload_n (show decode cL_law 1417 = .ok (.aload_n 0, 1) by decide +kernel) rfl) ?_
  refine Iff.trans (zw_iload (show decode cL_law 1418 = .ok (.iload 4, 2) by decide +kernel) rfl) ?_
  refine Iff.trans (zw_iconst (x := 1) (show decode cL_law 1420 = .ok (.iconst 1, 1) by decide +kernel) (by decide)) ?_
  refine Iff.trans (zw_iadd (show decode cL_law 1421 = .ok (.iadd, 1) by decide +kernel)) ?_
  refine Iff.trans (zw_isl (show decode cL_law 1422 = .ok (.iaload, 1) by decide +kernel) hs hl hq.2.1) ?_
  refine Iff.trans (zw_aload_n (show decode cL_law 1423 = .ok (.aload_n 0, 1) by decide +kernel) rfl) ?_
  refine Iff.trans (zw_iload (show decode cL_law 1424 = .ok (.iload 4, 2) by decide +kernel) rfl) ?_
  refine Iff.trans (zw_iconst (x := 2) (show decode cL_law 1426 = .ok (.iconst 2, 1) by decide +kernel) (by decide)) ?_
  refine Iff.trans (zw_iadd (show decode cL_law 1427 = .ok (.iadd, 1) by decide +kernel)) ?_
  refine Iff.trans (zw_isl (show decode cL_law 1428 = .ok (.iaload, 1) by decide +kernel) hs hl hq.2.2.1) ?_
  refine Iff.trans (zw_invV (K' := kX11_fewest) (as' := [.int (xs (x4 + 1 : Int32).toNatClampNeg), .int (xs (x4 + 2 : Int32).toNatClampNeg)]) (rest := []) (show decode cL_law 1429 = .ok (.invokevirtual 135, 3) by decide +kernel) (by rfl) rfl rfl rfl (hl.k2 zk_1) (by decide) (hl.n2 zk_1) ⟨Nat.le_of_ble_eq_true rfl, Nat.le_of_ble_eq_true rfl, Nat.le_of_ble_eq_true rfl⟩) ?_
  exact Iff.rfl

theorem bQ_L_law_1432 {d : Nat} {σ : zS} {Q : Option Value → zS → Prop} (hl : zLay σ) {x4 y0 : Int32} {v5 v6 : Value} {L : Nat} {xs : Nat → Int32} (hs : lwB σ L xs) (hq : lwQ L x4) (hv5 : v5.category = 1) (hv6 : v6.category = 1) : zW (d + 1) kL_law 1432 [.ref 0, .ref 1, .ref 131, .ref 164, .int x4, v5, v6] [.int y0] σ Q ↔ zCall d kX12_fewest [.ref 131, .int (xs (x4 + 1 : Int32).toNatClampNeg), .int (xs (x4 + 2 : Int32).toNatClampNeg)] σ (fun r σ' => zisN r = true ∧ zW (d + 1) kL_law 1448 [.ref 0, .ref 1, .ref 131, .ref 164, .int x4, v5, v6] (zRstk r ++ [.int y0]) σ' Q) := by
  refine Iff.trans (zw_aload_n (show decode cL_law 1432 = .ok (.aload_n 2, 1) by decide +kernel) rfl) ?_
  refine Iff.trans (zw_aload_n (show decode cL_law 1433 = .ok (.aload_n 0, 1) by decide +kernel) rfl) ?_
  refine Iff.trans (zw_iload (show decode cL_law 1434 = .ok (.iload 4, 2) by decide +kernel) rfl) ?_
  refine Iff.trans (zw_iconst (x := 1) (show decode cL_law 1436 = .ok (.iconst 1, 1) by decide +kernel) (by decide)) ?_
  refine Iff.trans (zw_iadd (show decode cL_law 1437 = .ok (.iadd, 1) by decide +kernel)) ?_
  refine Iff.trans (zw_isl (show decode cL_law 1438 = .ok (.iaload, 1) by decide +kernel) hs hl hq.2.1) ?_
  refine Iff.trans (zw_aload_n (show decode cL_law 1439 = .ok (.aload_n 0, 1) by decide +kernel) rfl) ?_
  refine Iff.trans (zw_iload (show decode cL_law 1440 = .ok (.iload 4, 2) by decide +kernel) rfl) ?_
  refine Iff.trans (zw_iconst (x := 2) (show decode cL_law 1442 = .ok (.iconst 2, 1) by decide +kernel) (by decide)) ?_
  refine Iff.trans (zw_iadd (show decode cL_law 1443 = .ok (.iadd, 1) by decide +kernel)) ?_
  refine Iff.trans (zw_isl (show decode cL_law 1444 = .ok (.iaload, 1) by decide +kernel) hs hl hq.2.2.1) ?_
  refine Iff.trans (zw_invV (K' := kX12_fewest) (as' := [.int (xs (x4 + 1 : Int32).toNatClampNeg), .int (xs (x4 + 2 : Int32).toNatClampNeg)]) (rest := [.int y0]) (show decode cL_law 1445 = .ok (.invokevirtual 138, 3) by decide +kernel) (by rfl) rfl rfl rfl (hl.k2 zk_131) (by decide) (hl.n2 zk_131) ⟨Nat.le_of_ble_eq_true rfl, Nat.le_of_ble_eq_true rfl, Nat.le_of_ble_eq_true rfl⟩) ?_
  exact Iff.rfl

theorem bQ_L_law_1453 {d : Nat} {σ : zS} {Q : Option Value → zS → Prop} (hl : zLay σ) {x4 : Int32} {v5 v6 : Value} {L : Nat} {xs : Nat → Int32} (hs : lwB σ L xs) (hq : lwQ L x4) (hv5 : v5.category = 1) (hv6 : v6.category = 1) : zW (d + 1) kL_law 1453 [.ref 0, .ref 1, .ref 131, .ref 164, .int x4, v5, v6] [] σ Q ↔ zCall d kX11_sight [.ref 1, .int (xs (x4 + 1 : Int32).toNatClampNeg), .int (xs (x4 + 2 : Int32).toNatClampNeg), .int (xs (x4 + 3 : Int32).toNatClampNeg)] σ (fun r σ' => zisN r = true ∧ zW (d + 1) kL_law 1475 [.ref 0, .ref 1, .ref 131, .ref 164, .int x4, v5, v6] (zRstk r ++ []) σ' Q) := by
  refine Iff.trans (zw_aload_n (show decode cL_law 1453 = .ok (.aload_n 1, 1) by decide +kernel) rfl) ?_
  refine Iff.trans (zw_aload_n (show decode cL_law 1454 = .ok (.aload_n 0, 1) by decide +kernel) rfl) ?_
  refine Iff.trans (zw_iload (show decode cL_law 1455 = .ok (.iload 4, 2) by decide +kernel) rfl) ?_
  refine Iff.trans (zw_iconst (x := 1) (show decode cL_law 1457 = .ok (.iconst 1, 1) by decide +kernel) (by decide)) ?_
  refine Iff.trans (zw_iadd (show decode cL_law 1458 = .ok (.iadd, 1) by decide +kernel)) ?_
  refine Iff.trans (zw_isl (show decode cL_law 1459 = .ok (.iaload, 1) by decide +kernel) hs hl hq.2.1) ?_
  refine Iff.trans (zw_aload_n (show decode cL_law 1460 = .ok (.aload_n 0, 1) by decide +kernel) rfl) ?_
  refine Iff.trans (zw_iload (show decode cL_law 1461 = .ok (.iload 4, 2) by decide +kernel) rfl) ?_
  refine Iff.trans (zw_iconst (x := 2) (show decode cL_law 1463 = .ok (.iconst 2, 1) by decide +kernel) (by decide)) ?_
  refine Iff.trans (zw_iadd (show decode cL_law 1464 = .ok (.iadd, 1) by decide +kernel)) ?_
  refine Iff.trans (zw_isl (show decode cL_law 1465 = .ok (.iaload, 1) by decide +kernel) hs hl hq.2.2.1) ?_
  refine Iff.trans (zw_aload_n (show decode cL_law 1466 = .ok (.aload_n 0, 1) by decide +kernel) rfl) ?_
  refine Iff.trans (zw_iload (show decode cL_law 1467 = .ok (.iload 4, 2) by decide +kernel) rfl) ?_
  refine Iff.trans (zw_iconst (x := 3) (show decode cL_law 1469 = .ok (.iconst 3, 1) by decide +kernel) (by decide)) ?_
  refine Iff.trans (zw_iadd (show decode cL_law 1470 = .ok (.iadd, 1) by decide +kernel)) ?_
  refine Iff.trans (zw_isl (show decode cL_law 1471 = .ok (.iaload, 1) by decide +kernel) hs hl hq.2.2.2.1) ?_
  refine Iff.trans (zw_invV (K' := kX11_sight) (as' := [.int (xs (x4 + 1 : Int32).toNatClampNeg), .int (xs (x4 + 2 : Int32).toNatClampNeg), .int (xs (x4 + 3 : Int32).toNatClampNeg)]) (rest := []) (show decode cL_law 1472 = .ok (.invokevirtual 139, 3) by decide +kernel) (by rfl) rfl rfl rfl (hl.k2 zk_1) (by decide) (hl.n2 zk_1) ⟨Nat.le_of_ble_eq_true rfl, Nat.le_of_ble_eq_true rfl, Nat.le_of_ble_eq_true rfl⟩) ?_
  exact Iff.rfl

theorem bQ_L_law_1475 {d : Nat} {σ : zS} {Q : Option Value → zS → Prop} (hl : zLay σ) {x4 y0 : Int32} {v5 v6 : Value} {L : Nat} {xs : Nat → Int32} (hs : lwB σ L xs) (hq : lwQ L x4) (hv5 : v5.category = 1) (hv6 : v6.category = 1) : zW (d + 1) kL_law 1475 [.ref 0, .ref 1, .ref 131, .ref 164, .int x4, v5, v6] [.int y0] σ Q ↔ zCall d kX12_sight [.ref 131, .int (xs (x4 + 1 : Int32).toNatClampNeg), .int (xs (x4 + 2 : Int32).toNatClampNeg), .int (xs (x4 + 3 : Int32).toNatClampNeg)] σ (fun r σ' => zisN r = true ∧ zW (d + 1) kL_law 1497 [.ref 0, .ref 1, .ref 131, .ref 164, .int x4, v5, v6] (zRstk r ++ [.int y0]) σ' Q) := by
  refine Iff.trans (zw_aload_n (show decode cL_law 1475 = .ok (.aload_n 2, 1) by decide +kernel) rfl) ?_
  refine Iff.trans (zw_aload_n (show decode cL_law 1476 = .ok (.aload_n 0, 1) by decide +kernel) rfl) ?_
  refine Iff.trans (zw_iload (show decode cL_law 1477 = .ok (.iload 4, 2) by decide +kernel) rfl) ?_
  refine Iff.trans (zw_iconst (x := 1) (show decode cL_law 1479 = .ok (.iconst 1, 1) by decide +kernel) (by decide)) ?_
  refine Iff.trans (zw_iadd (show decode cL_law 1480 = .ok (.iadd, 1) by decide +kernel)) ?_
  refine Iff.trans (zw_isl (show decode cL_law 1481 = .ok (.iaload, 1) by decide +kernel) hs hl hq.2.1) ?_
  refine Iff.trans (zw_aload_n (show decode cL_law 1482 = .ok (.aload_n 0, 1) by decide +kernel) rfl) ?_
  refine Iff.trans (zw_iload (show decode cL_law 1483 = .ok (.iload 4, 2) by decide +kernel) rfl) ?_
  refine Iff.trans (zw_iconst (x := 2) (show decode cL_law 1485 = .ok (.iconst 2, 1) by decide +kernel) (by decide)) ?_
  refine Iff.trans (zw_iadd (show decode cL_law 1486 = .ok (.iadd, 1) by decide +kernel)) ?_
  refine Iff.trans (zw_isl (show decode cL_law 1487 = .ok (.iaload, 1) by decide +kernel) hs hl hq.2.2.1) ?_
  refine Iff.trans (zw_aload_n (show decode cL_law 1488 = .ok (.aload_n 0, 1) by decide +kernel) rfl) ?_
  refine Iff.trans (zw_iload (show decode cL_law 1489 = .ok (.iload 4, 2) by decide +kernel) rfl) ?_
  refine Iff.trans (zw_iconst (x := 3) (show decode cL_law 1491 = .ok (.iconst 3, 1) by decide +kernel) (by decide)) ?_
  refine Iff.trans (zw_iadd (show decode cL_law 1492 = .ok (.iadd, 1) by decide +kernel)) ?_
  refine Iff.trans (zw_isl (show decode cL_law 1493 = .ok (.iaload, 1) by decide +kernel) hs hl hq.2.2.2.1) ?_
  refine Iff.trans (zw_invV (K' := kX12_sight) (as' := [.int (xs (x4 + 1 : Int32).toNatClampNeg), .int (xs (x4 + 2 : Int32).toNatClampNeg), .int (xs (x4 + 3 : Int32).toNatClampNeg)]) (rest := [.int y0]) (show decode cL_law 1494 = .ok (.invokevirtual 142, 3) by decide +kernel) (by rfl) rfl rfl rfl (hl.k2 zk_131) (by decide) (hl.n2 zk_131) ⟨Nat.le_of_ble_eq_true rfl, Nat.le_of_ble_eq_true rfl, Nat.le_of_ble_eq_true rfl⟩) ?_
  exact Iff.rfl

theorem bQ_L_law_1515 {d : Nat} {σ : zS} {Q : Option Value → zS → Prop} (hl : zLay σ) {x4 : Int32} {v5 v6 : Value} {L : Nat} {xs : Nat → Int32} (hs : lwB σ L xs) (hq : lwQ L x4) (hv5 : v5.category = 1) (hv6 : v6.category = 1) : zW (d + 1) kL_law 1515 [.ref 0, .ref 1, .ref 131, .ref 164, .int x4, v5, v6] [] σ Q ↔ zCall d kX11_stoned [.ref 1, .int (xs (x4 + 1 : Int32).toNatClampNeg), .int (xs (x4 + 2 : Int32).toNatClampNeg)] σ (fun r σ' => zisN r = true ∧ zW (d + 1) kL_law 1531 [.ref 0, .ref 1, .ref 131, .ref 164, .int x4, v5, v6] (zRstk r ++ []) σ' Q) := by
  refine Iff.trans (zw_aload_n (show decode cL_law 1515 = .ok (.aload_n 1, 1) by decide +kernel) rfl) ?_
  refine Iff.trans (zw_aload_n (show decode cL_law 1516 = .ok (.aload_n 0, 1) by decide +kernel) rfl) ?_
  refine Iff.trans (zw_iload (show decode cL_law 1517 = .ok (.iload 4, 2) by decide +kernel) rfl) ?_
  refine Iff.trans (zw_iconst (x := 1) (show decode cL_law 1519 = .ok (.iconst 1, 1) by decide +kernel) (by decide)) ?_
  refine Iff.trans (zw_iadd (show decode cL_law 1520 = .ok (.iadd, 1) by decide +kernel)) ?_
  refine Iff.trans (zw_isl (show decode cL_law 1521 = .ok (.iaload, 1) by decide +kernel) hs hl hq.2.1) ?_
  refine Iff.trans (zw_aload_n (show decode cL_law 1522 = .ok (.aload_n 0, 1) by decide +kernel) rfl) ?_
  refine Iff.trans (zw_iload (show decode cL_law 1523 = .ok (.iload 4, 2) by decide +kernel) rfl) ?_
  refine Iff.trans (zw_iconst (x := 2) (show decode cL_law 1525 = .ok (.iconst 2, 1) by decide +kernel) (by decide)) ?_
  refine Iff.trans (zw_iadd (show decode cL_law 1526 = .ok (.iadd, 1) by decide +kernel)) ?_
  refine Iff.trans (zw_isl (show decode cL_law 1527 = .ok (.iaload, 1) by decide +kernel) hs hl hq.2.2.1) ?_
  refine Iff.trans (zw_invV (K' := kX11_stoned) (as' := [.int (xs (x4 + 1 : Int32).toNatClampNeg), .int (xs (x4 + 2 : Int32).toNatClampNeg)]) (rest := []) (show decode cL_law 1528 = .ok (.invokevirtual 147, 3) by decide +kernel) (by rfl) rfl rfl rfl (hl.k2 zk_1) (by decide) (hl.n2 zk_1) ⟨Nat.le_of_ble_eq_true rfl, Nat.le_of_ble_eq_true rfl, Nat.le_of_ble_eq_true rfl⟩) ?_
  exact Iff.rfl

theorem bQ_L_law_1531 {d : Nat} {σ : zS} {Q : Option Value → zS → Prop} (hl : zLay σ) {x4 y0 : Int32} {v5 v6 : Value} {L : Nat} {xs : Nat → Int32} (hs : lwB σ L xs) (hq : lwQ L x4) (hv5 : v5.category = 1) (hv6 : v6.category = 1) : zW (d + 1) kL_law 1531 [.ref 0, .ref 1, .ref 131, .ref 164, .int x4, v5, v6] [.int y0] σ Q ↔ zCall d kX12_stoned [.ref 131, .int (xs (x4 + 1 : Int32).toNatClampNeg), .int (xs (x4 + 2 : Int32).toNatClampNeg)] σ (fun r σ' => zisN r = true ∧ zW (d + 1) kL_law 1547 [.ref 0, .ref 1, .ref 131, .ref 164, .int x4, v5, v6] (zRstk r ++ [.int y0]) σ' Q) := by
  refine Iff.trans (zw_aload_n (show decode cL_law 1531 = .ok (.aload_n 2, 1) by decide +kernel) rfl) ?_
  refine Iff.trans (zw_aload_n (show decode cL_law 1532 = .ok (.aload_n 0, 1) by decide +kernel) rfl) ?_
  refine Iff.trans (zw_iload (show decode cL_law 1533 = .ok (.iload 4, 2) by decide +kernel) rfl) ?_
  refine Iff.trans (zw_iconst (x := 1) (show decode cL_law 1535 = .ok (.iconst 1, 1) by decide +kernel) (by decide)) ?_
  refine Iff.trans (zw_iadd (show decode cL_law 1536 = .ok (.iadd, 1) by decide +kernel)) ?_
  refine Iff.trans (zw_isl (show decode cL_law 1537 = .ok (.iaload, 1) by decide +kernel) hs hl hq.2.1) ?_
  refine Iff.trans (zw_aload_n (show decode cL_law 1538 = .ok (.aload_n 0, 1) by decide +kernel) rfl) ?_
  refine Iff.trans (zw_iload (show decode cL_law 1539 = .ok (.iload 4, 2) by decide +kernel) rfl) ?_
  refine Iff.trans (zw_iconst (x := 2) (show decode cL_law 1541 = .ok (.iconst 2, 1) by decide +kernel) (by decide)) ?_
  refine Iff.trans (zw_iadd (show decode cL_law 1542 = .ok (.iadd, 1) by decide +kernel)) ?_
  refine Iff.trans (zw_isl (show decode cL_law 1543 = .ok (.iaload, 1) by decide +kernel) hs hl hq.2.2.1) ?_
  refine Iff.trans (zw_invV (K' := kX12_stoned) (as' := [.int (xs (x4 + 1 : Int32).toNatClampNeg), .int (xs (x4 + 2 : Int32).toNatClampNeg)]) (rest := [.int y0]) (show decode cL_law 1544 = .ok (.invokevirtual 150, 3) by decide +kernel) (by rfl) rfl rfl rfl (hl.k2 zk_131) (by decide) (hl.n2 zk_131) ⟨Nat.le_of_ble_eq_true rfl, Nat.le_of_ble_eq_true rfl, Nat.le_of_ble_eq_true rfl⟩) ?_
  exact Iff.rfl

theorem bQ_L_law_1552 {d : Nat} {σ : zS} {Q : Option Value → zS → Prop} (hl : zLay σ) {x4 : Int32} {v5 v6 : Value} {L : Nat} {xs : Nat → Int32} (hs : lwB σ L xs) (hq : lwQ L x4) (hv5 : v5.category = 1) (hv6 : v6.category = 1) : zW (d + 1) kL_law 1552 [.ref 0, .ref 1, .ref 131, .ref 164, .int x4, v5, v6] [] σ Q ↔ zCall d kX11_fair [.ref 1, .int (xs (x4 + 1 : Int32).toNatClampNeg), .int (xs (x4 + 2 : Int32).toNatClampNeg), .int (xs (x4 + 3 : Int32).toNatClampNeg), .int (xs (x4 + 4 : Int32).toNatClampNeg)] σ (fun r σ' => zisN r = true ∧ zW (d + 1) kL_law 1580 [.ref 0, .ref 1, .ref 131, .ref 164, .int x4, v5, v6] (zRstk r ++ []) σ' Q) := by
  refine Iff.trans (zw_aload_n (show decode cL_law 1552 = .ok (.aload_n 1, 1) by decide +kernel) rfl) ?_
  refine Iff.trans (zw_aload_n (show decode cL_law 1553 = .ok (.aload_n 0, 1) by decide +kernel) rfl) ?_
  refine Iff.trans (zw_iload (show decode cL_law 1554 = .ok (.iload 4, 2) by decide +kernel) rfl) ?_
  refine Iff.trans (zw_iconst (x := 1) (show decode cL_law 1556 = .ok (.iconst 1, 1) by decide +kernel) (by decide)) ?_
  refine Iff.trans (zw_iadd (show decode cL_law 1557 = .ok (.iadd, 1) by decide +kernel)) ?_
  refine Iff.trans (zw_isl (show decode cL_law 1558 = .ok (.iaload, 1) by decide +kernel) hs hl hq.2.1) ?_
  refine Iff.trans (zw_aload_n (show decode cL_law 1559 = .ok (.aload_n 0, 1) by decide +kernel) rfl) ?_
  refine Iff.trans (zw_iload (show decode cL_law 1560 = .ok (.iload 4, 2) by decide +kernel) rfl) ?_
  refine Iff.trans (zw_iconst (x := 2) (show decode cL_law 1562 = .ok (.iconst 2, 1) by decide +kernel) (by decide)) ?_
  refine Iff.trans (zw_iadd (show decode cL_law 1563 = .ok (.iadd, 1) by decide +kernel)) ?_
  refine Iff.trans (zw_isl (show decode cL_law 1564 = .ok (.iaload, 1) by decide +kernel) hs hl hq.2.2.1) ?_
  refine Iff.trans (zw_aload_n (show decode cL_law 1565 = .ok (.aload_n 0, 1) by decide +kernel) rfl) ?_
  refine Iff.trans (zw_iload (show decode cL_law 1566 = .ok (.iload 4, 2) by decide +kernel) rfl) ?_
  refine Iff.trans (zw_iconst (x := 3) (show decode cL_law 1568 = .ok (.iconst 3, 1) by decide +kernel) (by decide)) ?_
  refine Iff.trans (zw_iadd (show decode cL_law 1569 = .ok (.iadd, 1) by decide +kernel)) ?_
  refine Iff.trans (zw_isl (show decode cL_law 1570 = .ok (.iaload, 1) by decide +kernel) hs hl hq.2.2.2.1) ?_
  refine Iff.trans (zw_aload_n (show decode cL_law 1571 = .ok (.aload_n 0, 1) by decide +kernel) rfl) ?_
  refine Iff.trans (zw_iload (show decode cL_law 1572 = .ok (.iload 4, 2) by decide +kernel) rfl) ?_
  refine Iff.trans (zw_iconst (x := 4) (show decode cL_law 1574 = .ok (.iconst 4, 1) by decide +kernel) (by decide)) ?_
  refine Iff.trans (zw_iadd (show decode cL_law 1575 = .ok (.iadd, 1) by decide +kernel)) ?_
  refine Iff.trans (zw_isl (show decode cL_law 1576 = .ok (.iaload, 1) by decide +kernel) hs hl hq.2.2.2.2.1) ?_
  refine Iff.trans (zw_invV (K' := kX11_fair) (as' := [.int (xs (x4 + 1 : Int32).toNatClampNeg), .int (xs (x4 + 2 : Int32).toNatClampNeg), .int (xs (x4 + 3 : Int32).toNatClampNeg), .int (xs (x4 + 4 : Int32).toNatClampNeg)]) (rest := []) (show decode cL_law 1577 = .ok (.invokevirtual 151, 3) by decide +kernel) (by rfl) rfl rfl rfl (hl.k2 zk_1) (by decide) (hl.n2 zk_1) ⟨Nat.le_of_ble_eq_true rfl, Nat.le_of_ble_eq_true rfl, Nat.le_of_ble_eq_true rfl⟩) ?_
  exact Iff.rfl

theorem bQ_L_law_1580 {d : Nat} {σ : zS} {Q : Option Value → zS → Prop} (hl : zLay σ) {x4 y0 : Int32} {v5 v6 : Value} {L : Nat} {xs : Nat → Int32} (hs : lwB σ L xs) (hq : lwQ L x4) (hv5 : v5.category = 1) (hv6 : v6.category = 1) : zW (d + 1) kL_law 1580 [.ref 0, .ref 1, .ref 131, .ref 164, .int x4, v5, v6] [.int y0] σ Q ↔ zCall d kX12_fair [.ref 131, .int (xs (x4 + 1 : Int32).toNatClampNeg), .int (xs (x4 + 2 : Int32).toNatClampNeg), .int (xs (x4 + 3 : Int32).toNatClampNeg), .int (xs (x4 + 4 : Int32).toNatClampNeg)] σ (fun r σ' => zisN r = true ∧ zW (d + 1) kL_law 1608 [.ref 0, .ref 1, .ref 131, .ref 164, .int x4, v5, v6] (zRstk r ++ [.int y0]) σ' Q) := by
  refine Iff.trans (zw_aload_n (show decode cL_law 1580 = .ok (.aload_n 2, 1) by decide +kernel) rfl) ?_
  refine Iff.trans (zw_aload_n (show decode cL_law 1581 = .ok (.aload_n 0, 1) by decide +kernel) rfl) ?_
  refine Iff.trans (zw_iload (show decode cL_law 1582 = .ok (.iload 4, 2) by decide +kernel) rfl) ?_
  refine Iff.trans (zw_iconst (x := 1) (show decode cL_law 1584 = .ok (.iconst 1, 1) by decide +kernel) (by decide)) ?_
  refine Iff.trans (zw_iadd (show decode cL_law 1585 = .ok (.iadd, 1) by decide +kernel)) ?_
  refine Iff.trans (zw_isl (show decode cL_law 1586 = .ok (.iaload, 1) by decide +kernel) hs hl hq.2.1) ?_
  refine Iff.trans (zw_aload_n (show decode cL_law 1587 = .ok (.aload_n 0, 1) by decide +kernel) rfl) ?_
  refine Iff.trans (zw_iload (show decode cL_law 1588 = .ok (.iload 4, 2) by decide +kernel) rfl) ?_
  refine Iff.trans (zw_iconst (x := 2) (show decode cL_law 1590 = .ok (.iconst 2, 1) by decide +kernel) (by decide)) ?_
  refine Iff.trans (zw_iadd (show decode cL_law 1591 = .ok (.iadd, 1) by decide +kernel)) ?_
  refine Iff.trans (zw_isl (show decode cL_law 1592 = .ok (.iaload, 1) by decide +kernel) hs hl hq.2.2.1) ?_
  refine Iff.trans (zw_aload_n (show decode cL_law 1593 = .ok (.aload_n 0, 1) by decide +kernel) rfl) ?_
  refine Iff.trans (zw_iload (show decode cL_law 1594 = .ok (.iload 4, 2) by decide +kernel) rfl) ?_
  refine Iff.trans (zw_iconst (x := 3) (show decode cL_law 1596 = .ok (.iconst 3, 1) by decide +kernel) (by decide)) ?_
  refine Iff.trans (zw_iadd (show decode cL_law 1597 = .ok (.iadd, 1) by decide +kernel)) ?_
  refine Iff.trans (zw_isl (show decode cL_law 1598 = .ok (.iaload, 1) by decide +kernel) hs hl hq.2.2.2.1) ?_
  refine Iff.trans (zw_aload_n (show decode cL_law 1599 = .ok (.aload_n 0, 1) by decide +kernel) rfl) ?_
  refine Iff.trans (zw_iload (show decode cL_law 1600 = .ok (.iload 4, 2) by decide +kernel) rfl) ?_
  refine Iff.trans (zw_iconst (x := 4) (show decode cL_law 1602 = .ok (.iconst 4, 1) by decide +kernel) (by decide)) ?_
  refine Iff.trans (zw_iadd (show decode cL_law 1603 = .ok (.iadd, 1) by decide +kernel)) ?_
  refine Iff.trans (zw_isl (show decode cL_law 1604 = .ok (.iaload, 1) by decide +kernel) hs hl hq.2.2.2.2.1) ?_
  refine Iff.trans (zw_invV (K' := kX12_fair) (as' := [.int (xs (x4 + 1 : Int32).toNatClampNeg), .int (xs (x4 + 2 : Int32).toNatClampNeg), .int (xs (x4 + 3 : Int32).toNatClampNeg), .int (xs (x4 + 4 : Int32).toNatClampNeg)]) (rest := [.int y0]) (show decode cL_law 1605 = .ok (.invokevirtual 154, 3) by decide +kernel) (by rfl) rfl rfl rfl (hl.k2 zk_131) (by decide) (hl.n2 zk_131) ⟨Nat.le_of_ble_eq_true rfl, Nat.le_of_ble_eq_true rfl, Nat.le_of_ble_eq_true rfl⟩) ?_
  exact Iff.rfl

theorem bQ_L_law_1639 {d : Nat} {σ : zS} {Q : Option Value → zS → Prop} (hl : zLay σ) {x4 : Int32} {v5 v6 : Value} {L : Nat} {xs : Nat → Int32} (hs : lwB σ L xs) (hq : lwQ L x4) (hv5 : v5.category = 1) (hv6 : v6.category = 1) : zW (d + 1) kL_law 1639 [.ref 0, .ref 1, .ref 131, .ref 164, .int x4, v5, v6] [] σ Q ↔ zCall d kX11_was [.ref 1, .int (xs (x4 + 1 : Int32).toNatClampNeg), .int (xs (x4 + 2 : Int32).toNatClampNeg), .int (xs (x4 + 3 : Int32).toNatClampNeg)] σ (fun r σ' => zisN r = true ∧ zW (d + 1) kL_law 1661 [.ref 0, .ref 1, .ref 131, .ref 164, .int x4, v5, v6] (zRstk r ++ []) σ' Q) := by
  refine Iff.trans (zw_aload_n (show decode cL_law 1639 = .ok (.aload_n 1, 1) by decide +kernel) rfl) ?_
  refine Iff.trans (zw_aload_n (show decode cL_law 1640 = .ok (.aload_n 0, 1) by decide +kernel) rfl) ?_
  refine Iff.trans (zw_iload (show decode cL_law 1641 = .ok (.iload 4, 2) by decide +kernel) rfl) ?_
  refine Iff.trans (zw_iconst (x := 1) (show decode cL_law 1643 = .ok (.iconst 1, 1) by decide +kernel) (by decide)) ?_
  refine Iff.trans (zw_iadd (show decode cL_law 1644 = .ok (.iadd, 1) by decide +kernel)) ?_
  refine Iff.trans (zw_isl (show decode cL_law 1645 = .ok (.iaload, 1) by decide +kernel) hs hl hq.2.1) ?_
  refine Iff.trans (zw_aload_n (show decode cL_law 1646 = .ok (.aload_n 0, 1) by decide +kernel) rfl) ?_
  refine Iff.trans (zw_iload (show decode cL_law 1647 = .ok (.iload 4, 2) by decide +kernel) rfl) ?_
  refine Iff.trans (zw_iconst (x := 2) (show decode cL_law 1649 = .ok (.iconst 2, 1) by decide +kernel) (by decide)) ?_
  refine Iff.trans (zw_iadd (show decode cL_law 1650 = .ok (.iadd, 1) by decide +kernel)) ?_
  refine Iff.trans (zw_isl (show decode cL_law 1651 = .ok (.iaload, 1) by decide +kernel) hs hl hq.2.2.1) ?_
  refine Iff.trans (zw_aload_n (show decode cL_law 1652 = .ok (.aload_n 0, 1) by decide +kernel) rfl) ?_
  refine Iff.trans (zw_iload (show decode cL_law 1653 = .ok (.iload 4, 2) by decide +kernel) rfl) ?_
  refine Iff.trans (zw_iconst (x := 3) (show decode cL_law 1655 = .ok (.iconst 3, 1) by decide +kernel) (by decide)) ?_
  refine Iff.trans (zw_iadd (show decode cL_law 1656 = .ok (.iadd, 1) by decide +kernel)) ?_
  refine Iff.trans (zw_isl (show decode cL_law 1657 = .ok (.iaload, 1) by decide +kernel) hs hl hq.2.2.2.1) ?_
  refine Iff.trans (zw_invV (K' := kX11_was) (as' := [.int (xs (x4 + 1 : Int32).toNatClampNeg), .int (xs (x4 + 2 : Int32).toNatClampNeg), .int (xs (x4 + 3 : Int32).toNatClampNeg)]) (rest := []) (show decode cL_law 1658 = .ok (.invokevirtual 163, 3) by decide +kernel) (by rfl) rfl rfl rfl (hl.k2 zk_1) (by decide) (hl.n2 zk_1) ⟨Nat.le_of_ble_eq_true rfl, Nat.le_of_ble_eq_true rfl, Nat.le_of_ble_eq_true rfl⟩) ?_
  exact Iff.rfl

theorem bQ_L_law_1661 {d : Nat} {σ : zS} {Q : Option Value → zS → Prop} (hl : zLay σ) {x4 y0 : Int32} {v5 v6 : Value} {L : Nat} {xs : Nat → Int32} (hs : lwB σ L xs) (hq : lwQ L x4) (hv5 : v5.category = 1) (hv6 : v6.category = 1) : zW (d + 1) kL_law 1661 [.ref 0, .ref 1, .ref 131, .ref 164, .int x4, v5, v6] [.int y0] σ Q ↔ zCall d kX12_was [.ref 131, .int (xs (x4 + 1 : Int32).toNatClampNeg), .int (xs (x4 + 2 : Int32).toNatClampNeg), .int (xs (x4 + 3 : Int32).toNatClampNeg)] σ (fun r σ' => zisN r = true ∧ zW (d + 1) kL_law 1683 [.ref 0, .ref 1, .ref 131, .ref 164, .int x4, v5, v6] (zRstk r ++ [.int y0]) σ' Q) := by
  refine Iff.trans (zw_aload_n (show decode cL_law 1661 = .ok (.aload_n 2, 1) by decide +kernel) rfl) ?_
  refine Iff.trans (zw_aload_n (show decode cL_law 1662 = .ok (.aload_n 0, 1) by decide +kernel) rfl) ?_
  refine Iff.trans (zw_iload (show decode cL_law 1663 = .ok (.iload 4, 2) by decide +kernel) rfl) ?_
  refine Iff.trans (zw_iconst (x := 1) (show decode cL_law 1665 = .ok (.iconst 1, 1) by decide +kernel) (by decide)) ?_
  refine Iff.trans (zw_iadd (show decode cL_law 1666 = .ok (.iadd, 1) by decide +kernel)) ?_
  refine Iff.trans (zw_isl (show decode cL_law 1667 = .ok (.iaload, 1) by decide +kernel) hs hl hq.2.1) ?_
  refine Iff.trans (zw_aload_n (show decode cL_law 1668 = .ok (.aload_n 0, 1) by decide +kernel) rfl) ?_
  refine Iff.trans (zw_iload (show decode cL_law 1669 = .ok (.iload 4, 2) by decide +kernel) rfl) ?_
  refine Iff.trans (zw_iconst (x := 2) (show decode cL_law 1671 = .ok (.iconst 2, 1) by decide +kernel) (by decide)) ?_
  refine Iff.trans (zw_iadd (show decode cL_law 1672 = .ok (.iadd, 1) by decide +kernel)) ?_
  refine Iff.trans (zw_isl (show decode cL_law 1673 = .ok (.iaload, 1) by decide +kernel) hs hl hq.2.2.1) ?_
  refine Iff.trans (zw_aload_n (show decode cL_law 1674 = .ok (.aload_n 0, 1) by decide +kernel) rfl) ?_
  refine Iff.trans (zw_iload (show decode cL_law 1675 = .ok (.iload 4, 2) by decide +kernel) rfl) ?_
  refine Iff.trans (zw_iconst (x := 3) (show decode cL_law 1677 = .ok (.iconst 3, 1) by decide +kernel) (by decide)) ?_
  refine Iff.trans (zw_iadd (show decode cL_law 1678 = .ok (.iadd, 1) by decide +kernel)) ?_
  refine Iff.trans (zw_isl (show decode cL_law 1679 = .ok (.iaload, 1) by decide +kernel) hs hl hq.2.2.2.1) ?_
  refine Iff.trans (zw_invV (K' := kX12_was) (as' := [.int (xs (x4 + 1 : Int32).toNatClampNeg), .int (xs (x4 + 2 : Int32).toNatClampNeg), .int (xs (x4 + 3 : Int32).toNatClampNeg)]) (rest := [.int y0]) (show decode cL_law 1680 = .ok (.invokevirtual 166, 3) by decide +kernel) (by rfl) rfl rfl rfl (hl.k2 zk_131) (by decide) (hl.n2 zk_131) ⟨Nat.le_of_ble_eq_true rfl, Nat.le_of_ble_eq_true rfl, Nat.le_of_ble_eq_true rfl⟩) ?_
  exact Iff.rfl

theorem bQ_L_law_1688 {d : Nat} {σ : zS} {Q : Option Value → zS → Prop} (hl : zLay σ) {x4 : Int32} {v5 v6 : Value} {L : Nat} {xs : Nat → Int32} (hs : lwB σ L xs) (hq : lwQ L x4) (hv5 : v5.category = 1) (hv6 : v6.category = 1) : zW (d + 1) kL_law 1688 [.ref 0, .ref 1, .ref 131, .ref 164, .int x4, v5, v6] [] σ Q ↔ zCall d kX11_passed [.ref 1, .int (xs (x4 + 1 : Int32).toNatClampNeg), .int (xs (x4 + 2 : Int32).toNatClampNeg)] σ (fun r σ' => zisN r = true ∧ zW (d + 1) kL_law 1704 [.ref 0, .ref 1, .ref 131, .ref 164, .int x4, v5, v6] (zRstk r ++ []) σ' Q) := by
  refine Iff.trans (zw_aload_n (show decode cL_law 1688 = .ok (.aload_n 1, 1) by decide +kernel) rfl) ?_
  refine Iff.trans (zw_aload_n (show decode cL_law 1689 = .ok (.aload_n 0, 1) by decide +kernel) rfl) ?_
  refine Iff.trans (zw_iload (show decode cL_law 1690 = .ok (.iload 4, 2) by decide +kernel) rfl) ?_
  refine Iff.trans (zw_iconst (x := 1) (show decode cL_law 1692 = .ok (.iconst 1, 1) by decide +kernel) (by decide)) ?_
  refine Iff.trans (zw_iadd (show decode cL_law 1693 = .ok (.iadd, 1) by decide +kernel)) ?_
  refine Iff.trans (zw_isl (show decode cL_law 1694 = .ok (.iaload, 1) by decide +kernel) hs hl hq.2.1) ?_
  refine Iff.trans (zw_aload_n (show decode cL_law 1695 = .ok (.aload_n 0, 1) by decide +kernel) rfl) ?_
  refine Iff.trans (zw_iload (show decode cL_law 1696 = .ok (.iload 4, 2) by decide +kernel) rfl) ?_
  refine Iff.trans (zw_iconst (x := 2) (show decode cL_law 1698 = .ok (.iconst 2, 1) by decide +kernel) (by decide)) ?_
  refine Iff.trans (zw_iadd (show decode cL_law 1699 = .ok (.iadd, 1) by decide +kernel)) ?_
  refine Iff.trans (zw_isl (show decode cL_law 1700 = .ok (.iaload, 1) by decide +kernel) hs hl hq.2.2.1) ?_
  refine Iff.trans (zw_invV (K' := kX11_passed) (as' := [.int (xs (x4 + 1 : Int32).toNatClampNeg), .int (xs (x4 + 2 : Int32).toNatClampNeg)]) (rest := []) (show decode cL_law 1701 = .ok (.invokevirtual 167, 3) by decide +kernel) (by rfl) rfl rfl rfl (hl.k2 zk_1) (by decide) (hl.n2 zk_1) ⟨Nat.le_of_ble_eq_true rfl, Nat.le_of_ble_eq_true rfl, Nat.le_of_ble_eq_true rfl⟩) ?_
  exact Iff.rfl

theorem bQ_L_law_1704 {d : Nat} {σ : zS} {Q : Option Value → zS → Prop} (hl : zLay σ) {x4 y0 : Int32} {v5 v6 : Value} {L : Nat} {xs : Nat → Int32} (hs : lwB σ L xs) (hq : lwQ L x4) (hv5 : v5.category = 1) (hv6 : v6.category = 1) : zW (d + 1) kL_law 1704 [.ref 0, .ref 1, .ref 131, .ref 164, .int x4, v5, v6] [.int y0] σ Q ↔ zCall d kX12_passed [.ref 131, .int (xs (x4 + 1 : Int32).toNatClampNeg), .int (xs (x4 + 2 : Int32).toNatClampNeg)] σ (fun r σ' => zisN r = true ∧ zW (d + 1) kL_law 1720 [.ref 0, .ref 1, .ref 131, .ref 164, .int x4, v5, v6] (zRstk r ++ [.int y0]) σ' Q) := by
  refine Iff.trans (zw_aload_n (show decode cL_law 1704 = .ok (.aload_n 2, 1) by decide +kernel) rfl) ?_
  refine Iff.trans (zw_aload_n (show decode cL_law 1705 = .ok (.aload_n 0, 1) by decide +kernel) rfl) ?_
  refine Iff.trans (zw_iload (show decode cL_law 1706 = .ok (.iload 4, 2) by decide +kernel) rfl) ?_
  refine Iff.trans (zw_iconst (x := 1) (show decode cL_law 1708 = .ok (.iconst 1, 1) by decide +kernel) (by decide)) ?_
  refine Iff.trans (zw_iadd (show decode cL_law 1709 = .ok (.iadd, 1) by decide +kernel)) ?_
  refine Iff.trans (zw_isl (show decode cL_law 1710 = .ok (.iaload, 1) by decide +kernel) hs hl hq.2.1) ?_
  refine Iff.trans (zw_aload_n (show decode cL_law 1711 = .ok (.aload_n 0, 1) by decide +kernel) rfl) ?_
  refine Iff.trans (zw_iload (show decode cL_law 1712 = .ok (.iload 4, 2) by decide +kernel) rfl) ?_
  refine Iff.trans (zw_iconst (x := 2) (show decode cL_law 1714 = .ok (.iconst 2, 1) by decide +kernel) (by decide)) ?_
  refine Iff.trans (zw_iadd (show decode cL_law 1715 = .ok (.iadd, 1) by decide +kernel)) ?_
  refine Iff.trans (zw_isl (show decode cL_law 1716 = .ok (.iaload, 1) by decide +kernel) hs hl hq.2.2.1) ?_
  refine Iff.trans (zw_invV (K' := kX12_passed) (as' := [.int (xs (x4 + 1 : Int32).toNatClampNeg), .int (xs (x4 + 2 : Int32).toNatClampNeg)]) (rest := [.int y0]) (show decode cL_law 1717 = .ok (.invokevirtual 170, 3) by decide +kernel) (by rfl) rfl rfl rfl (hl.k2 zk_131) (by decide) (hl.n2 zk_131) ⟨Nat.le_of_ble_eq_true rfl, Nat.le_of_ble_eq_true rfl, Nat.le_of_ble_eq_true rfl⟩) ?_
  exact Iff.rfl

theorem bQ_L_law_1725 {d : Nat} {σ : zS} {Q : Option Value → zS → Prop} (hl : zLay σ) {x4 : Int32} {v5 v6 : Value} {L : Nat} {xs : Nat → Int32} (hs : lwB σ L xs) (hq : lwQ L x4) (hv5 : v5.category = 1) (hv6 : v6.category = 1) : zW (d + 1) kL_law 1725 [.ref 0, .ref 1, .ref 131, .ref 164, .int x4, v5, v6] [] σ Q ↔ zCall d kX11_leader [.ref 1, .int (xs (x4 + 1 : Int32).toNatClampNeg)] σ (fun r σ' => zisN r = true ∧ zW (d + 1) kL_law 1735 [.ref 0, .ref 1, .ref 131, .ref 164, .int x4, v5, v6] (zRstk r ++ []) σ' Q) := by
  refine Iff.trans (zw_aload_n (show decode cL_law 1725 = .ok (.aload_n 1, 1) by decide +kernel) rfl) ?_
  refine Iff.trans (zw_aload_n (show decode cL_law 1726 = .ok (.aload_n 0, 1) by decide +kernel) rfl) ?_
  refine Iff.trans (zw_iload (show decode cL_law 1727 = .ok (.iload 4, 2) by decide +kernel) rfl) ?_
  refine Iff.trans (zw_iconst (x := 1) (show decode cL_law 1729 = .ok (.iconst 1, 1) by decide +kernel) (by decide)) ?_
  refine Iff.trans (zw_iadd (show decode cL_law 1730 = .ok (.iadd, 1) by decide +kernel)) ?_
  refine Iff.trans (zw_isl (show decode cL_law 1731 = .ok (.iaload, 1) by decide +kernel) hs hl hq.2.1) ?_
  refine Iff.trans (zw_invV (K' := kX11_leader) (as' := [.int (xs (x4 + 1 : Int32).toNatClampNeg)]) (rest := []) (show decode cL_law 1732 = .ok (.invokevirtual 171, 3) by decide +kernel) (by rfl) rfl rfl rfl (hl.k2 zk_1) (by decide) (hl.n2 zk_1) ⟨Nat.le_of_ble_eq_true rfl, Nat.le_of_ble_eq_true rfl, Nat.le_of_ble_eq_true rfl⟩) ?_
  exact Iff.rfl

theorem bQ_L_law_1735 {d : Nat} {σ : zS} {Q : Option Value → zS → Prop} (hl : zLay σ) {x4 y0 : Int32} {v5 v6 : Value} {L : Nat} {xs : Nat → Int32} (hs : lwB σ L xs) (hq : lwQ L x4) (hv5 : v5.category = 1) (hv6 : v6.category = 1) : zW (d + 1) kL_law 1735 [.ref 0, .ref 1, .ref 131, .ref 164, .int x4, v5, v6] [.int y0] σ Q ↔ zCall d kX12_leader [.ref 131, .int (xs (x4 + 1 : Int32).toNatClampNeg)] σ (fun r σ' => zisN r = true ∧ zW (d + 1) kL_law 1745 [.ref 0, .ref 1, .ref 131, .ref 164, .int x4, v5, v6] (zRstk r ++ [.int y0]) σ' Q) := by
  refine Iff.trans (zw_aload_n (show decode cL_law 1735 = .ok (.aload_n 2, 1) by decide +kernel) rfl) ?_
  refine Iff.trans (zw_aload_n (show decode cL_law 1736 = .ok (.aload_n 0, 1) by decide +kernel) rfl) ?_
  refine Iff.trans (zw_iload (show decode cL_law 1737 = .ok (.iload 4, 2) by decide +kernel) rfl) ?_
  refine Iff.trans (zw_iconst (x := 1) (show decode cL_law 1739 = .ok (.iconst 1, 1) by decide +kernel) (by decide)) ?_
  refine Iff.trans (zw_iadd (show decode cL_law 1740 = .ok (.iadd, 1) by decide +kernel)) ?_
  refine Iff.trans (zw_isl (show decode cL_law 1741 = .ok (.iaload, 1) by decide +kernel) hs hl hq.2.1) ?_
  refine Iff.trans (zw_invV (K' := kX12_leader) (as' := [.int (xs (x4 + 1 : Int32).toNatClampNeg)]) (rest := [.int y0]) (show decode cL_law 1742 = .ok (.invokevirtual 174, 3) by decide +kernel) (by rfl) rfl rfl rfl (hl.k2 zk_131) (by decide) (hl.n2 zk_131) ⟨Nat.le_of_ble_eq_true rfl, Nat.le_of_ble_eq_true rfl, Nat.le_of_ble_eq_true rfl⟩) ?_
  exact Iff.rfl

theorem bQ_L_law_1750 {d : Nat} {σ : zS} {Q : Option Value → zS → Prop} (hl : zLay σ) {x4 : Int32} {v5 v6 : Value} {L : Nat} {xs : Nat → Int32} (hs : lwB σ L xs) (hq : lwQ L x4) (hv5 : v5.category = 1) (hv6 : v6.category = 1) : zW (d + 1) kL_law 1750 [.ref 0, .ref 1, .ref 131, .ref 164, .int x4, v5, v6] [] σ Q ↔ zCall d kX11_led [.ref 1, .int (xs (x4 + 1 : Int32).toNatClampNeg)] σ (fun r σ' => zisN r = true ∧ zW (d + 1) kL_law 1760 [.ref 0, .ref 1, .ref 131, .ref 164, .int x4, v5, v6] (zRstk r ++ []) σ' Q) := by
  refine Iff.trans (zw_aload_n (show decode cL_law 1750 = .ok (.aload_n 1, 1) by decide +kernel) rfl) ?_
  refine Iff.trans (zw_aload_n (show decode cL_law 1751 = .ok (.aload_n 0, 1) by decide +kernel) rfl) ?_
  refine Iff.trans (zw_iload (show decode cL_law 1752 = .ok (.iload 4, 2) by decide +kernel) rfl) ?_
  refine Iff.trans (zw_iconst (x := 1) (show decode cL_law 1754 = .ok (.iconst 1, 1) by decide +kernel) (by decide)) ?_
  refine Iff.trans (zw_iadd (show decode cL_law 1755 = .ok (.iadd, 1) by decide +kernel)) ?_
  refine Iff.trans (zw_isl (show decode cL_law 1756 = .ok (.iaload, 1) by decide +kernel) hs hl hq.2.1) ?_
  refine Iff.trans (zw_invV (K' := kX11_led) (as' := [.int (xs (x4 + 1 : Int32).toNatClampNeg)]) (rest := []) (show decode cL_law 1757 = .ok (.invokevirtual 175, 3) by decide +kernel) (by rfl) rfl rfl rfl (hl.k2 zk_1) (by decide) (hl.n2 zk_1) ⟨Nat.le_of_ble_eq_true rfl, Nat.le_of_ble_eq_true rfl, Nat.le_of_ble_eq_true rfl⟩) ?_
  exact Iff.rfl

theorem bQ_L_law_1760 {d : Nat} {σ : zS} {Q : Option Value → zS → Prop} (hl : zLay σ) {x4 y0 : Int32} {v5 v6 : Value} {L : Nat} {xs : Nat → Int32} (hs : lwB σ L xs) (hq : lwQ L x4) (hv5 : v5.category = 1) (hv6 : v6.category = 1) : zW (d + 1) kL_law 1760 [.ref 0, .ref 1, .ref 131, .ref 164, .int x4, v5, v6] [.int y0] σ Q ↔ zCall d kX12_led [.ref 131, .int (xs (x4 + 1 : Int32).toNatClampNeg)] σ (fun r σ' => zisN r = true ∧ zW (d + 1) kL_law 1770 [.ref 0, .ref 1, .ref 131, .ref 164, .int x4, v5, v6] (zRstk r ++ [.int y0]) σ' Q) := by
  refine Iff.trans (zw_aload_n (show decode cL_law 1760 = .ok (.aload_n 2, 1) by decide +kernel) rfl) ?_
  refine Iff.trans (zw_aload_n (show decode cL_law 1761 = .ok (.aload_n 0, 1) by decide +kernel) rfl) ?_
  refine Iff.trans (zw_iload (show decode cL_law 1762 = .ok (.iload 4, 2) by decide +kernel) rfl) ?_
  refine Iff.trans (zw_iconst (x := 1) (show decode cL_law 1764 = .ok (.iconst 1, 1) by decide +kernel) (by decide)) ?_
  refine Iff.trans (zw_iadd (show decode cL_law 1765 = .ok (.iadd, 1) by decide +kernel)) ?_
  refine Iff.trans (zw_isl (show decode cL_law 1766 = .ok (.iaload, 1) by decide +kernel) hs hl hq.2.1) ?_
  refine Iff.trans (zw_invV (K' := kX12_led) (as' := [.int (xs (x4 + 1 : Int32).toNatClampNeg)]) (rest := [.int y0]) (show decode cL_law 1767 = .ok (.invokevirtual 178, 3) by decide +kernel) (by rfl) rfl rfl rfl (hl.k2 zk_131) (by decide) (hl.n2 zk_131) ⟨Nat.le_of_ble_eq_true rfl, Nat.le_of_ble_eq_true rfl, Nat.le_of_ble_eq_true rfl⟩) ?_
  exact Iff.rfl

theorem bQ_L_law_1775 {d : Nat} {σ : zS} {Q : Option Value → zS → Prop} (hl : zLay σ) {x4 : Int32} {v5 v6 : Value} {L : Nat} {xs : Nat → Int32} (hs : lwB σ L xs) (hq : lwQ L x4) (hv5 : v5.category = 1) (hv6 : v6.category = 1) : zW (d + 1) kL_law 1775 [.ref 0, .ref 1, .ref 131, .ref 164, .int x4, v5, v6] [] σ Q ↔ zCall d kX11_struck [.ref 1, .int (xs (x4 + 1 : Int32).toNatClampNeg)] σ (fun r σ' => zisN r = true ∧ zW (d + 1) kL_law 1785 [.ref 0, .ref 1, .ref 131, .ref 164, .int x4, v5, v6] (zRstk r ++ []) σ' Q) := by
  refine Iff.trans (zw_aload_n (show decode cL_law 1775 = .ok (.aload_n 1, 1) by decide +kernel) rfl) ?_
  refine Iff.trans (zw_aload_n (show decode cL_law 1776 = .ok (.aload_n 0, 1) by decide +kernel) rfl) ?_
  refine Iff.trans (zw_iload (show decode cL_law 1777 = .ok (.iload 4, 2) by decide +kernel) rfl) ?_
  refine Iff.trans (zw_iconst (x := 1) (show decode cL_law 1779 = .ok (.iconst 1, 1) by decide +kernel) (by decide)) ?_
  refine Iff.trans (zw_iadd (show decode cL_law 1780 = .ok (.iadd, 1) by decide +kernel)) ?_
  refine Iff.trans (zw_isl (show decode cL_law 1781 = .ok (.iaload, 1) by decide +kernel) hs hl hq.2.1) ?_
  refine Iff.trans (zw_invV (K' := kX11_struck) (as' := [.int (xs (x4 + 1 : Int32).toNatClampNeg)]) (rest := []) (show decode cL_law 1782 = .ok (.invokevirtual 179, 3) by decide +kernel) (by rfl) rfl rfl rfl (hl.k2 zk_1) (by decide) (hl.n2 zk_1) ⟨Nat.le_of_ble_eq_true rfl, Nat.le_of_ble_eq_true rfl, Nat.le_of_ble_eq_true rfl⟩) ?_
  exact Iff.rfl

theorem bQ_L_law_1785 {d : Nat} {σ : zS} {Q : Option Value → zS → Prop} (hl : zLay σ) {x4 y0 : Int32} {v5 v6 : Value} {L : Nat} {xs : Nat → Int32} (hs : lwB σ L xs) (hq : lwQ L x4) (hv5 : v5.category = 1) (hv6 : v6.category = 1) : zW (d + 1) kL_law 1785 [.ref 0, .ref 1, .ref 131, .ref 164, .int x4, v5, v6] [.int y0] σ Q ↔ zCall d kX12_struck [.ref 131, .int (xs (x4 + 1 : Int32).toNatClampNeg)] σ (fun r σ' => zisN r = true ∧ zW (d + 1) kL_law 1795 [.ref 0, .ref 1, .ref 131, .ref 164, .int x4, v5, v6] (zRstk r ++ [.int y0]) σ' Q) := by
  refine Iff.trans (zw_aload_n (show decode cL_law 1785 = .ok (.aload_n 2, 1) by decide +kernel) rfl) ?_
  refine Iff.trans (zw_aload_n (show decode cL_law 1786 = .ok (.aload_n 0, 1) by decide +kernel) rfl) ?_
  refine Iff.trans (zw_iload (show decode cL_law 1787 = .ok (.iload 4, 2) by decide +kernel) rfl) ?_
  refine Iff.trans (zw_iconst (x := 1) (show decode cL_law 1789 = .ok (.iconst 1, 1) by decide +kernel) (by decide)) ?_
  refine Iff.trans (zw_iadd (show decode cL_law 1790 = .ok (.iadd, 1) by decide +kernel)) ?_
  refine Iff.trans (zw_isl (show decode cL_law 1791 = .ok (.iaload, 1) by decide +kernel) hs hl hq.2.1) ?_
  refine Iff.trans (zw_invV (K' := kX12_struck) (as' := [.int (xs (x4 + 1 : Int32).toNatClampNeg)]) (rest := [.int y0]) (show decode cL_law 1792 = .ok (.invokevirtual 182, 3) by decide +kernel) (by rfl) rfl rfl rfl (hl.k2 zk_131) (by decide) (hl.n2 zk_131) ⟨Nat.le_of_ble_eq_true rfl, Nat.le_of_ble_eq_true rfl, Nat.le_of_ble_eq_true rfl⟩) ?_
  exact Iff.rfl

theorem bQ_L_law_1800 {d : Nat} {σ : zS} {Q : Option Value → zS → Prop} (hl : zLay σ) {x4 : Int32} {v5 v6 : Value} {L : Nat} {xs : Nat → Int32} (hs : lwB σ L xs) (hq : lwQ L x4) (hv5 : v5.category = 1) (hv6 : v6.category = 1) : zW (d + 1) kL_law 1800 [.ref 0, .ref 1, .ref 131, .ref 164, .int x4, v5, v6] [] σ Q ↔ zCall d kX11_rounds [.ref 1, .int (xs (x4 + 1 : Int32).toNatClampNeg), .int (xs (x4 + 2 : Int32).toNatClampNeg), .int (xs (x4 + 3 : Int32).toNatClampNeg)] σ (fun r σ' => zisN r = true ∧ zW (d + 1) kL_law 1822 [.ref 0, .ref 1, .ref 131, .ref 164, .int x4, v5, v6] (zRstk r ++ []) σ' Q) := by
  refine Iff.trans (zw_aload_n (show decode cL_law 1800 = .ok (.aload_n 1, 1) by decide +kernel) rfl) ?_
  refine Iff.trans (zw_aload_n (show decode cL_law 1801 = .ok (.aload_n 0, 1) by decide +kernel) rfl) ?_
  refine Iff.trans (zw_iload (show decode cL_law 1802 = .ok (.iload 4, 2) by decide +kernel) rfl) ?_
  refine Iff.trans (zw_iconst (x := 1) (show decode cL_law 1804 = .ok (.iconst 1, 1) by decide +kernel) (by decide)) ?_
  refine Iff.trans (zw_iadd (show decode cL_law 1805 = .ok (.iadd, 1) by decide +kernel)) ?_
  refine Iff.trans (zw_isl (show decode cL_law 1806 = .ok (.iaload, 1) by decide +kernel) hs hl hq.2.1) ?_
  refine Iff.trans (zw_aload_n (show decode cL_law 1807 = .ok (.aload_n 0, 1) by decide +kernel) rfl) ?_
  refine Iff.trans (zw_iload (show decode cL_law 1808 = .ok (.iload 4, 2) by decide +kernel) rfl) ?_
  refine Iff.trans (zw_iconst (x := 2) (show decode cL_law 1810 = .ok (.iconst 2, 1) by decide +kernel) (by decide)) ?_
  refine Iff.trans (zw_iadd (show decode cL_law 1811 = .ok (.iadd, 1) by decide +kernel)) ?_
  refine Iff.trans (zw_isl (show decode cL_law 1812 = .ok (.iaload, 1) by decide +kernel) hs hl hq.2.2.1) ?_
  refine Iff.trans (zw_aload_n (show decode cL_law 1813 = .ok (.aload_n 0, 1) by decide +kernel) rfl) ?_
  refine Iff.trans (zw_iload (show decode cL_law 1814 = .ok (.iload 4, 2) by decide +kernel) rfl) ?_
  refine Iff.trans (zw_iconst (x := 3) (show decode cL_law 1816 = .ok (.iconst 3, 1) by decide +kernel) (by decide)) ?_
  refine Iff.trans (zw_iadd (show decode cL_law 1817 = .ok (.iadd, 1) by decide +kernel)) ?_
  refine Iff.trans (zw_isl (show decode cL_law 1818 = .ok (.iaload, 1) by decide +kernel) hs hl hq.2.2.2.1) ?_
  refine Iff.trans (zw_invV (K' := kX11_rounds) (as' := [.int (xs (x4 + 1 : Int32).toNatClampNeg), .int (xs (x4 + 2 : Int32).toNatClampNeg), .int (xs (x4 + 3 : Int32).toNatClampNeg)]) (rest := []) (show decode cL_law 1819 = .ok (.invokevirtual 183, 3) by decide +kernel) (by rfl) rfl rfl rfl (hl.k2 zk_1) (by decide) (hl.n2 zk_1) ⟨Nat.le_of_ble_eq_true rfl, Nat.le_of_ble_eq_true rfl, Nat.le_of_ble_eq_true rfl⟩) ?_
  exact Iff.rfl

theorem bQ_L_law_1822 {d : Nat} {σ : zS} {Q : Option Value → zS → Prop} (hl : zLay σ) {x4 y0 : Int32} {v5 v6 : Value} {L : Nat} {xs : Nat → Int32} (hs : lwB σ L xs) (hq : lwQ L x4) (hv5 : v5.category = 1) (hv6 : v6.category = 1) : zW (d + 1) kL_law 1822 [.ref 0, .ref 1, .ref 131, .ref 164, .int x4, v5, v6] [.int y0] σ Q ↔ zCall d kX12_rounds [.ref 131, .int (xs (x4 + 1 : Int32).toNatClampNeg), .int (xs (x4 + 2 : Int32).toNatClampNeg), .int (xs (x4 + 3 : Int32).toNatClampNeg)] σ (fun r σ' => zisN r = true ∧ zW (d + 1) kL_law 1844 [.ref 0, .ref 1, .ref 131, .ref 164, .int x4, v5, v6] (zRstk r ++ [.int y0]) σ' Q) := by
  refine Iff.trans (zw_aload_n (show decode cL_law 1822 = .ok (.aload_n 2, 1) by decide +kernel) rfl) ?_
  refine Iff.trans (zw_aload_n (show decode cL_law 1823 = .ok (.aload_n 0, 1) by decide +kernel) rfl) ?_
  refine Iff.trans (zw_iload (show decode cL_law 1824 = .ok (.iload 4, 2) by decide +kernel) rfl) ?_
  refine Iff.trans (zw_iconst (x := 1) (show decode cL_law 1826 = .ok (.iconst 1, 1) by decide +kernel) (by decide)) ?_
  refine Iff.trans (zw_iadd (show decode cL_law 1827 = .ok (.iadd, 1) by decide +kernel)) ?_
  refine Iff.trans (zw_isl (show decode cL_law 1828 = .ok (.iaload, 1) by decide +kernel) hs hl hq.2.1) ?_
  refine Iff.trans (zw_aload_n (show decode cL_law 1829 = .ok (.aload_n 0, 1) by decide +kernel) rfl) ?_
  refine Iff.trans (zw_iload (show decode cL_law 1830 = .ok (.iload 4, 2) by decide +kernel) rfl) ?_
  refine Iff.trans (zw_iconst (x := 2) (show decode cL_law 1832 = .ok (.iconst 2, 1) by decide +kernel) (by decide)) ?_
  refine Iff.trans (zw_iadd (show decode cL_law 1833 = .ok (.iadd, 1) by decide +kernel)) ?_
  refine Iff.trans (zw_isl (show decode cL_law 1834 = .ok (.iaload, 1) by decide +kernel) hs hl hq.2.2.1) ?_
  refine Iff.trans (zw_aload_n (show decode cL_law 1835 = .ok (.aload_n 0, 1) by decide +kernel) rfl) ?_
  refine Iff.trans (zw_iload (show decode cL_law 1836 = .ok (.iload 4, 2) by decide +kernel) rfl) ?_
  refine Iff.trans (zw_iconst (x := 3) (show decode cL_law 1838 = .ok (.iconst 3, 1) by decide +kernel) (by decide)) ?_
  refine Iff.trans (zw_iadd (show decode cL_law 1839 = .ok (.iadd, 1) by decide +kernel)) ?_
  refine Iff.trans (zw_isl (show decode cL_law 1840 = .ok (.iaload, 1) by decide +kernel) hs hl hq.2.2.2.1) ?_
  refine Iff.trans (zw_invV (K' := kX12_rounds) (as' := [.int (xs (x4 + 1 : Int32).toNatClampNeg), .int (xs (x4 + 2 : Int32).toNatClampNeg), .int (xs (x4 + 3 : Int32).toNatClampNeg)]) (rest := [.int y0]) (show decode cL_law 1841 = .ok (.invokevirtual 186, 3) by decide +kernel) (by rfl) rfl rfl rfl (hl.k2 zk_131) (by decide) (hl.n2 zk_131) ⟨Nat.le_of_ble_eq_true rfl, Nat.le_of_ble_eq_true rfl, Nat.le_of_ble_eq_true rfl⟩) ?_
  exact Iff.rfl

theorem bQ_L_law_1849 {d : Nat} {σ : zS} {Q : Option Value → zS → Prop} (hl : zLay σ) {x4 : Int32} {v5 v6 : Value} {L : Nat} {xs : Nat → Int32} (hs : lwB σ L xs) (hq : lwQ L x4) (hv5 : v5.category = 1) (hv6 : v6.category = 1) : zW (d + 1) kL_law 1849 [.ref 0, .ref 1, .ref 131, .ref 164, .int x4, v5, v6] [] σ Q ↔ zCall d kX11_duel [.ref 1, .int (xs (x4 + 1 : Int32).toNatClampNeg), .int (xs (x4 + 2 : Int32).toNatClampNeg), .int (xs (x4 + 3 : Int32).toNatClampNeg), .int (xs (x4 + 4 : Int32).toNatClampNeg)] σ (fun r σ' => zisN r = true ∧ zW (d + 1) kL_law 1877 [.ref 0, .ref 1, .ref 131, .ref 164, .int x4, v5, v6] (zRstk r ++ []) σ' Q) := by
  refine Iff.trans (zw_aload_n (show decode cL_law 1849 = .ok (.aload_n 1, 1) by decide +kernel) rfl) ?_
  refine Iff.trans (zw_aload_n (show decode cL_law 1850 = .ok (.aload_n 0, 1) by decide +kernel) rfl) ?_
  refine Iff.trans (zw_iload (show decode cL_law 1851 = .ok (.iload 4, 2) by decide +kernel) rfl) ?_
  refine Iff.trans (zw_iconst (x := 1) (show decode cL_law 1853 = .ok (.iconst 1, 1) by decide +kernel) (by decide)) ?_
  refine Iff.trans (zw_iadd (show decode cL_law 1854 = .ok (.iadd, 1) by decide +kernel)) ?_
  refine Iff.trans (zw_isl (show decode cL_law 1855 = .ok (.iaload, 1) by decide +kernel) hs hl hq.2.1) ?_
  refine Iff.trans (zw_aload_n (show decode cL_law 1856 = .ok (.aload_n 0, 1) by decide +kernel) rfl) ?_
  refine Iff.trans (zw_iload (show decode cL_law 1857 = .ok (.iload 4, 2) by decide +kernel) rfl) ?_
  refine Iff.trans (zw_iconst (x := 2) (show decode cL_law 1859 = .ok (.iconst 2, 1) by decide +kernel) (by decide)) ?_
  refine Iff.trans (zw_iadd (show decode cL_law 1860 = .ok (.iadd, 1) by decide +kernel)) ?_
  refine Iff.trans (zw_isl (show decode cL_law 1861 = .ok (.iaload, 1) by decide +kernel) hs hl hq.2.2.1) ?_
  refine Iff.trans (zw_aload_n (show decode cL_law 1862 = .ok (.aload_n 0, 1) by decide +kernel) rfl) ?_
  refine Iff.trans (zw_iload (show decode cL_law 1863 = .ok (.iload 4, 2) by decide +kernel) rfl) ?_
  refine Iff.trans (zw_iconst (x := 3) (show decode cL_law 1865 = .ok (.iconst 3, 1) by decide +kernel) (by decide)) ?_
  refine Iff.trans (zw_iadd (show decode cL_law 1866 = .ok (.iadd, 1) by decide +kernel)) ?_
  refine Iff.trans (zw_isl (show decode cL_law 1867 = .ok (.iaload, 1) by decide +kernel) hs hl hq.2.2.2.1) ?_
  refine Iff.trans (zw_aload_n (show decode cL_law 1868 = .ok (.aload_n 0, 1) by decide +kernel) rfl) ?_
  refine Iff.trans (zw_iload (show decode cL_law 1869 = .ok (.iload 4, 2) by decide +kernel) rfl) ?_
  refine Iff.trans (zw_iconst (x := 4) (show decode cL_law 1871 = .ok (.iconst 4, 1) by decide +kernel) (by decide)) ?_
  refine Iff.trans (zw_iadd (show decode cL_law 1872 = .ok (.iadd, 1) by decide +kernel)) ?_
  refine Iff.trans (zw_isl (show decode cL_law 1873 = .ok (.iaload, 1) by decide +kernel) hs hl hq.2.2.2.2.1) ?_
  refine Iff.trans (zw_invV (K' := kX11_duel) (as' := [.int (xs (x4 + 1 : Int32).toNatClampNeg), .int (xs (x4 + 2 : Int32).toNatClampNeg), .int (xs (x4 + 3 : Int32).toNatClampNeg), .int (xs (x4 + 4 : Int32).toNatClampNeg)]) (rest := []) (show decode cL_law 1874 = .ok (.invokevirtual 187, 3) by decide +kernel) (by rfl) rfl rfl rfl (hl.k2 zk_1) (by decide) (hl.n2 zk_1) ⟨Nat.le_of_ble_eq_true rfl, Nat.le_of_ble_eq_true rfl, Nat.le_of_ble_eq_true rfl⟩) ?_
  exact Iff.rfl

theorem bQ_L_law_1877 {d : Nat} {σ : zS} {Q : Option Value → zS → Prop} (hl : zLay σ) {x4 y0 : Int32} {v5 v6 : Value} {L : Nat} {xs : Nat → Int32} (hs : lwB σ L xs) (hq : lwQ L x4) (hv5 : v5.category = 1) (hv6 : v6.category = 1) : zW (d + 1) kL_law 1877 [.ref 0, .ref 1, .ref 131, .ref 164, .int x4, v5, v6] [.int y0] σ Q ↔ zCall d kX12_duel [.ref 131, .int (xs (x4 + 1 : Int32).toNatClampNeg), .int (xs (x4 + 2 : Int32).toNatClampNeg), .int (xs (x4 + 3 : Int32).toNatClampNeg), .int (xs (x4 + 4 : Int32).toNatClampNeg)] σ (fun r σ' => zisN r = true ∧ zW (d + 1) kL_law 1905 [.ref 0, .ref 1, .ref 131, .ref 164, .int x4, v5, v6] (zRstk r ++ [.int y0]) σ' Q) := by
  refine Iff.trans (zw_aload_n (show decode cL_law 1877 = .ok (.aload_n 2, 1) by decide +kernel) rfl) ?_
  refine Iff.trans (zw_aload_n (show decode cL_law 1878 = .ok (.aload_n 0, 1) by decide +kernel) rfl) ?_
  refine Iff.trans (zw_iload (show decode cL_law 1879 = .ok (.iload 4, 2) by decide +kernel) rfl) ?_
  refine Iff.trans (zw_iconst (x := 1) (show decode cL_law 1881 = .ok (.iconst 1, 1) by decide +kernel) (by decide)) ?_
  refine Iff.trans (zw_iadd (show decode cL_law 1882 = .ok (.iadd, 1) by decide +kernel)) ?_
  refine Iff.trans (zw_isl (show decode cL_law 1883 = .ok (.iaload, 1) by decide +kernel) hs hl hq.2.1) ?_
  refine Iff.trans (zw_aload_n (show decode cL_law 1884 = .ok (.aload_n 0, 1) by decide +kernel) rfl) ?_
  refine Iff.trans (zw_iload (show decode cL_law 1885 = .ok (.iload 4, 2) by decide +kernel) rfl) ?_
  refine Iff.trans (zw_iconst (x := 2) (show decode cL_law 1887 = .ok (.iconst 2, 1) by decide +kernel) (by decide)) ?_
  refine Iff.trans (zw_iadd (show decode cL_law 1888 = .ok (.iadd, 1) by decide +kernel)) ?_
  refine Iff.trans (zw_isl (show decode cL_law 1889 = .ok (.iaload, 1) by decide +kernel) hs hl hq.2.2.1) ?_
  refine Iff.trans (zw_aload_n (show decode cL_law 1890 = .ok (.aload_n 0, 1) by decide +kernel) rfl) ?_
  refine Iff.trans (zw_iload (show decode cL_law 1891 = .ok (.iload 4, 2) by decide +kernel) rfl) ?_
  refine Iff.trans (zw_iconst (x := 3) (show decode cL_law 1893 = .ok (.iconst 3, 1) by decide +kernel) (by decide)) ?_
  refine Iff.trans (zw_iadd (show decode cL_law 1894 = .ok (.iadd, 1) by decide +kernel)) ?_
  refine Iff.trans (zw_isl (show decode cL_law 1895 = .ok (.iaload, 1) by decide +kernel) hs hl hq.2.2.2.1) ?_
  refine Iff.trans (zw_aload_n (show decode cL_law 1896 = .ok (.aload_n 0, 1) by decide +kernel) rfl) ?_
  refine Iff.trans (zw_iload (show decode cL_law 1897 = .ok (.iload 4, 2) by decide +kernel) rfl) ?_
  refine Iff.trans (zw_iconst (x := 4) (show decode cL_law 1899 = .ok (.iconst 4, 1) by decide +kernel) (by decide)) ?_
  refine Iff.trans (zw_iadd (show decode cL_law 1900 = .ok (.iadd, 1) by decide +kernel)) ?_
  refine Iff.trans (zw_isl (show decode cL_law 1901 = .ok (.iaload, 1) by decide +kernel) hs hl hq.2.2.2.2.1) ?_
  refine Iff.trans (zw_invV (K' := kX12_duel) (as' := [.int (xs (x4 + 1 : Int32).toNatClampNeg), .int (xs (x4 + 2 : Int32).toNatClampNeg), .int (xs (x4 + 3 : Int32).toNatClampNeg), .int (xs (x4 + 4 : Int32).toNatClampNeg)]) (rest := [.int y0]) (show decode cL_law 1902 = .ok (.invokevirtual 190, 3) by decide +kernel) (by rfl) rfl rfl rfl (hl.k2 zk_131) (by decide) (hl.n2 zk_131) ⟨Nat.le_of_ble_eq_true rfl, Nat.le_of_ble_eq_true rfl, Nat.le_of_ble_eq_true rfl⟩) ?_
  exact Iff.rfl

theorem bQ_L_law_1910 {d : Nat} {σ : zS} {Q : Option Value → zS → Prop} (hl : zLay σ) {x4 : Int32} {v5 v6 : Value} {L : Nat} {xs : Nat → Int32} (hs : lwB σ L xs) (hq : lwQ L x4) (hv5 : v5.category = 1) (hv6 : v6.category = 1) : zW (d + 1) kL_law 1910 [.ref 0, .ref 1, .ref 131, .ref 164, .int x4, v5, v6] [] σ Q ↔ zCall d kX11_ladder [.ref 1, .int (xs (x4 + 1 : Int32).toNatClampNeg), .int (xs (x4 + 2 : Int32).toNatClampNeg), .int (xs (x4 + 3 : Int32).toNatClampNeg), .int (xs (x4 + 4 : Int32).toNatClampNeg)] σ (fun r σ' => zisN r = true ∧ zW (d + 1) kL_law 1938 [.ref 0, .ref 1, .ref 131, .ref 164, .int x4, v5, v6] (zRstk r ++ []) σ' Q) := by
  refine Iff.trans (zw_aload_n (show decode cL_law 1910 = .ok (.aload_n 1, 1) by decide +kernel) rfl) ?_
  refine Iff.trans (zw_aload_n (show decode cL_law 1911 = .ok (.aload_n 0, 1) by decide +kernel) rfl) ?_
  refine Iff.trans (zw_iload (show decode cL_law 1912 = .ok (.iload 4, 2) by decide +kernel) rfl) ?_
  refine Iff.trans (zw_iconst (x := 1) (show decode cL_law 1914 = .ok (.iconst 1, 1) by decide +kernel) (by decide)) ?_
  refine Iff.trans (zw_iadd (show decode cL_law 1915 = .ok (.iadd, 1) by decide +kernel)) ?_
  refine Iff.trans (zw_isl (show decode cL_law 1916 = .ok (.iaload, 1) by decide +kernel) hs hl hq.2.1) ?_
  refine Iff.trans (zw_aload_n (show decode cL_law 1917 = .ok (.aload_n 0, 1) by decide +kernel) rfl) ?_
  refine Iff.trans (zw_iload (show decode cL_law 1918 = .ok (.iload 4, 2) by decide +kernel) rfl) ?_
  refine Iff.trans (zw_iconst (x := 2) (show decode cL_law 1920 = .ok (.iconst 2, 1) by decide +kernel) (by decide)) ?_
  refine Iff.trans (zw_iadd (show decode cL_law 1921 = .ok (.iadd, 1) by decide +kernel)) ?_
  refine Iff.trans (zw_isl (show decode cL_law 1922 = .ok (.iaload, 1) by decide +kernel) hs hl hq.2.2.1) ?_
  refine Iff.trans (zw_aload_n (show decode cL_law 1923 = .ok (.aload_n 0, 1) by decide +kernel) rfl) ?_
  refine Iff.trans (zw_iload (show decode cL_law 1924 = .ok (.iload 4, 2) by decide +kernel) rfl) ?_
  refine Iff.trans (zw_iconst (x := 3) (show decode cL_law 1926 = .ok (.iconst 3, 1) by decide +kernel) (by decide)) ?_
  refine Iff.trans (zw_iadd (show decode cL_law 1927 = .ok (.iadd, 1) by decide +kernel)) ?_
  refine Iff.trans (zw_isl (show decode cL_law 1928 = .ok (.iaload, 1) by decide +kernel) hs hl hq.2.2.2.1) ?_
  refine Iff.trans (zw_aload_n (show decode cL_law 1929 = .ok (.aload_n 0, 1) by decide +kernel) rfl) ?_
  refine Iff.trans (zw_iload (show decode cL_law 1930 = .ok (.iload 4, 2) by decide +kernel) rfl) ?_
  refine Iff.trans (zw_iconst (x := 4) (show decode cL_law 1932 = .ok (.iconst 4, 1) by decide +kernel) (by decide)) ?_
  refine Iff.trans (zw_iadd (show decode cL_law 1933 = .ok (.iadd, 1) by decide +kernel)) ?_
  refine Iff.trans (zw_isl (show decode cL_law 1934 = .ok (.iaload, 1) by decide +kernel) hs hl hq.2.2.2.2.1) ?_
  refine Iff.trans (zw_invV (K' := kX11_ladder) (as' := [.int (xs (x4 + 1 : Int32).toNatClampNeg), .int (xs (x4 + 2 : Int32).toNatClampNeg), .int (xs (x4 + 3 : Int32).toNatClampNeg), .int (xs (x4 + 4 : Int32).toNatClampNeg)]) (rest := []) (show decode cL_law 1935 = .ok (.invokevirtual 191, 3) by decide +kernel) (by rfl) rfl rfl rfl (hl.k2 zk_1) (by decide) (hl.n2 zk_1) ⟨Nat.le_of_ble_eq_true rfl, Nat.le_of_ble_eq_true rfl, Nat.le_of_ble_eq_true rfl⟩) ?_
  exact Iff.rfl

theorem bQ_L_law_1938 {d : Nat} {σ : zS} {Q : Option Value → zS → Prop} (hl : zLay σ) {x4 y0 : Int32} {v5 v6 : Value} {L : Nat} {xs : Nat → Int32} (hs : lwB σ L xs) (hq : lwQ L x4) (hv5 : v5.category = 1) (hv6 : v6.category = 1) : zW (d + 1) kL_law 1938 [.ref 0, .ref 1, .ref 131, .ref 164, .int x4, v5, v6] [.int y0] σ Q ↔ zCall d kX12_ladder [.ref 131, .int (xs (x4 + 1 : Int32).toNatClampNeg), .int (xs (x4 + 2 : Int32).toNatClampNeg), .int (xs (x4 + 3 : Int32).toNatClampNeg), .int (xs (x4 + 4 : Int32).toNatClampNeg)] σ (fun r σ' => zisN r = true ∧ zW (d + 1) kL_law 1966 [.ref 0, .ref 1, .ref 131, .ref 164, .int x4, v5, v6] (zRstk r ++ [.int y0]) σ' Q) := by
  refine Iff.trans (zw_aload_n (show decode cL_law 1938 = .ok (.aload_n 2, 1) by decide +kernel) rfl) ?_
  refine Iff.trans (zw_aload_n (show decode cL_law 1939 = .ok (.aload_n 0, 1) by decide +kernel) rfl) ?_
  refine Iff.trans (zw_iload (show decode cL_law 1940 = .ok (.iload 4, 2) by decide +kernel) rfl) ?_
  refine Iff.trans (zw_iconst (x := 1) (show decode cL_law 1942 = .ok (.iconst 1, 1) by decide +kernel) (by decide)) ?_
  refine Iff.trans (zw_iadd (show decode cL_law 1943 = .ok (.iadd, 1) by decide +kernel)) ?_
  refine Iff.trans (zw_isl (show decode cL_law 1944 = .ok (.iaload, 1) by decide +kernel) hs hl hq.2.1) ?_
  refine Iff.trans (zw_aload_n (show decode cL_law 1945 = .ok (.aload_n 0, 1) by decide +kernel) rfl) ?_
  refine Iff.trans (zw_iload (show decode cL_law 1946 = .ok (.iload 4, 2) by decide +kernel) rfl) ?_
  refine Iff.trans (zw_iconst (x := 2) (show decode cL_law 1948 = .ok (.iconst 2, 1) by decide +kernel) (by decide)) ?_
  refine Iff.trans (zw_iadd (show decode cL_law 1949 = .ok (.iadd, 1) by decide +kernel)) ?_
  refine Iff.trans (zw_isl (show decode cL_law 1950 = .ok (.iaload, 1) by decide +kernel) hs hl hq.2.2.1) ?_
  refine Iff.trans (zw_aload_n (show decode cL_law 1951 = .ok (.aload_n 0, 1) by decide +kernel) rfl) ?_
  refine Iff.trans (zw_iload (show decode cL_law 1952 = .ok (.iload 4, 2) by decide +kernel) rfl) ?_
  refine Iff.trans (zw_iconst (x := 3) (show decode cL_law 1954 = .ok (.iconst 3, 1) by decide +kernel) (by decide)) ?_
  refine Iff.trans (zw_iadd (show decode cL_law 1955 = .ok (.iadd, 1) by decide +kernel)) ?_
  refine Iff.trans (zw_isl (show decode cL_law 1956 = .ok (.iaload, 1) by decide +kernel) hs hl hq.2.2.2.1) ?_
  refine Iff.trans (zw_aload_n (show decode cL_law 1957 = .ok (.aload_n 0, 1) by decide +kernel) rfl) ?_
  refine Iff.trans (zw_iload (show decode cL_law 1958 = .ok (.iload 4, 2) by decide +kernel) rfl) ?_
  refine Iff.trans (zw_iconst (x := 4) (show decode cL_law 1960 = .ok (.iconst 4, 1) by decide +kernel) (by decide)) ?_
  refine Iff.trans (zw_iadd (show decode cL_law 1961 = .ok (.iadd, 1) by decide +kernel)) ?_
  refine Iff.trans (zw_isl (show decode cL_law 1962 = .ok (.iaload, 1) by decide +kernel) hs hl hq.2.2.2.2.1) ?_
  refine Iff.trans (zw_invV (K' := kX12_ladder) (as' := [.int (xs (x4 + 1 : Int32).toNatClampNeg), .int (xs (x4 + 2 : Int32).toNatClampNeg), .int (xs (x4 + 3 : Int32).toNatClampNeg), .int (xs (x4 + 4 : Int32).toNatClampNeg)]) (rest := [.int y0]) (show decode cL_law 1963 = .ok (.invokevirtual 194, 3) by decide +kernel) (by rfl) rfl rfl rfl (hl.k2 zk_131) (by decide) (hl.n2 zk_131) ⟨Nat.le_of_ble_eq_true rfl, Nat.le_of_ble_eq_true rfl, Nat.le_of_ble_eq_true rfl⟩) ?_
  exact Iff.rfl

theorem bQ_L_law_1971 {d : Nat} {σ : zS} {Q : Option Value → zS → Prop} (hl : zLay σ) {x4 : Int32} {v5 v6 : Value} {L : Nat} {xs : Nat → Int32} (hs : lwB σ L xs) (hq : lwQ L x4) (hv5 : v5.category = 1) (hv6 : v6.category = 1) : zW (d + 1) kL_law 1971 [.ref 0, .ref 1, .ref 131, .ref 164, .int x4, v5, v6] [] σ Q ↔ zCall d kX11_reach [.ref 1, .int (xs (x4 + 1 : Int32).toNatClampNeg), .int (xs (x4 + 2 : Int32).toNatClampNeg), .int (xs (x4 + 3 : Int32).toNatClampNeg), .int (xs (x4 + 4 : Int32).toNatClampNeg), .int (xs (x4 + 5 : Int32).toNatClampNeg)] σ (fun r σ' => zisN r = true ∧ zW (d + 1) kL_law 2005 [.ref 0, .ref 1, .ref 131, .ref 164, .int x4, v5, v6] (zRstk r ++ []) σ' Q) := by
  refine Iff.trans (zw_aload_n (show decode cL_law 1971 = .ok (.aload_n 1, 1) by decide +kernel) rfl) ?_
  refine Iff.trans (zw_aload_n (show decode cL_law 1972 = .ok (.aload_n 0, 1) by decide +kernel) rfl) ?_
  refine Iff.trans (zw_iload (show decode cL_law 1973 = .ok (.iload 4, 2) by decide +kernel) rfl) ?_
  refine Iff.trans (zw_iconst (x := 1) (show decode cL_law 1975 = .ok (.iconst 1, 1) by decide +kernel) (by decide)) ?_
  refine Iff.trans (zw_iadd (show decode cL_law 1976 = .ok (.iadd, 1) by decide +kernel)) ?_
  refine Iff.trans (zw_isl (show decode cL_law 1977 = .ok (.iaload, 1) by decide +kernel) hs hl hq.2.1) ?_
  refine Iff.trans (zw_aload_n (show decode cL_law 1978 = .ok (.aload_n 0, 1) by decide +kernel) rfl) ?_
  refine Iff.trans (zw_iload (show decode cL_law 1979 = .ok (.iload 4, 2) by decide +kernel) rfl) ?_
  refine Iff.trans (zw_iconst (x := 2) (show decode cL_law 1981 = .ok (.iconst 2, 1) by decide +kernel) (by decide)) ?_
  refine Iff.trans (zw_iadd (show decode cL_law 1982 = .ok (.iadd, 1) by decide +kernel)) ?_
  refine Iff.trans (zw_isl (show decode cL_law 1983 = .ok (.iaload, 1) by decide +kernel) hs hl hq.2.2.1) ?_
  refine Iff.trans (zw_aload_n (show decode cL_law 1984 = .ok (.aload_n 0, 1) by decide +kernel) rfl) ?_
  refine Iff.trans (zw_iload (show decode cL_law 1985 = .ok (.iload 4, 2) by decide +kernel) rfl) ?_
  refine Iff.trans (zw_iconst (x := 3) (show decode cL_law 1987 = .ok (.iconst 3, 1) by decide +kernel) (by decide)) ?_
  refine Iff.trans (zw_iadd (show decode cL_law 1988 = .ok (.iadd, 1) by decide +kernel)) ?_
  refine Iff.trans (zw_isl (show decode cL_law 1989 = .ok (.iaload, 1) by decide +kernel) hs hl hq.2.2.2.1) ?_
  refine Iff.trans (zw_aload_n (show decode cL_law 1990 = .ok (.aload_n 0, 1) by decide +kernel) rfl) ?_
  refine Iff.trans (zw_iload (show decode cL_law 1991 = .ok (.iload 4, 2) by decide +kernel) rfl) ?_
  refine Iff.trans (zw_iconst (x := 4) (show decode cL_law 1993 = .ok (.iconst 4, 1) by decide +kernel) (by decide)) ?_
  refine Iff.trans (zw_iadd (show decode cL_law 1994 = .ok (.iadd, 1) by decide +kernel)) ?_
  refine Iff.trans (zw_isl (show decode cL_law 1995 = .ok (.iaload, 1) by decide +kernel) hs hl hq.2.2.2.2.1) ?_
  refine Iff.trans (zw_aload_n (show decode cL_law 1996 = .ok (.aload_n 0, 1) by decide +kernel) rfl) ?_
  refine Iff.trans (zw_iload (show decode cL_law 1997 = .ok (.iload 4, 2) by decide +kernel) rfl) ?_
  refine Iff.trans (zw_iconst (x := 5) (show decode cL_law 1999 = .ok (.iconst 5, 1) by decide +kernel) (by decide)) ?_
  refine Iff.trans (zw_iadd (show decode cL_law 2000 = .ok (.iadd, 1) by decide +kernel)) ?_
  refine Iff.trans (zw_isl (show decode cL_law 2001 = .ok (.iaload, 1) by decide +kernel) hs hl hq.2.2.2.2.2) ?_
  refine Iff.trans (zw_invV (K' := kX11_reach) (as' := [.int (xs (x4 + 1 : Int32).toNatClampNeg), .int (xs (x4 + 2 : Int32).toNatClampNeg), .int (xs (x4 + 3 : Int32).toNatClampNeg), .int (xs (x4 + 4 : Int32).toNatClampNeg), .int (xs (x4 + 5 : Int32).toNatClampNeg)]) (rest := []) (show decode cL_law 2002 = .ok (.invokevirtual 195, 3) by decide +kernel) (by rfl) rfl rfl rfl (hl.k2 zk_1) (by decide) (hl.n2 zk_1) ⟨Nat.le_of_ble_eq_true rfl, Nat.le_of_ble_eq_true rfl, Nat.le_of_ble_eq_true rfl⟩) ?_
  exact Iff.rfl

theorem bQ_L_law_2005 {d : Nat} {σ : zS} {Q : Option Value → zS → Prop} (hl : zLay σ) {x4 y0 : Int32} {v5 v6 : Value} {L : Nat} {xs : Nat → Int32} (hs : lwB σ L xs) (hq : lwQ L x4) (hv5 : v5.category = 1) (hv6 : v6.category = 1) : zW (d + 1) kL_law 2005 [.ref 0, .ref 1, .ref 131, .ref 164, .int x4, v5, v6] [.int y0] σ Q ↔ zCall d kX12_reach [.ref 131, .int (xs (x4 + 1 : Int32).toNatClampNeg), .int (xs (x4 + 2 : Int32).toNatClampNeg), .int (xs (x4 + 3 : Int32).toNatClampNeg), .int (xs (x4 + 4 : Int32).toNatClampNeg), .int (xs (x4 + 5 : Int32).toNatClampNeg)] σ (fun r σ' => zisN r = true ∧ zW (d + 1) kL_law 2039 [.ref 0, .ref 1, .ref 131, .ref 164, .int x4, v5, v6] (zRstk r ++ [.int y0]) σ' Q) := by
  refine Iff.trans (zw_aload_n (show decode cL_law 2005 = .ok (.aload_n 2, 1) by decide +kernel) rfl) ?_
  refine Iff.trans (zw_aload_n (show decode cL_law 2006 = .ok (.aload_n 0, 1) by decide +kernel) rfl) ?_
  refine Iff.trans (zw_iload (show decode cL_law 2007 = .ok (.iload 4, 2) by decide +kernel) rfl) ?_
  refine Iff.trans (zw_iconst (x := 1) (show decode cL_law 2009 = .ok (.iconst 1, 1) by decide +kernel) (by decide)) ?_
  refine Iff.trans (zw_iadd (show decode cL_law 2010 = .ok (.iadd, 1) by decide +kernel)) ?_
  refine Iff.trans (zw_isl (show decode cL_law 2011 = .ok (.iaload, 1) by decide +kernel) hs hl hq.2.1) ?_
  refine Iff.trans (zw_aload_n (show decode cL_law 2012 = .ok (.aload_n 0, 1) by decide +kernel) rfl) ?_
  refine Iff.trans (zw_iload (show decode cL_law 2013 = .ok (.iload 4, 2) by decide +kernel) rfl) ?_
  refine Iff.trans (zw_iconst (x := 2) (show decode cL_law 2015 = .ok (.iconst 2, 1) by decide +kernel) (by decide)) ?_
  refine Iff.trans (zw_iadd (show decode cL_law 2016 = .ok (.iadd, 1) by decide +kernel)) ?_
  refine Iff.trans (zw_isl (show decode cL_law 2017 = .ok (.iaload, 1) by decide +kernel) hs hl hq.2.2.1) ?_
  refine Iff.trans (zw_aload_n (show decode cL_law 2018 = .ok (.aload_n 0, 1) by decide +kernel) rfl) ?_
  refine Iff.trans (zw_iload (show decode cL_law 2019 = .ok (.iload 4, 2) by decide +kernel) rfl) ?_
  refine Iff.trans (zw_iconst (x := 3) (show decode cL_law 2021 = .ok (.iconst 3, 1) by decide +kernel) (by decide)) ?_
  refine Iff.trans (zw_iadd (show decode cL_law 2022 = .ok (.iadd, 1) by decide +kernel)) ?_
  refine Iff.trans (zw_isl (show decode cL_law 2023 = .ok (.iaload, 1) by decide +kernel) hs hl hq.2.2.2.1) ?_
  refine Iff.trans (zw_aload_n (show decode cL_law 2024 = .ok (.aload_n 0, 1) by decide +kernel) rfl) ?_
  refine Iff.trans (zw_iload (show decode cL_law 2025 = .ok (.iload 4, 2) by decide +kernel) rfl) ?_
  refine Iff.trans (zw_iconst (x := 4) (show decode cL_law 2027 = .ok (.iconst 4, 1) by decide +kernel) (by decide)) ?_
  refine Iff.trans (zw_iadd (show decode cL_law 2028 = .ok (.iadd, 1) by decide +kernel)) ?_
  refine Iff.trans (zw_isl (show decode cL_law 2029 = .ok (.iaload, 1) by decide +kernel) hs hl hq.2.2.2.2.1) ?_
  refine Iff.trans (zw_aload_n (show decode cL_law 2030 = .ok (.aload_n 0, 1) by decide +kernel) rfl) ?_
  refine Iff.trans (zw_iload (show decode cL_law 2031 = .ok (.iload 4, 2) by decide +kernel) rfl) ?_
  refine Iff.trans (zw_iconst (x := 5) (show decode cL_law 2033 = .ok (.iconst 5, 1) by decide +kernel) (by decide)) ?_
  refine Iff.trans (zw_iadd (show decode cL_law 2034 = .ok (.iadd, 1) by decide +kernel)) ?_
  refine Iff.trans (zw_isl (show decode cL_law 2035 = .ok (.iaload, 1) by decide +kernel) hs hl hq.2.2.2.2.2) ?_
  refine Iff.trans (zw_invV (K' := kX12_reach) (as' := [.int (xs (x4 + 1 : Int32).toNatClampNeg), .int (xs (x4 + 2 : Int32).toNatClampNeg), .int (xs (x4 + 3 : Int32).toNatClampNeg), .int (xs (x4 + 4 : Int32).toNatClampNeg), .int (xs (x4 + 5 : Int32).toNatClampNeg)]) (rest := [.int y0]) (show decode cL_law 2036 = .ok (.invokevirtual 198, 3) by decide +kernel) (by rfl) rfl rfl rfl (hl.k2 zk_131) (by decide) (hl.n2 zk_131) ⟨Nat.le_of_ble_eq_true rfl, Nat.le_of_ble_eq_true rfl, Nat.le_of_ble_eq_true rfl⟩) ?_
  exact Iff.rfl

theorem bQ_L_law_2044 {d : Nat} {σ : zS} {Q : Option Value → zS → Prop} (hl : zLay σ) {x4 : Int32} {v5 v6 : Value} {L : Nat} {xs : Nat → Int32} (hs : lwB σ L xs) (hq : lwQ L x4) (hv5 : v5.category = 1) (hv6 : v6.category = 1) : zW (d + 1) kL_law 2044 [.ref 0, .ref 1, .ref 131, .ref 164, .int x4, v5, v6] [] σ Q ↔ zCall d kX11_close [.ref 1, .int (xs (x4 + 1 : Int32).toNatClampNeg)] σ (fun r σ' => zisN r = true ∧ zW (d + 1) kL_law 2054 [.ref 0, .ref 1, .ref 131, .ref 164, .int x4, v5, v6] (zRstk r ++ []) σ' Q) := by
  refine Iff.trans (zw_aload_n (show decode cL_law 2044 = .ok (.aload_n 1, 1) by decide +kernel) rfl) ?_
  refine Iff.trans (zw_aload_n (show decode cL_law 2045 = .ok (.aload_n 0, 1) by decide +kernel) rfl) ?_
  refine Iff.trans (zw_iload (show decode cL_law 2046 = .ok (.iload 4, 2) by decide +kernel) rfl) ?_
  refine Iff.trans (zw_iconst (x := 1) (show decode cL_law 2048 = .ok (.iconst 1, 1) by decide +kernel) (by decide)) ?_
  refine Iff.trans (zw_iadd (show decode cL_law 2049 = .ok (.iadd, 1) by decide +kernel)) ?_
  refine Iff.trans (zw_isl (show decode cL_law 2050 = .ok (.iaload, 1) by decide +kernel) hs hl hq.2.1) ?_
  refine Iff.trans (zw_invV (K' := kX11_close) (as' := [.int (xs (x4 + 1 : Int32).toNatClampNeg)]) (rest := []) (show decode cL_law 2051 = .ok (.invokevirtual 199, 3) by decide +kernel) (by rfl) rfl rfl rfl (hl.k2 zk_1) (by decide) (hl.n2 zk_1) ⟨Nat.le_of_ble_eq_true rfl, Nat.le_of_ble_eq_true rfl, Nat.le_of_ble_eq_true rfl⟩) ?_
  exact Iff.rfl

theorem bQ_L_law_2054 {d : Nat} {σ : zS} {Q : Option Value → zS → Prop} (hl : zLay σ) {x4 y0 : Int32} {v5 v6 : Value} {L : Nat} {xs : Nat → Int32} (hs : lwB σ L xs) (hq : lwQ L x4) (hv5 : v5.category = 1) (hv6 : v6.category = 1) : zW (d + 1) kL_law 2054 [.ref 0, .ref 1, .ref 131, .ref 164, .int x4, v5, v6] [.int y0] σ Q ↔ zCall d kX12_close [.ref 131, .int (xs (x4 + 1 : Int32).toNatClampNeg)] σ (fun r σ' => zisN r = true ∧ zW (d + 1) kL_law 2064 [.ref 0, .ref 1, .ref 131, .ref 164, .int x4, v5, v6] (zRstk r ++ [.int y0]) σ' Q) := by
  refine Iff.trans (zw_aload_n (show decode cL_law 2054 = .ok (.aload_n 2, 1) by decide +kernel) rfl) ?_
  refine Iff.trans (zw_aload_n (show decode cL_law 2055 = .ok (.aload_n 0, 1) by decide +kernel) rfl) ?_
  refine Iff.trans (zw_iload (show decode cL_law 2056 = .ok (.iload 4, 2) by decide +kernel) rfl) ?_
  refine Iff.trans (zw_iconst (x := 1) (show decode cL_law 2058 = .ok (.iconst 1, 1) by decide +kernel) (by decide)) ?_
  refine Iff.trans (zw_iadd (show decode cL_law 2059 = .ok (.iadd, 1) by decide +kernel)) ?_
  refine Iff.trans (zw_isl (show decode cL_law 2060 = .ok (.iaload, 1) by decide +kernel) hs hl hq.2.1) ?_
  refine Iff.trans (zw_invV (K' := kX12_close) (as' := [.int (xs (x4 + 1 : Int32).toNatClampNeg)]) (rest := [.int y0]) (show decode cL_law 2061 = .ok (.invokevirtual 202, 3) by decide +kernel) (by rfl) rfl rfl rfl (hl.k2 zk_131) (by decide) (hl.n2 zk_131) ⟨Nat.le_of_ble_eq_true rfl, Nat.le_of_ble_eq_true rfl, Nat.le_of_ble_eq_true rfl⟩) ?_
  exact Iff.rfl

theorem bQ_L_law_2069 {d : Nat} {σ : zS} {Q : Option Value → zS → Prop} (hl : zLay σ) {x4 : Int32} {v5 v6 : Value} {L : Nat} {xs : Nat → Int32} (hs : lwB σ L xs) (hq : lwQ L x4) (hv5 : v5.category = 1) (hv6 : v6.category = 1) : zW (d + 1) kL_law 2069 [.ref 0, .ref 1, .ref 131, .ref 164, .int x4, v5, v6] [] σ Q ↔ zCall d kX11_count [.ref 1, .int (xs (x4 + 1 : Int32).toNatClampNeg)] σ (fun r σ' => zisN r = true ∧ zW (d + 1) kL_law 2079 [.ref 0, .ref 1, .ref 131, .ref 164, .int x4, v5, v6] (zRstk r ++ []) σ' Q) := by
  refine Iff.trans (zw_aload_n (show decode cL_law 2069 = .ok (.aload_n 1, 1) by decide +kernel) rfl) ?_
  refine Iff.trans (zw_aload_n (show decode cL_law 2070 = .ok (.aload_n 0, 1) by decide +kernel) rfl) ?_
  refine Iff.trans (zw_iload (show decode cL_law 2071 = .ok (.iload 4, 2) by decide +kernel) rfl) ?_
  refine Iff.trans (zw_iconst (x := 1) (show decode cL_law 2073 = .ok (.iconst 1, 1) by decide +kernel) (by decide)) ?_
  refine Iff.trans (zw_iadd (show decode cL_law 2074 = .ok (.iadd, 1) by decide +kernel)) ?_
  refine Iff.trans (zw_isl (show decode cL_law 2075 = .ok (.iaload, 1) by decide +kernel) hs hl hq.2.1) ?_
  refine Iff.trans (zw_invV (K' := kX11_count) (as' := [.int (xs (x4 + 1 : Int32).toNatClampNeg)]) (rest := []) (show decode cL_law 2076 = .ok (.invokevirtual 203, 3) by decide +kernel) (by rfl) rfl rfl rfl (hl.k2 zk_1) (by decide) (hl.n2 zk_1) ⟨Nat.le_of_ble_eq_true rfl, Nat.le_of_ble_eq_true rfl, Nat.le_of_ble_eq_true rfl⟩) ?_
  exact Iff.rfl

theorem bQ_L_law_2079 {d : Nat} {σ : zS} {Q : Option Value → zS → Prop} (hl : zLay σ) {x4 y0 : Int32} {v5 v6 : Value} {L : Nat} {xs : Nat → Int32} (hs : lwB σ L xs) (hq : lwQ L x4) (hv5 : v5.category = 1) (hv6 : v6.category = 1) : zW (d + 1) kL_law 2079 [.ref 0, .ref 1, .ref 131, .ref 164, .int x4, v5, v6] [.int y0] σ Q ↔ zCall d kX12_count [.ref 131, .int (xs (x4 + 1 : Int32).toNatClampNeg)] σ (fun r σ' => zisN r = true ∧ zW (d + 1) kL_law 2089 [.ref 0, .ref 1, .ref 131, .ref 164, .int x4, v5, v6] (zRstk r ++ [.int y0]) σ' Q) := by
  refine Iff.trans (zw_aload_n (show decode cL_law 2079 = .ok (.aload_n 2, 1) by decide +kernel) rfl) ?_
  refine Iff.trans (zw_aload_n (show decode cL_law 2080 = .ok (.aload_n 0, 1) by decide +kernel) rfl) ?_
  refine Iff.trans (zw_iload (show decode cL_law 2081 = .ok (.iload 4, 2) by decide +kernel) rfl) ?_
  refine Iff.trans (zw_iconst (x := 1) (show decode cL_law 2083 = .ok (.iconst 1, 1) by decide +kernel) (by decide)) ?_
  refine Iff.trans (zw_iadd (show decode cL_law 2084 = .ok (.iadd, 1) by decide +kernel)) ?_
  refine Iff.trans (zw_isl (show decode cL_law 2085 = .ok (.iaload, 1) by decide +kernel) hs hl hq.2.1) ?_
  refine Iff.trans (zw_invV (K' := kX12_count) (as' := [.int (xs (x4 + 1 : Int32).toNatClampNeg)]) (rest := [.int y0]) (show decode cL_law 2086 = .ok (.invokevirtual 206, 3) by decide +kernel) (by rfl) rfl rfl rfl (hl.k2 zk_131) (by decide) (hl.n2 zk_131) ⟨Nat.le_of_ble_eq_true rfl, Nat.le_of_ble_eq_true rfl, Nat.le_of_ble_eq_true rfl⟩) ?_
  exact Iff.rfl

