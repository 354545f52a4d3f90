/-! the verb feed: bytes -/
theorem s_u : ∀ n, n < 32 → (((nI n).toUInt32 &&& Int32.toUInt32 31).toBitVec % 32).toNat = n := by decide +kernel
theorem b_ushr (n : Nat) (hn : n < 32) (x : Int32) {i : Nat} : bt ((x.toUInt32 >>> ((nI n).toUInt32 &&& Int32.toUInt32 31)).toInt32) i = bt x (n + i) := by
  unfold bt
  show (x.toUInt32 >>> ((nI n).toUInt32 &&& Int32.toUInt32 31)).toBitVec.getLsbD i = _
  rw [UInt32.toBitVec_shiftRight]
  show (x.toBitVec >>> (((nI n).toUInt32 &&& Int32.toUInt32 31).toBitVec % 32).toNat).getLsbD i = _
  rw [s_u n hn, BitVec.getLsbD_ushiftRight]
theorem b_255 : ∀ i, i < 32 → bt 255 i = decide (i < 8) := by decide +kernel
theorem b_nar (x : Int32) {i : Nat} (hi : i < 8) : bt (x.toInt8.toInt32) i = bt x i := by
  unfold bt
  rw [Int8.toBitVec_toInt32, Int32.toBitVec_toInt8, BitVec.getLsbD_signExtend, BitVec.getLsbD_signExtend, if_pos hi, if_pos (show i < 32 by omega), decide_eq_true hi, decide_eq_true (show i < 32 by omega), Bool.true_and, Bool.true_and]
/-- a byte of a number -/
def yB (x : Int32) (s : Nat) : Int32 := (x >>> (nI s &&& 31)) &&& 255
theorem yB_u {x : Int32} {s : Nat} (hs : s ≤ 24) : (x.toUInt32 >>> ((nI s).toUInt32 &&& Int32.toUInt32 31)).toInt32 &&& 255 = yB x s := by
  unfold yB
  refine b_ext (fun i hi => ?_)
  rw [b_and, b_and, b_255 i hi, b_ushr s (by omega), b_sshr s (by omega) x hi]
  by_cases e : i < 8
  · rw [if_pos (by omega)]
  · rw [decide_eq_false e, Bool.and_false, Bool.and_false]
theorem yB_n {x : Int32} : vp_nar (zAty 13) (x.toInt8.toInt32) &&& 255 = x &&& 255 := by
  show (x.toInt8.toInt32).toInt8.toInt32 &&& 255 = x &&& 255
  refine b_ext (fun i hi => ?_)
  rw [b_and, b_and, b_255 i hi]
  by_cases e : i < 8
  · rw [b_nar _ e, b_nar _ e]
  · rw [decide_eq_false e, Bool.and_false, Bool.and_false]
theorem and255 (x : Int32) : 0 ≤ (x &&& 255).toInt ∧ (x &&& 255).toInt ≤ 255 := by
  have h : (x &&& 255).toBitVec.toNat ≤ 255 := by
    rw [Int32.toBitVec_and, BitVec.toNat_and]
    exact Nat.and_le_right
  have e : (x &&& 255).toInt = ((x &&& 255).toBitVec.toNat : Int) := BitVec.toInt_eq_toNat_of_lt (by omega)
  rw [e]
  omega
theorem yB_b {x : Int32} {s : Nat} : 0 ≤ (yB x s).toInt ∧ (yB x s).toInt ≤ 255 := and255 _
def yZ (x : Int32) (s : Nat) : Nat := if yB x s = 0 then 0 else 1
def yN (x : Int32) : Nat := yZ x 0 + yZ x 8 + yZ x 16 + yZ x 24
theorem yZ_b {x : Int32} {s : Nat} : yZ x s ≤ 1 := by unfold yZ; split <;> omega
theorem yN_b {x : Int32} : yN x ≤ 4 := by
  have a := yZ_b (x := x) (s := 0)
  have b := yZ_b (x := x) (s := 8)
  have c := yZ_b (x := x) (s := 16)
  have d := yZ_b (x := x) (s := 24)
  unfold yN
  omega
section BYTES
variable {d : Nat} {Q : Option Value → zS → Prop} {σ : zS}
theorem p_bi {x : Int32} {c s : Nat} (hl : zLay σ) (hs : s ≤ 24) (h : zW d kX8_bytesIn 4 [.int x, .int (nI (c + yZ x s)), .int (nI (s + 8))] [] σ Q) : zW d kX8_bytesIn 4 [.int x, .int (nI c), .int (nI s)] [] σ Q := by
  refine (bX8_bytesIn_4 hl).mpr (zle' (show (32 : Int32).toInt = 32 from rfl) (ai_n (by omega)) (fun q => by omega) (fun _ => ?_))
  rw [yB_u hs, show (nI s + 8 : Int32) = nI (s + 8) from nI_add _ _, nI_1]
  unfold yZ at h
  by_cases q : yB x s = 0
  · rw [if_pos q] at h ⊢; exact h
  · rw [if_neg q] at h ⊢; exact h
theorem p_bytesIn {x : Int32} (hl : zLay σ) (h : Q (some (.int (nI (yN x)))) σ) : zCall d kX8_bytesIn [.int x] σ Q := by
  refine (bX8_bytesIn_0 hl).mpr (p_bi (c := 0) (s := 0) hl (by omega) (p_bi hl (by omega) (p_bi hl (by omega) (p_bi hl (by omega) ((bX8_bytesIn_4 hl).mpr (zle' (show (32 : Int32).toInt = 32 from rfl) (ai_n (by omega)) (fun _ => ?_) (fun q => by omega)))))))
  rw [Nat.zero_add]
  exact h
theorem nI_m8 {s : Nat} (h : 8 ≤ s) (h2 : s ≤ 24) : (nI s + (-8) : Int32) = nI (s - 8) := zint (by
  rw [zadd (ai_n (by omega)) (show (-8 : Int32).toInt = -8 by decide +kernel) (by omega) (by omega), ai_n (by omega)]
  omega)
theorem m_bi {x : Int32} {c s : Nat} (hl : zLay σ) (hs : s ≤ 24) (h : zW d kX12_bytesIn 5 [.int x, .int (nI (c + yZ x s)), .int (nI s + (-8))] [] σ Q) : zW d kX12_bytesIn 5 [.int x, .int (nI c), .int (nI s)] [] σ Q := by
  refine (bX12_bytesIn_5 hl).mpr (zlt' (ai_n (by omega)) k0 (fun q => by omega) (fun _ => ?_))
  rw [nI_1]
  show if yB x s = 0 then _ else _
  unfold yZ at h
  by_cases q : yB x s = 0
  · rw [if_pos q] at h ⊢; rw [Int32.add_zero]; exact h
  · rw [if_neg q] at h ⊢; exact h
theorem m_bytesIn {x : Int32} (hl : zLay σ) (h : Q (some (.int (nI (yN x)))) σ) : zCall d kX12_bytesIn [.int x] σ Q := by
  refine (bX12_bytesIn_0 hl).mpr (m_bi (c := 0) (s := 24) hl (by omega) ?_)
  rw [nI_m8 (by omega) (by omega)]
  refine m_bi hl (by omega) ?_
  rw [nI_m8 (by omega) (by omega)]
  refine m_bi hl (by omega) ?_
  rw [nI_m8 (by omega) (by omega)]
  refine m_bi hl (by omega) ((bX12_bytesIn_5 hl).mpr (zlt' (show (nI 0 + (-8) : Int32).toInt = -8 by decide +kernel) k0 (fun _ => ?_) (fun q => by omega)))
  have e : 0 + yZ x 24 + yZ x 16 + yZ x 8 + yZ x 0 = yN x := by unfold yN; omega
  rw [show 0 + yZ x 24 + yZ x (24 - 8) + yZ x (24 - 8 - 8) + yZ x (24 - 8 - 8 - 8) = 0 + yZ x 24 + yZ x 16 + yZ x 8 + yZ x 0 from rfl, e]
  exact h
end BYTES
