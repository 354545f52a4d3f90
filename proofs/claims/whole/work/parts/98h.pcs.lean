/-! how many bits: of sets of twelve, of fifteen pairs -/
def pn1 (m : Nat) : Nat := Nat.mod (Nat.add (Nat.sub 4294967296 (Nat.land (Nat.shiftRight m 1) 1431655765)) m) 4294967296
def pn2 (m : Nat) : Nat := Nat.mod (Nat.add (Nat.land m 858993459) (Nat.land (Nat.shiftRight m 2) 858993459)) 4294967296
def pn3 (m : Nat) : Nat := Nat.land (Nat.mod (Nat.add m (Nat.shiftRight m 4)) 4294967296) 252645135
def pn4 (m : Nat) : Nat := Nat.mod (Nat.add m (Nat.shiftRight m 8)) 4294967296
def pn5 (m : Nat) : Nat := Nat.mod (Nat.add m (Nat.shiftRight m 16)) 4294967296
def pcN (m : Nat) : Nat := Nat.land (pn5 (pn4 (pn3 (pn2 (pn1 m))))) 63
theorem pcS_1 (x : Int32) : (pcS x 1).toBitVec.toNat = Nat.shiftRight x.toBitVec.toNat 1 := by
  have e : (pcS x 1).toBitVec = x.toBitVec >>> (1 : Nat) := rfl
  rw [e, BitVec.toNat_ushiftRight]; rfl
theorem pcS_2 (x : Int32) : (pcS x 2).toBitVec.toNat = Nat.shiftRight x.toBitVec.toNat 2 := by
  have e : (pcS x 2).toBitVec = x.toBitVec >>> (2 : Nat) := rfl
  rw [e, BitVec.toNat_ushiftRight]; rfl
theorem pcS_4 (x : Int32) : (pcS x 4).toBitVec.toNat = Nat.shiftRight x.toBitVec.toNat 4 := by
  have e : (pcS x 4).toBitVec = x.toBitVec >>> (4 : Nat) := rfl
  rw [e, BitVec.toNat_ushiftRight]; rfl
theorem pcS_8 (x : Int32) : (pcS x 8).toBitVec.toNat = Nat.shiftRight x.toBitVec.toNat 8 := by
  have e : (pcS x 8).toBitVec = x.toBitVec >>> (8 : Nat) := rfl
  rw [e, BitVec.toNat_ushiftRight]; rfl
theorem pcS_16 (x : Int32) : (pcS x 16).toBitVec.toNat = Nat.shiftRight x.toBitVec.toNat 16 := by
  have e : (pcS x 16).toBitVec = x.toBitVec >>> (16 : Nat) := rfl
  rw [e, BitVec.toNat_ushiftRight]; rfl
theorem pc1_N (x : Int32) : (pc1 x).toBitVec.toNat = pn1 x.toBitVec.toNat := by
  unfold pc1 pn1
  rw [Int32.toBitVec_sub, BitVec.toNat_sub, Int32.toBitVec_and, BitVec.toNat_and, pcS_1]
  rfl
theorem pc2_N (x : Int32) : (pc2 x).toBitVec.toNat = pn2 x.toBitVec.toNat := by
  unfold pc2 pn2
  rw [Int32.toBitVec_add, BitVec.toNat_add, Int32.toBitVec_and, BitVec.toNat_and, Int32.toBitVec_and, BitVec.toNat_and, pcS_2]
  rfl
theorem pc3_N (x : Int32) : (pc3 x).toBitVec.toNat = pn3 x.toBitVec.toNat := by
  unfold pc3 pn3
  rw [Int32.toBitVec_and, BitVec.toNat_and, Int32.toBitVec_add, BitVec.toNat_add, pcS_4]
  rfl
theorem pc4_N (x : Int32) : (pc4 x).toBitVec.toNat = pn4 x.toBitVec.toNat := by
  unfold pc4 pn4
  rw [Int32.toBitVec_add, BitVec.toNat_add, pcS_8]
  rfl
theorem pc5_N (x : Int32) : (pc5 x).toBitVec.toNat = pn5 x.toBitVec.toNat := by
  unfold pc5 pn5
  rw [Int32.toBitVec_add, BitVec.toNat_add, pcS_16]
  rfl
theorem pc_N (x : Int32) : (pc x).toBitVec.toNat = pcN x.toBitVec.toNat := by
  unfold pc pcN
  rw [Int32.toBitVec_and, BitVec.toNat_and, pc5_N, pc4_N, pc3_N, pc2_N, pc1_N]
  rfl
theorem pcN_b (m : Nat) : pcN m ≤ 63 := Nat.and_le_right
theorem nI_bv {m : Nat} (h : m < 2147483648) : (nI m).toBitVec.toNat = m := by
  have e : (nI m).toBitVec = BitVec.ofNat 32 m := rfl
  rw [e, BitVec.toNat_ofNat]
  exact Nat.mod_eq_of_lt (by omega)
theorem pc_n {m : Nat} (h : m < 2147483648) : pc (nI m) = nI (pcN m) := by
  have e := pc_N (nI m)
  rw [nI_bv h] at e
  have b := pcN_b m
  refine zint ?_
  rw [ai_n (by omega)]
  have e2 : (pc (nI m)).toInt = ((pc (nI m)).toBitVec.toNat : Int) := BitVec.toInt_eq_toNat_of_lt (by omega)
  rw [e2, e]
def cS (m : Nat) : Nat := Nat.add (Nat.add (Nat.add (Nat.add (Nat.land (Nat.shiftRight m 0) 1) (Nat.land (Nat.shiftRight m 1) 1)) (Nat.add (Nat.land (Nat.shiftRight m 2) 1) (Nat.land (Nat.shiftRight m 3) 1))) (Nat.add (Nat.add (Nat.land (Nat.shiftRight m 4) 1) (Nat.land (Nat.shiftRight m 5) 1)) (Nat.add (Nat.land (Nat.shiftRight m 6) 1) (Nat.land (Nat.shiftRight m 7) 1)))) (Nat.add (Nat.add (Nat.add (Nat.land (Nat.shiftRight m 8) 1) (Nat.land (Nat.shiftRight m 9) 1)) (Nat.add (Nat.land (Nat.shiftRight m 10) 1) (Nat.land (Nat.shiftRight m 11) 1))) (Nat.add (Nat.add (Nat.land (Nat.shiftRight m 12) 1) (Nat.land (Nat.shiftRight m 13) 1)) (Nat.land (Nat.shiftRight m 14) 1)))
theorem bt_n {m k : Nat} (hk : k < 32) : bt (nI m) k = m.testBit k := by
  unfold bt
  have e : (nI m).toBitVec = BitVec.ofNat 32 m := rfl
  rw [e, BitVec.getLsbD_ofNat, decide_eq_true hk]
  rfl
theorem bit_n {m k : Nat} (hk : k < 32) : (if bt (nI m) k = true then 1 else 0) = Nat.land (Nat.shiftRight m k) 1 := by
  have e : Nat.land (Nat.shiftRight m k) 1 = m / 2 ^ k % 2 := by
    show (m >>> k) &&& 1 = _
    rw [Nat.and_one_is_mod, Nat.shiftRight_eq_div_pow]
  rw [bt_n hk, e, Nat.testBit_eq_decide_div_mod_eq]
  have h2 : m / 2 ^ k % 2 < 2 := Nat.mod_lt _ (by decide)
  by_cases q : m / 2 ^ k % 2 = 1
  · rw [if_pos (decide_eq_true q), q]
  · rw [if_neg (by rw [decide_eq_true_iff]; exact q)]
    omega
theorem cS_n (m : Nat) : cnt (bt (nI m)) 15 = cS m := by
  have u : ∀ n, n < 15 → cnt (bt (nI m)) (n + 1) = cnt (bt (nI m)) n + Nat.land (Nat.shiftRight m n) 1 := fun n hn => by
    rw [← bit_n (show n < 32 by omega)]
    rfl
  have z : cnt (bt (nI m)) 0 = 0 := rfl
  rw [u 14 (by omega), u 13 (by omega), u 12 (by omega), u 11 (by omega), u 10 (by omega), u 9 (by omega), u 8 (by omega), u 7 (by omega), u 6 (by omega), u 5 (by omega), u 4 (by omega), u 3 (by omega), u 2 (by omega), u 1 (by omega), u 0 (by omega), z]
  unfold cS
  simp only [Nat.add_eq]
  omega
theorem pc_15a : ∀ a, a < 32 → ∀ b, b < 32 → ∀ c, c < 32 → pcN (1024 * a + 32 * b + c) = cS (1024 * a + 32 * b + c) := by decide +kernel
theorem pc_15 {m : Nat} (h : m < 32768) : pc (nI m) = nI (cnt (bt (nI m)) 15) := by
  have z := pc_15a (m / 1024) (by omega) (m / 32 % 32) (by omega) (m % 32) (by omega)
  rw [show 1024 * (m / 1024) + 32 * (m / 32 % 32) + m % 32 = m by omega] at z
  rw [pc_n (by omega), z, cS_n]
theorem b_15 : ∀ i, i < 32 → bt 32767 i = decide (i < 15) := by decide +kernel
theorem bt_small15 {x : Int32} (h : ∀ k, k < 32 → bt x k = true → k < 15) : ∃ m, m < 32768 ∧ x = nI m := by
  have e : x &&& 32767 = x := b_ext (fun i hi => by
    rw [b_and, b_15 i hi]
    by_cases q : bt x i = true
    · rw [q, decide_eq_true (h i hi q)]; rfl
    · have q2 : bt x i = false := by
        cases hb : bt x i
        · rfl
        · exact absurd hb q
      rw [q2]; rfl)
  have hn : x.toBitVec.toNat ≤ 32767 := by
    rw [← e, Int32.toBitVec_and, BitVec.toNat_and]
    exact Nat.and_le_right
  have et : x.toInt = (x.toBitVec.toNat : Int) := BitVec.toInt_eq_toNat_of_lt (by omega)
  exact ⟨x.toBitVec.toNat, by omega, zint (by rw [et, ai_n (by omega)])⟩
theorem pc_t {x : Int32} (h : ∀ k, k < 32 → bt x k = true → k < 15) : pc x = nI (cnt (bt x) 15) := by
  obtain ⟨m, hm, e⟩ := bt_small15 h
  rw [e]
  exact pc_15 hm
theorem pc_lta : ∀ n : Nat, n < 13 → ∀ a, a < 64 → ∀ b, b < 64 → 64 * a + b < 2 ^ n - 1 → pcN (64 * a + b) < n := by decide +kernel
theorem pow_b : ∀ n : Nat, n < 13 → 1 ≤ 2 ^ n ∧ 2 ^ n ≤ 4096 := by decide +kernel
theorem pc_fulla : ∀ n : Nat, n < 13 → pcN (2 ^ n - 1) = n := by decide +kernel
theorem pc_full (n : Nat) (hn : n < 13) : (pc (nI (2 ^ n - 1))).toInt = (n : Int) := by
  have p := pow_b n hn
  rw [pc_n (by omega), pc_fulla n hn, ai_n (by omega)]
theorem pc_lt {n m : Nat} (hn : n < 13) (hm : m < 2 ^ n - 1) : (pc (nI m)).toInt < (n : Int) := by
  have p := pow_b n hn
  have z := pc_lta n hn (m / 64) (by omega) (m % 64) (by omega)
  rw [show 64 * (m / 64) + m % 64 = m by omega] at z
  have z2 := z hm
  have b := pcN_b m
  rw [pc_n (by omega), ai_n (by omega)]
  omega
theorem pc_b {m : Nat} (hm : m < 4096) : 0 ≤ (pc (nI m)).toInt ∧ (pc (nI m)).toInt ≤ 12 := by
  constructor
  · rw [pc_15 (by omega)]
    have := cnt_b (f := bt (nI m)) 15
    rw [ai_n (by omega)]
    omega
  · by_cases e : m < 2 ^ 12 - 1
    · have := pc_lt (n := 12) (by decide) e
      omega
    · have e2 : m = 2 ^ 12 - 1 := by
        have : (2 : Nat) ^ 12 = 4096 := by decide
        omega
      rw [e2]
      exact Int.le_of_eq (pc_full 12 (by decide))
