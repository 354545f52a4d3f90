/-! the call same -/
theorem a_or8 {a b : Nat} (hb : b < 8) (ha : a < 134217728) : nI (8 * a) ||| nI b = nI (8 * a + b) := by
  apply Int32.toBitVec_inj.mp
  apply BitVec.eq_of_toNat_eq
  rw [Int32.toBitVec_or, BitVec.toNat_or]
  show ((8 * a) % 2 ^ 32 ||| b % 2 ^ 32) = (8 * a + b) % 2 ^ 32
  rw [Nat.mod_eq_of_lt (by omega), Nat.mod_eq_of_lt (by omega), Nat.mod_eq_of_lt (by omega)]
  exact (Nat.two_pow_add_eq_or_of_lt (i := 3) hb a).symm
theorem a_shl3 {a : Nat} (ha : a < 134217728) : nI a <<< ((3 : Int32) &&& 31) = nI (8 * a) := by
  rw [pk_shlN (n := a) ((3 : Int32) &&& 31) 3 (by decide) (by omega), Nat.mul_comm]
def aCd (n : Nat) (F : aFn) : Nat → Nat
  | 0 => 0
  | i + 1 => 8 * aCd n F i + (aPl n F i).toNat
theorem aCd_b {n : Nat} {F : aFn} (h : ∀ r, r < n → 0 ≤ aPl n F r ∧ aPl n F r ≤ 6) : ∀ i, i ≤ n → aCd n F i < 8 ^ i
  | 0, _ => by unfold aCd; omega
  | i + 1, hi => by
    have z := aCd_b h i (by omega)
    have p := h i (by omega)
    unfold aCd
    rw [Nat.pow_succ]
    omega
theorem aCd_i {n : Nat} {F F' : aFn} (h : ∀ r, r < n → 0 ≤ aPl n F r ∧ aPl n F r ≤ 6) (h' : ∀ r, r < n → 0 ≤ aPl n F' r ∧ aPl n F' r ≤ 6) : ∀ i, i ≤ n → (aCd n F i = aCd n F' i ↔ ∀ r, r < i → aPl n F r = aPl n F' r)
  | 0, _ => ⟨fun _ r hr => by omega, fun _ => rfl⟩
  | i + 1, hi => by
    have z := aCd_i h h' i (by omega)
    have p := h i (by omega)
    have p' := h' i (by omega)
    have e1 : aCd n F (i + 1) = 8 * aCd n F i + (aPl n F i).toNat := rfl
    have e2 : aCd n F' (i + 1) = 8 * aCd n F' i + (aPl n F' i).toNat := rfl
    rw [e1, e2]
    constructor
    · intro q r hr
      have a1 : aCd n F i = aCd n F' i := by omega
      rcases Nat.lt_or_ge r i with h1 | h1
      · exact z.mp a1 r h1
      · obtain rfl : r = i := by omega
        omega
    · intro q
      have a1 := z.mpr (fun r hr => q r (by omega))
      have a2 := q i (by omega)
      rw [a1, a2]
def aHg (W : aWx) (v : Int) : aWx := (W.1, v, W.2.2)
theorem aHg_ok {W : aWx} {v : Int} (h : aWok W) (hv : 0 ≤ v ∧ v ≤ 3) : aWok (aHg W v) := ⟨h.1, h.2.1, hv.1, hv.2, h.2.2.2.2.1, h.2.2.2.2.2⟩
noncomputable def aEq (n : Nat) (F F' : aFn) : Int := zif (∀ r, r < n → aPl n F r = aPl n F' r) 1 0
theorem aEq_b {n : Nat} {F F' : aFn} : 0 ≤ aEq n F F' ∧ aEq n F F' ≤ 1 := by
  unfold aEq
  by_cases c : ∀ r, r < n → aPl n F r = aPl n F' r
  · rw [zif_t c]; omega
  · rw [zif_f c]; omega
section PLW
variable {d : Nat} {Q : Option Value → zS → Prop}
theorem p_code_l {σ : zS} {n w : Nat} {F : aFn} {B : aBk} {W : aWx} {x1 x2 : Int32} (C : pCx σ 60 n B W w) (hF : pF σ 60 n = F) (hok : ∀ r, r < n → aFok B F r) :
    ∀ (m i : Nat), n - i = m → i ≤ n → Q (some (.int (nI (aCd n F n)))) σ → zW (d + 2) kX11_placesWith 63 [.ref 1, .int x1, .int x2, .int (nI (aCd n F i)), .int (nI i)] [] σ Q := by
  have hn := C.2.2.2.1
  have hp : ∀ r, r < n → 0 ≤ aPl n F r ∧ aPl n F r ≤ 6 := fun r hr => aPl_b hn (hok r hr)
  intro m
  induction m with
  | zero =>
    intro i hm hi h
    have e : i = n := by omega
    subst e
    exact (bX11_placesWith_63 C.1).mpr (zle' (zto C.2.2.2.2.1 (ai_n (by omega))) (ai_n (by omega)) (fun _ => h) (fun q => by omega))
  | succ m ih =>
    intro i hm hi h
    have hin : i < n := by omega
    have hb := aCd_b hp i (by omega)
    have h8 : 8 ^ i ≤ 8 ^ 5 := Nat.pow_le_pow_right (by omega) (by omega)
    have hpi := hp i hin
    refine (bX11_placesWith_63 C.1).mpr (zle' (zto C.2.2.2.2.1 (ai_n (by omega))) (ai_n (by omega)) (fun q => by omega) (fun _ => p_placeOf C hF hin (hok i hin).2.2.2.2.2.2.2.2.1 (fun v hv => ⟨rfl, (bX11_placesWith_87 C.1).mpr ?_⟩)))
    have ev : v = nI (aPl n F i).toNat := zint (by rw [hv, ai_n (by omega)]; omega)
    rw [ev, a_shl3 (by omega), a_or8 (by omega) (by omega), nI_1]
    exact ih (i + 1) (by omega) (by omega) h
theorem p_placesWith {σ : zS} {n b k : Nat} {a : Int32} {F : aFn} {B : aBk} {W : aWx} (T : pTd σ 60 n b F) (g : pBk σ b B) (hB : aBok B) (hst : ∀ r, r < n → aFst B F r) (eW : (zI σ 10 0).toInt = W.1 ∧ (zI σ 10 1).toInt = W.2.1 ∧ (zI σ 10 2).toInt = W.2.2) (hW : aWok W) (ha : 0 ≤ a.toInt ∧ a.toInt ≤ 3)
    (h : ∀ σ', pTd σ' 60 n b F → pBk σ' b B → zFr pWz σ σ' → Q (some (.int (nI (aCd n (aR B (aHg W a.toInt) n F k) n)))) σ') : zCall (d + 5) kX11_placesWith [.ref 1, .int a, .int (nI k)] σ Q := by
  have n6 := T.2.2.1
  have gb := g.1
  have hW' := aHg_ok hW ha
  refine (bX11_placesWith_0 T.1).mpr ?_
  have f1 : zFr (fun j c _ => j = 0 ∧ c = 11) σ (zsI σ 11 (upd (upd (upd (zI σ 11) 0 (zI σ 10 0)) 2 (zI σ 10 2)) 1 a)) := zFr_I (fun k => Or.inl ⟨rfl, rfl⟩)
  have l1 : zLay (zsI σ 11 (upd (upd (upd (zI σ 11) 0 (zI σ 10 0)) 2 (zI σ 10 2)) 1 a)) := T.1.I
  have v0 : zI (zsI σ 11 (upd (upd (upd (zI σ 11) 0 (zI σ 10 0)) 2 (zI σ 10 2)) 1 a)) 11 0 = zI σ 10 0 := by rw [zI_self, pk_un (by decide), pk_un (by decide), pk_us]
  have v1 : zI (zsI σ 11 (upd (upd (upd (zI σ 11) 0 (zI σ 10 0)) 2 (zI σ 10 2)) 1 a)) 11 1 = a := by rw [zI_self, pk_us]
  have v2 : zI (zsI σ 11 (upd (upd (upd (zI σ 11) 0 (zI σ 10 0)) 2 (zI σ 10 2)) 1 a)) 11 2 = zI σ 10 2 := by rw [zI_self, pk_un (by decide), pk_us]
  generalize zsI σ 11 (upd (upd (upd (zI σ 11) 0 (zI σ 10 0)) 2 (zI σ 10 2)) 1 a) = σ1 at f1 l1 v0 v1 v2 ⊢
  have n11 : ∀ c, zk c ≠ 10 → c ≠ 11 := fun c hc e => hc (by rw [e]; exact zk_11)
  have T1 : pTd σ1 60 n b F := pTd_fr f1 l1 (fun c k q z => n11 c (by omega) z.2) (by omega) (fun r hr => by omega) (fun c k => by omega) T
  have gg := zf_brook gb
  have g1 : pBk σ1 b B := pBk_fr f1 ⟨fun k z => n11 b (by omega) z.2, fun k z => n11 (b + 1) (by omega) z.2, fun k z => n11 (b + 2) (by omega) z.2, fun k z => n11 (b + 3) (by omega) z.2⟩ g
  have eW1 : (zI σ1 11 0).toInt = (aHg W a.toInt).1 ∧ (zI σ1 11 1).toInt = (aHg W a.toInt).2.1 ∧ (zI σ1 11 2).toInt = (aHg W a.toInt).2.2 := by
    rw [v0, v1, v2]
    exact ⟨eW.1, rfl, eW.2.2⟩
  refine p_begin (d := d + 3) T1 (fun σ2 T2 hD2 t2 _ f2 => ⟨rfl, ?_⟩)
  have f2q := pWr_q f2
  have g2 := pBk_fr f2q (pWq_b zk_60 gb) g1
  have eW2 := pWx_q zk_60 zk_11 f2q eW1
  have C2 : pCx σ2 60 n B (aHg W a.toInt) 11 := pTd_cx T2 g2 hB zk_11 eW2 hW'
  have ok := aBeg_ok (n := n) (F := F) (X := (aSd k, False, fun _ => 0)) hB hst
  refine (bX11_placesWith_45 T2.1).mpr ((bX2_run_0 C2.1 zk_60 zk_11).mpr (p_runN (N := 60) (by omega) 60 0 σ2 (0, aBeg n F, 0, aSd k, False, fun _ => 0) _ _ rfl (by omega) C2 hD2 ok t2 (Int.le_refl _) (by show (0 : Int) ≤ 60; decide) (zcat_r _) (zcat_r _) (fun σ3 hD3 t3 f3 => ⟨rfl, ?_⟩)))
  have C3 := pCx_fr f3 C2
  have T3 := pTd_r f3 T2
  refine (bX11_placesWith_58 C3.1).mpr (p_code_l (d := d + 3) (F := aR B (aHg W a.toInt) n F k) C3 hD3.1 (aR_ok hB hW' n6 hst).1 n 0 (by omega) (by omega) (h σ3 T3 (pBk_fr (pWr_q f3) (pWq_b zk_60 gb) g2) ?_))
  exact (f1.mono (fun j c k q => Or.inl ⟨q.1, Or.inr q.2⟩)).trans ((pWq_z f2q).trans (pWq_z (pWr_q f3)))
theorem a_inj {a b : Nat} (ha : a < 2147483648) (hb : b < 2147483648) : nI a = nI b ↔ a = b := ⟨fun h => by
  have := congrArg Int32.toInt h
  rw [ai_n ha, ai_n hb] at this
  omega, fun h => by rw [h]⟩
theorem p_same_l {n b N : Nat} {a a' : Int32} {F : aFn} {B : aBk} {W : aWx} (hB : aBok B) (hst : ∀ r, r < n → aFst B F r) (hW : aWok W) (ha : 0 ≤ a.toInt ∧ a.toInt ≤ 3) (ha' : 0 ≤ a'.toInt ∧ a'.toInt ≤ 3) (hN : N ≤ 40) :
    ∀ (m k : Nat) (σ : zS) (c : Int32), N - k = m → k ≤ N → pTd σ 60 n b F → pBk σ b B → ((zI σ 10 0).toInt = W.1 ∧ (zI σ 10 1).toInt = W.2.1 ∧ (zI σ 10 2).toInt = W.2.2) → c.toInt = aSum (fun k => aEq n (aR B (aHg W a.toInt) n F k) (aR B (aHg W a'.toInt) n F k)) k →
    (∀ (v : Int32) (σ' : zS), v.toInt = aSum (fun k => aEq n (aR B (aHg W a.toInt) n F k) (aR B (aHg W a'.toInt) n F k)) N → zFr pWz σ σ' → Q (some (.int v)) σ') → zW (d + 6) kX11_same 72 [.ref 1, .int a, .int a', .int (nI N), .int c, .int (nI k)] [] σ Q := by
  intro m
  induction m with
  | zero =>
    intro k σ c hm hk T g eW hc h
    have e : k = N := by omega
    subst e
    exact (bX11_same_72 T.1).mpr (zle' (ai_n (by omega)) (ai_n (by omega)) (fun _ => h c σ hc (zFr.refl _ _)) (fun q => by omega))
  | succ m ih =>
    intro k σ c hm hk T g eW hc h
    have n6 := T.2.2.1
    have sb := aSum_b2 (f := fun k => aEq n (aR B (aHg W a.toInt) n F k) (aR B (aHg W a'.toInt) n F k)) (m := 1) (by omega) (fun _ => aEq_b) (show k ≤ 40 by omega)
    have p1 : ∀ r, r < n → 0 ≤ aPl n (aR B (aHg W a.toInt) n F k) r ∧ aPl n (aR B (aHg W a.toInt) n F k) r ≤ 6 := fun r hr => aPl_b n6 ((aR_ok hB (aHg_ok hW ha) n6 hst).1 r hr)
    have p2 : ∀ r, r < n → 0 ≤ aPl n (aR B (aHg W a'.toInt) n F k) r ∧ aPl n (aR B (aHg W a'.toInt) n F k) r ≤ 6 := fun r hr => aPl_b n6 ((aR_ok hB (aHg_ok hW ha') n6 hst).1 r hr)
    have b1 := aCd_b p1 n (by omega)
    have b2 := aCd_b p2 n (by omega)
    have h8 : 8 ^ n ≤ 8 ^ 6 := Nat.pow_le_pow_right (by omega) n6
    refine (bX11_same_72 T.1).mpr (zle' (ai_n (by omega)) (ai_n (by omega)) (fun q => by omega) (fun _ => p_placesWith T g hB hst eW hW ha (fun σ1 T1 g1 f1 => ⟨rfl, (bX11_same_85 T1.1).mpr ?_⟩)))
    have eW1 : (zI σ1 10 0).toInt = W.1 ∧ (zI σ1 10 1).toInt = W.2.1 ∧ (zI σ1 10 2).toInt = W.2.2 := by
      rw [f1.i (by unfold pWz; omega), f1.i (by unfold pWz; omega), f1.i (by unfold pWz; omega)]; exact eW
    refine p_placesWith T1 g1 hB hst eW1 hW ha' (fun σ2 T2 g2 f2 => ⟨rfl, (bX11_same_92 T2.1).mpr ?_⟩)
    have f12 := f1.trans f2
    have nx : ∀ c2 : Int32, c2.toInt = c.toInt + aEq n (aR B (aHg W a.toInt) n F k) (aR B (aHg W a'.toInt) n F k) → zW (d + 6) kX11_same 72 [.ref 1, .int a, .int a', .int (nI N), .int c2, .int (nI k + 1)] [] σ2 Q := by
      intro c2 h2
      rw [nI_1]
      refine ih (k + 1) σ2 c2 (by omega) (by omega) T2 g2 (by rw [f2.i (by unfold pWz; omega), f2.i (by unfold pWz; omega), f2.i (by unfold pWz; omega)]; exact eW1) (by rw [aSum_s, h2, hc]) (fun v σ' q1 q2 => h v σ' q1 (f12.trans q2))
    refine zti (fun q => nx _ ?_) (fun q => nx _ ?_)
    · have e := (aCd_i p1 p2 n (by omega)).mp ((a_inj (by omega) (by omega)).mp q)
      unfold aEq
      rw [zif_t e]
      exact zadd rfl k1
    · unfold aEq
      rw [zif_f (fun e => q (by rw [(aCd_i p1 p2 n (by omega)).mpr e])), Int.add_zero]
end PLW
