/-! the class's leaves. The first rows, bt to b_0, began as the kit's starting text on bits -/
def bt (x : Int32) (i : Nat) : Bool := x.toBitVec.getLsbD i
theorem b_ext {x y : Int32} (h : ∀ i, i < 32 → bt x i = bt y i) : x = y := Int32.toBitVec_inj.mp (BitVec.eq_of_getLsbD_eq (fun i hi => h i hi))
theorem b_or (x y : Int32) (i : Nat) : bt (x ||| y) i = (bt x i || bt y i) := by unfold bt; rw [Int32.toBitVec_or, BitVec.getLsbD_or]
theorem b_and (x y : Int32) (i : Nat) : bt (x &&& y) i = (bt x i && bt y i) := by unfold bt; rw [Int32.toBitVec_and, BitVec.getLsbD_and]
theorem b_xor (x y : Int32) (i : Nat) : bt (x ^^^ y) i = (bt x i ^^ bt y i) := by unfold bt; rw [Int32.toBitVec_xor, BitVec.getLsbD_xor]
theorem b_0 (i : Nat) : bt 0 i = false := BitVec.getLsbD_zero
theorem p_mask0 : ∀ l, l < 6 → ∀ y, y < 8 → ∀ k, k < 32 → bt (((1 <<< (nI l &&& 31)) - 1) <<< (nI y &&& 31)) k = decide (y ≤ k ∧ k < y + l) := by decide +kernel
theorem p_mask {l y : Int32} (hl : 0 ≤ l.toInt ∧ l.toInt ≤ 5) (hy : 0 ≤ y.toInt ∧ y.toInt ≤ 7) {k : Nat} (hk : k < 32) : bt (((1 <<< (l &&& 31)) - 1) <<< (y &&& 31)) k = true ↔ y.toInt ≤ k ∧ (k : Int) < y.toInt + l.toInt := by
  obtain ⟨a, ha, rfl, ea⟩ := ai_nx hl.1
  obtain ⟨b, hb, rfl, eb⟩ := ai_nx hy.1
  rw [p_mask0 a (by omega) b (by omega) k hk, decide_eq_true_iff, ea, eb]
  omega
theorem p_and0 {x y : Int32} : x &&& y = 0 ↔ ∀ k, k < 32 → ¬ (bt x k = true ∧ bt y k = true) := by
  constructor
  · intro h k hk q
    have := congrArg (fun z => bt z k) h
    simp only [b_and, b_0, q.1, q.2] at this
    exact absurd this (by decide)
  · intro h
    refine b_ext (fun k hk => ?_)
    rw [b_and, b_0]
    have := h k hk
    revert this
    cases bt x k <;> cases bt y k <;> simp
def pF (σ : zS) (t n : Nat) : aFn := fun r w => if r < n ∧ w < 11 then (if w < 3 then (zI σ ((zR σ (t + 8 + 2 * r) 0).getD 0) w).toInt else (zI σ (t + 8 + 2 * r) (w - 2)).toInt) else 0
def pCode (v : Int) : Int := if v = 0 then 111 else if v = 10 then 64 else v + 48
/-- the cell b holds the brook B -/
def pBk (σ : zS) (b : Nat) (B : aBk) : Prop := zk b = 0 ∧ (zI σ b 3).toInt = B.2.1 ∧ (zI σ b 4).toInt = B.2.2 ∧ (∀ y x : Nat, y < 6 → x < 16 → (y : Int) < B.2.1 → (x : Int) < B.2.2 → (zI σ (b + 1) (16 * y + x)).toInt = pCode (B.1 y x)) ∧
  (∀ x k : Nat, x < 16 → k < 32 → (bt (zI σ (b + 2) x) k = true ↔ (k : Int) < B.2.1 ∧ (x : Int) < B.2.2 ∧ B.1 k x = 0)) ∧ (∀ x k : Nat, x < 16 → k < 32 → (bt (zI σ (b + 3) x) k = true ↔ (k : Int) < B.2.1 ∧ (x : Int) < B.2.2 ∧ B.1 k x = 10))
/-- the class's race t stands on a brook B, n runners, under the weather in w -/
def pCx (σ : zS) (t n : Nat) (B : aBk) (W : aWx) (w : Nat) : Prop := zLay σ ∧ zk t = 2 ∧ zk w = 10 ∧ n ≤ 6 ∧ zI σ t 4 = nI n ∧ (∃ b, zR σ t 3 = some b ∧ pBk σ b B) ∧ (∀ r, r < n → ∃ s, zR σ (t + 8 + 2 * r) 0 = some s ∧ zk s = 6) ∧ ((zI σ w 0).toInt = W.1 ∧ (zI σ w 1).toInt = W.2.1 ∧ (zI σ w 2).toInt = W.2.2) ∧ aBok B ∧ aWok W
def pHas (σ : zS) (t n : Nat) (D : aD) : Prop := pF σ t n = D.1 ∧ (zI σ t 6).toInt = D.2.1 ∧ zL σ t 7 = D.2.2.1 ∧ zI σ t 8 = zb D.2.2.2.1 ∧ ∀ x : Nat, x < 16 → (zI σ (t + 3) x).toInt = D.2.2.2.2 x
/-- what a turn of a runner may write -/
def pWg (t : Nat) : Nat → Nat → Nat → Prop := fun j c k => (j = 0 ∧ ((c = t ∧ (k = 6 ∨ k = 8)) ∨ c = t + 3 ∨ (zk c = 4 ∧ t + 8 ≤ c ∧ c ≤ t + 18 ∧ 2 ≤ k))) ∨ (j = 1 ∧ c = t ∧ k = 7)
def pWr (t : Nat) : Nat → Nat → Nat → Prop := fun j c k => (j = 0 ∧ ((c = t ∧ (k = 5 ∨ k = 6 ∨ k = 8 ∨ k = 9)) ∨ c = t + 2 ∨ c = t + 3 ∨ (zk c = 4 ∧ t + 8 ≤ c ∧ c ≤ t + 18 ∧ 2 ≤ k))) ∨ (j = 1 ∧ c = t ∧ k = 7)
theorem pWg_r {t : Nat} {σ σ' : zS} (h : zFr (pWg t) σ σ') : zFr (pWr t) σ σ' := h.mono (fun j c k q => by
  unfold pWg at q
  unfold pWr
  rcases q with ⟨q0, q | q | q⟩ | q
  · exact Or.inl ⟨q0, Or.inl ⟨q.1, by omega⟩⟩
  · exact Or.inl ⟨q0, Or.inr (Or.inr (Or.inl q))⟩
  · exact Or.inl ⟨q0, Or.inr (Or.inr (Or.inr q))⟩
  · exact Or.inr q)
theorem pWr_2 {t c k : Nat} : ¬ pWr t 2 c k := by unfold pWr; omega
/-- cells of another kind stay -/
theorem pWr_k {t c k : Nat} (ht : zk t = 2) (h2 : zk c ≠ 2) (h4 : zk c ≠ 4) (h : zk c ≠ 14) : ¬ pWr t 0 c k := by
  intro q
  have f := zf_race ht
  unfold pWr at q
  rcases q with ⟨_, q | q | q | q⟩ | q
  · exact h2 (by rw [q.1]; exact ht)
  · exact h (by rw [q]; exact f.2.1.1)
  · exact h (by rw [q]; exact f.2.2.1.1)
  · exact h4 q.1
  · omega
theorem pWr_b {t b : Nat} (ht : zk t = 2) (hb : zk b = 0) : (∀ k, ¬ pWr t 0 b k) ∧ (∀ k, ¬ pWr t 0 (b + 1) k) ∧ (∀ k, ¬ pWr t 0 (b + 2) k) ∧ ∀ k, ¬ pWr t 0 (b + 3) k := by
  have f := zf_race ht
  have g := zf_brook hb
  have n0 : b ≠ t := fun e => by rw [e] at hb; omega
  have n1 : b ≠ t + 1 := fun e => by rw [e] at hb; omega
  have n2 : b ≠ t + 2 := fun e => by rw [e] at hb; omega
  have m1 : b + 1 ≠ t := fun e => by rw [e] at g; omega
  have m2 : b + 2 ≠ t := fun e => by rw [e] at g; omega
  have m3 : b + 3 ≠ t := fun e => by rw [e] at g; omega
  refine ⟨fun k => pWr_k ht (by omega) (by omega) (by omega), fun k q => ?_, fun k q => ?_, fun k q => ?_⟩
  all_goals
    unfold pWr at q
    rcases q with ⟨_, q | q | q | q⟩ | q <;> omega
theorem pBk_fr {W : Nat → Nat → Nat → Prop} {σ σ' : zS} {b : Nat} {B : aBk} (h : zFr W σ σ') (w : (∀ k, ¬ W 0 b k) ∧ (∀ k, ¬ W 0 (b + 1) k) ∧ (∀ k, ¬ W 0 (b + 2) k) ∧ ∀ k, ¬ W 0 (b + 3) k) (g : pBk σ b B) : pBk σ' b B := by
  obtain ⟨g0, g1, g2, g3, g4, g5⟩ := g
  refine ⟨g0, ?_, ?_, fun y x a b c d => ?_, fun x k a b => ?_, fun x k a b => ?_⟩
  · rw [h.i (w.1 _)]; exact g1
  · rw [h.i (w.1 _)]; exact g2
  · rw [h.i (w.2.1 _)]; exact g3 y x a b c d
  · rw [h.i (w.2.2.1 _)]; exact g4 x k a b
  · rw [h.i (w.2.2.2 _)]; exact g5 x k a b
theorem pCx_fr {σ σ' : zS} {t n w : Nat} {B : aBk} {W : aWx} (h : zFr (pWr t) σ σ') (C : pCx σ t n B W w) : pCx σ' t n B W w := by
  obtain ⟨c1, c2, c3, c4, c5, ⟨b, c6, c7⟩, c8, c9, c10, c11⟩ := C
  refine ⟨h.lay c1 (fun _ _ _ _ => pWr_2), c2, c3, c4, ?_, ⟨b, ?_, pBk_fr h (pWr_b c2 c7.1) c7⟩, fun r hr => ?_, ?_, c10, c11⟩
  · rw [h.i (by have := zf_race c2; unfold pWr; omega)]; exact c5
  · rw [h.r pWr_2]; exact c6
  · rw [h.r pWr_2]; exact c8 r hr
  · rw [h.i (pWr_k c2 (by omega) (by omega) (by omega)), h.i (pWr_k c2 (by omega) (by omega) (by omega)), h.i (pWr_k c2 (by omega) (by omega) (by omega))]; exact c9
theorem pCx_fg {σ σ' : zS} {t n w : Nat} {B : aBk} {W : aWx} (h : zFr (pWg t) σ σ') (C : pCx σ t n B W w) : pCx σ' t n B W w := pCx_fr (pWg_r h) C
theorem pF_w {σ : zS} {t n r w : Nat} (hr : r < n) (hw : 3 ≤ w) (hw2 : w < 11) : pF σ t n r w = (zI σ (t + 8 + 2 * r) (w - 2)).toInt := by
  unfold pF
  rw [if_pos ⟨hr, hw2⟩, if_neg (by omega)]
theorem pF_s {σ : zS} {t n r w s : Nat} (hr : r < n) (hw : w < 3) (hs : zR σ (t + 8 + 2 * r) 0 = some s) : pF σ t n r w = (zI σ s w).toInt := by
  unfold pF
  rw [if_pos ⟨hr, by omega⟩, if_pos hw, hs]
  rfl
/-- a runner's field -/
def pS (σ : zS) (t r w : Nat) (v : Int32) : zS := zsI σ (t + 8 + 2 * r) (upd (zI σ (t + 8 + 2 * r)) (w - 2) v)
theorem pS_F {σ : zS} {t n r w : Nat} {v : Int32} {F : aFn} {a : Int} (ht : zk t = 2) (hn : n ≤ 6) (hst : ∀ r, r < n → ∃ s, zR σ (t + 8 + 2 * r) 0 = some s ∧ zk s = 6) (hF : pF σ t n = F) (hr : r < n) (hw : 3 ≤ w) (hw2 : w < 11) (hv : v.toInt = a) : pF (pS σ t r w v) t n = aU F r w a := by
  subst hF hv
  funext r' w'
  have hk : zk (t + 8 + 2 * r) = 4 := zf_racer ht (by omega)
  have eR : zR (pS σ t r w v) = zR σ := rfl
  unfold aU
  by_cases h : r' < n ∧ w' < 11
  · obtain ⟨s, hs, ks⟩ := hst r' h.1
    by_cases h3 : w' < 3
    · rw [if_neg (by omega), pF_s h.1 h3 (by rw [eR]; exact hs), pF_s h.1 h3 hs]
      unfold pS
      rw [zI_ne (fun e => by rw [e] at ks; omega)]
    · rw [pF_w h.1 (by omega) h.2]
      unfold pS
      by_cases e : r' = r
      · subst e
        rw [zI_self]
        by_cases e2 : w' = w
        · rw [if_pos ⟨rfl, e2⟩, e2, pk_us]
        · rw [if_neg (by omega), pk_un (by omega), pF_w h.1 (by omega) h.2]
      · rw [zI_ne (by omega), if_neg (by omega), pF_w h.1 (by omega) h.2]
  · rw [if_neg (by omega)]
    unfold pF
    rw [if_neg h, if_neg h]
theorem pS_has {σ : zS} {t n r w : Nat} {v : Int32} {D : aD} {a : Int} (ht : zk t = 2) (hn : n ≤ 6) (hst : ∀ r, r < n → ∃ s, zR σ (t + 8 + 2 * r) 0 = some s ∧ zk s = 6) (hD : pHas σ t n D) (hr : r < n) (hw : 3 ≤ w) (hw2 : w < 11) (hv : v.toInt = a) : pHas (pS σ t r w v) t n (aU D.1 r w a, D.2) := by
  obtain ⟨d1, d2, d3, d4, d5⟩ := hD
  refine ⟨pS_F ht hn hst d1 hr hw hw2 hv, ?_, d3, ?_, fun x hx => ?_⟩
  · unfold pS; rw [zI_ne (by omega)]; exact d2
  · unfold pS; rw [zI_ne (by omega)]; exact d4
  · unfold pS; rw [zI_ne (by omega)]; exact d5 x hx
theorem pS_fr {σ : zS} {t r w : Nat} {v : Int32} (ht : zk t = 2) (hr : r < 6) (hw : 4 ≤ w) : zFr (pWg t) σ (pS σ t r w v) := zFr_U (Or.inl ⟨rfl, Or.inr (Or.inr ⟨zf_racer ht hr, by omega, by omega, by omega⟩)⟩)
theorem zsI_2 {σ : zS} {c i j : Nat} {a b : Int32} : zsI σ c (upd (upd (zI σ c) i a) j b) = zsI (zsI σ c (upd (zI σ c) i a)) c (upd (zI (zsI σ c (upd (zI σ c) i a)) c) j b) := by
  rw [zsI_s, zI_self]
section PLEAF
variable {d : Nat} {σ : zS} {Q : Option Value → zS → Prop}
theorem p_run {t n r : Nat} {B : aBk} {W : aWx} {w : Nat} (C : pCx σ t n B W w) (hr : r < 6) : zR σ (t + 1) r = some (t + 8 + 2 * r) ∧ zk (t + 8 + 2 * r) = 4 := by
  have f := zf_race C.2.1
  refine ⟨C.1.r ?_, zf_racer C.2.1 hr⟩
  unfold zRT
  rw [f.1.1]
  show (if r < 6 then some (t + 1 + 7 + 2 * r) else none) = _
  rw [if_pos hr]
theorem p_isOut {t n r : Nat} {F : aFn} (hl : zLay σ) (ht : zk t = 2) (hn : n ≤ 6) (hF : pF σ t n = F) (hr : r < n) (ho : F r 7 = -1 ↔ F r 8 = -1) (h : Q (some (.int (zb (¬ F r 7 = -1)))) σ) : zCall d kX4_isOut [.ref (t + 8 + 2 * r)] σ Q := by
  have e : (zI σ (t + 8 + 2 * r) 6).toInt = F r 8 := by rw [← hF, pF_w hr (by omega) (by omega)]
  refine (bX4_isOut_0 hl (zf_racer ht (by omega))).mpr (zeq' e km1 (fun q => ?_) (fun q => ?_))
  · rwa [zb_f (fun q2 => q2 (ho.mpr q))] at h
  · rwa [zb_t (fun q2 => q (ho.mp q2))] at h
theorem p_lanes {t n r : Nat} {F : aFn} {B : aBk} {W : aWx} {w : Nat} (C : pCx σ t n B W w) (hF : pF σ t n = F) (hr : r < n) (hL : aLn B F n) (h : ∀ v : Int32, (∀ k : Nat, k < 32 → (bt v k = true ↔ F r 5 ≤ k ∧ (k : Int) < F r 5 + F r 0)) → Q (some (.int v)) σ) : zCall d kX4_lanes [.ref (t + 8 + 2 * r)] σ Q := by
  obtain ⟨c1, c2, c3, c4, c5, c6, c8, c9, c10, c11⟩ := C
  obtain ⟨s, hs, ks⟩ := c8 r hr
  have hk := zf_racer c2 (show r < 6 by omega)
  have e5 : (zI σ (t + 8 + 2 * r) 3).toInt = F r 5 := by rw [← hF, pF_w hr (by omega) (by omega)]
  have e0 : (zI σ s 0).toInt = F r 0 := by rw [← hF, pF_s hr (by omega) hs]
  have hLr := hL r hr
  have hB := c10.2.1
  refine (bX4_lanes_0 c1 hk).mpr ?_
  rw [hs]
  refine (bX4_lanes_5 c1 hk ks).mpr (h _ (fun k hk => ?_))
  rw [p_mask (by omega) (by omega) hk, e5, e0]
theorem p_lanesFrom {s : Nat} {y : Int32} {l : Int} (hl : zLay σ) (ks : zk s = 6) (e0 : (zI σ s 0).toInt = l) (hl0 : 0 ≤ l ∧ l ≤ 5) (hy : 0 ≤ y.toInt ∧ y.toInt ≤ 7) (h : ∀ v : Int32, (∀ k : Nat, k < 32 → (bt v k = true ↔ y.toInt ≤ k ∧ (k : Int) < y.toInt + l)) → Q (some (.int v)) σ) : zCall d kX6_lanesFrom [.ref s, .int y] σ Q := by
  refine (bX6_lanesFrom_0 hl ks).mpr (h _ (fun k hk => ?_))
  rw [p_mask (by omega) hy hk, e0]
theorem p_stonesBar {x : Int32} (hl : zLay σ) (h : Q (some (.int (zb (x.toInt < 2)))) σ) : zCall d kX0_stonesBar [.int x] σ Q := by
  refine (bX0_stonesBar_0 hl).mpr (zle' k2 rfl (fun e => ?_) (fun e => ?_))
  · rwa [zb_f (by omega)] at h
  · rwa [zb_t (by omega)] at h
theorem p_stonesAt {b : Nat} {B : aBk} {x : Int32} (hl : zLay σ) (g : pBk σ b B) (hx : 0 ≤ x.toInt ∧ x.toInt < 16) (h : ∀ v : Int32, (∀ k : Nat, k < 32 → (bt v k = true ↔ (k : Int) < B.2.1 ∧ x.toInt < B.2.2 ∧ B.1 k x.toInt.toNat = 0)) → Q (some (.int v)) σ) : zCall d kX0_stonesAt [.ref b, .int x] σ Q := by
  refine (bX0_stonesAt_0 hl g.1).mpr (zlt' rfl k0 (fun e => by omega) (fun _ => zlt' rfl k16 (fun _ => ⟨zin hx.1 (by omega), h _ (fun k hk => ?_)⟩) (fun e => by omega)))
  rw [ai_cl, g.2.2.2.2.1 _ k (by omega) hk]
  have : ((x.toInt.toNat : Nat) : Int) = x.toInt := by omega
  rw [this]
theorem p_eddiesAt {b : Nat} {B : aBk} {x : Int32} (hl : zLay σ) (g : pBk σ b B) (hx : 0 ≤ x.toInt ∧ x.toInt < 16) (h : ∀ v : Int32, (∀ k : Nat, k < 32 → (bt v k = true ↔ (k : Int) < B.2.1 ∧ x.toInt < B.2.2 ∧ B.1 k x.toInt.toNat = 10)) → Q (some (.int v)) σ) : zCall d kX0_eddiesAt [.ref b, .int x] σ Q := by
  refine (bX0_eddiesAt_0 hl g.1).mpr (zlt' rfl k0 (fun e => by omega) (fun _ => zlt' rfl k16 (fun _ => ⟨zin hx.1 (by omega), h _ (fun k hk => ?_)⟩) (fun e => by omega)))
  rw [ai_cl, g.2.2.2.2.2 _ k (by omega) hk]
  have : ((x.toInt.toNat : Nat) : Int) = x.toInt := by omega
  rw [this]
/-- the lanes barred at x for the runner r, as bits -/
def pBm (B : aBk) (W : aWx) (n : Nat) (F : aFn) (r x : Int) (v : Int32) : Prop := ∀ k : Nat, k < 32 → (bt v k = true ↔ ((k : Int) < B.2.1 ∧ x < B.2.2 ∧ aBars B W x k) ∨ aOcc n F r x k)
theorem p_barred_l {t n r : Nat} {F : aFn} {B : aBk} {W : aWx} {w : Nat} (C : pCx σ t n B W w) (hF : pF σ t n = F) (hr : r < n) (hL : aLn B F n) (ho : ∀ o, o < n → (F o 7 = -1 ↔ F o 8 = -1)) {x hg : Int32} (P : Nat → Prop)
    (h : ∀ v : Int32, (∀ k : Nat, k < 32 → (bt v k = true ↔ P k ∨ aOcc n F r x.toInt k)) → Q (some (.int v)) σ) :
    ∀ (m i : Nat) (v : Int32) (v6 : Value), n - i = m → i ≤ n → v6.category = 1 → (∀ k : Nat, k < 32 → (bt v k = true ↔ P k ∨ aOcc i F r x.toInt k)) → zW (d + 1) kX2_barredAt 24 [.ref t, .int x, .ref (t + 8 + 2 * r), .int hg, .int v, .int (nI i), v6] [] σ Q := by
  have C' := C
  obtain ⟨c1, c2, c3, c4, c5, c6, c8, c9, c10, c11⟩ := C
  have hkr := zf_racer c2 (show r < 6 by omega)
  intro m
  induction m with
  | zero =>
    intro i v v6 hm hi hc hv
    have e : i = n := by omega
    subst e
    refine (bX2_barredAt_24 c1 c2 hkr hc).mpr (zti (fun e => h v hv) (fun e => ?_))
    rw [c5] at e
    exact absurd (nI_le (Nat.le_refl _) (by omega)) e
  | succ m ih =>
    intro i v v6 hm hi hc hv
    have hin : i < n := by omega
    obtain ⟨ri, hki⟩ := p_run C' (show i < 6 by omega)
    refine (bX2_barredAt_24 c1 c2 hkr hc).mpr (zti (fun e => ?_) (fun e => zle' k6 (ai_n (by omega)) (fun e2 => by omega) (fun e2 => ⟨vp_in_nI (by omega) (by decide), ?_⟩)))
    · rw [c5] at e
      exact absurd e (nI_ge hin (by omega))
    rw [nI_clamp (by omega), ri]
    have nx : ∀ (v' : Int32) (v6 : Value), v6.category = 1 → (∀ k : Nat, k < 32 → (bt v' k = true ↔ bt v k = true ∨ ((i : Int) ≠ r ∧ F i 7 = -1 ∧ F i 4 = x.toInt ∧ F i 5 ≤ k ∧ (k : Int) < F i 5 + F i 0))) → zW (d + 1) kX2_barredAt 24 [.ref t, .int x, .ref (t + 8 + 2 * r), .int hg, .int v', .int (nI i + 1), v6] [] σ Q := by
      intro v' v6 hc hv'
      rw [nI_1]
      refine ih (i + 1) v' v6 (by omega) (by omega) hc (fun k hk => ?_)
      rw [hv' k hk, hv k hk]
      constructor
      · rintro ((q | ⟨j, j1, j2⟩) | q)
        · exact Or.inl q
        · exact Or.inr ⟨j, by omega, j2⟩
        · exact Or.inr ⟨i, by omega, q⟩
      · rintro (q | ⟨j, j1, j2⟩)
        · exact Or.inl (Or.inl q)
        · rcases Nat.lt_succ_iff_lt_or_eq.mp j1 with q | q
          · exact Or.inl (Or.inr ⟨j, q, j2⟩)
          · subst q; exact Or.inr j2
    refine (bX2_barredAt_47 c1 c2 hkr hc hki).mpr (zti (fun e3 => ?_) (fun e3 => ?_))
    · exact nx v _ (zcat_f _) (fun k hk => by
        constructor
        · exact Or.inl
        · rintro (q | q)
          · exact q
          · omega)
    · refine p_isOut c1 c2 c4 hF hin (ho i hin) ⟨rfl, (bX2_barredAt_60 c1 c2 hkr hki).mpr (zt0 (fun c => ?_) (fun c => ?_))⟩
      · exact nx v _ (zcat_f _) (fun k hk => by
          constructor
          · exact Or.inl
          · rintro (q | q)
            · exact q
            · exact absurd q.2.1 c)
      · have e4 : (zI σ (t + 8 + 2 * i) 2).toInt = F i 4 := by rw [← hF, pF_w hin (by omega) (by omega)]
        refine zeq' e4 rfl (fun e5 => ?_) (fun e5 => ?_)
        · refine p_lanes C' hF hin hL (fun u hu => ⟨rfl, (bX2_barredAt_79 c1 c2 hkr hki).mpr (nx _ _ (zcat_f _) (fun k hk => ?_))⟩)
          rw [b_or, Bool.or_eq_true, hu k hk]
          have hir : (i : Int) ≠ r := fun q => e3 (by omega)
          constructor
          · rintro (q | q)
            · exact Or.inl q
            · exact Or.inr ⟨hir, Classical.not_not.mp c, e5, q⟩
          · rintro (q | q)
            · exact Or.inl q
            · exact Or.inr q.2.2.2
        · exact nx v _ (zcat_f _) (fun k hk => by
            constructor
            · exact Or.inl
            · rintro (q | q)
              · exact q
              · exact absurd q.2.2.1 e5)
theorem p_barred {t n r : Nat} {F : aFn} {B : aBk} {W : aWx} {w : Nat} (C : pCx σ t n B W w) (hF : pF σ t n = F) (hr : r < n) (hL : aLn B F n) (ho : ∀ o, o < n → (F o 7 = -1 ↔ F o 8 = -1)) {x hi : Int32} (hx : 0 ≤ x.toInt ∧ x.toInt < 16) (eh : hi.toInt = W.2.1)
    (h : ∀ v : Int32, pBm B W n F r x.toInt v → Q (some (.int v)) σ) : zCall (d + 1) kX2_barredAt [.ref t, .int x, .ref (t + 8 + 2 * r), .int hi] σ Q := by
  have C' := C
  obtain ⟨c1, c2, c3, c4, c5, ⟨b, c6, c7⟩, c8, c9, c10, c11⟩ := C
  have hkr := zf_racer c2 (show r < 6 by omega)
  have no : ∀ k : Int, ¬ aOcc 0 F r x.toInt k := fun k ⟨j, j1, _⟩ => absurd j1 (by omega)
  have ed : ∀ k : Nat, ((k : Int) < B.2.1 ∧ x.toInt < B.2.2 ∧ aBars B W x.toInt k) ↔ (W.2.1 < 2 ∧ (k : Int) < B.2.1 ∧ x.toInt < B.2.2 ∧ B.1 k x.toInt.toNat = 0) := fun k => by
    unfold aBars
    rw [Int.toNat_natCast]
    constructor
    · rintro ⟨q1, q2, q3, q4⟩; exact ⟨q3, q1, q2, q4⟩
    · rintro ⟨q3, q1, q2, q4⟩; exact ⟨q1, q2, q3, q4⟩
  refine (bX2_barredAt_0 c1 c2 hkr).mpr (p_stonesBar c1 ⟨rfl, (bX2_barredAt_4 c1 c2 hkr).mpr (zt0 (fun c => ?_) (fun c => ?_))⟩)
  · rw [c6]
    refine (bX2_barredAt_11 c1 c2 hkr c7.1).mpr (p_stonesAt c1 c7 hx (fun u hu => ⟨rfl, (bX2_barredAt_15 c1 c2 hkr).mpr ?_⟩))
    refine p_barred_l C' hF hr hL ho (fun k => (k : Int) < B.2.1 ∧ x.toInt < B.2.2 ∧ aBars B W x.toInt k) (fun v hv => h v hv) n 0 u _ rfl (by omega) (zcat_r _) (fun k hk => ?_)
    rw [hu k hk, ed k]
    constructor
    · intro q; exact Or.inl ⟨by omega, q⟩
    · rintro (q | q)
      · exact q.2
      · exact absurd q (no _)
  · refine p_barred_l C' hF hr hL ho (fun k => (k : Int) < B.2.1 ∧ x.toInt < B.2.2 ∧ aBars B W x.toInt k) (fun v hv => h v hv) n 0 0 _ rfl (by omega) (zcat_r _) (fun k hk => ?_)
    rw [b_0, ed k]
    constructor
    · intro q; exact absurd q (by decide)
    · rintro (q | q)
      · exact absurd q.1 (by omega)
      · exact absurd q (no _)
end PLEAF
