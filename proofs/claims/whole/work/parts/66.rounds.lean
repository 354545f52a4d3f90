/-! the call rounds -/
theorem a_mod {a n : Nat} (h0 : 0 < n) (hn : n ≤ 6) (ha : a < 1000) : (nI a - nI a / nI n * nI n : Int32) = nI (a % n) := by
  rcases (by omega : n = 1 ∨ n = 2 ∨ n = 3 ∨ n = 4 ∨ n = 5 ∨ n = 6) with e | e | e | e | e | e <;> subst e <;>
    (refine zint ?_
     rw [zsub (ai_n (by omega)) (zmul (zdiv (ai_n (by omega)) (ai_n (by omega)) (by omega) (by omega)) (ai_n (by omega)) (by omega) (by omega)) (by omega) (by omega), ai_n (by omega)]
     omega)
theorem a_mod2 {i k n : Nat} (hi : i < n) (hk : k < n) (hn : n ≤ 6) : (i + k) % n = if i + k < n then i + k else i + k - n := by
  by_cases q : i + k < n
  · rw [if_pos q, Nat.mod_eq_of_lt q]
  · rw [if_neg q, Nat.mod_eq_sub_mod (by omega), Nat.mod_eq_of_lt (by omega)]
theorem aFst_fit {B : aBk} {W : aWx} {n k : Nat} {F : aFn} (h : ∀ r, r < n → aFst B F r) (hf : aFit B W n (aTurn F n k)) : ∀ r, r < n → aFst B (aTurn F n k) r := fun r hr => by
  have z := h r hr
  have c := hf.1 r hr
  have e0 : aTurn F n k r 0 = F r 0 := if_neg (by omega)
  have e1 : aTurn F n k r 1 = F r 1 := if_neg (by omega)
  have e2 : aTurn F n k r 2 = F r 2 := if_neg (by omega)
  unfold aFst at *
  have c1 := c.1
  have c2 := c.2.1
  rw [e0] at c2 ⊢
  rw [e1, e2]
  omega
/-- what k turns come to -/
noncomputable def aRd (B : aBk) (W : aWx) (n : Nat) (F : aFn) (f : aFn → Int) : Nat → Int := aSum (fun k => zif (aFit B W n (aTurn F n k)) (f (aTurn F n k)) 0)
theorem aRd_t {B : aBk} {W : aWx} {n k : Nat} {F : aFn} {f : aFn → Int} (h : aFit B W n (aTurn F n k)) : aRd B W n F f (k + 1) = aRd B W n F f k + f (aTurn F n k) := by
  show aSum _ k + zif _ _ _ = _
  rw [zif_t h]
  rfl
theorem aRd_f {B : aBk} {W : aWx} {n k : Nat} {F : aFn} {f : aFn → Int} (h : ¬ aFit B W n (aTurn F n k)) : aRd B W n F f (k + 1) = aRd B W n F f k := by
  show aSum _ k + zif _ _ _ = _
  rw [zif_f h, Int.add_zero]
  rfl
theorem aRd_b {B : aBk} {W : aWx} {n : Nat} {F : aFn} {f : aFn → Int} {m : Int} (hm : 0 ≤ m) (h : ∀ k, aFit B W n (aTurn F n k) → 0 ≤ f (aTurn F n k) ∧ f (aTurn F n k) ≤ m) {k : Nat} (hk : k ≤ 6) : 0 ≤ aRd B W n F f k ∧ aRd B W n F f k ≤ m * 6 := by
  refine aSum_b2 hm (fun j => ?_) hk
  by_cases c : aFit B W n (aTurn F n j)
  · rw [zif_t c]; exact h j c
  · rw [zif_f c]; omega
section RND
variable {d : Nat} {Q : Option Value → zS → Prop} {nb ns : Nat}
noncomputable def fWin (B : aBk) (W : aWx) (n N r : Nat) (F : aFn) : Int := aSum (fun j => aWin n (aR B W n F j) r) N
noncomputable def fPl (B : aBk) (W : aWx) (n N r : Nat) (F : aFn) : Int := aSum (fun j => aPl n (aR B W n F j) r) N
theorem fWin_b {B : aBk} {W : aWx} {n N r : Nat} {F : aFn} (hN : N ≤ 40) : 0 ≤ fWin B W n N r F ∧ fWin B W n N r F ≤ 40 := by
  have := aSum_b2 (f := fun j => aWin n (aR B W n F j) r) (m := 1) (by omega) (fun _ => aWin_b) hN
  unfold fWin
  omega
theorem fPl_b {B : aBk} {W : aWx} {n N r : Nat} {F : aFn} (hB : aBok B) (hW : aWok W) (hn : n ≤ 6) (hst : ∀ r, r < n → aFst B F r) (hr : r < n) (hN : N ≤ 40) : 0 ≤ fPl B W n N r F ∧ fPl B W n N r F ≤ 240 := by
  have := aSum_b2 (f := fun j => aPl n (aR B W n F j) r) (m := 6) (by omega) (fun _ => aPl_b hn ((aR_ok hB hW hn hst).1 r hr)) hN
  unfold fPl
  omega
theorem p_rounds_l {n b N : Nat} {F : aFn} {B : aBk} {W : aWx} {x1 x3 : Int32} (hN : N ≤ 40) :
    ∀ (m k : Nat) (σ : zS) (c : Int32), n - k = m → k ≤ n → iA σ nb ns → iT σ nb ns n b → mFR σ 139 n = F → mB σ b = B → mW σ = W → (∀ r, r < n → (zI σ 81 r).toInt = aRd B W n F (fWin B W n N r) k ∧ (zI σ 82 r).toInt = aRd B W n F (fPl B W n N r) k) → (0 ≤ (zI σ 80 2).toInt ∧ (zI σ 80 2).toInt ≤ 40 * k) → c.toInt = aRd B W n F (fun _ => 1) k →
    (∀ (v : Int32) (σ' : zS), zLay σ' → zI σ' 12 4 = nI n → (∀ r, r < n → (zI σ' 81 r).toInt = aRd B W n F (fWin B W n N r) n ∧ (zI σ' 82 r).toInt = aRd B W n F (fPl B W n N r) n) → v.toInt = aRd B W n F (fun _ => 1) n → zFr pWz σ σ' → zW (d + 7) kX11_rounds 39 [.ref 1, .int x1, .int (nI N), .int x3, .int v, .int (nI n)] [] σ' Q) → zW (d + 7) kX11_rounds 39 [.ref 1, .int x1, .int (nI N), .int x3, .int c, .int (nI k)] [] σ Q := by
  intro m
  induction m with
  | zero =>
    intro k σ c hm hk g T eF eB eW h1 h2 h3 h
    have e : k = n := by omega
    subst e
    exact h c σ g.1 T.2.2.1 h1 h3 (zFr.refl _ _)
  | succ m ih =>
    intro k σ c hm hk g T eF eB eW h1 h2 h3 h
    have n6 := T.1
    have hb := T.bb
    have h6 := g.nb6
    have h10 := g.ns10
    have hB : aBok B := by rw [← eB]; exact g.bok hb
    have hW : aWok W := by rw [← eW]; exact g.wok
    have hfs : ∀ r, r < n → aFst B F r := by rw [← eB, ← eF]; exact T.fs
    have cb := aRd_b (B := B) (W := W) (n := n) (F := F) (f := fun _ => 1) (m := 1) (by omega) (fun _ _ => by omega) (show k ≤ 6 by omega)
    refine (bX11_rounds_39 g.1).mpr (zle' (zto T.2.2.1 (ai_n (by omega))) (ai_n (by omega)) (fun q => by omega) (fun _ => ?_))
    refine p_turn (d := d + 4) (k := k) g T (by omega) (fun σ1 T1 f1 => ⟨rfl, (bX11_rounds_57 T1.1).mpr ?_⟩)
    rw [eF] at T1
    have f1z := pWq_z f1
    have g1 := pBk_fr f1 (pWq_b zk_60 (zk_bk (show b < 6 by omega))) (g.bp hb)
    rw [eB] at g1
    have eW1 := pWx_q zk_60 zk_10 f1 g.wp
    rw [eW] at eW1
    have hsz : ∀ r, r < n → 1 ≤ aTurn F n k r 0 ∧ aTurn F n k r 0 ≤ 5 := fun r hr => by
      have e0 : aTurn F n k r 0 = F r 0 := if_neg (by omega)
      rw [e0]
      exact ⟨(hfs r hr).1, (hfs r hr).2.1⟩
    -- the next turn
    have nx : ∀ (σ2 : zS) (c2 : Int32), zFr pWz σ σ2 → (∀ r, r < n → (zI σ2 81 r).toInt = aRd B W n F (fWin B W n N r) (k + 1) ∧ (zI σ2 82 r).toInt = aRd B W n F (fPl B W n N r) (k + 1)) → (0 ≤ (zI σ2 80 2).toInt ∧ (zI σ2 80 2).toInt ≤ 40 * ((k + 1 : Nat) : Int)) → c2.toInt = aRd B W n F (fun _ => 1) (k + 1) → zW (d + 7) kX11_rounds 39 [.ref 1, .int x1, .int (nI N), .int x3, .int c2, .int (nI k + 1)] [] σ2 Q := by
      intro σ2 c2 f2 q1 q2 q3
      have s2 := pWz_s f2
      rw [nI_1]
      refine ih (k + 1) σ2 c2 (by omega) (by omega) (iA_fr s2 (pWz_lay f2 g.1) g) (iT_fr s2 h6 h10 T) (by rw [iS_mFR s2 n6 (Or.inl rfl)]; exact eF) (by rw [iS_mB s2 (by omega)]; exact eB) (by rw [iS_mW s2]; exact eW) q1 q2 q3 (fun v σ' r1 r2 r3 r4 r5 => h v σ' r1 r2 r3 r4 (f2.trans r5))
    have e80 : ∀ c k, 80 ≤ c → c ≤ 82 → zI σ1 c k = zI σ c k := fun c k _ _ => f1.i (by unfold pWq; omega)
    refine p_fits (d := d + 4) T1 g1 hB hsz eW1.2.1 ⟨rfl, (bX11_rounds_71 T1.1).mpr (zt0 (fun cF => ?_) (fun cF => ?_))⟩
    · have hfk := aFst_fit hfs cF
      refine (bX11_tallySeeds_0 T1.1).mpr (p_seeds_l (d := d + 1) (w0 := fun r => aRd B W n F (fWin B W n N r) k) (s0 := fun r => aRd B W n F (fPl B W n N r) k) (t0 := (zI σ 80 2).toInt) hB hW (zk_bk (by omega)) n6 hfk hN (fun r hr => ?_) (by omega) N 0 σ1 (by omega) (by omega) T1 g1 eW1 ⟨fun r hr => ?_, ?_⟩ (Or.inl rfl) (fun σ2 l2 t2 f2 => ⟨rfl, (bX11_rounds_79 l2).mpr (nx σ2 _ (f1z.trans f2) (fun r hr => ?_) ?_ ?_)⟩))
      · have b1 := aRd_b (B := B) (W := W) (n := n) (F := F) (f := fWin B W n N r) (m := 40) (by omega) (fun _ _ => fWin_b hN) (show k ≤ 6 by omega)
        have b2 := aRd_b (B := B) (W := W) (n := n) (F := F) (f := fPl B W n N r) (m := 240) (by omega) (fun j hj => fPl_b hB hW n6 (aFst_fit hfs hj) hr hN) (show k ≤ 6 by omega)
        show 0 ≤ aRd B W n F (fWin B W n N r) k ∧ aRd B W n F (fWin B W n N r) k ≤ _ ∧ 0 ≤ aRd B W n F (fPl B W n N r) k ∧ aRd B W n F (fPl B W n N r) k ≤ _
        omega
      · rw [e80 81 _ (by omega) (by omega), e80 82 _ (by omega) (by omega)]
        show _ = aRd B W n F (fWin B W n N r) k + 0 ∧ _ = aRd B W n F (fPl B W n N r) k + 0
        rw [Int.add_zero, Int.add_zero]
        exact h1 r hr
      · rw [e80 80 _ (by omega) (by omega)]
        show _ = _ + (0 : Int)
        omega
      · rw [aRd_t cF, aRd_t cF]
        exact t2.1 r hr
      · have z := t2.2
        have bt := aSum_b2 (f := fun j => aTp n (aR B W n (aTurn F n k) j)) (m := 1) (by omega) (fun _ => aTp_b) hN
        omega
      · rw [aRd_t cF]
        exact zadd h3 k1
    · refine nx σ1 c f1z (fun r hr => ?_) ?_ ?_
      · rw [aRd_f cF, aRd_f cF, e80 81 _ (by omega) (by omega), e80 82 _ (by omega) (by omega)]
        exact h1 r hr
      · rw [e80 80 _ (by omega) (by omega)]
        omega
      · rw [aRd_f cF]
        exact h3
/-! the model's side -/
theorem m_starts_l {n b : Nat} {F : aFn} {B : aBk} {W : aWx} {x1 x2 x3 : Int32} :
    ∀ (m i : Nat) (σ : zS), n - i = m → i ≤ n → mCx σ n b B W → mF σ n = F → (∀ r, r < i → (zI σ 160 r).toInt = F r 3) →
    (∀ (σ' : zS), mCx σ' n b B W → mF σ' n = F → (∀ r, r < n → (zI σ' 160 r).toInt = F r 3) → zFr (fun j c _ => j = 0 ∧ c = 160) σ σ' → zW (d + 1) kX12_rounds 76 [.ref 131, .int x1, .int x2, .int x3, .int 0, .int 0] [] σ' Q) → zW (d + 1) kX12_rounds 41 [.ref 131, .int x1, .int x2, .int x3, .int (nI i), .retAddr 0] [] σ Q := by
  intro m
  induction m with
  | zero =>
    intro i σ hm hi C hF hw h
    have e : i = n := by omega
    subst e
    exact (bX12_rounds_41 C.1).mpr (zle' (zto C.2.2.1 (ai_n (by have := C.2.1; omega))) (ai_n (by have := C.2.1; omega)) (fun _ => h σ C hF hw (zFr.refl _ _)) (fun q => by omega))
  | succ m ih =>
    intro i σ hm hi C hF hw h
    have n6 := C.2.1
    have hin : i < n := by omega
    refine (bX12_rounds_41 C.1).mpr (zle' (zto C.2.2.1 (ai_n (by omega))) (ai_n (by omega)) (fun q => by omega) (fun _ => m_of C.1 3 hF n6 hin (by omega) (fun v hv => ⟨rfl, (bX12_rounds_63 C.1).mpr ⟨vp_in_nI (by omega) (by decide), ?_⟩⟩)))
    rw [nI_clamp (by omega), nI_1]
    have C1 : mCx (zsI σ 160 (upd (zI σ 160) i v)) n b B W := by
      obtain ⟨c1, c2, c3, c4, c5, c6, c7, c8, c9⟩ := C
      refine ⟨c1.I, c2, by rw [zI_ne (by decide)]; exact c3, c4, by rw [zI_ne (by decide)]; exact c5, ?_, ?_, c8, c9⟩
      · rw [← c6]
        unfold mB
        rw [zI_ne (by decide), zI_ne (by decide), zI_ne (by decide)]
      · rw [← c7]
        unfold mW
        rw [zI_ne (by decide)]
    have hF1 : mF (zsI σ 160 (upd (zI σ 160) i v)) n = F := by
      rw [← hF]
      unfold mF
      rw [zI_ne (by decide)]
    refine ih (i + 1) _ (by omega) (by omega) C1 hF1 (fun r hr => ?_) (fun σ' q1 q2 q3 q4 => h σ' q1 q2 q3 ((zFr_U (W := fun j c _ => j = 0 ∧ c = 160) ⟨rfl, rfl⟩).trans q4))
    rw [zI_self]
    by_cases e : r = i
    · rw [e, pk_us]; exact hv
    · rw [pk_un e]; exact hw r (by omega)
theorem m_tset_l {n b k : Nat} {F : aFn} {B : aBk} {W : aWx} (hk : k < n) :
    ∀ (m i : Nat) (σ : zS), n - i = m → i ≤ n → mCx σ n b B W → (∀ r w, r < n → w ≤ 2 → mF σ n r w = F r w) → (∀ r, r < n → (zI σ 160 r).toInt = F r 3) → (∀ r, r < i → mF σ n r 3 = aTurn F n k r 3) →
    (∀ σ', mCx σ' n b B W → (∀ r w, r < n → w ≤ 3 → mF σ' n r w = aTurn F n k r w) → zFr (mWr False) σ σ' → zW (d + 1) kX12_turns 37 [.ref 131, .int (nI k), .int 0, .retAddr 0] [] σ' Q) → zW (d + 1) kX12_turns 2 [.ref 131, .int (nI k), .int (nI i), .retAddr 0] [] σ Q := by
  intro m
  induction m with
  | zero =>
    intro i σ hm hi C hF hs h3 h
    have e : i = n := by omega
    subst e
    refine (bX12_turns_2 C.1).mpr (zle' (zto C.2.2.1 (ai_n (by have := C.2.1; omega))) (ai_n (by have := C.2.1; omega)) (fun _ => h σ C (fun r w hr hw => ?_) (zFr.refl _ _)) (fun q => by omega))
    by_cases e : w = 3
    · rw [e]; exact h3 r hr
    · rw [hF r w hr (by omega)]
      exact (if_neg e).symm
  | succ m ih =>
    intro i σ hm hi C hF hs h3 h
    have n6 := C.2.1
    have hin : i < n := by omega
    have hj : (i + k) % n < n := Nat.mod_lt _ (by omega)
    refine (bX12_turns_2 C.1).mpr (zle' (zto C.2.2.1 (ai_n (by omega))) (ai_n (by omega)) (fun q => by omega) (fun _ => ⟨fun q => ?_, ?_⟩))
    · have := congrArg Int32.toInt q
      rw [C.2.2.1, ai_n (by omega), k0] at this
      omega
    · rw [C.2.2.1, nI_add, a_mod (by omega) n6 (by omega)]
      refine ⟨vp_in_nI (by omega) (by decide), ?_⟩
      rw [nI_clamp (by omega)]
      refine m_set C.1 3 (by omega) (by omega) ⟨rfl, ?_⟩
      have f1 : zFr (mWr False) σ (mS σ i 3 (zI σ 160 ((i + k) % n))) := mS_fr (fun _ => Or.inl ⟨rfl, Or.inl rfl⟩)
      have eF := mS_F (n := n) (r := i) (w := 3) (v := zI σ 160 ((i + k) % n)) (F := mF σ n) rfl hin (by omega) (hs _ hj)
      have e160 : ∀ r, zI (mS σ i 3 (zI σ 160 ((i + k) % n))) 160 r = zI σ 160 r := fun r => f1.i (by unfold mWr; omega)
      have C1 := mCx_fr f1 C
      generalize mS σ i 3 (zI σ 160 ((i + k) % n)) = σ1 at f1 eF e160 C1 ⊢
      refine (bX12_turns_29 C1.1).mpr ?_
      rw [nI_1]
      refine ih (i + 1) σ1 (by omega) (by omega) C1 (fun r w hr hw => ?_) (fun r hr => by rw [e160]; exact hs r hr) (fun r hr => ?_) (fun σ' q1 q2 q3 => h σ' q1 q2 (f1.trans q3))
      · rw [eF, aU_w (by omega)]; exact hF r w hr hw
      · rw [eF]
        by_cases e : r = i
        · subst e
          rw [aU_s]
          unfold aTurn
          rw [if_pos rfl, ← a_mod2 hin hk n6]
        · rw [aU_r e]; exact h3 r (by omega)
theorem m_areApart {x0 x1 x2 x3 : Int32} {a0 a1 a2 a3 : Int} {σ : zS} (hl : zLay σ) (e0 : x0.toInt = a0) (e1 : x1.toInt = a1) (e2 : x2.toInt = a2) (e3 : x3.toInt = a3) (hb : (-1000 ≤ a0 ∧ a0 ≤ 1000) ∧ (0 ≤ a1 ∧ a1 ≤ 1000) ∧ (-1000 ≤ a2 ∧ a2 ≤ 1000) ∧ (0 ≤ a3 ∧ a3 ≤ 1000)) (h : Q (some (.int (zb (a0 + a1 ≤ a2 ∨ a2 + a3 ≤ a0)))) σ) : zCall d kX12_areApart [.int x0, .int x1, .int x2, .int x3] σ Q := by
  refine (bX12_areApart_0 hl).mpr (zle' (zadd e0 e1) e2 (fun q => ?_) (fun q => zlt' e0 (zadd e2 e3) (fun q2 => ?_) (fun q2 => ?_)))
  · rwa [zb_t (Or.inl q)] at h
  · rwa [zb_f (by omega)] at h
  · rwa [zb_t (Or.inr q2)] at h
theorem m_tchk_l {n b : Nat} {F : aFn} {B : aBk} {W : aWx} {x1 : Int32} {σ : zS} (C : mCx σ n b B W) (hF : ∀ r w, r < n → w ≤ 3 → mF σ n r w = F r w) (hs : ∀ r, r < n → (1 ≤ F r 0 ∧ F r 0 ≤ 5) ∧ (0 ≤ F r 3 ∧ F r 3 ≤ 6)) (h : Q (some (.int (zb (aFit B W n F)))) σ) :
    ∀ (m i : Nat) (v3 : Value), n - i = m → i ≤ n → v3.category = 1 → (∀ r, r < i → aCan B W (F r 0) 0 (F r 3)) → (∀ r, r < i → ∀ o, o < r → aApart F r o) → zW (d + 3) kX12_turns 37 [.ref 131, .int x1, .int (nI i), v3] [] σ Q := by
  have n6 := C.2.1
  intro m
  induction m with
  | zero =>
    intro i v3 hm hi hc h1 h2
    have e : i = n := by omega
    subst e
    refine (bX12_turns_37 C.1 hc).mpr (zle' (zto C.2.2.1 (ai_n (by omega))) (ai_n (by omega)) (fun _ => ?_) (fun q => by omega))
    rwa [zb_t ⟨h1, h2⟩] at h
  | succ m ih =>
    intro i v3 hm hi hc h1 h2
    have hin : i < n := by omega
    have hsi := hs i hin
    have in_l : ∀ (mm j : Nat), i - j = mm → j ≤ i → aCan B W (F i 0) 0 (F i 3) → (∀ o, o < j → aApart F i o) → zW (d + 3) kX12_turns 73 [.ref 131, .int x1, .int (nI i), .int (nI j)] [] σ Q := by
      intro mm
      induction mm with
      | zero =>
        intro j hm2 hj hcan hap
        have e : j = i := by omega
        subst e
        refine (bX12_turns_73 C.1).mpr (zle' (ai_n (by omega)) (ai_n (by omega)) (fun _ => ?_) (fun q => by omega))
        rw [nI_1]
        refine ih (j + 1) _ (by omega) (by omega) (zcat_i _) (fun r hr => ?_) (fun r hr => ?_)
        · rcases Nat.lt_or_ge r j with q | q
          · exact h1 r q
          · obtain rfl : r = j := by omega
            exact hcan
        · rcases Nat.lt_or_ge r j with q | q
          · exact h2 r q
          · obtain rfl : r = j := by omega
            exact hap
      | succ mm ih2 =>
        intro j hm2 hj hcan hap
        have hji : j < i := by omega
        have hsj := hs j (by omega)
        refine (bX12_turns_73 C.1).mpr (zle' (ai_n (by omega)) (ai_n (by omega)) (fun q => by omega) (fun _ => m_of C.1 3 rfl n6 hin (by omega) (fun a ea => ⟨rfl, (bX12_turns_84 C.1).mpr (m_of C.1 0 rfl n6 hin (by omega) (fun a' ea' => ⟨rfl, (bX12_turns_90 C.1).mpr (m_of C.1 3 rfl n6 (show j < n by omega) (by omega) (fun c ec => ⟨rfl, (bX12_turns_96 C.1).mpr (m_of C.1 0 rfl n6 (show j < n by omega) (by omega) (fun c' ec' => ⟨rfl, (bX12_turns_102 C.1).mpr ?_⟩))⟩))⟩))⟩)))
        rw [hF i 3 hin (by omega)] at ea
        rw [hF i 0 hin (by omega)] at ea'
        rw [hF j 3 (by omega) (by omega)] at ec
        rw [hF j 0 (by omega) (by omega)] at ec'
        refine m_areApart C.1 ea ea' ec ec' (by omega) ⟨rfl, (bX12_turns_105 C.1).mpr (zt0 (fun q => ?_) (fun q => ?_))⟩
        · rw [nI_1]
          refine ih2 (j + 1) (by omega) (by omega) hcan (fun o ho => ?_)
          rcases Nat.lt_or_ge o j with q2 | q2
          · exact hap o q2
          · obtain rfl : o = j := by omega
            exact q
        · rwa [zb_f (fun z => q (z.2 i hin j hji))] at h
    refine (bX12_turns_37 C.1 hc).mpr (zle' (zto C.2.2.1 (ai_n (by omega))) (ai_n (by omega)) (fun q => by omega) (fun _ => m_of C.1 0 rfl n6 hin (by omega) (fun a ea => ⟨rfl, (bX12_turns_56 C.1 hc).mpr (m_of C.1 3 rfl n6 hin (by omega) (fun c ec => ⟨rfl, (bX12_turns_63 C.1 hc).mpr ?_⟩))⟩)))
    rw [hF i 0 hin (by omega)] at ea
    rw [hF i 3 hin (by omega)] at ec
    rw [C.2.2.2.2.1]
    refine m_canLie C.1 C.2.2.2.2.2.1 C.2.2.2.2.2.2.1 C.2.2.2.2.2.2.2.1 C.2.2.2.1 (by decide) (by omega) ⟨rfl, (bX12_turns_66 C.1 hc).mpr (zt0 (fun q => ?_) (fun q => ?_))⟩
    · rw [ea, ec, k0] at q
      exact in_l i 0 (by omega) (by omega) q (fun o ho => by omega)
    · rw [ea, ec, k0] at q
      rwa [zb_f (fun z => q (z.1 i hin))] at h
theorem m_turns {n b k : Nat} {F : aFn} {B : aBk} {W : aWx} {σ : zS} (hk : k < n) (C : mCx σ n b B W) (hF : ∀ r w, r < n → w ≤ 2 → mF σ n r w = F r w) (hst : ∀ r, r < n → aFst B F r) (hs : ∀ r, r < n → (zI σ 160 r).toInt = F r 3) (h : ∀ σ', mCx σ' n b B W → (∀ r w, r < n → w ≤ 3 → mF σ' n r w = aTurn F n k r w) → zFr (mWr False) σ σ' → Q (some (.int (zb (aFit B W n (aTurn F n k))))) σ') : zCall (d + 3) kX12_turns [.ref 131, .int (nI k)] σ Q := by
  have n6 := C.2.1
  have hB6 := C.2.2.2.2.2.2.2.1.2.1
  refine (bX12_turns_0 C.1).mpr (m_tset_l (d := d + 2) hk n 0 σ (by omega) (by omega) C hF hs (fun r hr => by omega) (fun σ1 C1 hF1 f1 => ?_))
  refine m_tchk_l C1 hF1 (fun r hr => ?_) (h σ1 C1 hF1 f1) n 0 _ (by omega) (by omega) (zcat_r _) (fun r hr => by omega) (fun r hr => by omega)
  have e0 : aTurn F n k r 0 = F r 0 := if_neg (by omega)
  have z := hst r hr
  rw [e0]
  refine ⟨⟨z.1, z.2.1⟩, ?_⟩
  unfold aTurn
  rw [if_pos rfl]
  by_cases q : r + k < n
  · rw [if_pos q]
    have z2 := hst (r + k) q
    unfold aFst at z2
    omega
  · rw [if_neg q]
    have z2 := hst (r + k - n) (by omega)
    unfold aFst at z2
    omega
theorem m_rounds_l {n b r N : Nat} {F : aFn} {B : aBk} {W : aWx} {x3 : Int32} {f : aFn → Int} (hr : r < n) (hst : ∀ r, r < n → aFst B F r) (hN : N ≤ 40) (hf : (x3 = 2 ∧ f = fun _ => 1) ∨ (x3 = 0 ∧ f = fWin B W n N r) ∨ (¬ x3 = 2 ∧ ¬ x3 = 0 ∧ f = fPl B W n N r)) (hB : aBok B) (hW : aWok W) :
    ∀ (m k : Nat) (σ : zS) (c : Int32), n - k = m → k ≤ n → mCx σ n b B W → (∀ r w, r < n → w ≤ 2 → mF σ n r w = F r w) → (∀ r, r < n → (zI σ 160 r).toInt = F r 3) → zI σ 131 43 = 0 → c.toInt = aRd B W n F f k →
    (∀ (v i : Int32) (σ' : zS), v.toInt = aRd B W n F f n → zLay σ' → zFr (mWr False) σ σ' → zCall (d + 9) kX12_putBack [.ref 131] σ' (fun r' σ2 => zisN r' = true ∧ zW (d + 10) kX12_rounds 133 [.ref 131, .int (nI r), .int (nI N), .int x3, .int v, .int i] (zRstk r' ++ []) σ2 Q)) → zW (d + 10) kX12_rounds 76 [.ref 131, .int (nI r), .int (nI N), .int x3, .int c, .int (nI k)] [] σ Q := by
  intro m
  induction m with
  | zero =>
    intro k σ c hm hk C hF hs h43 hc h
    have e : k = n := by omega
    subst e
    exact (bX12_rounds_76 C.1).mpr (zle' (zto C.2.2.1 (ai_n (by have := C.2.1; omega))) (ai_n (by have := C.2.1; omega)) (fun _ => h c _ σ hc C.1 (zFr.refl _ _)) (fun q => by omega))
  | succ m ih =>
    intro k σ c hm hk C hF hs h43 hc h
    have n6 := C.2.1
    have fb : ∀ j, aFit B W n (aTurn F n j) → 0 ≤ f (aTurn F n j) ∧ f (aTurn F n j) ≤ 240 := fun j hj => by
      rcases hf with ⟨_, e⟩ | ⟨_, e⟩ | ⟨_, _, e⟩
      · rw [e]
        show (0 : Int) ≤ 1 ∧ (1 : Int) ≤ 240
        omega
      · rw [e]
        have := fWin_b (B := B) (W := W) (n := n) (N := N) (r := r) (F := aTurn F n j) hN
        omega
      · rw [e]; exact fPl_b hB hW n6 (aFst_fit hst hj) hr hN
    have cb := aRd_b (m := 240) (by omega) fb (show k ≤ 6 by omega)
    have nx : ∀ (σ2 : zS) (c2 : Int32), mCx σ2 n b B W → (∀ r w, r < n → w ≤ 2 → mF σ2 n r w = F r w) → zFr (mWr False) σ σ2 → c2.toInt = aRd B W n F f (k + 1) → zW (d + 10) kX12_rounds 76 [.ref 131, .int (nI r), .int (nI N), .int x3, .int c2, .int (nI k + 1)] [] σ2 Q := by
      intro σ2 c2 C2 hF2 f2 h2
      rw [nI_1]
      exact ih (k + 1) σ2 c2 (by omega) (by omega) C2 hF2 (fun r hr => by rw [f2.i (by unfold mWr; omega)]; exact hs r hr) (by rw [f2.i (by unfold mWr; omega)]; exact h43) h2 (fun v i σ' q1 q2 q3 => h v i σ' q1 q2 (f2.trans q3))
    refine (bX12_rounds_76 C.1).mpr (zle' (zto C.2.2.1 (ai_n (by omega))) (ai_n (by omega)) (fun q => by omega) (fun _ => m_turns (d := d + 6) (k := k) (by omega) C hF hst hs (fun σ1 C1 hF1 f1 => ⟨rfl, (bX12_rounds_91 C1.1).mpr (zt0 (fun cF => ?_) (fun cF => ?_))⟩)))
    · have hF12 : ∀ (σ2 : zS), (∀ r w, r < n → w ≤ 3 → mF σ2 n r w = aTurn F n k r w) → ∀ r w, r < n → w ≤ 2 → mF σ2 n r w = F r w := fun σ2 z r w hr hw => by
        rw [z r w hr (by omega)]
        exact if_neg (by omega)
      have fbk := fb k cF
      have h431 : zI σ1 131 43 = 0 := by rw [f1.i (by unfold mWr; omega)]; exact h43
      rcases hf with ⟨hx, e⟩ | ⟨hx, e⟩ | ⟨hx, hx2, e⟩
      · refine zy hx ((bX12_rounds_120 C1.1).mpr (nx σ1 _ C1 (hF12 σ1 hF1) f1 ?_))
        rw [aRd_t cF, e]
        rw [e] at hc cb
        exact zadd hc k1 (by show _ ≤ _ + (1 : Int); omega) (by show _ + (1 : Int) < _; omega)
      · refine zn (by rw [hx]; decide) (zy hx ((bX12_rounds_117 C1.1).mpr (m_sumOf C1 hF1 h431 hr (aFst_fit hst cF) hN (Or.inr ⟨by decide, rfl⟩) (fun v σ2 hv C2 hF2 _ f2 => ⟨rfl, (bX12_rounds_120 C2.1).mpr (nx σ2 _ C2 (hF12 σ2 hF2) (f1.trans f2) ?_)⟩))))
        rw [aRd_t cF]
        rw [e] at hc cb fbk ⊢
        exact zadd hc hv (by show _ ≤ _ + fWin B W n N r (aTurn F n k); omega) (by show _ + fWin B W n N r (aTurn F n k) < _; omega)
      · refine zn hx (zn hx2 ((bX12_rounds_117 C1.1).mpr (m_sumOf C1 hF1 h431 hr (aFst_fit hst cF) hN (Or.inl ⟨rfl, rfl⟩) (fun v σ2 hv C2 hF2 _ f2 => ⟨rfl, (bX12_rounds_120 C2.1).mpr (nx σ2 _ C2 (hF12 σ2 hF2) (f1.trans f2) ?_)⟩))))
        rw [aRd_t cF]
        rw [e] at hc cb fbk ⊢
        exact zadd hc hv (by show _ ≤ _ + fPl B W n N r (aTurn F n k); omega) (by show _ + fPl B W n N r (aTurn F n k) < _; omega)
    · exact nx σ1 c C1 (fun r w hr hw => by rw [hF1 r w hr (by omega)]; exact if_neg (by omega)) f1 (by rw [aRd_f cF]; exact hc)
end RND
