/-! what was: lies, was, passed, leader, led, struck -/
def aHere (F : aFn) (x y : Int) (r : Nat) : Prop := F r 7 = -1 ∧ F r 4 = x ∧ F r 5 ≤ y ∧ y < F r 5 + F r 0
theorem zto {x y : Int32} {a : Int} (h : x = y) (g : y.toInt = a) : x.toInt = a := by rw [h]; exact g
section LOGS
variable {σ : zS} {nb ns : Nat} {Q : Option Value → zS → Prop}
theorem p_lies_l {d n j : Nat} {F : aFn} {B : aBk} {W : aWx} {w : Nat} {x : Int32} (C : pCx σ 12 n B W w) (hF : pF σ 12 n = F) (hL : aLn B F n) (ho : ∀ o, o < n → (F o 7 = -1 ↔ F o 8 = -1)) (hj : j < 32) :
    ∀ (m i : Nat) (v4 : Value), n - i = m → i ≤ n → v4.category = 1 → (∀ v : Int32, v.toInt = aFd (aHere F x.toInt j) m i → Q (some (.int v)) σ) → zW (d + 1) kX11_lies 19 [.ref 1, .int x, .int (nI j), .int (nI i), v4] [] σ Q := by
  have C' := C
  obtain ⟨c1, c2, c3, c4, c5, c6, c8, c9, c10, c11⟩ := C
  intro m
  induction m with
  | zero =>
    intro i v4 hm hi hc h
    refine (bX11_lies_19 c1 hc).mpr (zle' (zto c5 (ai_n (by omega))) (ai_n (by omega)) (fun _ => h _ km1) (fun q => by omega))
  | succ m ih =>
    intro i v4 hm hi hc h
    have hin : i < n := by omega
    have nx : ∀ (v4 : Value), v4.category = 1 → ¬ aHere F x.toInt j i → zW (d + 1) kX11_lies 19 [.ref 1, .int x, .int (nI j), .int (nI i + 1), v4] [] σ Q := by
      intro v4 hc q
      rw [nI_1]
      exact ih (i + 1) v4 (by omega) (by omega) hc (fun v hv => h v (by rw [hv, aFd_f q]))
    refine (bX11_lies_19 c1 hc).mpr (zle' (zto c5 (ai_n (by omega))) (ai_n (by omega)) (fun q => by omega) (fun _ => zle' k6 (ai_n (by omega)) (fun q => by omega) (fun _ => ⟨vp_in_nI (by omega) (by decide), ?_⟩)))
    rw [zR_rn c1 (by omega)]
    refine (bX11_lies_45 c1 hc (zk_rn (by omega))).mpr (p_isOut (t := 12) c1 c2 c4 hF hin (ho i hin) ⟨rfl, (bX11_lies_52 c1 (zk_rn (by omega))).mpr (zt0 (fun c => nx _ (zcat_f _) (fun q => c q.1)) (fun c => ?_))⟩)
    have e4 : (zI σ (20 + 2 * i) 2).toInt = F i 4 := pF_4 (t := 12) hF hin
    refine zeq' e4 rfl (fun e5 => ?_) (fun e5 => nx _ (zcat_f _) (fun q => e5 q.2.1))
    refine p_lanes (t := 12) C' hF hin hL (fun u hu => ⟨rfl, (bX11_lies_69 c1 (zk_rn (by omega))).mpr (p_hasBit c1 hj ⟨rfl, (bX11_lies_73 c1 (zk_rn (by omega))).mpr ?_⟩)⟩)
    have hu2 := hu j hj
    refine zt0 (fun q => ?_) (fun q => nx _ (zcat_f _) (fun q2 => q (hu2.mpr q2.2.2)))
    have hh : aHere F x.toInt j i := ⟨Classical.not_not.mp c, e5, (hu2.mp q).1, (hu2.mp q).2⟩
    exact h _ (by rw [aFd_t hh]; exact ai_n (by omega))
theorem m_who_l {d : Nat} (hl : zLay σ) {n : Nat} {F : aFn} (hF : mF σ n = F) (hn : n ≤ 6) (hm : zI σ 131 20 = nI n) {x y : Int32} (hok : ∀ r, r < n → 0 ≤ F r 5 ∧ F r 5 ≤ 6 ∧ 0 ≤ F r 0 ∧ F r 0 ≤ 9) :
    ∀ (m i : Nat), n - i = m → i ≤ n → (∀ v : Int32, v.toInt = aFd (aHere F x.toInt y.toInt) m i → Q (some (.int v)) σ) → zW (d + 2) kX12_whoIs 3 [.ref 131, .int x, .int y, .int (-1), .int (nI i)] [] σ Q := by
  intro m
  induction m with
  | zero =>
    intro i hm2 hi h
    refine (bX12_whoIs_3 hl).mpr (zle' (zto hm (ai_n (by omega))) (ai_n (by omega)) (fun _ => h _ km1) (fun q => by omega))
  | succ m ih =>
    intro i hm2 hi h
    have hin : i < n := by omega
    have go : ¬ aHere F x.toInt y.toInt i → zW (d + 2) kX12_whoIs 3 [.ref 131, .int x, .int y, .int (-1), .int (nI i + 1)] [] σ Q := by
      intro hq
      rw [nI_1]
      exact ih (i + 1) (by omega) (by omega) (fun v hv => h v (by rw [hv, aFd_f hq]))
    have hoki := hok i hin
    refine (bX12_whoIs_3 hl).mpr (zle' (zto hm (ai_n (by omega))) (ai_n (by omega)) (fun q => by omega) (fun _ => zeq' (ai_n (by omega)) km1 (fun e2 => by omega) (fun e2 => ?_)))
    refine m_isOut hl hF hn hin ⟨rfl, (bX12_whoIs_24 hl).mpr (zt0 (fun c => go (fun q => c q.1)) (fun c => ?_))⟩
    refine m_of hl 4 hF hn hin (by omega) (fun v hv => ⟨rfl, (bX12_whoIs_34 hl).mpr (zeq' hv rfl (fun e3 => ?_) (fun e3 => go (fun q => e3 q.2.1)))⟩)
    refine m_of hl 5 hF hn hin (by omega) (fun v5 hv5 => ⟨rfl, (bX12_whoIs_46 hl).mpr ?_⟩)
    refine m_of hl 5 hF hn hin (by omega) (fun v6 hv6 => ⟨rfl, (bX12_whoIs_53 hl).mpr ?_⟩)
    refine m_of hl 0 hF hn hin (by omega) (fun v0 hv0 => ⟨rfl, (bX12_whoIs_60 hl).mpr ?_⟩)
    refine m_isIn hl ⟨rfl, (bX12_whoIs_66 hl).mpr (zt0 (fun c3 => ?_) (fun c3 => ?_))⟩
    · rw [zsub (zadd hv6 hv0) k1, hv5] at c3
      have hh : aHere F x.toInt y.toInt i := ⟨Classical.not_not.mp c, e3, c3.1, by omega⟩
      exact h _ (by rw [aFd_t hh]; exact ai_n (by omega))
    · rw [zsub (zadd hv6 hv0) k1, hv5] at c3
      exact go (fun q => c3 ⟨q.2.2.1, by have := q.2.2.2; omega⟩)
theorem e_lies (g : iA σ nb ns) (x y : Int32) : eCall kX11_lies kX12_lies [.int x, .int y] [.int x, .int y] σ := by
  rcases g.race with ⟨n, b, T, -⟩ | ⟨m19, m20, p4, -, -, zr, z3, z4⟩
  · have n6 := T.1
    have h6 := g.nb6
    have h10 := g.ns10
    have hb := T.bb
    have hB := g.bok hb
    have C := T.pcx g
    by_cases c : 0 ≤ x.toInt ∧ x.toInt < (mB σ b).2.2 ∧ 0 ≤ y.toInt ∧ y.toInt < (mB σ b).2.1
    · obtain ⟨j, hj, rfl, ej⟩ := ai_nx c.2.2.1
      have hj6 : j < 6 := by have := hB.2.1; omega
      refine e_q g (aFd (aHere (mFR σ 139 n) x.toInt j) n 0) (fun Q h => ?_) (fun σ1 σ2 Q l1 e2 g2 f2 h => ?_)
      · refine (bX11_lies_0 g.1).mpr ?_
        rw [T.2.2.2.2.2.1]
        refine (bX11_lies_7 g.1 (zk_bk (by omega))).mpr (p_has g.1 (g.bp hb) ⟨rfl, (bX11_lies_12 g.1).mpr (zt0 (fun _ => ?_) (fun q => absurd c q))⟩)
        exact p_lies_l C T.F T.ln (fun o ho => (T.ok o ho).2.2.2.2.2.2.2.2.1) (by omega) n 0 _ (by omega) (by omega) (zcat_r _) (fun v hv => h v σ hv (zFr.refl _ _))
      · have T2 := iT_fr f2 h6 h10 T
        refine (bX12_lies_0 l1).mpr ?_
        rw [e2]
        have e19 : zI σ1 131 19 = nI b := by
          rw [← T2.2.2.2.1, ← e2, zI_self, pk_un (by decide)]
        rw [e19]
        refine zn (nI_m1 (by omega)) (m_isCell g2.1 (by omega) (iS_mB f2 (b := b) (by omega)) hB ⟨rfl, (bX12_lies_23 g2.1).mpr (zt0 (fun _ => ?_) (fun q => absurd c q))⟩)
        refine (bX12_whoIs_0 g2.1).mpr (m_who_l g2.1 (T.m f2) n6 T2.2.1 (aLn_6 hB T.ln) n 0 (by omega) (by omega) (fun v hv => ⟨rfl, (bX12_lies_33 g2.1).mpr (h v σ2 (by rw [hv, ej]) (zFr.refl _ _))⟩))
    · refine e_q g (-1) (fun Q h => ?_) (fun σ1 σ2 Q l1 e2 g2 f2 h => ?_)
      · refine (bX11_lies_0 g.1).mpr ?_
        rw [T.2.2.2.2.2.1]
        exact (bX11_lies_7 g.1 (zk_bk (by omega))).mpr (p_has g.1 (g.bp hb) ⟨rfl, (bX11_lies_12 g.1).mpr (zt0 (fun q => absurd q c) (fun _ => h _ σ km1 (zFr.refl _ _)))⟩)
      · have T2 := iT_fr f2 h6 h10 T
        refine (bX12_lies_0 l1).mpr ?_
        rw [e2]
        have e19 : zI σ1 131 19 = nI b := by
          rw [← T2.2.2.2.1, ← e2, zI_self, pk_un (by decide)]
        rw [e19]
        exact zn (nI_m1 (by omega)) (m_isCell g2.1 (by omega) (iS_mB f2 (b := b) (by omega)) hB ⟨rfl, (bX12_lies_23 g2.1).mpr (zt0 (fun q => absurd q c) (fun _ => h _ σ2 km1 (zFr.refl _ _)))⟩)
  · refine e_q g (-1) (fun Q h => ?_) (fun σ1 σ2 Q l1 e2 g2 f2 h => ?_)
    · refine (bX11_lies_0 g.1).mpr ?_
      rw [zr]
      refine (bX11_lies_7 g.1 zk_16).mpr ((bX0_has_0 g.1 zk_16).mpr ?_)
      have no : zisN (some (.int 0)) = true ∧ zW 13 kX11_lies 12 [.ref 1, .int x, .int y, .retAddr 0, .retAddr 0] [.int 0] σ Q := ⟨rfl, (bX11_lies_12 g.1).mpr (zy rfl (h _ σ km1 (zFr.refl _ _)))⟩
      refine zlt' rfl k0 (fun _ => no) (fun q1 => ?_)
      rw [z4]
      exact zle' k0 rfl (fun _ => no) (fun q => by omega)
    · refine (bX12_lies_0 l1).mpr ?_
      rw [e2]
      have e19 : zI σ1 131 19 = -1 := by
        rw [← m19, ← f2.i (show ¬ iSafe 0 131 19 by unfold iSafe; omega), ← e2, zI_self, pk_un (by decide)]
      exact zy e19 (h _ σ2 km1 (zFr.refl _ _))
/-! the log -/
theorem p_noTick {d T : Nat} {x : Int32} (hl : zLay σ) (e9 : zI σ 12 9 = 1) (e5 : zI σ 12 5 = nI T) (hT : T ≤ 60) (h0 : 0 ≤ x.toInt ∧ x.toInt ≤ T → Q (some (.int 0)) σ) (h1 : ¬ (0 ≤ x.toInt ∧ x.toInt ≤ T) → Q (some (.int 1)) σ) : zCall d kX11_noTick [.ref 1, .int x] σ Q :=
  (bX11_noTick_0 hl).mpr (zn (by rw [e9]; decide) (zlt' rfl k0 (fun q => h1 (by omega)) (fun q => zle' rfl (zto e5 (ai_n (by omega))) (fun q2 => h0 ⟨q, q2⟩) (fun q2 => h1 (by omega)))))
theorem m_isTick {d T : Nat} {x : Int32} (hl : zLay σ) (e : zI σ 131 21 = nI T) (hT : T ≤ 60) (h0 : 0 ≤ x.toInt ∧ x.toInt ≤ T → Q (some (.int 1)) σ) (h1 : ¬ (0 ≤ x.toInt ∧ x.toInt ≤ T) → Q (some (.int 0)) σ) : zCall (d + 1) kX12_isTick [.ref 131, .int x] σ Q := by
  refine (bX12_isTick_0 hl).mpr ?_
  rw [e]
  refine zn (nI_m1 (by omega)) (m_isIn hl ⟨rfl, (bX12_isTick_17 hl).mpr (zt0 (fun q => h0 (by rw [k0, ai_n (by omega)] at q; exact q)) (fun q => h1 (by rw [k0, ai_n (by omega)] at q; exact q)))⟩)
theorem p_noEntry {d t r : Nat} (hl : zLay σ) (ht : t ≤ 60) (hr : r < 6) (h : Q (some (.int 0)) σ) : zCall d kX1_noEntry [.int (nI t), .int (nI r)] σ Q :=
  (bX1_noEntry_0 hl).mpr (zlt' (ai_n (by omega)) k0 (fun q => by omega) (fun _ => zlt' k60 (ai_n (by omega)) (fun q => by omega) (fun _ => zlt' (ai_n (by omega)) k0 (fun q => by omega) (fun _ => zlt' (ai_n (by omega)) k6 (fun _ => h) (fun q => by omega)))))
theorem p_xAt {d t r : Nat} (hl : zLay σ) (ht : t ≤ 60) (hr : r < 6) (h : Q (some (.int (zI σ 33 (6 * t + r)))) σ) : zCall (d + 1) kX1_xAt [.ref 32, .int (nI t), .int (nI r)] σ Q := by
  refine (bX1_xAt_0 hl zk_32).mpr (p_noEntry hl ht hr ⟨rfl, (bX1_xAt_5 hl zk_32).mpr (zy rfl ⟨?_, ?_⟩)⟩)
  · show vp_in ((nI 6 * nI t) + nI r) 366
    rw [pk_mul, nI_add]
    exact vp_in_nI (by omega) (by decide)
  · show Q (some (.int (zI σ 33 ((nI 6 * nI t) + nI r).toNatClampNeg))) σ
    rw [ai_ix (by omega) (by omega) 6 (by omega)]
    exact h
theorem p_yAt {d t r : Nat} (hl : zLay σ) (ht : t ≤ 60) (hr : r < 6) (h : Q (some (.int (zI σ 34 (6 * t + r)))) σ) : zCall (d + 1) kX1_yAt [.ref 32, .int (nI t), .int (nI r)] σ Q := by
  refine (bX1_yAt_0 hl zk_32).mpr (p_noEntry hl ht hr ⟨rfl, (bX1_yAt_5 hl zk_32).mpr (zy rfl ⟨?_, ?_⟩)⟩)
  · show vp_in ((nI 6 * nI t) + nI r) 366
    rw [pk_mul, nI_add]
    exact vp_in_nI (by omega) (by decide)
  · show Q (some (.int (zI σ 34 ((nI 6 * nI t) + nI r).toNatClampNeg))) σ
    rw [ai_ix (by omega) (by omega) 6 (by omega)]
    exact h
theorem a_ix366 {t r : Nat} (ht : t ≤ 60) (hr : r < 6) : vp_in ((6 * nI t) + nI r) 366 ∧ ((6 * nI t) + nI r : Int32).toNatClampNeg = 6 * t + r := by
  refine ⟨?_, ai_ix (by omega) (by omega) 6 (by omega)⟩
  show vp_in ((nI 6 * nI t) + nI r) 366
  rw [pk_mul, nI_add]
  exact vp_in_nI (by omega) (by decide)
/-- a started race or none: of the class and the model -/
theorem iA.go (g : iA σ nb ns) : (∃ n b T, iT σ nb ns n b ∧ iGo σ n T) ∨ (zI σ 131 21 = -1 ∧ zI σ 12 9 = 0) := by
  rcases g.race with ⟨n, b, T, h | ⟨t, h⟩⟩ | h
  · exact Or.inr ⟨h.1, h.2.1⟩
  · exact Or.inl ⟨n, b, t, T, h⟩
  · exact Or.inr ⟨h.2.2.2.1, h.2.2.2.2.1⟩
theorem iGo_fr {σ σ' : zS} {nb ns n b T : Nat} (h : zFr iSafe σ σ') (TT : iT σ nb ns n b) (g : iGo σ n T) : iGo σ' n T :=
  iRn_fr h (fun c k q => by unfold jRn at q; unfold iSafe; omega) ⟨by unfold iSafe; omega, by unfold iSafe; omega⟩ (iS_mFR h TT.1 (Or.inl rfl)) g
theorem e_was (g : iA σ nb ns) (x t y : Int32) : eCall kX11_was kX12_was [.int x, .int t, .int y] [.int x, .int t, .int y] σ := by
  have h6 := g.nb6
  have h10 := g.ns10
  have no1 : ∀ {n : Nat}, n ≤ 6 → zI σ 131 20 = nI n → zI σ 12 4 = nI n → ¬ (0 ≤ x.toInt ∧ x.toInt < n) → eCall kX11_was kX12_was [.int x, .int t, .int y] [.int x, .int t, .int y] σ := by
    intro n n6 m20 p4 hx
    refine e_q g (-1) (fun Q h => (bX11_was_0 g.1).mpr (p_nr1 g.1 p4 n6 hx ⟨rfl, (bX11_was_5 g.1).mpr (zn (by decide) (h _ σ rfl (zFr.refl _ _)))⟩)) (fun σ1 σ2 Q l1 e2 g2 f2 h => ?_)
    refine (bX12_was_0 l1).mpr ?_
    rw [e2]
    exact m_ir0 g2.1 (by rw [f2.i (show ¬ iSafe 0 131 20 by unfold iSafe; omega)]; exact m20) n6 hx ⟨rfl, (bX12_was_10 g2.1).mpr (zy rfl (h _ σ2 rfl (zFr.refl _ _)))⟩
  have no2 : ∀ {n r : Nat}, n ≤ 6 → zI σ 131 20 = nI n → zI σ 12 4 = nI n → x = nI r → r < n → zI σ 131 21 = -1 → zI σ 12 9 = 0 → eCall kX11_was kX12_was [.int x, .int t, .int y] [.int x, .int t, .int y] σ := by
    intro n r n6 m20 p4 ex hr m21 p9
    subst ex
    refine e_q g (-1) (fun Q h => (bX11_was_0 g.1).mpr (p_nr0 g.1 p4 n6 hr ⟨rfl, (bX11_was_5 g.1).mpr (zy rfl ((bX11_noTick_0 g.1).mpr (zy p9 ⟨rfl, (bX11_was_13 g.1).mpr (zn (by decide) (h _ σ rfl (zFr.refl _ _)))⟩)))⟩)) (fun σ1 σ2 Q l1 e2 g2 f2 h => ?_)
    refine (bX12_was_0 l1).mpr ?_
    rw [e2]
    exact m_ir1 g2.1 (by rw [f2.i (show ¬ iSafe 0 131 20 by unfold iSafe; omega)]; exact m20) n6 hr ⟨rfl, (bX12_was_10 g2.1).mpr (zn (by decide) ((bX12_isTick_0 g2.1).mpr (zy (by rw [f2.i (show ¬ iSafe 0 131 21 by unfold iSafe; omega)]; exact m21) ⟨rfl, (bX12_was_18 g2.1).mpr (zy rfl (h _ σ2 rfl (zFr.refl _ _)))⟩)))⟩
  rcases g.race with ⟨n, b, TT, hh⟩ | hh
  · rcases a_cs x n with ⟨r, hr, rfl, -⟩ | hx
    · rcases hh with hh | ⟨T, R⟩
      · exact no2 TT.1 TT.2.1 TT.2.2.1 rfl hr hh.1 hh.2.1
      have n6 := TT.1
      obtain ⟨g1, g2', g3, g4, g5, -, -, -, -, -, -, -, g13, -⟩ := R
      have pp : ∀ {Q : Option Value → zS → Prop}, (0 ≤ t.toInt ∧ t.toInt ≤ T → zW 13 kX11_was 13 [.ref 1, .int (nI r), .int t, .int y] [.int 0] σ Q) → (¬ (0 ≤ t.toInt ∧ t.toInt ≤ T) → Q (some (.int (-1))) σ) → zCall 13 kX11_was [.ref 1, .int (nI r), .int t, .int y] σ Q := by
        intro Q h1 h2
        refine (bX11_was_0 g.1).mpr (p_nr0 g.1 TT.2.2.1 n6 hr ⟨rfl, (bX11_was_5 g.1).mpr (zy rfl (p_noTick g.1 g5 g4 g1 (fun q => ⟨rfl, h1 q⟩) (fun q => ⟨rfl, (bX11_was_13 g.1).mpr (zn (by decide) (h2 q))⟩)))⟩)
      have mm : ∀ {σ1 σ2 : zS} {Q : Option Value → zS → Prop}, zLay σ1 → zsI σ1 131 (upd (zI σ1 131) 0 0) = σ2 → iA σ2 nb ns → zFr iSafe σ σ2 → (0 ≤ t.toInt ∧ t.toInt ≤ T → zW 13 kX12_was 18 [.ref 131, .int (nI r), .int t, .int y] [.int 1] σ2 Q) → (¬ (0 ≤ t.toInt ∧ t.toInt ≤ T) → Q (some (.int (-1))) σ2) → zCall 13 kX12_was [.ref 131, .int (nI r), .int t, .int y] σ1 Q := by
        intro σ1 σ2 Q l1 e2 g2 f2 h1 h2
        refine (bX12_was_0 l1).mpr ?_
        rw [e2]
        refine m_ir1 g2.1 (iT_fr f2 h6 h10 TT).2.1 n6 hr ⟨rfl, (bX12_was_10 g2.1).mpr (zn (by decide) (m_isTick g2.1 (by rw [f2.i (show ¬ iSafe 0 131 21 by unfold iSafe; omega)]; exact g3) g1 (fun q => ⟨rfl, h1 q⟩) (fun q => ⟨rfl, (bX12_was_18 g2.1).mpr (zy rfl (h2 q))⟩)))⟩
      rcases a_cs t (T + 1) with ⟨k, hk, rfl, -⟩ | ht
      · have hin : 0 ≤ (nI k).toInt ∧ (nI k).toInt ≤ T := by rw [ai_n (by omega)]; omega
        have gk := (g13 k (by omega)).1 r hr
        have ix := a_ix366 (t := k) (r := r) (by omega) (by omega)
        rcases a_cs y 2 with ⟨w, hw, rfl, -⟩ | hw
        · refine e_q g (if w = 0 then (zI σ 142 (6 * k + r)).toInt else (zI σ 143 (6 * k + r)).toInt) (fun Q h => pp (fun _ => (bX11_was_13 g.1).mpr (zy rfl (zlt' (ai_n (by omega)) k0 (fun q => by omega) (fun _ => zle' (ai_n (by omega)) k1 (fun _ => ?_) (fun q => by omega))))) (fun q => absurd hin q)) (fun σ1 σ2 Q l1 e2 g2 f2 h => mm l1 e2 g2 f2 (fun _ => ?_) (fun q => absurd hin q))
          · refine zeq' (ai_n (by omega)) k0 (fun q => p_xAt g.1 (by omega) (by omega) ⟨rfl, (bX11_was_40 g.1).mpr ((bX11_was_52 g.1).mpr (h _ σ ?_ (zFr.refl _ _)))⟩) (fun q => p_yAt g.1 (by omega) (by omega) ⟨rfl, (bX11_was_52 g.1).mpr (h _ σ ?_ (zFr.refl _ _))⟩)
            · rw [if_pos (by omega), gk.1]
            · rw [if_neg (by omega), gk.2]
          · refine (bX12_was_18 g2.1).mpr (zn (by decide) (m_isIn g2.1 ⟨rfl, (bX12_was_27 g2.1).mpr (zt0 (fun _ => ?_) (fun q => absurd (by rw [ai_n (by omega), k0, k1]; omega) q))⟩))
            rw [ix.2]
            refine zeq' (ai_n (by omega)) k0 (fun q => ⟨ix.1, h _ σ2 ?_ (zFr.refl _ _)⟩) (fun q => ⟨ix.1, h _ σ2 ?_ (zFr.refl _ _)⟩)
            · rw [if_pos (by omega), f2.i (show ¬ iSafe 0 142 (6 * k + r) by unfold iSafe; omega)]
            · rw [if_neg (by omega), f2.i (show ¬ iSafe 0 143 (6 * k + r) by unfold iSafe; omega)]
        · refine e_q g (-1) (fun Q h => pp (fun _ => (bX11_was_13 g.1).mpr (zy rfl (zlt' rfl k0 (fun _ => h _ σ km1 (zFr.refl _ _)) (fun q1 => zle' rfl k1 (fun q => absurd ⟨q1, by omega⟩ hw) (fun _ => h _ σ km1 (zFr.refl _ _)))))) (fun q => absurd hin q)) (fun σ1 σ2 Q l1 e2 g2 f2 h => mm l1 e2 g2 f2 (fun _ => ?_) (fun q => absurd hin q))
          exact (bX12_was_18 g2.1).mpr (zn (by decide) (m_isIn g2.1 ⟨rfl, (bX12_was_27 g2.1).mpr (zt0 (fun q => absurd (by rw [k0, k1] at q; omega) hw) (fun _ => h _ σ2 km1 (zFr.refl _ _)))⟩))
      · have hno : ¬ (0 ≤ t.toInt ∧ t.toInt ≤ T) := by omega
        exact e_q g (-1) (fun Q h => pp (fun q => absurd q hno) (fun _ => h _ σ km1 (zFr.refl _ _))) (fun σ1 σ2 Q l1 e2 g2 f2 h => mm l1 e2 g2 f2 (fun q => absurd q hno) (fun _ => h _ σ2 km1 (zFr.refl _ _)))
    · exact no1 TT.1 TT.2.1 TT.2.2.1 hx
  · by_cases hx : 0 ≤ x.toInt ∧ x.toInt < (0 : Nat)
    · exact absurd hx (by omega)
    · exact no1 (by omega) hh.2.1 hh.2.2.1 hx
theorem p_passed_l {d r T : Nat} {x : Int32} (hl : zLay σ) (hr : r < 6) (hT : T ≤ 60) (e5 : zI σ 12 5 = nI T) :
    ∀ (m i : Nat), T + 1 - i = m → i ≤ T + 1 → (∀ v : Int32, v.toInt = aFd (fun t => x.toInt ≤ (zI σ 33 (6 * t + r)).toInt) m i → Q (some (.int v)) σ) → zW (d + 2) kX11_passed 33 [.ref 1, .int (nI r), .int x, .int (nI i)] [] σ Q := by
  intro m
  induction m with
  | zero =>
    intro i hm hi h
    exact (bX11_passed_33 hl).mpr (zlt' (zto e5 (ai_n (by omega))) (ai_n (by omega)) (fun _ => h _ km1) (fun q => by omega))
  | succ m ih =>
    intro i hm hi h
    refine (bX11_passed_33 hl).mpr (zlt' (zto e5 (ai_n (by omega))) (ai_n (by omega)) (fun q => by omega) (fun _ => p_xAt hl (by omega) hr ⟨rfl, (bX11_passed_53 hl).mpr (zlt (fun q => ?_) (fun q => ?_))⟩))
    · rw [nI_1]
      exact ih (i + 1) (by omega) (by omega) (fun v hv => h v (by rw [hv, aFd_f (show ¬ (x.toInt ≤ (zI σ 33 (6 * i + r)).toInt) by omega)]))
    · exact h _ (by rw [aFd_t (show x.toInt ≤ (zI σ 33 (6 * i + r)).toInt from q)]; exact ai_n (by omega))
theorem m_passed_l {d r T : Nat} {x : Int32} (hl : zLay σ) (hr : r < 6) (hT : T ≤ 60) (e21 : zI σ 131 21 = nI T) :
    ∀ (m i : Nat), T + 1 - i = m → i ≤ T + 1 → (∀ v : Int32, v.toInt = aFd (fun t => x.toInt ≤ (zI σ 142 (6 * t + r)).toInt) m i → Q (some (.int v)) σ) → zW (d + 1) kX12_passed 35 [.ref 131, .int (nI r), .int x, .int (nI i)] [] σ Q := by
  intro m
  induction m with
  | zero =>
    intro i hm hi h
    exact (bX12_passed_35 hl).mpr (zlt' (zto e21 (ai_n (by omega))) (ai_n (by omega)) (fun _ => h _ km1) (fun q => by omega))
  | succ m ih =>
    intro i hm hi h
    have ix := a_ix366 (t := i) (r := r) (by omega) hr
    refine (bX12_passed_35 hl).mpr (zlt' (zto e21 (ai_n (by omega))) (ai_n (by omega)) (fun q => by omega) (fun _ => ⟨ix.1, ?_⟩))
    rw [ix.2]
    refine zlt (fun q => ?_) (fun q => ?_)
    · rw [nI_1]
      exact ih (i + 1) (by omega) (by omega) (fun v hv => h v (by rw [hv, aFd_f (show ¬ (x.toInt ≤ (zI σ 142 (6 * i + r)).toInt) by omega)]))
    · exact h _ (by rw [aFd_t (show x.toInt ≤ (zI σ 142 (6 * i + r)).toInt from q)]; exact ai_n (by omega))
theorem aFd_c {p p' : Nat → Prop} : ∀ (m i : Nat), (∀ k, i ≤ k → k < i + m → (p k ↔ p' k)) → aFd p m i = aFd p' m i
  | 0, _, _ => rfl
  | m + 1, i, h => by
    have e := aFd_c m (i + 1) (fun k h1 h2 => h k (by omega) (by omega))
    show zif (p i) (i : Int) (aFd p m (i + 1)) = zif (p' i) (i : Int) (aFd p' m (i + 1))
    rw [e, zif_c (h i (by omega) (by omega))]
theorem e_passed (g : iA σ nb ns) (x y : Int32) : eCall kX11_passed kX12_passed [.int x, .int y] [.int x, .int y] σ := by
  have h6 := g.nb6
  have h10 := g.ns10
  have hR : ∃ n, n ≤ 6 ∧ zI σ 131 20 = nI n ∧ zI σ 12 4 = nI n ∧ ((∃ b T, iT σ nb ns n b ∧ iGo σ n T) ∨ (zI σ 131 21 = -1 ∧ zI σ 12 9 = 0)) := by
    rcases g.race with ⟨n, b, TT, hh | ⟨T, R⟩⟩ | hh
    · exact ⟨n, TT.1, TT.2.1, TT.2.2.1, Or.inr ⟨hh.1, hh.2.1⟩⟩
    · exact ⟨n, TT.1, TT.2.1, TT.2.2.1, Or.inl ⟨b, T, TT, R⟩⟩
    · exact ⟨0, by omega, hh.2.1, hh.2.2.1, Or.inr ⟨hh.2.2.2.1, hh.2.2.2.2.1⟩⟩
  obtain ⟨n, n6, m20, p4, hh⟩ := hR
  have m20' : ∀ {σ2 : zS}, zFr iSafe σ σ2 → zI σ2 131 20 = nI n := fun f2 => by rw [f2.i (show ¬ iSafe 0 131 20 by unfold iSafe; omega)]; exact m20
  rcases hh with ⟨b, T, TT, R⟩ | ⟨m21, p9⟩
  · obtain ⟨g1, g2', g3, g4, g5, -, -, -, -, -, -, -, g13, g14⟩ := R
    have m21' : ∀ {σ2 : zS}, zFr iSafe σ σ2 → zI σ2 131 21 = nI T := fun f2 => by rw [f2.i (show ¬ iSafe 0 131 21 by unfold iSafe; omega)]; exact g3
    rcases a_cs x n with ⟨r, hr, rfl, -⟩ | hx
    · by_cases c : 1 ≤ y.toInt ∧ y.toInt ≤ 16
      · refine e_q g (aFd (fun t => y.toInt ≤ (zI σ 142 (6 * t + r)).toInt) T 1) (fun Q h => ?_) (fun σ1 σ2 Q l1 e2 g2 f2 h => ?_)
        · refine (bX11_passed_0 g.1).mpr (zn (by rw [g5]; decide) (p_nr0 g.1 p4 n6 hr ⟨rfl, (bX11_passed_15 g.1).mpr (zy rfl (zlt' rfl k1 (fun q => by omega) (fun _ => zle' rfl k16 (fun _ => ?_) (fun q => by omega))))⟩))
          refine p_passed_l g.1 (by omega) g1 g4 T 1 (by omega) (by omega) (fun v hv => h v σ ?_ (zFr.refl _ _))
          rw [hv]
          exact aFd_c T 1 (fun k h1 h2 => by rw [((g13 k (by omega)).1 r hr).1])
        · refine (bX12_passed_0 l1).mpr ?_
          rw [e2]
          refine m_ir1 g2.1 (m20' f2) n6 hr ⟨rfl, (bX12_passed_10 g2.1).mpr (zn (by decide) (zn (by rw [m21' f2]; exact nI_m1 (by omega)) (m_isIn g2.1 ⟨rfl, (bX12_passed_28 g2.1).mpr (zt0 (fun _ => ?_) (fun q => absurd (by rw [k1, k16]; exact c) q))⟩)))⟩
          refine m_passed_l g2.1 (by omega) g1 (m21' f2) (T + 1) 0 (by omega) (by omega) (fun v hv => h v σ2 ?_ (zFr.refl _ _))
          have e142 : ∀ k, zI σ2 142 k = zI σ 142 k := fun k => f2.i (by unfold iSafe; omega)
          rw [hv, aFd_f (by
            show ¬ (y.toInt ≤ (zI σ2 142 (6 * 0 + r)).toInt)
            rw [e142, Nat.mul_zero, Nat.zero_add, g14 r hr]
            omega)]
          exact aFd_c T 1 (fun k h1 h2 => by rw [e142])
      · refine e_q g (-1) (fun Q h => ?_) (fun σ1 σ2 Q l1 e2 g2 f2 h => ?_)
        · exact (bX11_passed_0 g.1).mpr (zn (by rw [g5]; decide) (p_nr0 g.1 p4 n6 hr ⟨rfl, (bX11_passed_15 g.1).mpr (zy rfl (zlt' rfl k1 (fun q => h _ σ km1 (zFr.refl _ _)) (fun q1 => zle' rfl k16 (fun q2 => absurd ⟨q1, q2⟩ c) (fun q => h _ σ km1 (zFr.refl _ _)))))⟩))
        · refine (bX12_passed_0 l1).mpr ?_
          rw [e2]
          exact m_ir1 g2.1 (m20' f2) n6 hr ⟨rfl, (bX12_passed_10 g2.1).mpr (zn (by decide) (zn (by rw [m21' f2]; exact nI_m1 (by omega)) (m_isIn g2.1 ⟨rfl, (bX12_passed_28 g2.1).mpr (zt0 (fun q => absurd (by rw [k1, k16] at q; exact q) c) (fun _ => h _ σ2 km1 (zFr.refl _ _)))⟩)))⟩
    · refine e_q g (-1) (fun Q h => (bX11_passed_0 g.1).mpr (zn (by rw [g5]; decide) (p_nr1 g.1 p4 n6 hx ⟨rfl, (bX11_passed_15 g.1).mpr (zn (by decide) (h _ σ km1 (zFr.refl _ _)))⟩))) (fun σ1 σ2 Q l1 e2 g2 f2 h => ?_)
      refine (bX12_passed_0 l1).mpr ?_
      rw [e2]
      exact m_ir0 g2.1 (m20' f2) n6 hx ⟨rfl, (bX12_passed_10 g2.1).mpr (zy rfl (h _ σ2 km1 (zFr.refl _ _)))⟩
  · refine e_q g (-1) (fun Q h => (bX11_passed_0 g.1).mpr (zy p9 (h _ σ km1 (zFr.refl _ _)))) (fun σ1 σ2 Q l1 e2 g2 f2 h => ?_)
    refine (bX12_passed_0 l1).mpr ?_
    rw [e2]
    rcases a_cs x n with ⟨r, hr, rfl, -⟩ | hx
    · exact m_ir1 g2.1 (m20' f2) n6 hr ⟨rfl, (bX12_passed_10 g2.1).mpr (zn (by decide) (zy (by rw [f2.i (show ¬ iSafe 0 131 21 by unfold iSafe; omega)]; exact m21) (h _ σ2 km1 (zFr.refl _ _))))⟩
    · exact m_ir0 g2.1 (m20' f2) n6 hx ⟨rfl, (bX12_passed_10 g2.1).mpr (zy rfl (h _ σ2 km1 (zFr.refl _ _)))⟩
theorem e_leader (g : iA σ nb ns) (x : Int32) : eCall kX11_leader kX12_leader [.int x] [.int x] σ := by
  rcases g.go with ⟨n, b, T, TT, R⟩ | ⟨m21, p9⟩
  · obtain ⟨g1, g2', g3, g4, g5, -, -, -, -, -, -, -, g13, g14⟩ := R
    have m21' : ∀ {σ2 : zS}, zFr iSafe σ σ2 → zI σ2 131 21 = nI T := fun f2 => by rw [f2.i (show ¬ iSafe 0 131 21 by unfold iSafe; omega)]; exact g3
    rcases a_cs x (T + 1) with ⟨k, hk, rfl, -⟩ | hk
    · have hin : 0 ≤ (nI k).toInt ∧ (nI k).toInt ≤ T := by rw [ai_n (by omega)]; omega
      refine e_q g (zI σ 144 k).toInt (fun Q h => (bX11_leader_0 g.1).mpr (p_noTick g.1 g5 g4 g1 (fun _ => ⟨rfl, (bX11_leader_5 g.1).mpr (zy rfl ((bX1_leaderAt_0 g.1 zk_32).mpr (zlt' (ai_n (by omega)) k0 (fun q => by omega) (fun _ => zle' (ai_n (by omega)) k60 (fun _ => ⟨vp_in_nI (by omega) (by decide), rfl, (bX11_leader_20 g.1).mpr ?_⟩) (fun q => by omega)))))⟩) (fun q => absurd hin q))) (fun σ1 σ2 Q l1 e2 g2 f2 h => ?_)
      · refine h _ σ ?_ (zFr.refl _ _)
        rw [nI_clamp (by omega)]
        exact congrArg Int32.toInt (g13 k (by omega)).2
      · refine (bX12_leader_0 l1).mpr ?_
        rw [e2]
        refine m_isTick g2.1 (m21' f2) g1 (fun _ => ⟨rfl, (bX12_leader_10 g2.1).mpr (zn (by decide) ⟨vp_in_nI (by omega) (by decide), h _ σ2 ?_ (zFr.refl _ _)⟩)⟩) (fun q => absurd hin q)
        rw [nI_clamp (by omega), f2.i (show ¬ iSafe 0 144 k by unfold iSafe; omega)]
    · have hno : ¬ (0 ≤ x.toInt ∧ x.toInt ≤ T) := by omega
      refine e_q g (-1) (fun Q h => (bX11_leader_0 g.1).mpr (p_noTick g.1 g5 g4 g1 (fun q => absurd q hno) (fun _ => ⟨rfl, (bX11_leader_5 g.1).mpr (zn (by decide) ((bX11_leader_20 g.1).mpr (h _ σ km1 (zFr.refl _ _))))⟩))) (fun σ1 σ2 Q l1 e2 g2 f2 h => ?_)
      refine (bX12_leader_0 l1).mpr ?_
      rw [e2]
      exact m_isTick g2.1 (m21' f2) g1 (fun q => absurd q hno) (fun _ => ⟨rfl, (bX12_leader_10 g2.1).mpr (zy rfl (h _ σ2 km1 (zFr.refl _ _)))⟩)
  · refine e_q g (-1) (fun Q h => (bX11_leader_0 g.1).mpr ((bX11_noTick_0 g.1).mpr (zy p9 ⟨rfl, (bX11_leader_5 g.1).mpr (zn (by decide) ((bX11_leader_20 g.1).mpr (h _ σ km1 (zFr.refl _ _))))⟩))) (fun σ1 σ2 Q l1 e2 g2 f2 h => ?_)
    refine (bX12_leader_0 l1).mpr ?_
    rw [e2]
    exact (bX12_isTick_0 g2.1).mpr (zy (by rw [f2.i (show ¬ iSafe 0 131 21 by unfold iSafe; omega)]; exact m21) ⟨rfl, (bX12_leader_10 g2.1).mpr (zy rfl (h _ σ2 km1 (zFr.refl _ _)))⟩)
end LOGS
