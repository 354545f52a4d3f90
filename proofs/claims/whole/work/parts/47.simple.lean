/-! the calls that only tell -/
/-- the race told: n runners on the brook b -/
def iT (σ : zS) (nb ns n b : Nat) : Prop := n ≤ 6 ∧ zI σ 131 20 = nI n ∧ zI σ 12 4 = nI n ∧ zI σ 131 19 = nI b ∧ iTl σ 12 139 nb ns n b
/-- a race that was started, at tick T -/
abbrev iGo (σ : zS) (n T : Nat) : Prop := iRn σ 12 139 19 31 145 33 34 35 142 143 144 n T
def iNo (σ : zS) (n : Nat) : Prop := zI σ 131 21 = -1 ∧ zI σ 12 9 = 0 ∧ ∀ r, r < n → mFR σ 139 n r 4 = 0 ∧ mFR σ 139 n r 7 = -1 ∧ mFR σ 139 n r 5 = mFR σ 139 n r 3
def iNil (σ : zS) : Prop := zI σ 131 19 = -1 ∧ zI σ 131 20 = nI 0 ∧ zI σ 12 4 = nI 0 ∧ zI σ 131 21 = -1 ∧ zI σ 12 9 = 0 ∧ zR σ 12 3 = some 16 ∧ zI σ 16 3 = 0 ∧ zI σ 16 4 = 0
theorem iA.race {σ : zS} {nb ns : Nat} (g : iA σ nb ns) : (∃ n b, iT σ nb ns n b ∧ (iNo σ n ∨ ∃ T, iGo σ n T)) ∨ iNil σ := by
  obtain ⟨n, r1, r2, r3, r4⟩ := g.rc
  rcases r4 with ⟨a1, a2, a3, a4, a5, a6, a7⟩ | ⟨b, a1, a2, a3⟩
  · subst a2
    exact Or.inr ⟨a1, r2, r3, a3, a4, a5, a6, a7⟩
  · exact Or.inl ⟨n, b, ⟨r1, r2, r3, a1, a2⟩, a3⟩
theorem iT_fr {σ σ' : zS} {nb ns n b : Nat} (h : zFr iSafe σ σ') (h6 : nb ≤ 6) (h10 : ns ≤ 10) (g : iT σ nb ns n b) : iT σ' nb ns n b := by
  refine ⟨g.1, ?_, ?_, ?_, iTl_fr h g.1 (Nat.le_refl _) (Nat.le_refl _) (fun c k q => by unfold jTl jB at q; unfold iSafe; omega) (fun c k a b => by unfold iSafe; omega) g.2.2.2.2⟩
  · rw [h.i (show ¬ iSafe 0 131 20 by unfold iSafe; omega)]; exact g.2.1
  · rw [h.i (show ¬ iSafe 0 12 4 by unfold iSafe; omega)]; exact g.2.2.1
  · rw [h.i (show ¬ iSafe 0 131 19 by unfold iSafe; omega)]; exact g.2.2.2.1
section IT
variable {σ : zS} {nb ns n b : Nat}
theorem iT.bb (T : iT σ nb ns n b) : b < nb := T.2.2.2.2.1
theorem iT.F (T : iT σ nb ns n b) : pF σ 12 n = mFR σ 139 n := T.2.2.2.2.2.2.2.1
theorem iT.ok (T : iT σ nb ns n b) : ∀ r, r < n → aFok (mB σ b) (mFR σ 139 n) r := T.2.2.2.2.2.2.2.2.1
theorem iT.ap (T : iT σ nb ns n b) : ∀ r, r < n → ∀ o, o < r → aApart (mFR σ 139 n) r o := T.2.2.2.2.2.2.2.2.2
theorem iT.ln (T : iT σ nb ns n b) : aLn (mB σ b) (mFR σ 139 n) n := fun o ho => ⟨(T.ok o ho).1.1, (T.ok o ho).1.2.1, (T.ok o ho).2.1, (T.ok o ho).2.2.1⟩
theorem iT.fs (T : iT σ nb ns n b) : ∀ r, r < n → aFst (mB σ b) (mFR σ 139 n) r := fun r hr => (T.ok r hr).1
theorem iT.pcx (T : iT σ nb ns n b) (g : iA σ nb ns) : pCx σ 12 n (mB σ b) (mW σ) 10 :=
  ⟨g.1, zk_12, zk_10, T.1, T.2.2.1, ⟨_, T.2.2.2.2.2.1, g.bp T.bb⟩, fun r hr => by
    obtain ⟨s, s1, s2⟩ := T.2.2.2.2.2.2.1 r hr
    exact ⟨121 + s, s2, zk_sk (by have := g.ns10; omega)⟩, g.wp, g.bok T.bb, g.wok⟩
theorem iT.mcx (T : iT σ nb ns n b) (g : iA σ nb ns) : mCx σ n b (mB σ b) (mW σ) :=
  ⟨g.1, T.1, T.2.1, by have := T.bb; have := g.nb6; omega, T.2.2.2.1, rfl, rfl, g.bok T.bb, g.wok⟩
theorem iT.v (T : iT σ nb ns n b) {r w : Nat} (hr : r < n) (h3 : 3 ≤ w) (hw : w < 11) : (zI σ (20 + 2 * r) (w - 2)).toInt = mFR σ 139 n r w := by
  rw [← T.F, pF_w hr h3 hw]
theorem iT.m (T : iT σ nb ns n b) {σ' : zS} (f : zFr iSafe σ σ') : mF σ' n = mFR σ 139 n := iS_mFR f T.1 (Or.inl rfl)
end IT
theorem m_placeOf {d : Nat} {σ : zS} {Q : Option Value → zS → Prop} (hl : zLay σ) {n r : Nat} {F : aFn} (hF : mF σ n = F) (hn : n ≤ 6) (hm : zI σ 131 20 = nI n) (hr : r < n) (h : ∀ v : Int32, v.toInt = aPl n F r → Q (some (.int v)) σ) : zCall (d + 2) kX12_placeOf [.ref 131, .int (nI r)] σ Q := by
  refine (bX12_placeOf_0 hl).mpr (m_isOut hl hF hn hr ⟨rfl, (bX12_placeOf_5 hl).mpr (zt0 (fun c => ?_) (fun c => ?_))⟩)
  · exact m_of hl 8 hF hn hr (by omega) (fun v hv => ⟨rfl, (bX12_placeOf_15 hl).mpr (h v (by rw [hv]; exact (if_neg c).symm))⟩)
  · refine h _ ?_
    rw [hm, ai_n (by omega)]
    exact (if_pos (Classical.not_not.mp c)).symm
theorem p_hasBit {d : Nat} {σ : zS} {Q : Option Value → zS → Prop} (hl : zLay σ) {m : Int32} {s : Nat} (hs : s < 32) (h : Q (some (.int (zb (bt m s = true)))) σ) : zCall d kX11_hasBit [.int m, .int (nI s)] σ Q := by
  refine (bX11_hasBit_0 hl).mpr (zti (fun e => ?_) (fun e => ?_))
  · rwa [zb_f ((p_bit0 hs).mp e)] at h
  · rwa [zb_t (Classical.not_not.mp (fun q => e ((p_bit0 hs).mpr q)))] at h
theorem m_has {d : Nat} {σ : zS} {Q : Option Value → zS → Prop} (hl : zLay σ) {m : Int32} {s : Nat} (hs : s < 32) (h : Q (some (.int (zb (bt m s = true)))) σ) : zCall d kX12_has [.int m, .int (nI s)] σ Q := by
  refine (bX12_has_0 hl).mpr (zti (fun e => ?_) (fun e => ?_))
  · rwa [zb_t ((p_bit1 hs).mp e)] at h
  · rwa [zb_f (fun q => e ((p_bit1 hs).mpr q))] at h
/-- the first place from i on, m of them tried -/
noncomputable def aFd (p : Nat → Prop) : Nat → Nat → Int
  | 0, _ => -1
  | m + 1, i => zif (p i) (i : Int) (aFd p m (i + 1))
theorem aFd_t {p : Nat → Prop} {m i : Nat} (h : p i) : aFd p (m + 1) i = i := zif_t h
theorem aFd_f {p : Nat → Prop} {m i : Nat} (h : ¬ p i) : aFd p (m + 1) i = aFd p m (i + 1) := zif_f h
noncomputable def aCt (p : Nat → Prop) : Nat → Nat → Int
  | 0, _ => 0
  | m + 1, i => zif (p i) 1 0 + aCt p m (i + 1)
theorem aCt_t {p : Nat → Prop} {m i : Nat} (h : p i) : aCt p (m + 1) i = 1 + aCt p m (i + 1) := by unfold aCt; rw [zif_t h]; cases m <;> rfl
theorem aCt_f {p : Nat → Prop} {m i : Nat} (h : ¬ p i) : aCt p (m + 1) i = aCt p m (i + 1) := by
  show zif (p i) 1 0 + aCt p m (i + 1) = _
  rw [zif_f h, Int.zero_add]
theorem m_pace2 {d : Nat} {σ : zS} {Q : Option Value → zS → Prop} {bi : Nat} {B : aBk} {W : aWx} (hl : zLay σ) (c4 : bi < 7) (c6 : mB σ bi = B) (c7 : mW σ = W) (c8 : aBok B) (c9 : aWok W) {x y : Int32} (hx : 0 ≤ x.toInt ∧ x.toInt < B.2.2) (hy : 0 ≤ y.toInt ∧ y.toInt < B.2.1) (h : ∀ v : Int32, v.toInt = aPace B W x.toInt y.toInt → Q (some (.int v)) σ) : zCall (d + 1) kX12_paceOf [.ref 131, .int (nI bi), .int x, .int y] σ Q := by
  obtain ⟨b1, b2, b3, b4, b5⟩ := c8
  have eh : (zI σ 131 14).toInt = W.2.1 := by rw [← c7]; rfl
  have hs := b5 y.toInt.toNat x.toInt.toNat (by omega) (by omega)
  have w1 := c9.2.2.1
  have w2 := c9.2.2.2.1
  refine (bX12_paceOf_0 hl).mpr (m_sign hl c4 (by omega) (by omega) (fun v hv => ⟨rfl, (bX12_paceOf_7 hl).mpr ?_⟩))
  rw [c6] at hv
  unfold aPace at h
  refine zeq' hv k0 (fun e => h _ ?_) (fun e => zeq' hv k10 (fun e2 => h _ ?_) (fun e2 => h _ ?_))
  · rw [if_pos e]; rfl
  · rw [if_neg e, if_pos e2]; exact zadd k1 eh
  · rw [if_neg e, if_neg e2]; exact zadd hv eh
section SIMPLE
variable {σ : zS} {nb ns : Nat}
theorem e_pace (g : iA σ nb ns) (b x y : Int32) : eCall kX11_pace kX12_pace [.int b, .int x, .int y] [.int b, .int x, .int y] σ := by
  have h6 := g.nb6
  rcases a_cs b nb with ⟨b, hb, rfl, -⟩ | hx
  · have hB := g.bok hb
    have p5 : ∀ {Q : Option Value → zS → Prop}, (0 ≤ x.toInt ∧ x.toInt < (mB σ b).2.2 ∧ 0 ≤ y.toInt ∧ y.toInt < (mB σ b).2.1 → zW 13 kX11_pace 19 [.ref 1, .int (nI b), .int x, .int y] [.int 1] σ Q) → (¬ (0 ≤ x.toInt ∧ x.toInt < (mB σ b).2.2 ∧ 0 ≤ y.toInt ∧ y.toInt < (mB σ b).2.1) → Q (some (.int (-1))) σ) → zCall 13 kX11_pace [.ref 1, .int (nI b), .int x, .int y] σ Q := by
      intro Q h1 h2
      refine (bX11_pace_0 g.1).mpr (p_nb0 g.1 g.e2 h6 hb ⟨rfl, (bX11_pace_5 g.1).mpr (zy rfl ⟨vp_in_nI (by omega) (by decide), ?_⟩)⟩)
      rw [zR_bk g.1 (by omega)]
      refine (bX11_pace_14 g.1 (zk_bk (by omega))).mpr (p_has g.1 (g.bp hb) ⟨rfl, ?_⟩)
      by_cases c : 0 ≤ x.toInt ∧ x.toInt < (mB σ b).2.2 ∧ 0 ≤ y.toInt ∧ y.toInt < (mB σ b).2.1
      · rw [zb_t c]; exact h1 c
      · rw [zb_f c]; exact (bX11_pace_19 g.1).mpr (zy rfl (h2 c))
    by_cases c : 0 ≤ x.toInt ∧ x.toInt < (mB σ b).2.2 ∧ 0 ≤ y.toInt ∧ y.toInt < (mB σ b).2.1
    · refine e_q g (aPace (mB σ b) (mW σ) x.toInt y.toInt) (fun Q h => p5 (fun _ => (bX11_pace_19 g.1).mpr (zn (by decide) ⟨vp_in_nI (by omega) (by decide), ?_⟩)) (fun q => absurd c q)) (fun σ1 σ2 Q l1 e2 g2 f2 h => ?_)
      · rw [zR_bk g.1 (by omega)]
        exact (bX11_pace_30 g.1 (zk_bk (by omega))).mpr (p_pace g.1 (g.bp hb) hB g.wok ⟨c.1, c.2.1⟩ ⟨c.2.2.1, c.2.2.2⟩ g.wp.2.1 (fun v hv => ⟨rfl, (bX11_pace_42 g.1).mpr (h v σ hv (zFr.refl _ _))⟩))
      · have eB := iS_mB f2 (b := b) (by omega)
        refine (bX12_pace_0 l1).mpr ?_
        rw [e2]
        refine m_ib1 g2.1 g2.e11 h6 hb ⟨rfl, (bX12_pace_10 g2.1).mpr (zn (by decide) (m_isCell g2.1 (by omega) eB hB ⟨rfl, (bX12_pace_20 g2.1).mpr (zt0 (fun _ => ?_) (fun q => absurd c q))⟩))⟩
        exact m_pace2 g2.1 (by omega) eB (iS_mW f2) hB g.wok ⟨c.1, c.2.1⟩ ⟨c.2.2.1, c.2.2.2⟩ (fun v hv => ⟨rfl, (bX12_pace_30 g2.1).mpr (h v σ2 hv (zFr.refl _ _))⟩)
    · refine e_q g (-1) (fun Q h => p5 (fun q => absurd q c) (fun _ => h _ σ km1 (zFr.refl _ _))) (fun σ1 σ2 Q l1 e2 g2 f2 h => ?_)
      refine (bX12_pace_0 l1).mpr ?_
      rw [e2]
      exact m_ib1 g2.1 g2.e11 h6 hb ⟨rfl, (bX12_pace_10 g2.1).mpr (zn (by decide) (m_isCell g2.1 (by omega) (iS_mB f2 (b := b) (by omega)) hB ⟨rfl, (bX12_pace_20 g2.1).mpr (zt0 (fun q => absurd q c) (fun _ => h _ σ2 km1 (zFr.refl _ _)))⟩))⟩
  · refine e_q g (-1) (fun Q h => (bX11_pace_0 g.1).mpr (p_nb1 g.1 g.e2 h6 hx ⟨rfl, (bX11_pace_5 g.1).mpr (zn (by decide) (h _ σ km1 (zFr.refl _ _)))⟩)) (fun σ1 σ2 Q l1 e2 g2 f2 h => ?_)
    refine (bX12_pace_0 l1).mpr ?_
    rw [e2]
    exact m_ib0 g2.1 g2.e11 h6 hx ⟨rfl, (bX12_pace_10 g2.1).mpr (zy rfl (h _ σ2 km1 (zFr.refl _ _)))⟩
theorem e_stick (g : iA σ nb ns) (s x : Int32) : eCall kX11_stick kX12_stick [.int s, .int x] [.int s, .int x] σ := by
  have h10 := g.ns10
  rcases a_cs s ns with ⟨s, hs, rfl, -⟩ | hx
  · obtain ⟨-, -, -, s0, s1, s2⟩ := g.stk hs
    have c11 : (nI s).toNatClampNeg = s := nI_clamp (by omega)
    rcases a_cs x 3 with ⟨k, hk, rfl, -⟩ | hk
    · refine e_q g (if k = 0 then (zI σ 136 s).toInt else if k = 1 then (zI σ 137 s).toInt else (zI σ 138 s).toInt) (fun Q h => (bX11_stick_0 g.1).mpr (p_ns0 g.1 g.e4 h10 hs ⟨rfl, (bX11_stick_5 g.1).mpr (zy rfl (zlt' (ai_n (by omega)) k0 (fun q => by omega) (fun _ => zle' (ai_n (by omega)) k2 (fun _ => ⟨vp_in_nI (by omega) (by decide), ?_⟩) (fun q => by omega))))⟩)) (fun σ1 σ2 Q l1 e2 g2 f2 h => ?_)
      · rw [zR_sk g.1 (by omega)]
        refine (bX11_stick_25 g.1 (zk_sk (by omega))).mpr (zeq' (ai_n (by omega)) k0 (fun q => h _ σ ?_ (zFr.refl _ _)) (fun q => zeq' (ai_n (by omega)) k1 (fun q2 => h _ σ ?_ (zFr.refl _ _)) (fun q2 => h _ σ ?_ (zFr.refl _ _))))
        · rw [if_pos (by omega), s0]
        · rw [if_neg (by omega), if_pos (by omega), s1]
        · rw [if_neg (by omega), if_neg (by omega), s2]
      · refine (bX12_stick_0 l1).mpr ?_
        rw [e2]
        refine m_is1 g2.1 g2.e12 h10 hs ⟨rfl, (bX12_stick_10 g2.1).mpr (zn (by decide) (m_isIn g2.1 ⟨rfl, (bX12_stick_19 g2.1).mpr (zt0 (fun _ => ?_) (fun q => ?_))⟩))⟩
        · refine zeq' (ai_n (by omega)) k0 (fun q => ⟨vp_in_nI (by omega) (by decide), h _ σ2 ?_ (zFr.refl _ _)⟩) (fun q => zeq' (ai_n (by omega)) k1 (fun q2 => ⟨vp_in_nI (by omega) (by decide), h _ σ2 ?_ (zFr.refl _ _)⟩) (fun q2 => ⟨vp_in_nI (by omega) (by decide), h _ σ2 ?_ (zFr.refl _ _)⟩))
          · rw [if_pos (by omega), c11, f2.i (show ¬ iSafe 0 136 s by unfold iSafe; omega)]
          · rw [if_neg (by omega), if_pos (by omega), c11, f2.i (show ¬ iSafe 0 137 s by unfold iSafe; omega)]
          · rw [if_neg (by omega), if_neg (by omega), c11, f2.i (show ¬ iSafe 0 138 s by unfold iSafe; omega)]
        · exact absurd (by rw [ai_n (by omega), k0, k2]; omega) q
    · refine e_q g (-1) (fun Q h => (bX11_stick_0 g.1).mpr (p_ns0 g.1 g.e4 h10 hs ⟨rfl, (bX11_stick_5 g.1).mpr (zy rfl (zlt' rfl k0 (fun q => h _ σ km1 (zFr.refl _ _)) (fun q => zle' rfl k2 (fun q2 => absurd ⟨q, by omega⟩ hk) (fun q => h _ σ km1 (zFr.refl _ _)))))⟩)) (fun σ1 σ2 Q l1 e2 g2 f2 h => ?_)
      refine (bX12_stick_0 l1).mpr ?_
      rw [e2]
      exact m_is1 g2.1 g2.e12 h10 hs ⟨rfl, (bX12_stick_10 g2.1).mpr (zn (by decide) (m_isIn g2.1 ⟨rfl, (bX12_stick_19 g2.1).mpr (zt0 (fun q => absurd (by rw [k0, k2] at q; omega) hk) (fun q => h _ σ2 km1 (zFr.refl _ _)))⟩))⟩
  · refine e_q g (-1) (fun Q h => (bX11_stick_0 g.1).mpr (p_ns1 g.1 g.e4 h10 hx ⟨rfl, (bX11_stick_5 g.1).mpr (zn (by decide) (h _ σ km1 (zFr.refl _ _)))⟩)) (fun σ1 σ2 Q l1 e2 g2 f2 h => ?_)
    refine (bX12_stick_0 l1).mpr ?_
    rw [e2]
    exact m_is0 g2.1 g2.e12 h10 hx ⟨rfl, (bX12_stick_10 g2.1).mpr (zy rfl (h _ σ2 km1 (zFr.refl _ _)))⟩
theorem e_can (g : iA σ nb ns) (b s x y : Int32) : eCall kX11_can kX12_can [.int b, .int s, .int x, .int y] [.int b, .int s, .int x, .int y] σ := by
  have h6 := g.nb6
  have h10 := g.ns10
  rcases a_cs b nb with ⟨b, hb, rfl, -⟩ | hx
  · have hB := g.bok hb
    rcases a_cs s ns with ⟨s, hs, rfl, -⟩ | hx
    · obtain ⟨t0, t1, t2, s0, s1, s2⟩ := g.stk hs
      have c11 : (nI s).toNatClampNeg = s := nI_clamp (by omega)
      refine e_q g (if 0 ≤ x.toInt ∧ x.toInt < (mB σ b).2.2 ∧ 0 ≤ y.toInt ∧ y.toInt < (mB σ b).2.1 then (zb (aCan (mB σ b) (mW σ) (zI σ 136 s).toInt x.toInt y.toInt)).toInt else -1) (fun Q h => (bX11_can_0 g.1).mpr (p_nb0 g.1 g.e2 h6 hb ⟨rfl, (bX11_can_5 g.1).mpr (zy rfl (p_ns0 g.1 g.e4 h10 hs ⟨rfl, (bX11_can_13 g.1).mpr (zy rfl ⟨vp_in_nI (by omega) (by decide), ?_⟩)⟩))⟩)) (fun σ1 σ2 Q l1 e2 g2 f2 h => ?_)
      · rw [zR_bk g.1 (by omega)]
        refine (bX11_can_22 g.1 (zk_bk (by omega))).mpr (p_has g.1 (g.bp hb) ⟨rfl, (bX11_can_28 g.1).mpr (zt0 (fun c => ⟨vp_in_nI (by omega) (by decide), ?_⟩) (fun c => h _ σ (by rw [if_neg c]; rfl) (zFr.refl _ _)))⟩)
        rw [zR_bk g.1 (by omega)]
        refine (bX11_can_39 g.1 (zk_bk (by omega))).mpr ⟨vp_in_nI (by omega) (by decide), ?_⟩
        rw [zR_sk g.1 (by omega)]
        refine (bX11_can_45 g.1 (zk_sk (by omega)) (zk_bk (by omega))).mpr (p_holds g.1 (g.bp hb) hB (zk_sk (by omega)) (by rw [s0]) t0 g.wp.2.1 ⟨rfl, (bX11_can_58 g.1).mpr (zt0 (fun q => h _ σ ?_ (zFr.refl _ _)) (fun q => h _ σ ?_ (zFr.refl _ _)))⟩)
        · rw [if_pos c, zb_t q.2.2]
        · rw [if_pos c, zb_f (fun q2 => q ⟨c.1, c.2.1, q2⟩)]
      · have eB := iS_mB f2 (b := b) (by omega)
        have e136 := f2.i (show ¬ iSafe 0 136 s by unfold iSafe; omega)
        refine (bX12_can_0 l1).mpr ?_
        rw [e2]
        refine m_ib1 g2.1 g2.e11 h6 hb ⟨rfl, (bX12_can_10 g2.1).mpr (zn (by decide) (m_is1 g2.1 g2.e12 h10 hs ⟨rfl, (bX12_can_18 g2.1).mpr (zn (by decide) (m_isCell g2.1 (by omega) eB hB ⟨rfl, (bX12_can_29 g2.1).mpr (zt0 (fun c => ⟨vp_in_nI (by omega) (by decide), ?_⟩) (fun c => h _ σ2 (by rw [if_neg c]; rfl) (zFr.refl _ _)))⟩))⟩))⟩
        rw [c11, e136]
        refine m_canLie g2.1 eB (iS_mW f2) hB (by omega) ⟨c.1, by have := hB.2.2.2.1; omega⟩ (by omega) ⟨rfl, (bX12_can_50 g2.1).mpr (zt0 (fun q => h _ σ2 ?_ (zFr.refl _ _)) (fun q => h _ σ2 ?_ (zFr.refl _ _)))⟩
        · rw [if_pos c, zb_t q]
        · rw [if_pos c, zb_f q]
    · refine e_q g (-1) (fun Q h => (bX11_can_0 g.1).mpr (p_nb0 g.1 g.e2 h6 hb ⟨rfl, (bX11_can_5 g.1).mpr (zy rfl (p_ns1 g.1 g.e4 h10 hx ⟨rfl, (bX11_can_13 g.1).mpr (zn (by decide) (h _ σ km1 (zFr.refl _ _)))⟩))⟩)) (fun σ1 σ2 Q l1 e2 g2 f2 h => ?_)
      refine (bX12_can_0 l1).mpr ?_
      rw [e2]
      exact m_ib1 g2.1 g2.e11 h6 hb ⟨rfl, (bX12_can_10 g2.1).mpr (zn (by decide) (m_is0 g2.1 g2.e12 h10 hx ⟨rfl, (bX12_can_18 g2.1).mpr (zy rfl (h _ σ2 km1 (zFr.refl _ _)))⟩))⟩
  · refine e_q g (-1) (fun Q h => (bX11_can_0 g.1).mpr (p_nb1 g.1 g.e2 h6 hx ⟨rfl, (bX11_can_5 g.1).mpr (zn (by decide) (h _ σ km1 (zFr.refl _ _)))⟩)) (fun σ1 σ2 Q l1 e2 g2 f2 h => ?_)
    refine (bX12_can_0 l1).mpr ?_
    rw [e2]
    exact m_ib0 g2.1 g2.e11 h6 hx ⟨rfl, (bX12_can_10 g2.1).mpr (zy rfl (h _ σ2 km1 (zFr.refl _ _)))⟩
theorem e_count (g : iA σ nb ns) (x : Int32) : eCall kX11_count kX12_count [.int x] [.int x] σ := by
  have eT : zI σ 2 1 = zI σ 131 2 := by
    obtain ⟨len, -, t2, t3, -⟩ := g.2.1
    rw [t2, t3]
  have eS : zI σ 6 3 = zI σ 131 54 := by
    obtain ⟨n, -, t2, t3, -⟩ := g.sg
    rw [t2, t3]
  have eR : zI σ 12 4 = zI σ 131 20 := by
    obtain ⟨n, -, t2, t3, -⟩ := g.rc
    rw [t2, t3]
  have eK : (zI σ 131 21 = -1 ∧ zI σ 12 9 = 0) ∨ (zI σ 12 5 = zI σ 131 21 ∧ ¬ zI σ 12 9 = 0) := by
    rcases g.race with ⟨n, b, T, h | ⟨t, h⟩⟩ | h
    · exact Or.inl ⟨h.1, h.2.1⟩
    · exact Or.inr ⟨by rw [h.2.2.2.1]; exact h.2.2.1.symm, by rw [h.2.2.2.2.1]; decide⟩
    · exact Or.inl ⟨h.2.2.2.1, h.2.2.2.2.1⟩
  have eM : ∀ {σ2 : zS} (f2 : zFr iSafe σ σ2) {k : Nat}, ¬ iSafe 0 131 k → (zI σ2 131 k).toInt = (zI σ 131 k).toInt := fun f2 _ q => by rw [f2.i q]
  rcases a_cs x 9 with ⟨k, hk, rfl, -⟩ | hx
  · rcases (by omega : k = 0 ∨ k = 1 ∨ k = 2 ∨ k = 3 ∨ k = 4 ∨ k = 5 ∨ k = 6 ∨ k = 7 ∨ k = 8) with rfl | rfl | rfl | rfl | rfl | rfl | rfl | rfl | rfl
    · exact e_q g (zI σ 131 11).toInt (fun Q h => (bX11_count_0 g.1).mpr (t_pcount_0 ((bX11_count_52 g.1).mpr (h _ σ (congrArg Int32.toInt (g.e2.trans g.e11.symm)) (zFr.refl _ _))))) (fun σ1 σ2 Q l1 e2 g2 f2 h => (bX12_count_0 l1).mpr (by rw [e2]; exact t_mcount_0 ((bX12_count_56 g2.1).mpr (h _ σ2 (eM f2 (by unfold iSafe; omega)) (zFr.refl _ _)))))
    · exact e_q g (zI σ 131 12).toInt (fun Q h => (bX11_count_0 g.1).mpr (t_pcount_1 ((bX11_count_57 g.1).mpr (h _ σ (congrArg Int32.toInt (g.e4.trans g.e12.symm)) (zFr.refl _ _))))) (fun σ1 σ2 Q l1 e2 g2 f2 h => (bX12_count_0 l1).mpr (by rw [e2]; exact t_mcount_1 ((bX12_count_61 g2.1).mpr (h _ σ2 (eM f2 (by unfold iSafe; omega)) (zFr.refl _ _)))))
    · exact e_q g (zI σ 131 20).toInt (fun Q h => (bX11_count_0 g.1).mpr (t_pcount_2 ((bX11_count_62 g.1).mpr (h _ σ (congrArg Int32.toInt (eR)) (zFr.refl _ _))))) (fun σ1 σ2 Q l1 e2 g2 f2 h => (bX12_count_0 l1).mpr (by rw [e2]; exact t_mcount_2 ((bX12_count_66 g2.1).mpr (h _ σ2 (eM f2 (by unfold iSafe; omega)) (zFr.refl _ _)))))
    · exact e_q g (zI σ 131 54).toInt (fun Q h => (bX11_count_0 g.1).mpr (t_pcount_3 ((bX11_count_70 g.1).mpr (h _ σ (congrArg Int32.toInt (eS)) (zFr.refl _ _))))) (fun σ1 σ2 Q l1 e2 g2 f2 h => (bX12_count_0 l1).mpr (by rw [e2]; exact t_mcount_3 ((bX12_count_71 g2.1).mpr (h _ σ2 (eM f2 (by unfold iSafe; omega)) (zFr.refl _ _)))))
    · exact e_q g (zI σ 131 2).toInt (fun Q h => (bX11_count_0 g.1).mpr (t_pcount_4 ((bX11_count_78 g.1).mpr (h _ σ (congrArg Int32.toInt (eT)) (zFr.refl _ _))))) (fun σ1 σ2 Q l1 e2 g2 f2 h => (bX12_count_0 l1).mpr (by rw [e2]; exact t_mcount_4 ((bX12_count_76 g2.1).mpr (h _ σ2 (eM f2 (by unfold iSafe; omega)) (zFr.refl _ _)))))
    · exact e_q g (zI σ 131 21).toInt (fun Q h => (bX11_count_0 g.1).mpr (t_pcount_5 ((bX11_count_86 g.1).mpr (zti (fun q => h _ σ (by rcases eK with e | e; rw [e.1]; exact absurd q e.2) (zFr.refl _ _)) (fun q => h _ σ (by rcases eK with e | e; exact absurd e.2 q; rw [e.1]) (zFr.refl _ _)))))) (fun σ1 σ2 Q l1 e2 g2 f2 h => (bX12_count_0 l1).mpr (by rw [e2]; exact t_mcount_5 ((bX12_count_81 g2.1).mpr (h _ σ2 (eM f2 (by unfold iSafe; omega)) (zFr.refl _ _)))))
    · exact e_q g (zI σ 131 13).toInt (fun Q h => (bX11_count_0 g.1).mpr (t_pcount_6 ((bX11_count_108 g.1).mpr (h _ σ (congrArg Int32.toInt (g.2.2.1.2.1)) (zFr.refl _ _))))) (fun σ1 σ2 Q l1 e2 g2 f2 h => (bX12_count_0 l1).mpr (by rw [e2]; exact t_mcount_6 ((bX12_count_86 g2.1).mpr (h _ σ2 (eM f2 (by unfold iSafe; omega)) (zFr.refl _ _)))))
    · exact e_q g (zI σ 131 14).toInt (fun Q h => (bX11_count_0 g.1).mpr (t_pcount_7 ((bX11_count_116 g.1).mpr (h _ σ (congrArg Int32.toInt (g.2.2.1.2.2.1)) (zFr.refl _ _))))) (fun σ1 σ2 Q l1 e2 g2 f2 h => (bX12_count_0 l1).mpr (by rw [e2]; exact t_mcount_7 ((bX12_count_91 g2.1).mpr (h _ σ2 (eM f2 (by unfold iSafe; omega)) (zFr.refl _ _)))))
    · exact e_q g (zI σ 131 15).toInt (fun Q h => (bX11_count_0 g.1).mpr (t_pcount_8 ((bX11_count_124 g.1).mpr (h _ σ (congrArg Int32.toInt (g.2.2.1.2.2.2)) (zFr.refl _ _))))) (fun σ1 σ2 Q l1 e2 g2 f2 h => (bX12_count_0 l1).mpr (by rw [e2]; exact t_mcount_8 ((bX12_count_96 g2.1).mpr (h _ σ2 (eM f2 (by unfold iSafe; omega)) (zFr.refl _ _)))))
  · exact e_q g (-1000) (fun Q h => (bX11_count_0 g.1).mpr (t_pcount_o hx ((bX11_count_132 g.1).mpr (h _ σ rfl (zFr.refl _ _))))) (fun σ1 σ2 Q l1 e2 g2 f2 h => (bX12_count_0 l1).mpr (by rw [e2]; exact t_mcount_o hx ((bX12_count_101 g2.1).mpr (h _ σ2 rfl (zFr.refl _ _)))))
theorem e_look (g : iA σ nb ns) (x y : Int32) : eCall kX11_look kX12_look_ [.int x, .int y] [.int x, .int y] σ := by
  have no : ∀ {n : Nat}, n ≤ 6 → zI σ 131 20 = nI n → zI σ 12 4 = nI n → ¬ (0 ≤ x.toInt ∧ x.toInt < n) → eCall kX11_look kX12_look_ [.int x, .int y] [.int x, .int y] σ := by
    intro n h6 m20 p4 hx
    refine e_q g (-1000) (fun Q h => (bX11_look_0 g.1).mpr (p_nr1 g.1 p4 h6 hx ⟨rfl, (bX11_look_5 g.1).mpr (zn (by decide) (h _ σ rfl (zFr.refl _ _)))⟩)) (fun σ1 σ2 Q l1 e2 g2 f2 h => ?_)
    refine (bX12_look__0 l1).mpr ?_
    rw [e2]
    exact m_ir0 g2.1 (by rw [f2.i (show ¬ iSafe 0 131 20 by unfold iSafe; omega)]; exact m20) h6 hx ⟨rfl, (bX12_look__10 g2.1).mpr (zy rfl (h _ σ2 rfl (zFr.refl _ _)))⟩
  rcases g.race with ⟨n, b, T, -⟩ | ⟨-, m20, p4, -⟩
  · rcases a_cs x n with ⟨r, hr, rfl, -⟩ | hx
    · have n6 := T.1
      have h6 := g.nb6
      have h10 := g.ns10
      have pp : ∀ {Q : Option Value → zS → Prop}, zW 13 kX11_look 23 [.ref 1, .int (nI r), .int y, .ref (20 + 2 * r)] [.int y] σ Q → zCall 13 kX11_look [.ref 1, .int (nI r), .int y] σ Q := by
        intro Q h
        refine (bX11_look_0 g.1).mpr (p_nr0 g.1 T.2.2.1 n6 hr ⟨rfl, (bX11_look_5 g.1).mpr (zy rfl ⟨vp_in_nI (by omega) (by decide), ?_⟩)⟩)
        rw [zR_rn g.1 (by omega)]
        exact (bX11_look_21 g.1 (zk_rn (by omega))).mpr h
      have mm : ∀ {σ1 σ2 : zS} {Q : Option Value → zS → Prop}, zLay σ1 → zsI σ1 131 (upd (zI σ1 131) 0 0) = σ2 → iA σ2 nb ns → zFr iSafe σ σ2 → (¬ (0 ≤ y.toInt ∧ y.toInt < 7) → Q (some (.int (-1000))) σ2) → ((0 ≤ y.toInt ∧ y.toInt < 7) → zW 13 kX12_look_ 28 [.ref 131, .int (nI r), .int y] [.int y] σ2 Q) → zCall 13 kX12_look_ [.ref 131, .int (nI r), .int y] σ1 Q := by
        intro σ1 σ2 Q l1 e2 g2 f2 h1 h2
        refine (bX12_look__0 l1).mpr ?_
        rw [e2]
        exact m_ir1 g2.1 (by rw [f2.i (show ¬ iSafe 0 131 20 by unfold iSafe; omega)]; exact T.2.1) n6 hr ⟨rfl, (bX12_look__10 g2.1).mpr (zn (by decide) (m_isIn g2.1 ⟨rfl, (bX12_look__20 g2.1).mpr (zt0 (fun q => h2 (by rw [k0, k6] at q; omega)) (fun q => h1 (by rw [k0, k6] at q; omega)))⟩))⟩
      rcases a_cs y 7 with ⟨k, hk, rfl, -⟩ | hk
      · have hin : 0 ≤ (nI k).toInt ∧ (nI k).toInt < 7 := by rw [ai_n (by omega)]; omega
        rcases (by omega : k = 0 ∨ k = 1 ∨ k = 2 ∨ k = 3 ∨ k = 4 ∨ k = 5 ∨ k = 6) with rfl | rfl | rfl | rfl | rfl | rfl | rfl
        · exact e_q g (mFR σ 139 n r 4) (fun Q h => pp (t_plook_0 ((bX11_look_64 g.1 (zk_rn (by omega))).mpr (h _ σ (T.v (w := 4) hr (by omega) (by omega)) (zFr.refl _ _))))) (fun σ1 σ2 Q l1 e2 g2 f2 h => mm l1 e2 g2 f2 (fun q => absurd hin q) (fun _ => t_mlook_0 ((bX12_look__68 g2.1).mpr (m_of g2.1 4 (T.m f2) n6 hr (by omega) (fun v hv => ⟨rfl, (bX12_look__74 g2.1).mpr (h v σ2 hv (zFr.refl _ _))⟩)))))
        · exact e_q g (mFR σ 139 n r 5) (fun Q h => pp (t_plook_1 ((bX11_look_69 g.1 (zk_rn (by omega))).mpr (h _ σ (T.v (w := 5) hr (by omega) (by omega)) (zFr.refl _ _))))) (fun σ1 σ2 Q l1 e2 g2 f2 h => mm l1 e2 g2 f2 (fun q => absurd hin q) (fun _ => t_mlook_1 ((bX12_look__75 g2.1).mpr (m_of g2.1 5 (T.m f2) n6 hr (by omega) (fun v hv => ⟨rfl, (bX12_look__81 g2.1).mpr (h v σ2 hv (zFr.refl _ _))⟩)))))
        · exact e_q g (mFR σ 139 n r 6) (fun Q h => pp (t_plook_2 ((bX11_look_74 g.1 (zk_rn (by omega))).mpr (h _ σ (T.v (w := 6) hr (by omega) (by omega)) (zFr.refl _ _))))) (fun σ1 σ2 Q l1 e2 g2 f2 h => mm l1 e2 g2 f2 (fun q => absurd hin q) (fun _ => t_mlook_2 ((bX12_look__82 g2.1).mpr (m_of g2.1 6 (T.m f2) n6 hr (by omega) (fun v hv => ⟨rfl, (bX12_look__89 g2.1).mpr (h v σ2 hv (zFr.refl _ _))⟩)))))
        · exact e_q g (mFR σ 139 n r 7) (fun Q h => pp (t_plook_3 ((bX11_look_79 g.1 (zk_rn (by omega))).mpr (h _ σ (T.v (w := 7) hr (by omega) (by omega)) (zFr.refl _ _))))) (fun σ1 σ2 Q l1 e2 g2 f2 h => mm l1 e2 g2 f2 (fun q => absurd hin q) (fun _ => t_mlook_3 ((bX12_look__90 g2.1).mpr (m_of g2.1 7 (T.m f2) n6 hr (by omega) (fun v hv => ⟨rfl, (bX12_look__97 g2.1).mpr (h v σ2 hv (zFr.refl _ _))⟩)))))
        · exact e_q g (aPl n (mFR σ 139 n) r) (fun Q h => pp (t_plook_4 ((bX11_look_84 g.1 (zk_rn (by omega))).mpr (p_placeOf (T.pcx g) T.F hr (T.ok r hr).2.2.2.2.2.2.2.2.1 (fun v hv => ⟨rfl, (bX11_look_92 g.1 (zk_rn (by omega))).mpr (h v σ hv (zFr.refl _ _))⟩))))) (fun σ1 σ2 Q l1 e2 g2 f2 h => mm l1 e2 g2 f2 (fun q => absurd hin q) (fun _ => t_mlook_4 ((bX12_look__98 g2.1).mpr (m_placeOf g2.1 (T.m f2) n6 (iT_fr f2 h6 h10 T).2.1 hr (fun v hv => ⟨rfl, (bX12_look__103 g2.1).mpr (h v σ2 hv (zFr.refl _ _))⟩)))))
        · exact e_q g (mFR σ 139 n r 9) (fun Q h => pp (t_plook_5 ((bX11_look_93 g.1 (zk_rn (by omega))).mpr (h _ σ (T.v (w := 9) hr (by omega) (by omega)) (zFr.refl _ _))))) (fun σ1 σ2 Q l1 e2 g2 f2 h => mm l1 e2 g2 f2 (fun q => absurd hin q) (fun _ => t_mlook_5 ((bX12_look__104 g2.1).mpr (m_of g2.1 9 (T.m f2) n6 hr (by omega) (fun v hv => ⟨rfl, (bX12_look__111 g2.1).mpr (h v σ2 hv (zFr.refl _ _))⟩)))))
        · exact e_q g (mFR σ 139 n r 10) (fun Q h => pp (t_plook_6 ((bX11_look_98 g.1 (zk_rn (by omega))).mpr (h _ σ (T.v (w := 10) hr (by omega) (by omega)) (zFr.refl _ _))))) (fun σ1 σ2 Q l1 e2 g2 f2 h => mm l1 e2 g2 f2 (fun q => absurd hin q) (fun _ => t_mlook_o (by decide +kernel) ((bX12_look__112 g2.1).mpr (m_of g2.1 10 (T.m f2) n6 hr (by omega) (fun v hv => ⟨rfl, (bX12_look__119 g2.1).mpr (h v σ2 hv (zFr.refl _ _))⟩)))))
      · exact e_q g (-1000) (fun Q h => pp (t_plook_o hk ((bX11_look_103 g.1 (zk_rn (by omega))).mpr (h _ σ rfl (zFr.refl _ _))))) (fun σ1 σ2 Q l1 e2 g2 f2 h => mm l1 e2 g2 f2 (fun _ => h _ σ2 rfl (zFr.refl _ _)) (fun q => absurd q hk))
    · exact no T.1 T.2.1 T.2.2.1 hx
  · by_cases hx : 0 ≤ x.toInt ∧ x.toInt < (0 : Nat)
    · exact absurd hx (by omega)
    · exact no (by omega) m20 p4 hx
theorem e_pull (g : iA σ nb ns) (x : Int32) : eCall kX11_pull kX12_pull [.int x] [.int x] σ := by
  have no : ∀ {n : Nat}, n ≤ 6 → zI σ 131 20 = nI n → zI σ 12 4 = nI n → ¬ (0 ≤ x.toInt ∧ x.toInt < n) → eCall kX11_pull kX12_pull [.int x] [.int x] σ := by
    intro n h6 m20 p4 hx
    refine e_q g (-1) (fun Q h => (bX11_pull_0 g.1).mpr (p_nr1 g.1 p4 h6 hx ⟨rfl, (bX11_pull_5 g.1).mpr (zn (by decide) (h _ σ rfl (zFr.refl _ _)))⟩)) (fun σ1 σ2 Q l1 e2 g2 f2 h => ?_)
    refine (bX12_pull_0 l1).mpr ?_
    rw [e2]
    exact m_ir0 g2.1 (by rw [f2.i (show ¬ iSafe 0 131 20 by unfold iSafe; omega)]; exact m20) h6 hx ⟨rfl, (bX12_pull_10 g2.1).mpr (zy rfl (h _ σ2 rfl (zFr.refl _ _)))⟩
  rcases g.race with ⟨n, b, T, -⟩ | ⟨-, m20, p4, -⟩
  · rcases a_cs x n with ⟨r, hr, rfl, -⟩ | hx
    · have n6 := T.1
      have h6 := g.nb6
      have h10 := g.ns10
      have ok := T.ok r hr
      have o1 := ok.2.2.2.1
      have o2 := ok.2.2.2.2.2.1
      refine e_q g (if mFR σ 139 n r 7 = -1 then aPull (mB σ b) (mW σ) (mFR σ 139 n) r else -1) (fun Q h => ?_) (fun σ1 σ2 Q l1 e2 g2 f2 h => ?_)
      · refine (bX11_pull_0 g.1).mpr (p_nr0 g.1 T.2.2.1 n6 hr ⟨rfl, (bX11_pull_5 g.1).mpr (zy rfl ⟨vp_in_nI (by omega) (by decide), ?_⟩)⟩)
        rw [zR_rn g.1 (by omega)]
        refine (bX11_pull_17 g.1 (zk_rn (by omega))).mpr (p_isOut (t := 12) g.1 zk_12 n6 T.F hr ok.2.2.2.2.2.2.2.2.1 ⟨rfl, (bX11_pull_20 g.1).mpr (zt0 (fun c => h _ σ (by rw [if_neg c]; rfl) (zFr.refl _ _)) (fun c => ⟨vp_in_nI (by omega) (by decide), ?_⟩))⟩)
        have c1 := Classical.not_not.mp c
        rw [zR_rn g.1 (by omega)]
        exact (bX11_pull_38 g.1 (zk_rn (by omega))).mpr (p_pull (T.pcx g) T.F hr T.ln ⟨o1, o2 c1⟩ ⟨ok.1.2.2.1, ok.1.2.2.2.1⟩ g.wp.2.1 (fun v hv => ⟨rfl, (bX11_pull_48 g.1).mpr (h v σ (by rw [if_pos c1]; exact hv) (zFr.refl _ _))⟩))
      · have T2 := iT_fr f2 h6 h10 T
        have C2 := T2.mcx g2
        rw [iS_mB f2 (b := b) (by have := T.bb; omega), iS_mW f2] at C2
        refine (bX12_pull_0 l1).mpr ?_
        rw [e2]
        refine m_ir1 g2.1 T2.2.1 n6 hr ⟨rfl, (bX12_pull_10 g2.1).mpr (zn (by decide) (m_isOut g2.1 (T.m f2) n6 hr ⟨rfl, (bX12_pull_18 g2.1).mpr (zt0 (fun c => h _ σ2 (by rw [if_neg c]; rfl) (zFr.refl _ _)) (fun c => ?_))⟩))⟩
        have c1 := Classical.not_not.mp c
        exact m_pull C2 (T.m f2) hr T.ln ⟨o1, o2 c1⟩ ⟨ok.1.2.2.1, ok.1.2.2.2.1⟩ (fun v hv => ⟨rfl, (bX12_pull_26 g2.1).mpr (h v σ2 (by rw [if_pos c1]; exact hv) (zFr.refl _ _))⟩)
    · exact no T.1 T.2.1 T.2.2.1 hx
  · by_cases hx : 0 ≤ x.toInt ∧ x.toInt < (0 : Nat)
    · exact absurd hx (by omega)
    · exact no (by omega) m20 p4 hx
end SIMPLE
