/-! the call start -/
section START2
variable {Q : Option Value → zS → Prop} {nb ns : Nat}
theorem m_canStart_l {d n b : Nat} {σ : zS} {F : aFn} {B : aBk} {W : aWx} (C : mCx σ n b B W) (hF : mF σ n = F) (hs : ∀ r, r < n → 1 ≤ F r 0 ∧ F r 0 ≤ 5) (h : Q (some (.int (zb (0 < n ∧ ∀ r, r < n → aCan B W (F r 0) 0 (F r 3))))) σ) :
    ∀ (m i : Nat), n - i = m → i ≤ n → (∀ r, r < i → aCan B W (F r 0) 0 (F r 3)) → zW (d + 3) kX12_canStart 2 [.ref 131, .int (nI i)] [] σ Q := by
  obtain ⟨hl, hn, h20, hb, h19, eB, eW, hB, hW⟩ := C
  intro m
  induction m with
  | zero =>
    intro i hm hi ha
    have e : i = n := by omega
    subst e
    refine (bX12_canStart_2 hl).mpr (zle' (zto h20 (ai_n (by omega))) (ai_n (by omega)) (fun _ => zle' (zto h20 (ai_n (by omega))) k0 (fun q => ?_) (fun q => ?_)) (fun q => by omega))
    · rwa [zb_f (by omega)] at h
    · rwa [zb_t ⟨by omega, ha⟩] at h
  | succ m ih =>
    intro i hm hi ha
    have hin : i < n := by omega
    have hsi := hs i hin
    refine (bX12_canStart_2 hl).mpr (zle' (zto h20 (ai_n (by omega))) (ai_n (by omega)) (fun q => by omega) (fun _ => m_of hl 0 hF hn hin (by omega) (fun v hv => ⟨rfl, (bX12_canStart_21 hl).mpr (m_of hl 3 hF hn hin (by omega) (fun u hu => ⟨rfl, (bX12_canStart_28 hl).mpr ?_⟩))⟩)))
    rw [h19]
    refine m_canLie hl eB eW hB hb (by decide) (by omega) ⟨rfl, (bX12_canStart_31 hl).mpr (zt0 (fun c => ?_) (fun c => ?_))⟩
    · rw [hv, hu, k0] at c
      rw [nI_1]
      refine ih (i + 1) (by omega) (by omega) (fun r hr => ?_)
      rcases Nat.lt_or_ge r i with h1 | h1
      · exact ha r h1
      · obtain rfl : r = i := by omega
        exact c
    · rw [hv, hu, k0] at c
      rwa [zb_f (fun q => c (q.2 i hin))] at h
theorem m_canStart {d n b : Nat} {σ : zS} {F : aFn} {B : aBk} {W : aWx} (C : mCx σ n b B W) (hF : mF σ n = F) (hs : ∀ r, r < n → 1 ≤ F r 0 ∧ F r 0 ≤ 5) (h : Q (some (.int (zb (0 < n ∧ ∀ r, r < n → aCan B W (F r 0) 0 (F r 3))))) σ) : zCall (d + 3) kX12_canStart [.ref 131] σ Q :=
  (bX12_canStart_0 C.1).mpr (m_canStart_l C hF hs h n 0 (by omega) (by omega) (fun r hr => by omega))
theorem m_canStart0 {d : Nat} {σ : zS} (hl : zLay σ) (h20 : zI σ 131 20 = nI 0) (h : Q (some (.int 0)) σ) : zCall (d + 1) kX12_canStart [.ref 131] σ Q :=
  (bX12_canStart_0 hl).mpr ((bX12_canStart_2 hl).mpr (zle' (zto h20 (ai_n (by omega))) k0 (fun _ => zle' (zto h20 (ai_n (by omega))) k0 (fun _ => h) (fun q => by omega)) (fun q => by omega)))
theorem m_zero {d : Nat} {j1 : Int64} : ∀ (m i : Nat) (σ : zS), 16 - i = m → i ≤ 16 → zLay σ → (∀ k, k < i → zI σ 145 k = 0) → (∀ σ', zLay σ' → (∀ k, k < 16 → zI σ' 145 k = 0) → zFr (fun j c k => j = 0 ∧ c = 145) σ σ' → zCall d kX12_record [.ref 131] σ' (fun r σ2 => zisN r = true ∧ zW (d + 1) kX12_start 44 [.ref 131, .long j1, .retAddr 1, .int (nI 16)] (zRstk r ++ []) σ2 Q)) → zW (d + 1) kX12_start 21 [.ref 131, .long j1, .retAddr 1, .int (nI i)] [] σ Q := by
  intro m
  induction m with
  | zero =>
    intro i σ hm hi hl hz h
    obtain rfl : i = 16 := by omega
    exact (bX12_start_21 hl).mpr (zle' k16 (ai_n (by omega)) (fun _ => h σ hl hz (zFr.refl _ _)) (fun q => by omega))
  | succ m ih =>
    intro i σ hm hi hl hz h
    refine (bX12_start_21 hl).mpr (zle' k16 (ai_n (by omega)) (fun q => by omega) (fun _ => ⟨vp_in_nI (by omega) (by decide), ?_⟩))
    rw [nI_clamp (by omega), nI_1]
    refine ih (i + 1) _ (by omega) (by omega) hl.I (fun k hk => ?_) (fun σ' q1 q2 q3 => h σ' q1 q2 ((zFr_U (W := fun j c k => j = 0 ∧ c = 145) ⟨rfl, rfl⟩).trans q3))
    rw [zI_self]
    rcases Nat.lt_or_ge k i with h1 | h1
    · rw [pk_un (by omega)]; exact hz k h1
    · obtain rfl : k = i := by omega
      exact pk_us
theorem e_start {σ : zS} (g : iA σ nb ns) (s : Int64) : eCall kX11_start kX12_start [.long s] [.long s] σ := by
  have h6 := g.nb6
  have h10 := g.ns10
  have no : zI σ 12 4 = nI 0 → zI σ 131 20 = nI 0 → eCall kX11_start kX12_start [.long s] [.long s] σ := by
    intro p4 m20
    refine e_q g 0 (fun Q h => (bX11_start_0 g.1).mpr (zy p4 (h _ σ rfl (zFr.refl _ _)))) (fun σ1 σ2 Q l1 e2 g2 f2 h => ?_)
    refine (bX12_start_0 l1).mpr ?_
    rw [e2]
    exact m_canStart0 g2.1 (by rw [f2.i (nS3 (by omega))]; exact m20) ⟨rfl, (bX12_start_9 g2.1).mpr (zy rfl (h _ σ2 rfl (zFr.refl _ _)))⟩
  rcases g.race with ⟨n, b, T, -⟩ | hN
  · rcases Nat.eq_zero_or_pos n with hn0 | h0
    · subst hn0
      exact no T.2.2.1 T.2.1
    have n6 := T.1
    have hb := T.bb
    have hB := g.bok hb
    have hs : ∀ r, r < n → 1 ≤ mFR σ 139 n r 0 ∧ mFR σ 139 n r 0 ≤ 5 := fun r hr => ⟨(T.ok r hr).1.1, (T.ok r hr).1.2.1⟩
    have n0 : ¬ zI σ 12 4 = 0 := fun q => by
      have := congrArg Int32.toInt q
      rw [T.2.2.1, ai_n (by omega), k0] at this
      omega
    by_cases cF : aFit (mB σ b) (mW σ) n (mFR σ 139 n)
    · refine (bX11_start_0 g.1).mpr (zn n0 (p_fits (T.td g) (g.bp hb) hB hs g.wp.2.1 ⟨rfl, (bX11_start_24 g.1).mpr (zt0 (fun _ => ?_) (fun q => absurd cF q))⟩))
      refine p_begin (d := 11) (T.td g) (fun σ1 T1 hD1 t1 e9 f1 => ⟨rfl, ?_⟩)
      have f1q := pWr_q f1
      have C1 : pCx σ1 12 n (mB σ b) (mW σ) 10 := pTd_cx T1 (pBk_fr f1 (pWr_b zk_12 (zk_bk (by omega))) (g.bp hb)) hB zk_10 (pWx_q zk_12 zk_10 f1q g.wp) g.wok
      have e5 : zI σ1 12 5 = nI 0 := zint (by rw [t1]; rfl)
      refine (bX11_start_37 C1.1).mpr (p_note C1 hD1.1 h0 e5 (by omega) (fun σ2 L2 f2 => ⟨rfl, ?_⟩))
      have l2 : zLay σ2 := f2.lay C1.1 (fun _ _ _ _ => by unfold wLg; omega)
      have hst : ∀ r, r < n → ∃ s, s < 10 ∧ zR σ1 (12 + 8 + 2 * r) 0 = some (121 + s) := fun r hr => by
        obtain ⟨s, s1, s2⟩ := T.2.2.2.2.2.2.1 r hr
        exact ⟨s, by omega, by rw [f1.r pWr_2]; exact s2⟩
      have hD2 := pHas_lg f2 n6 hst hD1
      have f02 : zFr wRc σ σ2 := (f1.mono (fun j c k q => pWr_rc q)).trans (f2.mono (fun j c k q => wLg_rc q))
      refine (bX11_start_48 l2).mpr ⟨1, rfl, l2, zSam.fr f02 (fun k => by unfold wRc; omega), (bX12_start_0 l2).mpr ?_⟩
      have f3 : zFr (fun j c k => j = 0 ∧ c = 131 ∧ k = 0) σ2 (zsI σ2 131 (upd (zI σ2 131) 0 0)) := zFr_U ⟨rfl, rfl, rfl⟩
      have l3 : zLay (zsI σ2 131 (upd (zI σ2 131) 0 0)) := l2.I
      generalize zsI σ2 131 (upd (zI σ2 131) 0 0) = σ3 at f3 l3 ⊢
      have e3 : ∀ c k, 131 ≤ c → (c = 131 → k ≠ 0) → zI σ3 c k = zI σ c k := fun c k h1 h2 => by
        rw [f3.i (by omega), f2.i (by unfold wLg; omega), f1.i (by unfold pWr; omega)]
      have E : mEq σ σ3 := ⟨l3, fun c k q => e3 c k (by unfold jM jB at q; omega) (by unfold jM jB at q; omega)⟩
      have C3 : mCx σ3 n b (mB σ b) (mW σ) := ⟨l3, n6, (E.i (by omega)).trans T.2.1, by omega, (E.i (by omega)).trans T.2.2.2.1, E.b (by omega), E.w, hB, g.wok⟩
      refine m_canStart C3 (E.f n6) hs ⟨rfl, (bX12_start_9 l3).mpr (zt0 (fun _ => ?_) (fun q => absurd ⟨h0, cF.1⟩ q))⟩
      refine m_begin (d := 10) l3 n6 C3.2.2.1 (E.f n6) ((E.i (by omega)).trans g.r43) (fun σ4 hD4 t4 f4 => ⟨rfl, ?_⟩)
      have l4 : zLay σ4 := f4.lay l3 (fun _ _ _ _ => mWr_2)
      refine (bX12_start_19 l4).mpr (m_zero (d := 12) 16 0 σ4 (by omega) (by omega) l4 (fun k hk => by omega) (fun σ5 l5 z5 f5 => ?_))
      have ok4 : aDok (mB σ b) n (aBeg n (mFR σ 139 n), 0, s, False, fun _ => 0) := aBeg_ok hB T.fs
      have e45 : ∀ c k, c ≠ 145 → zI σ5 c k = zI σ4 c k := fun c k h => f5.i (by omega)
      have hF5 : mF σ5 n = aBeg n (mFR σ 139 n) := by
        refine Eq.trans ?_ hD4.1
        unfold mF
        funext r w
        rw [e45 139 _ (by decide)]
      refine m_record (T := 0) l5 (by omega) n6 h0 (fun r hr => (ok4.1 r hr).2.2.2.2.2.2.2.2.1) (by rw [e45 _ _ (by decide), f4.i (by unfold mWr; omega)]; exact C3.2.2.1) (by rw [e45 _ _ (by decide)]; exact zint (by rw [t4]; rfl)) hF5 (fun σ6 L6 f6 => ⟨rfl, ?_⟩)
      have l6 : zLay σ6 := f6.lay l5 (fun _ _ _ _ => by unfold wLg; omega)
      have f36 : zFr (fun j c k => (j = 0 ∧ (c = 139 ∨ (142 ≤ c ∧ c ≤ 145) ∨ c = 150 ∨ c = 151 ∨ (c = 131 ∧ (k = 0 ∨ k = 21 ∨ k = 22)))) ∨ (j = 1 ∧ c = 131 ∧ k = 31)) σ2 σ6 := ((f3.mono (fun j c k q => Or.inl ⟨q.1, by omega⟩)).trans (f4.mono (fun j c k q => by unfold mWr at q; omega))).trans ((f5.mono (fun j c k q => Or.inl ⟨q.1, by omega⟩)).trans (f6.mono (fun j c k q => by unfold wLg at q; omega)))
      have f06 : zFr wRc σ σ6 := f02.trans (f36.mono (fun j c k q => by
        rcases q with ⟨rfl, q⟩ | ⟨rfl, q, q2⟩
        · exact wRc6 q
        · exact Or.inr ⟨rfl, Or.inr ⟨q, q2⟩⟩))
      have e26 : ∀ c k, c < 131 → zI σ6 c k = zI σ2 c k := fun c k h => f36.i (by omega)
      have e56 : ∀ c k, c < 142 ∨ 144 < c → zI σ6 c k = zI σ5 c k := fun c k h => f6.i (by unfold wLg; omega)
      refine (bX12_start_44 l6).mpr ⟨rfl, ⟨nb, ns, iA_race (t' := 0) (D' := (aBeg n (mFR σ 139 n), 0, s, False, fun _ => 0)) g T h0 f06 l6 ?_ ?_ ?_ ?_ (fun x hx => ?_) ok4 (fun x hx => ?_) (by omega) ?_ ?_ ?_ (fun r w hr hw => ?_) (fun k hk => ?_) (fun r hr => ?_)⟩, zSam.fr f36 (fun k => by omega)⟩
      · obtain ⟨d1, d2, d3, d4, d5⟩ := hD2
        refine ⟨?_, by rw [e26 _ _ (by omega)]; exact d2, by rw [f36.l (by omega)]; exact d3, by rw [e26 _ _ (by omega)]; exact d4, fun x hx => by rw [e26 _ _ (by omega)]; exact d5 x hx⟩
        rw [← d1]
        exact pF_f (R := 1) (nb := 0) (ns := 10) f36 n6 (fun c k q => by unfold jTl jB at q; omega) (fun c k _ _ => by omega) (fun r hr => by
          obtain ⟨s, s1, s2⟩ := hst r hr
          exact ⟨s, s1, by rw [f2.r (by unfold wLg; omega)]; exact s2⟩)
      · rw [← hF5]
        unfold mF
        funext r w
        rw [e56 139 _ (by omega)]
      · rw [e56 _ _ (by omega), e45 _ _ (by decide)]; exact hD4.2.1
      · rw [f6.l (by unfold wLg; omega), f5.l (by omega)]; exact hD4.2.2.1
      · rw [e56 _ _ (by omega), z5 x hx]; rfl
      · exact ⟨Int.le_refl _, by show (0 : Int) ≤ 6 * ((0 : Nat) : Int); omega⟩
      · rw [e26 _ _ (by omega), f2.i (by unfold wLg; omega)]; exact e5
      · rw [e56 _ _ (by omega), e45 _ _ (by decide)]; exact zint (by rw [t4]; rfl)
      · rw [e26 _ _ (by omega), f2.i (by unfold wLg; omega)]; exact e9
      · show aBeg n (mFR σ 139 n) r w = _
        unfold aBeg
        rw [if_pos ⟨hr, by omega⟩, aPut_f (Or.inl hw)]
      · obtain rfl : k = 0 := by omega
        refine ⟨fun r hr => ?_, ?_⟩
        · rw [e26 33 _ (by omega), e26 34 _ (by omega)]
          exact ⟨zint ((L2.1 r hr).1.trans (L6.1 r hr).1.symm), zint ((L2.1 r hr).2.trans (L6.1 r hr).2.symm)⟩
        · rw [e26 35 _ (by omega)]
          exact L2.2.trans L6.2.symm
      · have z := (L6.1 r hr).1
        rw [Nat.mul_zero, Nat.zero_add] at z
        rw [z]
        show aBeg n (mFR σ 139 n) r 4 = 0
        unfold aBeg
        rw [if_pos ⟨hr, by omega⟩]
        rfl
    · have nC : ¬ (0 < n ∧ ∀ r, r < n → aCan (mB σ b) (mW σ) (mFR σ 139 n r 0) 0 (mFR σ 139 n r 3)) := fun q => cF ⟨q.2, T.ap⟩
      refine e_q g 0 (fun Q h => (bX11_start_0 g.1).mpr (zn n0 (p_fits (T.td g) (g.bp hb) hB hs g.wp.2.1 ⟨rfl, (bX11_start_24 g.1).mpr (zt0 (fun q => absurd q cF) (fun _ => h _ σ rfl (zFr.refl _ _)))⟩))) (fun σ1 σ2 Q l1 e2 g2 f2 h => ?_)
      have C2 := (iT_fr f2 h6 h10 T).mcx g2
      rw [iS_mB f2 (b := b) (by omega), iS_mW f2] at C2
      refine (bX12_start_0 l1).mpr ?_
      rw [e2]
      exact m_canStart C2 (T.m f2) hs ⟨rfl, (bX12_start_9 g2.1).mpr (zt0 (fun q => absurd q nC) (fun _ => h _ σ2 rfl (zFr.refl _ _)))⟩
  · exact no hN.2.2.1 hN.2.1
end START2
