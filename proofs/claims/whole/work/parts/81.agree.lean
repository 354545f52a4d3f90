/-! the verb agree -/
def aSn (σ : zS) (k : Nat) : Nat := (zI σ 156 k).toInt.toNat
def agK (σ : zS) (B : aBk) (k : Nat) : Prop := aCan B (mW σ) (zI σ 136 (aSn σ k)).toInt 0 (zI σ 157 k).toInt ∧ aAl B (mW σ) (mG σ (aSn σ k) (zI σ 157 k).toInt) 0 = (zI σ 158 k).toInt
def agr (σ : zS) (B : aBk) (n : Nat) : Prop := ∀ k, k < n → agK σ B k
def sgt (σ : zS) (ns n : Nat) : Prop := n ≤ 10 ∧ zI σ 6 3 = nI n ∧ zI σ 131 54 = nI n ∧ ∀ i, i < n → aSn σ i < ns ∧ zI σ 7 i = nI (aSn σ i) ∧ zI σ 156 i = nI (aSn σ i) ∧ zI σ 8 i = zI σ 157 i ∧ zI σ 9 i = zI σ 158 i ∧ 0 ≤ (zI σ 157 i).toInt ∧ (zI σ 157 i).toInt ≤ 5 ∧ 1 ≤ (zI σ 158 i).toInt ∧ (zI σ 158 i).toInt ≤ 99
theorem iA.sgt {σ : zS} {nb ns : Nat} (g : iA σ nb ns) : ∃ n, sgt σ ns n := by
  obtain ⟨n, q1, q2, q3, q4⟩ := g.sg
  have h10 := g.ns10
  refine ⟨n, q1, q2, q3, fun i hi => ?_⟩
  obtain ⟨s, s1, s2, s3, s4, s5, s6⟩ := q4 i hi
  have e : aSn σ i = s := by
    unfold aSn
    rw [s3, ai_n (by omega)]
    omega
  rw [e]
  exact ⟨s1, s2, s3, s4, s5, s6⟩
/-- the model's cells may change too -/
def mWs : Nat → Nat → Nat → Prop := fun j c k => mWq j c k ∨ (j = 0 ∧ c = 133)
section AGREE
variable {d : Nat} {Q : Option Value → zS → Prop} {σ0 : zS} {nb ns n : Nat}
theorem p_agrees_l {a1 : Nat} {B : aBk} (g0 : iA σ0 nb ns) (s0 : sgt σ0 ns n) (ha : zk a1 = 0) (hB : aBok B) {σz : zS} (hc : ∀ σ', zFr pWz σ0 σ' → zFr (pWq 60) σz σ' → Q (some (.int (zb (agr σ0 B n)))) σ') :
    ∀ (mm k : Nat) (σ : zS) (w : Value), n - k = mm → k ≤ n → w.category = 1 → zFr pWz σ0 σ → zFr (pWq 60) σz σ → pBk σ a1 B → (∀ j, j < k → agK σ0 B j) → zW (d + 6) kX11_agrees 2 [.ref 1, .ref a1, .int (nI k), w] [] σ Q := by
  have h10 := g0.ns10
  obtain ⟨n10, e63, -, q4⟩ := s0
  intro mm
  induction mm with
  | zero =>
    intro k σ w hm hk cw f fz gp hj
    have e : k = n := by omega
    subst e
    have e6 : zI σ 6 3 = nI k := by rw [f.i (by unfold pWz; omega)]; exact e63
    refine (bX11_agrees_2 (pZ g0 f).1.1 ha cw).mpr (zle' (zto e6 (ai_n (by omega))) (ai_n (by omega)) (fun _ => ?_) (fun q => by omega))
    have z := hc σ f fz
    rwa [zb_t (show agr σ0 B k from hj)] at z
  | succ mm ih =>
    intro k σ w hm hk cw f fz gp hj
    obtain ⟨g, fs⟩ := pZ g0 f
    have e6 : zI σ 6 3 = nI n := by rw [f.i (by unfold pWz; omega)]; exact e63
    obtain ⟨t1, t2, t3, t4, t5, t6, t7, t8, t9⟩ := q4 k (by omega)
    have e7 : zI σ 7 k = nI (aSn σ0 k) := by rw [f.i (by unfold pWz; omega)]; exact t2
    have e8 : zI σ 8 k = zI σ0 157 k := by rw [f.i (by unfold pWz; omega)]; exact t4
    have e9 : zI σ 9 k = zI σ0 158 k := by rw [f.i (by unfold pWz; omega)]; exact t5
    refine (bX11_agrees_2 g.1 ha cw).mpr (zle' (zto e6 (ai_n (by omega))) (ai_n (by omega)) (fun q => by omega) (fun _ => zle' km10 (ai_n (by omega)) (fun q => by omega) (fun _ => ⟨vp_in_nI (by omega) (by decide), ?_⟩)))
    rw [nI_clamp (by omega), e7]
    refine p_ns0 g.1 g.e4 h10 t1 ⟨rfl, (bX11_agrees_34 g.1 ha).mpr (zy rfl ⟨vp_in_nI (by omega) (by decide), ?_⟩)⟩
    rw [zR_sk g.1 (by omega)]
    refine (bX11_agrees_45 g.1 ha (zk_sk (by omega))).mpr ⟨vp_in_nI (by omega) (by decide), ?_⟩
    rw [nI_clamp (by omega), e8]
    have hst := g0.stk t1
    have hG : ∀ j, j < 3 → (zI σ (121 + aSn σ0 k) j).toInt = mG σ0 (aSn σ0 k) (zI σ0 157 k).toInt j := fun j hj => by
      rw [mG_p (y := (zI σ0 157 k).toInt) (g.stk t1) j hj, iS_mG fs (by omega)]
    have eWp := g.wp
    rw [iS_mW fs] at eWp
    refine p_tAl (d := d) g.1 gp hB (zk_sk (by omega)) hG rfl (mG_ok hst) eWp g0.wok (fun v σ1 hv f1 => ⟨rfl, ?_⟩)
    have f01 := f.trans (pWq_z f1)
    have l1 := (pZ g0 f01).1.1
    have e91 : zI σ1 9 k = zI σ0 158 k := by rw [f1.i (by unfold pWq; omega)]; exact e9
    have hv2 : v.toInt = zif (aCan B (mW σ0) (zI σ0 136 (aSn σ0 k)).toInt 0 (zI σ0 157 k).toInt) (aAl B (mW σ0) (mG σ0 (aSn σ0 k) (zI σ0 157 k).toInt) 0) (-1) := hv
    refine (bX11_agrees_58 l1 ha).mpr ⟨vp_in_nI (by omega) (by decide), ?_⟩
    rw [nI_clamp (by omega), e91]
    have no : ¬ agK σ0 B k → Q (some (.int 0)) σ1 := fun c => by
      have z := hc σ1 f01 (fz.trans f1)
      rwa [zb_f (fun q => c (q k (by omega)))] at z
    by_cases c : aCan B (mW σ0) (zI σ0 136 (aSn σ0 k)).toInt 0 (zI σ0 157 k).toInt
    · rw [zif_t c] at hv2
      refine zeq' hv2 rfl (fun q => ?_) (fun q => no (fun z => q z.2))
      rw [nI_1]
      refine ih (k + 1) σ1 _ (by omega) (by omega) (zcat_i _) f01 (fz.trans f1) (pBk_fr f1 (pWq_b zk_60 ha) gp) (fun j hj2 => ?_)
      by_cases e : j = k
      · rw [e]; exact ⟨c, q⟩
      · exact hj j (by omega)
    · rw [zif_f c] at hv2
      exact zeq' hv2 rfl (fun q => by omega) (fun _ => no (fun z => c z.1))
theorem p_agrees {a1 : Nat} {B : aBk} {σ : zS} (g0 : iA σ0 nb ns) (s0 : sgt σ0 ns n) (ha : zk a1 = 0) (hB : aBok B) (f : zFr pWz σ0 σ) (gp : pBk σ a1 B) (hc : ∀ σ', zFr pWz σ0 σ' → zFr (pWq 60) σ σ' → Q (some (.int (zb (agr σ0 B n)))) σ') : zCall (d + 6) kX11_agrees [.ref 1, .ref a1] σ Q :=
  (bX11_agrees_0 (pZ g0 f).1.1 ha).mpr (p_agrees_l (d := d) g0 s0 ha hB hc n 0 σ _ (by omega) (by omega) (zcat_r _) f (zFr.refl _ _) gp (fun j q => by omega))
theorem m_agrees_l {b : Nat} {B : aBk} (g0 : iA σ0 nb ns) (s0 : sgt σ0 ns n) (hb : b < 7) (hB : aBok B) {σz : zS} (hc : ∀ σ', zFr mWs σ0 σ' → zFr nWq σz σ' → Q (some (.int (zb (agr σ0 B n)))) σ') :
    ∀ (mm k : Nat) (σ : zS), n - k = mm → k ≤ n → zFr mWs σ0 σ → zFr nWq σz σ → mB σ b = B → (∀ j, j < k → agK σ0 B j) → zW (d + 11) kX12_agrees 2 [.ref 131, .int (nI b), .int (nI k)] [] σ Q := by
  have h10 := g0.ns10
  obtain ⟨n10, -, e54, q4⟩ := s0
  have n2 : ∀ c k, ¬ mWs 2 c k := fun c k q => by
    rcases q with q | q
    · exact mWq_2 q
    · omega
  have nk : ∀ c k, (c = 136 ∨ c = 137 ∨ c = 138 ∨ c = 156 ∨ c = 157 ∨ c = 158 ∨ (c = 131 ∧ (k = 54 ∨ k = 43 ∨ k = 13 ∨ k = 14 ∨ k = 15))) → ¬ mWs 0 c k := fun c k hck q => by
    rcases q with q | q
    · unfold mWq at q; omega
    · omega
  intro mm
  induction mm with
  | zero =>
    intro k σ hm hk f fz eB hj
    have e : k = n := by omega
    subst e
    have e6 : zI σ 131 54 = nI k := by rw [f.i (nk _ _ (by omega))]; exact e54
    refine (bX12_agrees_2 (f.lay g0.1 (fun c k _ _ => n2 c k))).mpr (zle' (zto e6 (ai_n (by omega))) (ai_n (by omega)) (fun _ => ?_) (fun q => by omega))
    have z := hc σ f fz
    rwa [zb_t (show agr σ0 B k from hj)] at z
  | succ mm ih =>
    intro k σ hm hk f fz eB hj
    have l := f.lay g0.1 (fun c k _ _ => n2 c k)
    have e6 : zI σ 131 54 = nI n := by rw [f.i (nk _ _ (by omega))]; exact e54
    obtain ⟨t1, t2, t3, t4, t5, t6, t7, t8, t9⟩ := q4 k (by omega)
    have e156 : zI σ 156 k = nI (aSn σ0 k) := by rw [f.i (nk _ _ (by omega))]; exact t3
    have e157 : zI σ 157 k = zI σ0 157 k := f.i (nk _ _ (by omega))
    have eW : mW σ = mW σ0 := mW_fr f ⟨nk _ _ (by omega), nk _ _ (by omega), nk _ _ (by omega)⟩
    have h43 : zI σ 131 43 = 0 := by rw [f.i (nk _ _ (by omega))]; exact g0.r43
    have e136 : ∀ s, zI σ 136 s = zI σ0 136 s := fun s => f.i (nk _ _ (by omega))
    have eG : ∀ y, mG σ (aSn σ0 k) y = mG σ0 (aSn σ0 k) y := fun y => by
      unfold mG
      rw [e136, f.i (nk 137 _ (by omega)), f.i (nk 138 _ (by omega))]
    have hst := g0.stk t1
    have no : ∀ σ1, zFr mWs σ0 σ1 → zFr nWq σz σ1 → ¬ agK σ0 B k → Q (some (.int 0)) σ1 := fun σ1 f1 fz1 c => by
      have z := hc σ1 f1 fz1
      rwa [zb_f (fun q => c (q k (by omega)))] at z
    refine (bX12_agrees_2 l).mpr (zle' (zto e6 (ai_n (by omega))) (ai_n (by omega)) (fun q => by omega) (fun _ => ⟨vp_in_nI (by omega) (by decide), vp_in_nI (by omega) (by decide), ?_⟩))
    rw [nI_clamp (show k < 2 ^ 31 by omega), e156, e157]
    refine m_cb l hb eB hB eW (by omega) (by rw [e136]; exact hst.1) ⟨rfl, (bX12_agrees_27 l).mpr (zt0 (fun c => ⟨vp_in_nI (by omega) (by decide), vp_in_nI (by omega) (by decide), ?_⟩) (fun c => no σ f fz (fun z => c ?_)))⟩
    · rw [e136] at c
      rw [nI_clamp (show k < 2 ^ 31 by omega), e156, e157]
      obtain ⟨m1, m2, m3, m4, m5, m6⟩ := mG_ok (y := (zI σ0 157 k).toInt) hst
      have gs : aGst B (mG σ0 (aSn σ0 k) (zI σ0 157 k).toInt) := ⟨m1, m2, m3, m4, m5, m6, c.1, c.2.1⟩
      refine m_aBy (d := d) l hb eB hB eW g0.wok h43 (by omega) (by rw [eG]; exact gs) (fun v σ1 hv f1 => ⟨rfl, ?_⟩)
      rw [eG] at hv
      have f01 := f.trans (f1.mono (fun j c k q => (Or.inl (by unfold nWq at q; unfold mWq; omega) : mWs j c k)))
      have l1 := f01.lay g0.1 (fun c k _ _ => n2 c k)
      have e158 : zI σ1 158 k = zI σ0 158 k := f01.i (nk _ _ (by omega))
      refine (bX12_agrees_48 l1).mpr ⟨vp_in_nI (by omega) (by decide), ?_⟩
      rw [nI_clamp (by omega), e158]
      refine zeq' hv rfl (fun q => ?_) (fun q => no σ1 f01 (fz.trans f1) (fun z => q z.2))
      rw [nI_1]
      refine ih (k + 1) σ1 (by omega) (by omega) f01 (fz.trans f1) ?_ (fun j hj2 => ?_)
      · rw [mB_fr f1 b ⟨fun k => by unfold nWq; omega, fun k => by unfold nWq; omega, fun k => by unfold nWq; omega⟩]; exact eB
      · by_cases e : j = k
        · rw [e]; exact ⟨c, q⟩
        · exact hj j (by omega)
    · rw [e136]; exact z.1
theorem m_agrees {b : Nat} {B : aBk} {σ : zS} (g0 : iA σ0 nb ns) (s0 : sgt σ0 ns n) (hb : b < 7) (hB : aBok B) (f : zFr mWs σ0 σ) (eB : mB σ b = B) (hc : ∀ σ', zFr mWs σ0 σ' → zFr nWq σ σ' → Q (some (.int (zb (agr σ0 B n)))) σ') : zCall (d + 11) kX12_agrees [.ref 131, .int (nI b)] σ Q :=
  (bX12_agrees_0 (f.lay g0.1 (fun c k _ _ q => by
    rcases q with q | q
    · exact mWq_2 q
    · omega))).mpr (m_agrees_l (d := d) g0 s0 hb hB hc n 0 σ (by omega) (by omega) f (zFr.refl _ _) eB (fun j q => by omega))
noncomputable def agV (σ : zS) (n : Nat) : Nat → Int32
  | 0 => 0
  | b + 1 => @ite _ (agr σ (mB σ b) n) (Classical.propDecidable _) (agV σ n b ||| ((1 : Int32) <<< (nI b &&& 31))) (agV σ n b)
theorem agV_y {b : Nat} {σ : zS} (h : agr σ (mB σ b) n) : agV σ n (b + 1) = agV σ n b ||| ((1 : Int32) <<< (nI b &&& 31)) := if_pos h
theorem agV_n {b : Nat} {σ : zS} (h : ¬ agr σ (mB σ b) n) : agV σ n (b + 1) = agV σ n b := if_neg h
theorem p_agree_l (g0 : iA σ0 nb ns) (s0 : sgt σ0 ns n) (hc : ∀ σ', zFr pWz σ0 σ' → Q (some (.int (agV σ0 n nb))) σ') :
    ∀ (mm b : Nat) (σ : zS), nb - b = mm → b ≤ nb → zFr pWz σ0 σ → zW (d + 7) kX11_agree 4 [.ref 1, .int (agV σ0 n b), .int (nI b)] [] σ Q := by
  have h6 := g0.nb6
  intro mm
  induction mm with
  | zero =>
    intro b σ hm hk f
    have e : b = nb := by omega
    subst e
    obtain ⟨g, fs⟩ := pZ g0 f
    exact (bX11_agree_4 g.1).mpr (zle' (zto g.e2 (ai_n (by omega))) (ai_n (by omega)) (fun _ => hc σ f) (fun q => by omega))
  | succ mm ih =>
    intro b σ hm hk f
    obtain ⟨g, fs⟩ := pZ g0 f
    have hb : b < nb := by omega
    have gp := g.bp hb
    rw [iS_mB fs (by omega)] at gp
    refine (bX11_agree_4 g.1).mpr (zle' (zto g.e2 (ai_n (by omega))) (ai_n (by omega)) (fun q => by omega) (fun _ => zle' k6 (ai_n (by omega)) (fun q => by omega) (fun _ => ⟨vp_in_nI (by omega) (by decide), ?_⟩)))
    rw [zR_bk g.1 (by omega)]
    refine (bX11_agree_25 g.1 (zk_bk (by omega))).mpr (p_agrees (d := d) g0 s0 (zk_bk (by omega)) (g0.bok hb) f gp (fun σ1 f1 _ => ⟨rfl, (bX11_agree_28 (pZ g0 f1).1.1).mpr (zt0 (fun c => ?_) (fun c => ?_))⟩))
    · rw [nI_1, ← agV_y c]
      exact ih (b + 1) σ1 (by omega) (by omega) f1
    · rw [nI_1, ← agV_n c]
      exact ih (b + 1) σ1 (by omega) (by omega) f1
theorem m_agree_l (g0 : iA σ0 nb ns) (s0 : sgt σ0 ns n) (hc : ∀ σ', zFr mWq σ0 σ' → Q (some (.int (agV σ0 n nb))) σ') :
    ∀ (mm b : Nat) (σ : zS), nb - b = mm → b ≤ nb → zFr mWq σ0 σ → zW (d + 12) kX12_agree 9 [.ref 131, .int (agV σ0 n b), .int (nI b)] [] σ Q := by
  have h6 := g0.nb6
  intro mm
  induction mm with
  | zero =>
    intro b σ hm hk f
    have e : b = nb := by omega
    subst e
    obtain ⟨g, fs⟩ := mZ g0 f
    exact (bX12_agree_9 g.1).mpr (zle' (zto g.e11 (ai_n (by omega))) (ai_n (by omega)) (fun _ => hc σ f) (fun q => by omega))
  | succ mm ih =>
    intro b σ hm hk f
    obtain ⟨g, fs⟩ := mZ g0 f
    have hb : b < nb := by omega
    refine (bX12_agree_9 g.1).mpr (zle' (zto g.e11 (ai_n (by omega))) (ai_n (by omega)) (fun q => by omega) (fun _ => m_agrees (d := d) g0 s0 (by omega) (g0.bok hb) (f.mono (fun j c k q => (Or.inl q : mWs j c k))) (iS_mB fs (by omega)) (fun σ1 _ fn => ⟨rfl, ?_⟩)))
    have f1 := f.trans (nWq_q fn)
    refine (bX12_agree_23 (mZ g0 f1).1.1).mpr (zt0 (fun c => ?_) (fun c => ?_))
    · rw [nI_1, ← agV_y c]
      exact ih (b + 1) σ1 (by omega) (by omega) f1
    · rw [nI_1, Int32.or_zero, ← agV_n c]
      exact ih (b + 1) σ1 (by omega) (by omega) f1
theorem agr_c {σ : zS} (f : zFr iSafe σ0 σ) (s0 : sgt σ0 ns n) (h10 : ns ≤ 10) {B : aBk} : agr σ B n = agr σ0 B n := by
  have e : ∀ c k, 156 ≤ c → c ≤ 158 → k < n → zI σ c k = zI σ0 c k := fun c k h1 h2 hk => f.i (by have := s0.1; unfold iSafe; omega)
  refine propext ⟨fun h k hk => ?_, fun h k hk => ?_⟩
  · have z := h k hk
    unfold agK aSn at *
    rw [e 156 k (by omega) (by omega) hk, e 157 k (by omega) (by omega) hk, e 158 k (by omega) (by omega) hk, iS_mW f] at z
    have t := (s0.2.2.2 k hk).1
    unfold aSn at t
    rw [iS_mG f (by omega), f.i (show ¬ iSafe 0 136 _ by unfold iSafe; omega)] at z
    exact z
  · have z := h k hk
    unfold agK aSn at *
    rw [e 156 k (by omega) (by omega) hk, e 157 k (by omega) (by omega) hk, e 158 k (by omega) (by omega) hk, iS_mW f]
    have t := (s0.2.2.2 k hk).1
    unfold aSn at t
    rw [iS_mG f (by omega), f.i (show ¬ iSafe 0 136 _ by unfold iSafe; omega)]
    exact z
theorem agV_c {σ : zS} (f : zFr iSafe σ0 σ) (s0 : sgt σ0 ns n) (h10 : ns ≤ 10) : ∀ b, b ≤ 6 → agV σ n b = agV σ0 n b
  | 0, _ => rfl
  | b + 1, hb => by
    have i := agV_c f s0 h10 b (by omega)
    have e : agr σ (mB σ b) n = agr σ0 (mB σ0 b) n := by rw [iS_mB f (by omega), agr_c f s0 h10]
    by_cases c : agr σ0 (mB σ0 b) n
    · rw [agV_y (by rw [e]; exact c), agV_y c, i]
    · rw [agV_n (by rw [e]; exact c), agV_n c, i]
theorem e_agree {σ : zS} (g : iA σ nb ns) : eCall kX11_agree kX12_agree [] [] σ := by
  obtain ⟨n, s0⟩ := g.sgt
  refine e_q g (agV σ n nb).toInt (fun Q h => (bX11_agree_0 g.1).mpr (p_agree_l (d := 6) g s0 (fun σ' f => h _ σ' rfl f) nb 0 σ (by omega) (by omega) (zFr.refl _ _))) (fun σ1 σ2 Q l1 e2 g2 f2 h => ?_)
  have s2 : sgt σ2 ns n := by
    obtain ⟨n2, t2⟩ := g2.sgt
    have e : nI n2 = nI n := by
      rw [← t2.2.2.1, ← s0.2.2.1]
      exact f2.i (by unfold iSafe; omega)
    have e3 : n2 = n := by
      have := congrArg Int32.toInt e
      have a := t2.1
      have b := s0.1
      rw [ai_n (by omega), ai_n (by omega)] at this
      omega
    rw [e3] at t2
    exact t2
  refine (bX12_agree_0 l1).mpr ?_
  rw [e2]
  exact m_agree_l (d := 1) g2 s2 (fun σ' f => h _ σ' (by rw [agV_c f2 s0 g.ns10 nb g.nb6]) f) nb 0 σ2 (by omega) (by omega) (zFr.refl _ _)
end AGREE
