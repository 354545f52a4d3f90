/-! the verb feed -/
def yPut (t : Nat × (Nat → Int32)) (b : Int32) : Nat × (Nat → Int32) := if b = 0 then t else (t.1 + 1, upd t.2 t.1 b)
def yRaw (x : Int32) (s : Nat) : Int32 := vp_nar (zAty 13) (((x >>> (nI s &&& 31)) : Int32).toInt8.toInt32)
def mPut (t : Nat × (Nat → Int32)) (x : Int32) (s : Nat) : Nat × (Nat → Int32) := if yB x s = 0 then t else (t.1 + 1, upd t.2 t.1 (yRaw x s))
def yApp (t : Nat × (Nat → Int32)) (x : Int32) : Nat × (Nat → Int32) := yPut (yPut (yPut (yPut t (yB x 24)) (yB x 16)) (yB x 8)) (yB x 0)
def mApp (t : Nat × (Nat → Int32)) (x : Int32) : Nat × (Nat → Int32) := mPut (mPut (mPut (mPut t x 24) x 16) x 8) x 0
def tR (t u : Nat × (Nat → Int32)) : Prop := t.1 = u.1 ∧ ∀ i, i < t.1 → t.2 i = u.2 i &&& 255 ∧ 1 ≤ (t.2 i).toInt ∧ (t.2 i).toInt ≤ 255
theorem yPut_1 {t : Nat × (Nat → Int32)} {x : Int32} {s : Nat} : (yPut t (yB x s)).1 = t.1 + yZ x s := by
  unfold yPut yZ
  split <;> rfl
theorem tR_s {t u : Nat × (Nat → Int32)} {x : Int32} {s : Nat} (h : tR t u) : tR (yPut t (yB x s)) (mPut u x s) := by
  unfold yPut mPut
  by_cases q : yB x s = 0
  · rw [if_pos q, if_pos q]; exact h
  · rw [if_neg q, if_neg q]
    refine ⟨by rw [h.1], fun i hi => ?_⟩
    show upd t.2 t.1 (yB x s) i = upd u.2 u.1 (yRaw x s) i &&& 255 ∧ 1 ≤ (upd t.2 t.1 (yB x s) i).toInt ∧ (upd t.2 t.1 (yB x s) i).toInt ≤ 255
    have hi2 : i < t.1 + 1 := hi
    rw [← h.1]
    by_cases e : i = t.1
    · rw [e, pk_us, pk_us]
      have b := yB_b (x := x) (s := s)
      have n0 : (yB x s).toInt ≠ 0 := fun z => q (zint (by rw [z, k0]))
      exact ⟨yB_n.symm, by omega, b.2⟩
    · rw [pk_un e, pk_un e]
      exact h.2 i (by omega)
theorem tR_a {t u : Nat × (Nat → Int32)} {x : Int32} (h : tR t u) : tR (yApp t x) (mApp u x) := tR_s (tR_s (tR_s (tR_s h)))
theorem yApp_1 {t : Nat × (Nat → Int32)} {x : Int32} : (yApp t x).1 = t.1 + yN x := by
  unfold yApp yN
  rw [yPut_1, yPut_1, yPut_1, yPut_1]
  omega
def pT (σ : zS) (t : Nat × (Nat → Int32)) : Prop := zI σ 2 1 = nI t.1 ∧ zI σ 3 = t.2
def mT (σ : zS) (t : Nat × (Nat → Int32)) : Prop := zI σ 131 2 = nI t.1 ∧ zI σ 132 = t.2
def wFe (j c k : Nat) : Prop := j = 0 ∧ (c = 3 ∨ (c = 2 ∧ k = 1) ∨ c = 132 ∨ (c = 131 ∧ (k = 0 ∨ k = 2)))
def wFp (j c k : Nat) : Prop := j = 0 ∧ (c = 3 ∨ (c = 2 ∧ k = 1))
def wFm (j c k : Nat) : Prop := j = 0 ∧ (c = 132 ∨ (c = 131 ∧ (k = 0 ∨ k = 2)))
theorem wFp_e {σ σ' : zS} (h : zFr wFp σ σ') : zFr wFe σ σ' := h.mono (fun j c k q => by unfold wFp at q; unfold wFe; omega)
theorem wFm_e {σ σ' : zS} (h : zFr wFm σ σ') : zFr wFe σ σ' := h.mono (fun j c k q => by unfold wFm at q; unfold wFe; omega)
section FEED
variable {d : Nat} {Q : Option Value → zS → Prop}
theorem p_ap1 {σ : zS} {t : Nat × (Nat → Int32)} {x : Int32} {s : Nat} {v3 : Value} (hl : zLay σ) (hT : pT σ t) (hs : s ≤ 24) (hb : t.1 + yZ x s ≤ 160) (c3 : v3.category = 1)
    (h : ∀ (σ' : zS) (w : Value), w.category = 1 → zLay σ' → pT σ' (yPut t (yB x s)) → zFr wFp σ σ' → zW d kX8_append 3 [.ref 2, .int x, .int (nI s + (-8)), w] [] σ' Q) : zW d kX8_append 3 [.ref 2, .int x, .int (nI s), v3] [] σ Q := by
  refine (bX8_append_3 hl zk_2 c3).mpr (zlt' (ai_n (by omega)) k0 (fun q => by omega) (fun _ => ?_))
  rw [yB_u hs]
  unfold yZ at hb
  unfold yPut at h
  by_cases q : yB x s = 0
  · rw [if_pos q] at h ⊢
    exact h σ _ (zcat_i _) hl hT (zFr.refl _ _)
  · rw [if_neg q] at hb h ⊢
    have e1 : (zI σ 2 1).toInt = (t.1 : Int) := by rw [hT.1]; exact ai_n (by omega)
    refine zlt' e1 k0 (fun q => by omega) (fun _ => zle' (show (160 : Int32).toInt = 160 from rfl) e1 (fun q => by omega) (fun _ => ?_))
    rw [hT.1]
    refine ⟨vp_in_nI (by omega) (by decide), ?_⟩
    rw [nI_clamp (by omega), nI_1]
    have f1 : zFr wFp σ (zsI σ (2 + 1) (upd (zI σ (2 + 1)) t.1 (yB x s))) := zFr_U ⟨rfl, Or.inl rfl⟩
    have f2 : zFr wFp (zsI σ (2 + 1) (upd (zI σ (2 + 1)) t.1 (yB x s))) (zsI (zsI σ (2 + 1) (upd (zI σ (2 + 1)) t.1 (yB x s))) 2 (upd (zI σ 2) 1 (nI (t.1 + 1)))) := zFr_U (σ := zsI σ (2 + 1) (upd (zI σ (2 + 1)) t.1 (yB x s))) ⟨rfl, Or.inr ⟨rfl, rfl⟩⟩
    refine h _ _ (zcat_i _) hl.I.I ⟨?_, ?_⟩ (f1.trans f2)
    · rw [zI_self, pk_us]
    · rw [zI_ne (by decide)]
      show zI (zsI σ 3 (upd (zI σ 3) t.1 (yB x s))) 3 = _
      rw [zI_self, hT.2]
theorem p_app {σ : zS} {t : Nat × (Nat → Int32)} {x : Int32} (hl : zLay σ) (hT : pT σ t) (hb : t.1 + yN x ≤ 160) (h : ∀ σ', zLay σ' → pT σ' (yApp t x) → zFr wFp σ σ' → Q none σ') : zCall d kX8_append [.ref 2, .int x] σ Q := by
  have n1 := yPut_1 (t := t) (x := x) (s := 24)
  have n2 := yPut_1 (t := yPut t (yB x 24)) (x := x) (s := 16)
  have n3 := yPut_1 (t := yPut (yPut t (yB x 24)) (yB x 16)) (x := x) (s := 8)
  unfold yN at hb
  refine (bX8_append_0 hl zk_2).mpr (p_ap1 (s := 24) hl hT (by omega) (by omega) (zcat_r _) (fun σ1 w1 c1 l1 T1 f1 => ?_))
  rw [nI_m8 (by omega) (by omega)]
  refine p_ap1 (s := 16) l1 T1 (by omega) (by omega) c1 (fun σ2 w2 c2 l2 T2 f2 => ?_)
  rw [nI_m8 (by omega) (by omega)]
  refine p_ap1 (s := 8) l2 T2 (by omega) (by omega) c2 (fun σ3 w3 c3 l3 T3 f3 => ?_)
  rw [nI_m8 (by omega) (by omega)]
  refine p_ap1 (s := 0) l3 T3 (by omega) (by omega) c3 (fun σ4 w4 c4 l4 T4 f4 => ?_)
  exact (bX8_append_3 l4 zk_2 c4).mpr (zlt' (show (nI 0 + (-8) : Int32).toInt = -8 by decide +kernel) k0 (fun _ => h σ4 l4 T4 (((f1.trans f2).trans f3).trans f4)) (fun q => by omega))
theorem m_ap1 {σ : zS} {t : Nat × (Nat → Int32)} {x : Int32} {s : Nat} (hl : zLay σ) (hT : mT σ t) (hs : s ≤ 24) (hb : t.1 + yZ x s ≤ 160)
    (h : ∀ (σ' : zS), zLay σ' → mT σ' (mPut t x s) → zFr wFm σ σ' → zW d kX12_put 3 [.ref 131, .int x, .int (nI s + (-8))] [] σ' Q) : zW d kX12_put 3 [.ref 131, .int x, .int (nI s)] [] σ Q := by
  refine (bX12_put_3 hl).mpr (zlt' (ai_n (by omega)) k0 (fun q => by omega) (fun _ => ?_))
  show if yB x s = 0 then _ else _
  unfold yZ at hb
  unfold mPut at h
  by_cases q : yB x s = 0
  · rw [if_pos q] at h ⊢
    exact h σ hl hT (zFr.refl _ _)
  · rw [if_neg q] at hb h ⊢
    rw [hT.1]
    refine ⟨vp_in_nI (by omega) (by decide), ?_⟩
    rw [nI_clamp (by omega), nI_1]
    have f1 : zFr wFm σ (zsI σ 132 (upd (zI σ 132) t.1 (yRaw x s))) := zFr_U ⟨rfl, Or.inl rfl⟩
    have f2 : zFr wFm (zsI σ 132 (upd (zI σ 132) t.1 (yRaw x s))) (zsI (zsI σ 132 (upd (zI σ 132) t.1 (yRaw x s))) 131 (upd (zI σ 131) 2 (nI (t.1 + 1)))) := zFr_U (σ := zsI σ 132 (upd (zI σ 132) t.1 (yRaw x s))) ⟨rfl, Or.inr ⟨rfl, Or.inr rfl⟩⟩
    refine h _ hl.I.I ⟨?_, ?_⟩ (f1.trans f2)
    · rw [zI_self, pk_us]
    · rw [zI_ne (by decide), zI_self, hT.2]; rfl
theorem mPut_1 {t : Nat × (Nat → Int32)} {x : Int32} {s : Nat} : (mPut t x s).1 = t.1 + yZ x s := by
  unfold mPut yZ
  split <;> rfl
theorem mApp_1 {t : Nat × (Nat → Int32)} {x : Int32} : (mApp t x).1 = t.1 + yN x := by
  unfold mApp yN
  rw [mPut_1, mPut_1, mPut_1, mPut_1]
  omega
theorem m_app {σ : zS} {t : Nat × (Nat → Int32)} {x : Int32} (hl : zLay σ) (hT : mT σ t) (hb : t.1 + yN x ≤ 160) (h : ∀ σ', zLay σ' → mT σ' (mApp t x) → zFr wFm σ σ' → Q none σ') : zCall d kX12_put [.ref 131, .int x] σ Q := by
  have n1 := mPut_1 (t := t) (x := x) (s := 24)
  have n2 := mPut_1 (t := mPut t x 24) (x := x) (s := 16)
  have n3 := mPut_1 (t := mPut (mPut t x 24) x 16) (x := x) (s := 8)
  unfold yN at hb
  refine (bX12_put_0 hl).mpr (m_ap1 (s := 24) hl hT (by omega) (by omega) (fun σ1 l1 T1 f1 => ?_))
  rw [nI_m8 (by omega) (by omega)]
  refine m_ap1 (s := 16) l1 T1 (by omega) (by omega) (fun σ2 l2 T2 f2 => ?_)
  rw [nI_m8 (by omega) (by omega)]
  refine m_ap1 (s := 8) l2 T2 (by omega) (by omega) (fun σ3 l3 T3 f3 => ?_)
  rw [nI_m8 (by omega) (by omega)]
  refine m_ap1 (s := 0) l3 T3 (by omega) (by omega) (fun σ4 l4 T4 f4 => ?_)
  exact (bX12_put_3 l4).mpr (zlt' (show (nI 0 + (-8) : Int32).toInt = -8 by decide +kernel) k0 (fun _ => h σ4 l4 T4 (((f1.trans f2).trans f3).trans f4)) (fun q => by omega))
end FEED
section FEEDE
variable {σ : zS} {nb ns : Nat}
theorem e_feed (g : iA σ nb ns) (a b c e f : Int32) : eCall kX11_feed kX12_feed [.int a, .int b, .int c, .int e, .int f] [.int a, .int b, .int c, .int e, .int f] σ := by
  have h6 := g.nb6
  have h10 := g.ns10
  obtain ⟨len, t1, t2, t3, t4⟩ := g.2.1
  have ba := yN_b (x := a)
  have bb := yN_b (x := b)
  have bc := yN_b (x := c)
  have be := yN_b (x := e)
  have bf := yN_b (x := f)
  have k160 : (160 : Int32).toInt = 160 := rfl
  have pp : ∀ {Q : Option Value → zS → Prop}, (if (zI σ 2 1 + nI (yN a + yN b + yN c + yN e + yN f) : Int32) ≤ 160 then zCall 12 kX8_append [.ref 2, .int a] σ (fun r' σ' => zisN r' = true ∧ zW 13 kX11_feed 54 [.ref 1, .int a, .int b, .int c, .int e, .int f, .int (nI (yN a + yN b + yN c + yN e + yN f))] (zRstk r' ++ []) σ' Q) else Q (some (.int (-1))) σ) → zCall 13 kX11_feed [.ref 1, .int a, .int b, .int c, .int e, .int f] σ Q := fun h =>
    (bX11_feed_0 g.1).mpr (p_bytesIn g.1 ⟨rfl, (bX11_feed_4 g.1).mpr (p_bytesIn g.1 ⟨rfl, (bX11_feed_8 g.1).mpr (p_bytesIn g.1 ⟨rfl, (bX11_feed_13 g.1).mpr (p_bytesIn g.1 ⟨rfl, (bX11_feed_19 g.1).mpr (p_bytesIn g.1 ⟨rfl, (bX11_feed_25 g.1).mpr (by rw [nI_add, nI_add, nI_add, nI_add]; exact h)⟩)⟩)⟩)⟩)⟩)
  have mm : ∀ {σ1 σ2 : zS} {Q : Option Value → zS → Prop}, zLay σ1 → zsI σ1 131 (upd (zI σ1 131) 0 0) = σ2 → zLay σ2 → zI σ1 131 2 = nI len → (if (nI (len + yN a + yN b + yN c + yN e + yN f) : Int32) ≤ 160 then zCall 12 kX12_put [.ref 131, .int a] σ2 (fun r' σ' => zisN r' = true ∧ zW 13 kX12_feed 49 [.ref 131, .int a, .int b, .int c, .int e, .int f] (zRstk r' ++ []) σ' Q) else Q (some (.int (-1))) σ2) → zCall 13 kX12_feed [.ref 131, .int a, .int b, .int c, .int e, .int f] σ1 Q := fun {σ1 σ2 Q} l1 e2 l2 e3 h => by
    refine (bX12_feed_0 l1).mpr ?_
    rw [e2, e3]
    exact m_bytesIn l2 ⟨rfl, (bX12_feed_13 l2).mpr (m_bytesIn l2 ⟨rfl, (bX12_feed_18 l2).mpr (m_bytesIn l2 ⟨rfl, (bX12_feed_23 l2).mpr (m_bytesIn l2 ⟨rfl, (bX12_feed_29 l2).mpr (m_bytesIn l2 ⟨rfl, (bX12_feed_35 l2).mpr (by rw [nI_add, nI_add, nI_add, nI_add, nI_add]; exact h)⟩)⟩)⟩)⟩)⟩
  have eP : (zI σ 2 1 + nI (yN a + yN b + yN c + yN e + yN f) : Int32).toInt = (len : Int) + (yN a + yN b + yN c + yN e + yN f : Nat) := zadd (zto t2 (ai_n (by omega))) (ai_n (by omega)) (by omega) (by omega)
  by_cases q : len + (yN a + yN b + yN c + yN e + yN f) ≤ 160
  · have a1 := yApp_1 (t := (len, zI σ 3)) (x := a)
    have a2 := yApp_1 (t := yApp (len, zI σ 3) a) (x := b)
    have a3 := yApp_1 (t := yApp (yApp (len, zI σ 3) a) b) (x := c)
    have a4 := yApp_1 (t := yApp (yApp (yApp (len, zI σ 3) a) b) c) (x := e)
    have a5 := yApp_1 (t := yApp (yApp (yApp (yApp (len, zI σ 3) a) b) c) e) (x := f)
    have a0 : ((len, zI σ 3) : Nat × (Nat → Int32)).1 = len := rfl
    refine pp (zle' eP k160 (fun _ => ?_) (fun q => by omega))
    refine p_app (t := (len, zI σ 3)) g.1 ⟨t2, rfl⟩ (by omega) (fun σ1 l1 T1 f1 => ⟨rfl, (bX11_feed_54 l1).mpr (p_app l1 T1 (by omega) (fun σ2 l2 T2 f2 => ⟨rfl, (bX11_feed_62 l2).mpr (p_app l2 T2 (by omega) (fun σ3 l3 T3 f3 => ⟨rfl, (bX11_feed_70 l3).mpr (p_app l3 T3 (by omega) (fun σ4 l4 T4 f4 => ⟨rfl, (bX11_feed_79 l4).mpr (p_app l4 T4 (by omega) (fun σ5 l5 T5 f5 => ⟨rfl, (bX11_feed_88 l5).mpr ?_⟩))⟩))⟩))⟩))⟩)
    have f05 := (((f1.trans f2).trans f3).trans f4).trans f5
    have m0 : zI σ5 131 2 = nI len := by rw [f05.i (by unfold wFp; omega)]; exact t3
    have r0 : tR (len, zI σ 3) (len, zI σ 132) := ⟨rfl, t4⟩
    have r5 := tR_a (x := f) (tR_a (x := e) (tR_a (x := c) (tR_a (x := b) (tR_a (x := a) r0))))
    have q1 := mApp_1 (t := (len, zI σ 132)) (x := a)
    have q2 := mApp_1 (t := mApp (len, zI σ 132) a) (x := b)
    have q3 := mApp_1 (t := mApp (mApp (len, zI σ 132) a) b) (x := c)
    have q4 := mApp_1 (t := mApp (mApp (mApp (len, zI σ 132) a) b) c) (x := e)
    have q5 := mApp_1 (t := mApp (mApp (mApp (mApp (len, zI σ 132) a) b) c) e) (x := f)
    have q0 : ((len, zI σ 132) : Nat × (Nat → Int32)).1 = len := rfl
    refine ⟨_, rfl, l5, zSam.fr f05 (fun k => by unfold wFp; omega), ?_⟩
    have f6 : zFr wFm σ5 (zsI σ5 131 (upd (zI σ5 131) 0 0)) := zFr_U ⟨rfl, Or.inr ⟨rfl, Or.inl rfl⟩⟩
    have T6 : mT (zsI σ5 131 (upd (zI σ5 131) 0 0)) (len, zI σ 132) := by
      refine ⟨?_, ?_⟩
      · rw [zI_self, pk_un (by decide)]; exact m0
      · rw [zI_ne (by decide)]
        exact funext (fun k => f05.i (by unfold wFp; omega))
    refine mm l5 rfl l5.I m0 (zle' (ai_n (by omega)) k160 (fun _ => ?_) (fun z => by omega))
    generalize zsI σ5 131 (upd (zI σ5 131) 0 0) = σ6 at f6 T6 ⊢
    have l6 : zLay σ6 := f6.lay l5 (fun _ _ _ _ => by unfold wFm; omega)
    refine m_app l6 T6 (by omega) (fun σ7 l7 T7 f7 => ⟨rfl, (bX12_feed_49 l7).mpr (m_app l7 T7 (by omega) (fun σ8 l8 T8 f8 => ⟨rfl, (bX12_feed_54 l8).mpr (m_app l8 T8 (by omega) (fun σ9 l9 T9 f9 => ⟨rfl, (bX12_feed_59 l9).mpr (m_app l9 T9 (by omega) (fun σ10 l10 T10 f10 => ⟨rfl, (bX12_feed_65 l10).mpr (m_app l10 T10 (by omega) (fun σ11 l11 T11 f11 => ⟨rfl, (bX12_feed_71 l11).mpr ?_⟩))⟩))⟩))⟩))⟩)
    have f511 := ((((f6.trans f7).trans f8).trans f9).trans f10).trans f11
    have f := (wFp_e f05).trans (wFm_e f511)
    have ePM : zI σ11 131 2 = zI σ5 2 1 := by rw [T11.1, T5.1, r5.1]
    refine ⟨by rw [ePM], ⟨nb, ns, iA_but f l11 g (by unfold wFe; omega) (Or.inr ⟨_, ?_, ?_, T11.1, fun i hi => ?_⟩) (Or.inl fun c k q => by unfold jWx at q; unfold wFe; omega) (Or.inl fun c k q => by unfold jBr jB at q; unfold wFe; omega) (Or.inl fun c k q => by unfold jSt at q; unfold wFe; omega) (Or.inl fun c k q => by unfold jSg at q; unfold wFe; omega) (Or.inl ⟨fun c k q => by unfold jRc jB at q; unfold wFe; omega, by unfold wFe; omega, fun c k _ _ => by unfold wFe; omega⟩) (Or.inl ⟨fun c k q => by unfold jIm jB at q; unfold wFe; omega, by unfold wFe; omega, fun c k _ _ => by unfold wFe; omega⟩) (Or.inl fun c _ _ => by unfold wFe; omega)⟩, zSam.fr f511 (fun k => by unfold wFm; omega)⟩
    · omega
    · rw [f511.i (by unfold wFm; omega), T5.1, r5.1]
    · rw [f511.i (by unfold wFm; omega), T5.2, T11.2]
      exact r5.2 i (by rw [r5.1]; exact hi)
  · refine e_q g (-1) (fun Q h => pp (zle' eP k160 (fun q2 => by omega) (fun _ => h _ σ km1 (zFr.refl _ _)))) (fun σ1 σ2 Q l1 e2 g2 f2 h => ?_)
    have e3 : zI σ1 131 2 = nI len := by
      rw [← t3, ← f2.i (show ¬ iSafe 0 131 2 by unfold iSafe; omega), ← e2, zI_self, pk_un (by decide)]
    exact mm l1 e2 g2.1 e3 (zle' (ai_n (by omega)) k160 (fun q2 => by omega) (fun _ => h _ σ2 km1 (zFr.refl _ _)))
end FEEDE
