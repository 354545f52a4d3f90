/-! the model reads a stick -/
def wNm (j c k : Nat) : Prop := j = 0 ∧ c = 131 ∧ (k = 3 ∨ k = 4)
def nF (t : Nat → Int) (len q n : Nat) (a b : Int) : Int := if n = 0 then (q : Int) else if 2 < n then (q : Int) + 2 else if nmb t len q n < a ∨ b < nmb t len q n then (q : Int) + n - 1 else -1
section MNUM
variable {d : Nat} {Q : Option Value → zS → Prop}
theorem tM_fr {W : Nat → Nat → Nat → Prop} {σ σ' : zS} (f : zFr W σ σ') (w : ∀ k, ¬ W 0 132 k) : tM σ' = tM σ := funext (fun i => by unfold tM; rw [f.i (w i)])
theorem m_isDigit {σ : zS} {len i : Nat} (hl : zLay σ) (e : zI σ 131 2 = nI len) (e3 : zI σ 131 3 = nI i) (hn : len ≤ 160) (hi : i < 1000) (h : Q (some (.int (zb (isd (tz (tM σ) len i))))) σ) : zCall (d + 1) kX12_isDigit [.ref 131] σ Q := by
  have k48 : (48 : Int32).toInt = 48 := rfl
  have k57 : (57 : Int32).toInt = 57 := rfl
  refine (bX12_isDigit_0 hl).mpr (m_here hl e e3 hn hi (fun v hv => ⟨rfl, (bX12_isDigit_4 hl).mpr (zlt' rfl k48 (fun q => ?_) (fun q => m_here hl e e3 hn hi (fun v2 hv2 => ⟨rfl, (bX12_isDigit_13 hl).mpr (zlt' k57 rfl (fun q2 => ?_) (fun q2 => ?_))⟩)))⟩))
  · rwa [zb_f (fun z => by
      have := isd_lt z
      unfold isd tz at z
      rw [if_pos this] at z hv
      omega)] at h
  · rwa [zb_f (fun z => by
      have := isd_lt z
      unfold isd tz at z
      rw [if_pos this] at z hv2
      omega)] at h
  · rwa [zb_t (by
      by_cases z : i < len
      · rw [if_pos z] at hv hv2
        unfold isd tz
        rw [if_pos z]
        omega
      · rw [if_neg z] at hv
        omega)] at h
theorem m_number {σ : zS} {len i : Nat} {lo hi : Int32} {a b : Int} {t : Nat → Int} (hl : zLay σ) (e : zI σ 131 2 = nI len) (e3 : zI σ 131 3 = nI i) (e4 : zI σ 131 4 = -1) (hn : len ≤ 160) (hil : i ≤ len) (et : tM σ = t) (ha : lo.toInt = a) (hb : hi.toInt = b)
    (h : ∀ (v : Int32) (σ' : zS), zFr wNm σ σ' → (zI σ' 131 4).toInt = nF t len (skp t len i) (dgs t len (skp t len i)) a b → (nF t len (skp t len i) (dgs t len (skp t len i)) a b = -1 → v.toInt = nmb t len (skp t len i) (dgs t len (skp t len i)) ∧ zI σ' 131 3 = nI (skp t len i + dgs t len (skp t len i)) ∧ zI σ' 131 4 = -1) → Q (some (.int v)) σ') : zCall (d + 2) kX12_number [.ref 131, .int lo, .int hi] σ Q := by
  have sb := skp_b (t := t) (len := len) _ i rfl
  have hq := sb.2.1 hil
  have db := dgs_b (t := t) hq
  have k48 : (48 : Int32).toInt = 48 := rfl
  refine (bX12_number_0 hl).mpr (m_look _ i σ rfl (by omega) hl e e3 hn (fun v σ1 hv l1 z3 f1 => ⟨rfl, (bX12_number_4 l1).mpr ?_⟩))
  rw [et] at hv z3
  generalize eq : skp t len i = q at h hv z3 hq db
  have f1' : zFr wNm σ σ1 := f1.mono (fun j c k w => by unfold wAt at w; unfold wNm; omega)
  have ez1 : zI σ1 131 2 = nI len := by rw [f1.i (by unfold wAt; omega)]; exact e
  have e41 : zI σ1 131 4 = -1 := by rw [f1.i (by unfold wAt; omega)]; exact e4
  have et1 : tM σ1 = t := (tM_fr f1 (fun k => by unfold wAt; omega)).trans et
  have ff : ∀ {σa σb : zS}, zFr (fun j c k => j = 0 ∧ c = 131 ∧ k = 4) σa σb → zFr wNm σa σb := fun f => f.mono (fun j c k w => by unfold wNm; omega)
  refine m_isDigit l1 ez1 z3 hn (by omega) ⟨rfl, (bX12_number_9 l1).mpr ?_⟩
  rw [et1, z3, nI_1]
  refine zt0 (fun c => ?_) (fun c => m_fails l1 z3 e41 (fun σ2 z4 f2 => ⟨rfl, (bX12_number_16 (f2.lay l1 (fun _ _ _ _ => by omega))).mpr (h _ σ2 (f1'.trans (ff f2)) ?_ (fun z => ?_))⟩))
  rotate_left
  · have en : dgs t len q = 0 := if_neg c
    rw [z4]
    unfold nF
    rw [if_pos en]; exact ai_n (by omega)
  · have en : dgs t len q = 0 := if_neg c
    unfold nF at z
    rw [if_pos en] at z; omega
  have hq1 := isd_lt c
  rw [if_pos hq1] at hv
  have ev : v.toInt = tz t len q := by rw [tz_e hq1]; exact hv
  have f2 : zFr wNm σ1 (zsI σ1 131 (upd (zI σ1 131) 3 (nI (q + 1)))) := zFr_U (by unfold wNm; omega)
  have p66 : ∀ (n : Nat) (σ2 : zS) (x4 : Int32), (n = 1 ∨ n = 2) → (isd (tz t len (q + n)) → n = 2 ∧ dgs t len q = 3) → (¬ isd (tz t len (q + n)) → dgs t len q = n) → zFr wNm σ1 σ2 → zI σ2 131 3 = nI (q + n) → zI σ2 131 4 = -1 → x4.toInt = nmb t len q n → zW (d + 2) kX12_number 66 [.ref 131, .int lo, .int hi, .int v, .int x4] [] σ2 Q := by
    intro n σ2 x4 hn12 hd1 hd0 f3 z33 z34 e4x
    have l2 := f3.lay l1 (fun _ _ _ _ => by unfold wNm; omega)
    have ez2 : zI σ2 131 2 = nI len := by rw [f3.i (by unfold wNm; omega)]; exact ez1
    have et2 : tM σ2 = t := (tM_fr f3 (fun k => by unfold wNm; omega)).trans et1
    refine (bX12_number_66 l2).mpr (m_isDigit l2 ez2 z33 hn (by omega) ⟨rfl, (bX12_number_70 l2).mpr ?_⟩)
    rw [et2]
    refine zt0 (fun c2 => m_fails l2 z33 z34 (fun σ3 z4 f4 => ⟨rfl, (bX12_number_77 (f4.lay l2 (fun _ _ _ _ => by omega))).mpr (h _ σ3 ((f1'.trans f3).trans (ff f4)) ?_ (fun z => ?_))⟩)) (fun c2 => m_isIn l2 ⟨rfl, (bX12_number_86 l2).mpr ?_⟩)
    · obtain ⟨y1, y2⟩ := hd1 c2
      rw [z4]
      unfold nF
      rw [if_neg (by omega), if_pos (by omega), y1]
      exact ai_n (by omega)
    · obtain ⟨y1, y2⟩ := hd1 c2
      unfold nF at z
      rw [if_neg (by omega), if_pos (by omega)] at z
      omega
    · have y := hd0 c2
      rw [y] at h
      have eF : nF t len q n a b = if nmb t len q n < a ∨ b < nmb t len q n then (q : Int) + n - 1 else -1 := by
        unfold nF
        rw [if_neg (by omega), if_neg (by omega)]
      rw [eF] at h
      rw [ha, hb, e4x]
      refine zt0 (fun c3 => h x4 σ2 (f1'.trans f3) ?_ (fun _ => ⟨e4x, z33, z34⟩)) (fun c3 => ?_)
      · rw [if_neg (by omega), z34]; rfl
      · rw [if_pos (by omega)] at h
        rw [z33]
        have e5 : (nI (q + n) - 1 : Int32) = nI (q + n - 1) := zint (by
          rw [zsub (ai_n (by omega)) k1 (by omega) (by omega), ai_n (by omega)]
          omega)
        rw [e5]
        refine m_fails l2.I (i := q + n - 1) (by rw [zI_self, pk_us]) (by rw [zI_self, pk_un (by decide)]; exact z34) (fun σ3 z4 f4 => ⟨rfl, (bX12_number_103 (f4.lay l2.I (fun _ _ _ _ => by omega))).mpr (h _ σ3 (((f1'.trans f3).trans (zFr_U (by unfold wNm; omega))).trans (ff f4)) ?_ (fun z => ?_))⟩)
        · rw [z4, ai_n (by omega)]; omega
        · omega
  have ez2 : zI (zsI σ1 131 (upd (zI σ1 131) 3 (nI (q + 1)))) 131 2 = nI len := by rw [f2.i (by unfold wNm; omega)]; exact ez1
  have et2 : tM (zsI σ1 131 (upd (zI σ1 131) 3 (nI (q + 1)))) = t := (tM_fr f2 (fun k => by unfold wNm; omega)).trans et1
  have z23 : zI (zsI σ1 131 (upd (zI σ1 131) 3 (nI (q + 1)))) 131 3 = nI (q + 1) := by rw [zI_self, pk_us]
  have z24 : zI (zsI σ1 131 (upd (zI σ1 131) 3 (nI (q + 1)))) 131 4 = -1 := by rw [zI_self, pk_un (by decide)]; exact e41
  have l2 : zLay (zsI σ1 131 (upd (zI σ1 131) 3 (nI (q + 1)))) := l1.I
  generalize zsI σ1 131 (upd (zI σ1 131) 3 (nI (q + 1))) = σ2 at f2 ez2 et2 z23 z24 l2 ⊢
  have e48 : (v - 48).toInt = tz t len q - 48 := zsub ev k48 (by omega) (by omega)
  refine m_isDigit l2 ez2 z23 hn (by omega) ⟨rfl, (bX12_number_38 l2).mpr ?_⟩
  rw [et2]
  refine zt0 (fun c2 => m_here l2 ez2 z23 hn (by omega) (fun v2 hv2 => ⟨rfl, (bX12_number_50 l2).mpr ?_⟩)) (fun c2 => p66 1 σ2 _ (Or.inl rfl) (fun z => absurd z c2) (fun _ => ?_) f2 z23 z24 ?_)
  · have hq2 := isd_lt c2
    rw [if_pos hq2, et2] at hv2
    rw [z23, nI_1]
    refine p66 2 _ _ (Or.inr rfl) (fun z => ⟨rfl, ?_⟩) (fun z => ?_) (f2.trans (zFr_U (by unfold wNm; omega))) (by rw [zI_self, pk_us]) (by rw [zI_self, pk_un (by decide)]; exact z24) ?_
    · unfold dgs
      rw [if_pos c, if_pos c2, if_pos z]
    · unfold dgs
      rw [if_pos c, if_pos c2, if_neg z]
    · have ev2 : v2.toInt = tz t len (q + 1) := by rw [tz_e hq2]; exact hv2
      rw [zsub (zadd (zmul (show (10 : Int32).toInt = 10 from rfl) e48 (by omega) (by omega)) ev2 (by omega) (by omega)) k48 (by omega) (by omega)]
      unfold nmb
      rw [if_pos rfl]
  · unfold dgs
    rw [if_pos c, if_neg c2]
  · rw [e48]
    unfold nmb
    rw [if_neg (by decide)]
end MNUM
def wRs (s : Nat) (j c k : Nat) : Prop := j = 0 ∧ ((c = 131 ∧ (k = 3 ∨ k = 4)) ∨ (136 ≤ c ∧ c ≤ 138 ∧ k = s))
/-- the model's stick s is g -/
def mDr (σ : zS) (s : Nat) (g : Int × Int × Int) : Prop := (zI σ 136 s).toInt = g.1 ∧ (zI σ 137 s).toInt = g.2.1 ∧ (zI σ 138 s).toInt = g.2.2
theorem mDr_fr {W : Nat → Nat → Nat → Prop} {σ σ' : zS} {s : Nat} {g : Int × Int × Int} (f : zFr W σ σ') (w : ∀ c, 136 ≤ c → c ≤ 138 → ¬ W 0 c s) (h : mDr σ s g) : mDr σ' s g := by
  unfold mDr
  rw [f.i (w 136 (by omega) (by omega)), f.i (w 137 (by omega) (by omega)), f.i (w 138 (by omega) (by omega))]
  exact h
theorem mDr_s {σ : zS} {s : Nat} {g : Int × Int × Int} {k : Nat} {x : Int32} {v : Int} (hk : k < 3) (hx : x.toInt = v) (h : mDr σ s g) : mDr (zsI σ (136 + k) (upd (zI σ (136 + k)) s x)) s (gs g k v) := by
  obtain ⟨h0, h1, h2⟩ := h
  unfold mDr gs
  rcases (by omega : k = 0 ∨ k = 1 ∨ k = 2) with rfl | rfl | rfl
  · rw [if_pos (by rfl), zI_self, zI_ne (by decide), zI_ne (by decide), pk_us]
    exact ⟨hx, h1, h2⟩
  · rw [if_neg (by decide), if_pos (by rfl), zI_self, zI_ne (by decide), zI_ne (by decide), pk_us]
    exact ⟨h0, hx, h2⟩
  · rw [if_neg (by decide), if_neg (by decide), zI_self, zI_ne (by decide), zI_ne (by decide), pk_us]
    exact ⟨h0, h1, hx⟩
def cT (T : Nat → Bool) : Nat := (T 0).toNat + (T 1).toNat + (T 2).toNat
theorem cT_s {T : Nat → Bool} {k : Nat} (hk : k < 3) (h : ¬ T k = true) : cT (rT T k) = cT T + 1 := by
  unfold cT rT
  have e : T k = false := by
    revert h
    cases T k <;> simp
  rcases (by omega : k = 0 ∨ k = 1 ∨ k = 2) with rfl | rfl | rfl <;> simp [e] <;> omega
theorem cT_3 (T : Nat → Bool) : cT T ≤ 3 := by
  unfold cT
  have : ∀ b : Bool, b.toNat ≤ 1 := by decide
  have := this (T 0)
  have := (by decide : ∀ b : Bool, b.toNat ≤ 1) (T 1)
  have := (by decide : ∀ b : Bool, b.toNat ≤ 1) (T 2)
  omega
section MRS
variable {d : Nat} {Q : Option Value → zS → Prop} {σ0 : zS}
theorem m_rs {len s : Nat} {t : Nat → Int} (l0 : zLay σ0) (hs : s < 11) (e2 : zI σ0 131 2 = nI len) (hn : len ≤ 160) (et : tM σ0 = t) (ht : ∀ i, i < len → 1 ≤ t i) :
    ∀ (m i : Nat) (T : Nat → Bool) (m7 : Int32) (g : Int × Int × Int) (σ : zS) (v4 v5 v6 : Value), m + cT T = 4 → i ≤ len → (∀ j, j < 3 → (bt m7 j = true ↔ T j = true)) → v4.category = 1 → v5.category = 1 → v6.category = 1 → zFr (wRs s) σ0 σ → mDr σ s g → zI σ 131 3 = nI i → zI σ 131 4 = -1 →
    (∀ (σ' : zS), (zI σ' 131 4).toInt = (rs t len m i T g).1 → zFr (wRs s) σ0 σ' → ((rs t len m i T g).1 = -1 → mDr σ' s (rs t len m i T g).2) → Q none σ') →
    zW (d + 3) kX12_readStick 29 [.ref 131, .int (nI s), .int m7, .int 1, v4, v5, v6] [] σ Q := by
  intro m
  induction m with
  | zero =>
    intro i T m7 g σ v4 v5 v6 hm
    have := cT_3 T
    omega
  | succ m ih =>
    intro i T m7 g σ v4 v5 v6 hm hi hT c4 c5 c6 f hg e3 e4 h
    have l := f.lay l0 (fun _ _ _ _ => by unfold wRs; omega)
    have eT : tM σ = t := (tM_fr f (fun k => by unfold wRs; omega)).trans et
    have ez : zI σ 131 2 = nI len := by rw [f.i (by unfold wRs; omega)]; exact e2
    have sb := skp_b (t := t) (len := len) _ i rfl
    have er : rs t len (m + 1) i T g = rs2 t len (skp t len i) T g (fun T' i' g' => rs t len m i' T' g') := rfl
    have vs : vp_in (nI s) 11 := vp_in_nI hs (by decide)
    have cs : (nI s).toNatClampNeg = s := nI_clamp (by omega)
    rw [er] at h
    unfold rs2 at h
    refine (bX12_readStick_29 l c4 c5 c6).mpr (zn (by decide) (m_look _ i σ rfl (by omega) l ez e3 hn (fun v σ1 hv l1 z3 f1 => ⟨rfl, (bX12_readStick_37 l1 c4 c5 c6).mpr ?_⟩)))
    rw [eT] at hv z3
    generalize eq : skp t len i = p at h hv z3 sb
    have f1' : zFr (wRs s) σ0 σ1 := f.trans (f1.mono (fun j c k w => by unfold wAt at w; unfold wRs; omega))
    have ez1 : zI σ1 131 2 = nI len := by rw [f1.i (by unfold wAt; omega)]; exact ez
    have e41 : zI σ1 131 4 = -1 := by rw [f1.i (by unfold wAt; omega)]; exact e4
    have et1 : tM σ1 = t := (tM_fr f1 (fun k => by unfold wAt; omega)).trans eT
    have g1 : mDr σ1 s g := mDr_fr f1 (fun c _ _ => by unfold wAt; omega) hg
    have ff : ∀ {σa σb : zS}, zFr (fun j c k => j = 0 ∧ c = 131 ∧ k = 4) σa σb → zFr (wRs s) σa σb := fun f => f.mono (fun j c k w => by unfold wRs; omega)
    have stop : ∀ (x4 x5 : Int32), (ltr (tz t len p) = -1 ∨ T (ltr (tz t len p)).toNat = true) → zW (d + 3) kX12_readStick 90 [.ref 131, .int (nI s), .int m7, .int 1, .int x4, .int x5, v6] [] σ1 Q := fun x4 x5 c => by
      rw [if_pos c] at h
      refine (bX12_readStick_90 l1 c6).mpr (m_fails l1 z3 e41 (fun σ2 z4 f2 => ⟨rfl, (bX12_readStick_94 (f2.lay l1 (fun _ _ _ _ => by omega)) c6).mpr (h σ2 ?_ (f1'.trans (ff f2)) (fun z => ?_))⟩))
      · rw [z4]; exact ai_n (by omega)
      · have z2 : ((p : Nat) : Int) = -1 := z
        omega
    -- the letter
    have p73 : ∀ w : Int32, w.toInt = ltr (tz t len p) → zW (d + 3) kX12_readStick 73 [.ref 131, .int (nI s), .int m7, .int 1, .int v, v5, v6] [.int w] σ1 Q := by
      intro w hw
      refine (bX12_readStick_73 l1 c5 c6).mpr (zeq' hw km1 (fun z => stop _ _ (Or.inl z)) (fun z => ?_))
      obtain ⟨a, a2⟩ := (ltr_b (tz t len p)).resolve_left z
      have hlt := tz_lt a2
      obtain ⟨k, hk1, rfl, hk2⟩ := ai_nx (x := w) (by omega)
      have hk3 : k < 3 := by omega
      have ek : ltr (tz t len p) = (k : Int) := by omega
      have ekn : (ltr (tz t len p)).toNat = k := by omega
      refine m_has l1 (by omega) ⟨rfl, (bX12_readStick_87 l1 c6).mpr (zt0 (fun c => stop _ _ (Or.inr (by rw [ekn]; exact (hT k hk3).mp c))) (fun c => ?_))⟩
      have c2 : ¬ T k = true := fun q => c ((hT k hk3).mpr q)
      rw [if_neg (by rw [ekn]; exact fun q => q.elim z c2), ekn, ek] at h
      rw [z3, nI_1]
      have f2 : zFr (wRs s) σ1 (zsI σ1 131 (upd (zI σ1 131) 3 (nI (p + 1)))) := zFr_U (by unfold wRs; omega)
      have z23 : zI (zsI σ1 131 (upd (zI σ1 131) 3 (nI (p + 1)))) 131 3 = nI (p + 1) := by rw [zI_self, pk_us]
      have z24 : zI (zsI σ1 131 (upd (zI σ1 131) 3 (nI (p + 1)))) 131 4 = -1 := by rw [zI_self, pk_un (by decide)]; exact e41
      have g2 : mDr (zsI σ1 131 (upd (zI σ1 131) 3 (nI (p + 1)))) s g := mDr_fr (W := fun j c k => c = 131) (zFr_U rfl) (fun c _ _ => by omega) g1
      have l2 : zLay (zsI σ1 131 (upd (zI σ1 131) 3 (nI (p + 1)))) := l1.I
      generalize zsI σ1 131 (upd (zI σ1 131) 3 (nI (p + 1))) = σ2 at f2 z23 z24 l2 g2 ⊢
      have ez2 : zI σ2 131 2 = nI len := by rw [f2.i (by unfold wRs; omega)]; exact ez1
      have et2 : tM σ2 = t := (tM_fr f2 (fun k => by unfold wRs; omega)).trans et1
      have f02 := f1'.trans f2
      have sb2 := skp_b (t := t) (len := len) _ (p + 1) rfl
      generalize eqq : skp t len (p + 1) = q at h sb2
      have hq := sb2.2.1 (by omega)
      have db := dgs_b (t := t) hq
      have hTk : ∀ j, j < 3 → (bt (m7 ||| (1 <<< (nI k &&& 31))) j = true ↔ rT T k j = true) := fun j hj => by
        rw [bt_or (by omega) (by omega)]
        unfold rT
        by_cases e : j = k
        · rw [if_pos e, if_pos e]; simp
        · rw [if_neg e, if_neg e]; exact hT j hj
      have cTk := cT_s hk3 c2
      -- behind the number
      have p189 : ∀ (x6 : Int32) (σ3 : zS), zFr wNm σ2 σ3 → x6.toInt = nmb t len q (dgs t len q) → dgs t len q ≠ 0 → dgs t len q ≤ 2 → ¬ (nmb t len q (dgs t len q) < loL k ∨ hiL k < nmb t len q (dgs t len q)) → zI σ3 131 3 = nI (q + dgs t len q) → zI σ3 131 4 = -1 → zW (d + 3) kX12_readStick 189 [.ref 131, .int (nI s), .int (m7 ||| (1 <<< (nI k &&& 31))), .int 1, .int v, .int (nI k), .int x6] [] (zsI σ3 (136 + k) (upd (zI σ3 (136 + k)) s x6)) Q := by
        intro x6 σ3 f3 ex n0 n2 ok z33 z34
        have f3' : zFr (wRs s) σ2 σ3 := f3.mono (fun j c k w => by unfold wNm at w; unfold wRs; omega)
        have l3 := f3'.lay l2 (fun _ _ _ _ => by unfold wRs; omega)
        have g3 : mDr σ3 s g := mDr_fr f3 (fun c _ _ => by unfold wNm; omega) g2
        have g4 := mDr_s (s := s) hk3 ex g3
        have f4 : zFr (wRs s) σ3 (zsI σ3 (136 + k) (upd (zI σ3 (136 + k)) s x6)) := zFr_U (by unfold wRs; omega)
        have z43 : zI (zsI σ3 (136 + k) (upd (zI σ3 (136 + k)) s x6)) 131 3 = nI (q + dgs t len q) := by rw [zI_ne (by omega)]; exact z33
        have z44 : zI (zsI σ3 (136 + k) (upd (zI σ3 (136 + k)) s x6)) 131 4 = -1 := by rw [zI_ne (by omega)]; exact z34
        generalize zsI σ3 (136 + k) (upd (zI σ3 (136 + k)) s x6) = σ4 at f4 g4 z43 z44 ⊢
        have f04 := (f02.trans f3').trans f4
        have l4 := f04.lay l0 (fun _ _ _ _ => by unfold wRs; omega)
        have ez4 : zI σ4 131 2 = nI len := by rw [f04.i (by unfold wRs; omega)]; exact e2
        have et4 : tM σ4 = t := (tM_fr f04 (fun k => by unfold wRs; omega)).trans et
        have sb4 := skp_b (t := t) (len := len) _ (q + dgs t len q) rfl
        refine (bX12_readStick_189 l4).mpr (m_look _ _ σ4 rfl (by omega) l4 ez4 z43 hn (fun w2 σ5 hw2 l5 z53 f5 => ⟨rfl, (bX12_readStick_193 l5).mpr ?_⟩))
        rw [et4] at hw2 z53
        have f5' : zFr (wRs s) σ4 σ5 := f5.mono (fun j c k w => by unfold wAt at w; unfold wRs; omega)
        have z54 : zI σ5 131 4 = -1 := by rw [f5.i (by unfold wAt; omega)]; exact z44
        have g5 : mDr σ5 s (gs g k (nmb t len q (dgs t len q))) := mDr_fr f5 (fun c _ _ => by unfold wAt; omega) g4
        have f05 := f04.trans f5'
        have ez5 : zI σ5 131 2 = nI len := by rw [f05.i (by unfold wRs; omega)]; exact e2
        have et5 : tM σ5 = t := (tM_fr f05 (fun k => by unfold wRs; omega)).trans et
        -- no comma
        have fin : (w2.toInt ≠ 44) → zW (d + 3) kX12_readStick 203 [.ref 131, .int (nI s), .int (m7 ||| (1 <<< (nI k &&& 31))), .int 1, .int v, .int (nI k), .int x6] [.int 0] σ5 Q := fun hne => by
          have esk : skp t len (skp t len (q + dgs t len q)) = skp t len (q + dgs t len q) := skp_n (fun z => sb4.2.2 z.1 z.2)
          refine (bX12_readStick_203 l5).mpr (zy rfl ((bX12_readStick_29 l5 (zcat_i _) (zcat_i _) (zcat_i _)).mpr (zy rfl (m_look _ _ σ5 rfl (by omega) l5 ez5 z53 hn (fun w3 σ6 hw3 l6 z63 f6 => ⟨rfl, (bX12_readStick_225 l6 (zcat_i _) (zcat_i _) (zcat_i _)).mpr ?_⟩)))))
          rw [et5, esk] at hw3 z63
          have f6' : zFr (wRs s) σ5 σ6 := f6.mono (fun j c k w => by unfold wAt at w; unfold wRs; omega)
          have z64 : zI σ6 131 4 = -1 := by rw [f6.i (by unfold wAt; omega)]; exact z54
          have g6 : mDr σ6 s (gs g k (nmb t len q (dgs t len q))) := mDr_fr f6 (fun c _ _ => by unfold wAt; omega) g5
          by_cases he : len ≤ skp t len (q + dgs t len q)
          · rw [if_neg (by omega)] at hw3
            rw [rs3_e n0 n2 ok he] at h
            exact zeq' hw3 km1 (fun _ => (bX12_readStick_233 l6 (zcat_i _) (zcat_i _) (zcat_i _)).mpr (h σ6 (by rw [z64]; rfl) (f05.trans f6') (fun _ => g6))) (fun z => absurd rfl z)
          · rw [if_pos (by omega)] at hw3 hw2
            rw [rs3_g n0 n2 ok he (by rw [tz_e (by omega)]; omega)] at h
            have pos := ht (skp t len (q + dgs t len q)) (by omega)
            refine zeq' hw3 km1 (fun z => by omega) (fun _ => m_fails l6 z63 z64 (fun σ7 z74 f7 => ⟨rfl, (bX12_readStick_233 (f7.lay l6 (fun _ _ _ _ => by omega)) (zcat_i _) (zcat_i _) (zcat_i _)).mpr (h σ7 ?_ ((f05.trans f6').trans (ff f7)) (fun z => ?_))⟩))
            · rw [z74]; exact ai_n (by omega)
            · have z2 : ((skp t len (q + dgs t len q) : Nat) : Int) = -1 := z
              omega
        by_cases he : len ≤ skp t len (q + dgs t len q)
        · rw [if_neg (by omega)] at hw2
          exact zeq' hw2 (show (44 : Int32).toInt = 44 from rfl) (fun z => by omega) (fun _ => fin (by omega))
        · rw [if_pos (by omega)] at hw2
          refine zeq' hw2 (show (44 : Int32).toInt = 44 from rfl) (fun z => ?_) (fun z => fin (by omega))
          refine (bX12_readStick_203 l5).mpr (zn (by decide) ?_)
          rw [z53, nI_1]
          rw [rs3_f n0 n2 ok he (by rw [tz_e (by omega)]; exact z)] at h
          exact ih (skp t len (q + dgs t len q) + 1) (rT T k) _ _ _ _ _ _ (by omega) (by omega) hTk (zcat_i _) (zcat_i _) (zcat_i _) (f05.trans (zFr_U (by unfold wRs; omega))) (mDr_fr (W := fun j c k => c = 131) (zFr_U rfl) (fun c _ _ => by omega) g5) (by rw [zI_self, pk_us]) (by rw [zI_self, pk_un (by decide)]; exact z54) h
      -- the number
      have p134 : ∀ lo hi : Int32, lo.toInt = loL k → hi.toInt = hiL k → zW (d + 3) kX12_readStick 134 [.ref 131, .int (nI s), .int (m7 ||| (1 <<< (nI k &&& 31))), .int 1, .int v, .int (nI k), v6] [.int hi, .int lo, .ref 131] σ2 Q := by
        intro lo hi elo ehi
        refine (bX12_readStick_134 l2 c6).mpr (m_number l2 ez2 z23 z24 hn (by omega) et2 elo ehi (fun x6 σ3 f3 e43 hok => ⟨rfl, (bX12_readStick_137 (f3.lay l2 (fun _ _ _ _ => by unfold wNm; omega)) c6).mpr ?_⟩))
        rw [eqq] at e43 hok
        have f3' : zFr (wRs s) σ2 σ3 := f3.mono (fun j c k w => by unfold wNm at w; unfold wRs; omega)
        have l3 := f3'.lay l2 (fun _ _ _ _ => by unfold wRs; omega)
        have no : ∀ r : Int, 0 ≤ r → nF t len q (dgs t len q) (loL k) (hiL k) = r → (rs3 t len q (dgs t len q) k g (fun i' g' => rs t len m i' (rT T k) g')).1 = r → (zI σ3 131 4).toInt ≠ -1 ∧ Q none σ3 := fun r r0 n1 n2 => by
          rw [n1] at e43
          exact ⟨by omega, h σ3 (e43.trans n2.symm) (f02.trans f3') (fun z => absurd (n2.symm.trans z) (by omega))⟩
        by_cases y0 : dgs t len q = 0
        · have n1 := no q (by omega) (by unfold nF; rw [if_pos y0]) (by rw [rs3_0 y0])
          exact zeq' rfl km1 (fun z => absurd z n1.1) (fun _ => n1.2)
        · by_cases y3 : 2 < dgs t len q
          · have n1 := no (q + 2) (by omega) (by unfold nF; rw [if_neg y0, if_pos y3]) (by rw [rs3_3 y3])
            exact zeq' rfl km1 (fun z => absurd z n1.1) (fun _ => n1.2)
          · by_cases bad : nmb t len q (dgs t len q) < loL k ∨ hiL k < nmb t len q (dgs t len q)
            · have n1 := no (q + (dgs t len q) - 1) (by omega) (by unfold nF; rw [if_neg y0, if_neg y3, if_pos bad]) (by rw [rs3_b y0 (by omega) bad])
              exact zeq' rfl km1 (fun z => absurd z n1.1) (fun _ => n1.2)
            · have eF : nF t len q (dgs t len q) (loL k) (hiL k) = -1 := by unfold nF; rw [if_neg y0, if_neg y3, if_neg bad]
              obtain ⟨ex, z33, z34⟩ := hok eF
              have pp := p189 x6 σ3 f3 ex y0 (by omega) bad z33 z34
              refine zy z34 (zeq' (ai_n (by omega)) k0 (fun z => ⟨vs, ?_⟩) (fun z => ?_))
              · obtain rfl : k = 0 := by omega
                rw [cs]
                exact (bX12_readStick_161 l3.I).mpr (zn (by decide) ((bX12_readStick_175 l3.I).mpr (zn (by decide) pp)))
              · refine (bX12_readStick_161 l3).mpr (zeq' (ai_n (by omega)) k1 (fun z2 => ⟨vs, ?_⟩) (fun z2 => ?_))
                · obtain rfl : k = 1 := by omega
                  rw [cs]
                  exact (bX12_readStick_175 l3.I).mpr (zn (by decide) pp)
                · obtain rfl : k = 2 := by omega
                  exact (bX12_readStick_175 l3).mpr (zy (by decide) ⟨vs, by rw [cs]; exact pp⟩)
      have p123 : ∀ lo : Int32, lo.toInt = loL k → zW (d + 3) kX12_readStick 123 [.ref 131, .int (nI s), .int (m7 ||| (1 <<< (nI k &&& 31))), .int 1, .int v, .int (nI k), v6] [.int lo, .ref 131] σ2 Q := fun lo el =>
        (bX12_readStick_123 l2 c6).mpr (zeq' (ai_n (by omega)) k0 (fun z => p134 lo 5 el (by unfold hiL; rw [if_pos z]; rfl)) (fun z => p134 lo 9 el (by unfold hiL; rw [if_neg z]; rfl)))
      exact zeq' (ai_n (by omega)) k0 (fun z => p123 1 (by unfold loL; rw [if_pos z]; rfl)) (fun z => p123 0 (by unfold loL; rw [if_neg z]; rfl))
    have elt : ltr v.toInt = ltr (tz t len p) := by
      by_cases z : p < len
      · rw [if_pos z] at hv; rw [hv, tz_e z]
      · rw [if_neg z] at hv
        rw [hv]
        unfold tz
        rw [if_neg z]; rfl
    refine zeq' rfl (show (108 : Int32).toInt = 108 from rfl) (fun z => p73 0 ?_) (fun z => zeq' rfl (show (104 : Int32).toInt = 104 from rfl) (fun z2 => p73 1 ?_) (fun z2 => zeq' rfl (show (102 : Int32).toInt = 102 from rfl) (fun z3 => p73 2 ?_) (fun z3 => p73 (-1) ?_)))
    · rw [← elt]; unfold ltr; rw [if_pos z]; rfl
    · rw [← elt]; unfold ltr; rw [if_neg z, if_pos z2]; rfl
    · rw [← elt]; unfold ltr; rw [if_neg z, if_neg z2, if_pos z3]; rfl
    · rw [← elt]; unfold ltr; rw [if_neg z, if_neg z2, if_neg z3]; rfl
end MRS
