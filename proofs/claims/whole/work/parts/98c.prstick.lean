/-! the class reads a stick -/
/-- the class's draft holds g -/
def pDr (σ : zS) (g : Int × Int × Int) : Prop := (zI σ 95 0).toInt = g.1 ∧ (zI σ 95 1).toInt = g.2.1 ∧ (zI σ 95 2).toInt = g.2.2
theorem pDr_s {σ : zS} {g : Int × Int × Int} {k : Nat} {x : Int32} {v : Int} (hk : k < 3) (hx : x.toInt = v) (h : pDr σ g) : pDr (zsI σ 95 (upd (zI σ 95) k x)) (gs g k v) := by
  obtain ⟨h0, h1, h2⟩ := h
  unfold pDr gs
  rw [zI_self]
  rcases (by omega : k = 0 ∨ k = 1 ∨ k = 2) with rfl | rfl | rfl
  · rw [if_pos (by rfl), pk_us, pk_un (by decide), pk_un (by decide)]
    exact ⟨hx, h1, h2⟩
  · rw [if_neg (by decide), if_pos (by rfl), pk_us, pk_un (by decide), pk_un (by decide)]
    exact ⟨h0, hx, h2⟩
  · rw [if_neg (by decide), if_neg (by decide), pk_us, pk_un (by decide), pk_un (by decide)]
    exact ⟨h0, h1, hx⟩
section RS3
variable {t : Nat → Int} {len q n : Nat} {k : Int} {g : Int × Int × Int} {F : Nat → Int × Int × Int → Int × (Int × Int × Int)}
theorem rs3_0 (h : n = 0) : rs3 t len q n k g F = ((q : Int), g) := if_pos h
theorem rs3_3 (h : 2 < n) : rs3 t len q n k g F = ((q : Int) + 2, g) := by unfold rs3; rw [if_neg (by omega), if_pos h]
theorem rs3_b (h : n ≠ 0) (h2 : n ≤ 2) (hb : nmb t len q n < loL k ∨ hiL k < nmb t len q n) : rs3 t len q n k g F = ((q : Int) + n - 1, g) := by unfold rs3; rw [if_neg h, if_neg (by omega), if_pos hb]
theorem rs3_e (h : n ≠ 0) (h2 : n ≤ 2) (hb : ¬ (nmb t len q n < loL k ∨ hiL k < nmb t len q n)) (he : len ≤ skp t len (q + n)) : rs3 t len q n k g F = (-1, gs g k (nmb t len q n)) := by unfold rs3; rw [if_neg h, if_neg (by omega), if_neg hb, if_pos he]
theorem rs3_f (h : n ≠ 0) (h2 : n ≤ 2) (hb : ¬ (nmb t len q n < loL k ∨ hiL k < nmb t len q n)) (he : ¬ len ≤ skp t len (q + n)) (h44 : tz t len (skp t len (q + n)) = 44) : rs3 t len q n k g F = F (skp t len (q + n) + 1) (gs g k (nmb t len q n)) := by unfold rs3; rw [if_neg h, if_neg (by omega), if_neg hb, if_neg he, if_pos h44]
theorem rs3_g (h : n ≠ 0) (h2 : n ≤ 2) (hb : ¬ (nmb t len q n < loL k ∨ hiL k < nmb t len q n)) (he : ¬ len ≤ skp t len (q + n)) (h44 : ¬ tz t len (skp t len (q + n)) = 44) : rs3 t len q n k g F = (((skp t len (q + n) : Nat) : Int), gs g k (nmb t len q n)) := by unfold rs3; rw [if_neg h, if_neg (by omega), if_neg hb, if_neg he, if_neg h44]
end RS3
section PRS
variable {d : Nat} {Q : Option Value → zS → Prop} {σ0 : zS}
theorem p_rs3 {len : Nat} {t : Nat → Int} (l0 : zLay σ0) (e2 : zI σ0 2 1 = nI len) (hn : len ≤ 160) (et : tP σ0 = t) {q n item k : Nat} {m7 : Int32} {g : Int × Int × Int} {F : Nat → Int × Int × Int → Int × (Int × Int × Int)} {σ : zS} {v6 v7 : Value} (c6 : v6.category = 1) (c7 : v7.category = 1) (hq : q ≤ len) (en : dgs t len q = n) (hk : k < 3) (hit : item < 4) (f : zFr pWz σ0 σ) (hg : pDr σ g)
    (h : ∀ (v : Int32) (σ' : zS), v.toInt = (rs3 t len q n k g F).1 → zFr pWz σ0 σ' → ((rs3 t len q n k g F).1 = -1 → pDr σ' (rs3 t len q n k g F).2) → Q (some (.int v)) σ')
    (ho : ∀ (i : Nat) (v6 v7 : Int32) (g' : Int × Int × Int) (σ' : zS), rs3 t len q n k g F = F i g' → i ≤ len → zFr pWz σ0 σ' → pDr σ' g' → zW (d + 2) kX8_readStick 14 [.ref 2, .ref 95, .int m7, .int (nI i), .int (nI (item + 1)), .int (nI k), .int v6, .int v7] [] σ' Q) :
    zW (d + 2) kX8_readStick 73 [.ref 2, .ref 95, .int m7, .int (nI q), .int (nI item), .int (nI k), v6, v7] [.int (nI n)] σ Q := by
  have l := pWz_lay f l0
  have eT : ∀ σ', zFr pWz σ0 σ' → tP σ' = t := fun σ' f' => by
    rw [← et]
    exact funext (fun i => by unfold tP; rw [f'.i (by unfold pWz; omega)])
  have ez : ∀ σ', zFr pWz σ0 σ' → zI σ' 2 1 = nI len := fun σ' f' => by rw [f'.i (by unfold pWz; omega)]; exact e2
  have db := dgs_b (t := t) hq
  rw [en] at db
  have eb : ∀ (i : Nat) (v : Int32), v.toInt = (if i < len then tP σ i else 0) → v.toInt = tz t len i := fun i v hv => by rw [hv, eT σ f]; rfl
  have k48 : (48 : Int32).toInt = 48 := rfl
  have p133 : ∀ x7 : Int32, x7.toInt = nmb t len q n → n ≠ 0 → n ≤ 2 → zW (d + 2) kX8_readStick 133 [.ref 2, .ref 95, .int m7, .int (nI q), .int (nI item), .int (nI k), .int (nI n), .int x7] [] σ Q := by
    intro x7 ex n0 n2
    refine (bX8_readStick_133 l zk_2 zk_95).mpr (p_sput l hk ex (fun bad => ⟨rfl, (bX8_readStick_141 l zk_2 zk_95).mpr (zeq' k0 k0 (fun _ => h _ σ ?_ f (fun z => ?_)) (fun z => absurd rfl z))⟩) (fun ok => ⟨rfl, (bX8_readStick_141 l.I zk_2 zk_95).mpr (zeq' k1 k0 (fun z => by omega) (fun _ => ?_))⟩))
    · rw [rs3_b n0 n2 bad]
      exact zsub (zadd (ai_n (by omega)) (ai_n (by omega)) (by omega) (by omega)) k1 (by omega) (by omega)
    · rw [rs3_b n0 n2 bad] at z
      have z' : (q : Int) + n - 1 = -1 := z
      omega
    · have f1 : zFr pWz σ (zsI σ 95 (upd (zI σ 95) k x7)) := zFr_U (by unfold pWz; omega)
      have g1 := pDr_s (σ := σ) (x := x7) hk ex hg
      generalize zsI σ 95 (upd (zI σ 95) k x7) = σ1 at f1 g1 ⊢
      have f01 := f.trans f1
      have l1 := pWz_lay f01 l0
      have sb := skp_b (t := t) (len := len) _ (q + n) rfl
      rw [nI_add]
      refine p_skip l1 (ez σ1 f01) hn (by omega) ⟨rfl, (bX8_readStick_159 l1 zk_2 zk_95).mpr ?_⟩
      rw [eT σ1 f01, ez σ1 f01]
      refine zlt' (ai_n (by omega)) (ai_n (by omega)) (fun z => p_byteAt l1 (ez σ1 f01) hn (by omega) (fun v hv => ⟨rfl, (bX8_readStick_175 l1 zk_2 zk_95).mpr ?_⟩)) (fun z => h _ σ1 ?_ f01 (fun _ => ?_))
      · have hv' : v.toInt = tz t len (skp t len (q + n)) := by rw [hv, eT σ1 f01]; rfl
        refine zeq' hv' (show (44 : Int32).toInt = 44 from rfl) (fun z44 => ?_) (fun z44 => h _ σ1 ?_ f01 (fun z2 => ?_))
        · rw [nI_1, nI_1]
          exact ho _ _ _ _ σ1 (rs3_f n0 n2 ok (by omega) z44) (by omega) f01 g1
        · rw [rs3_g n0 n2 ok (by omega) z44]; exact ai_n (by omega)
        · rw [rs3_g n0 n2 ok (by omega) z44]; exact g1
      · rw [rs3_e n0 n2 ok (by omega)]; rfl
      · rw [rs3_e n0 n2 ok (by omega)]; exact g1
  refine (bX8_readStick_73 l zk_2 zk_95 c6 c7).mpr (zeq' (ai_n (by omega)) k0 (fun z => (bX8_readStick_86 l zk_2 zk_95 c7).mpr (zeq' (ai_n (by omega)) k0 (fun _ => h _ σ ?_ f (fun z2 => ?_)) (fun z2 => absurd z z2))) (fun z => zle' (ai_n (by omega)) k2 (fun z2 => p_byteAt l (ez σ f) hn (by omega) (fun v hv => ⟨rfl, (bX8_readStick_104 l zk_2 zk_95 c7).mpr (zeq' (ai_n (by omega)) k2 (fun z3 => ?_) (fun z3 => ?_))⟩)) (fun z2 => (bX8_readStick_86 l zk_2 zk_95 c7).mpr (zeq' (ai_n (by omega)) k0 (fun z3 => absurd z3 z) (fun _ => h _ σ ?_ f (fun z3 => ?_))))))
  · rw [rs3_0 (by omega)]; exact ai_n (by omega)
  · rw [rs3_0 (by omega)] at z2
    have z3 : (q : Int) = -1 := z2
    omega
  · rw [nI_1]
    have a := db.2.2.1 (by omega)
    have b := db.2.2.2 (by omega)
    have ev := eb _ v hv
    refine p_byteAt l (ez σ f) hn (by omega) (fun v2 hv2 => ⟨rfl, (bX8_readStick_127 l zk_2 zk_95).mpr (p133 _ ?_ (by omega) (by omega))⟩)
    have ev2 := eb _ v2 hv2
    have e1 : (v - 48).toInt = tz t len q - 48 := zsub ev k48 (by omega) (by omega)
    rw [zsub (zadd (zmul (show (10 : Int32).toInt = 10 from rfl) e1 (by omega) (by omega)) ev2 (by omega) (by omega)) k48 (by omega) (by omega)]
    unfold nmb
    rw [if_pos (by omega)]
  · have a := db.2.2.1 (by omega)
    refine p133 _ ?_ (by omega) (by omega)
    rw [zsub (eb _ v hv) k48 (by omega) (by omega)]
    unfold nmb
    rw [if_neg (by omega)]
  · rw [rs3_3 (by omega)]
    exact zadd (ai_n (by omega)) k2 (by omega) (by omega)
  · rw [rs3_3 (by omega)] at z3
    have z4 : (q : Int) + 2 = -1 := z3
    omega
theorem p_rs {len : Nat} {t : Nat → Int} (l0 : zLay σ0) (e2 : zI σ0 2 1 = nI len) (hn : len ≤ 160) (et : tP σ0 = t) :
    ∀ (m i item : Nat) (T : Nat → Bool) (m7 : Int32) (g : Int × Int × Int) (σ : zS) (v5 v6 v7 : Value), m + item = 4 → i ≤ len → (∀ j, j < 3 → (bt m7 j = true ↔ T j = true)) → v5.category = 1 → v6.category = 1 → v7.category = 1 → zFr pWz σ0 σ → pDr σ g →
    (∀ (v : Int32) (σ' : zS), v.toInt = (rs t len m i T g).1 → zFr pWz σ0 σ' → ((rs t len m i T g).1 = -1 → pDr σ' (rs t len m i T g).2) → Q (some (.int v)) σ') →
    zW (d + 2) kX8_readStick 14 [.ref 2, .ref 95, .int m7, .int (nI i), .int (nI item), v5, v6, v7] [] σ Q := by
  intro m
  induction m with
  | zero =>
    intro i item T m7 g σ v5 v6 v7 hm hi hT c5 c6 c7 f hg h
    have l := pWz_lay f l0
    refine (bX8_readStick_14 l zk_2 zk_95 c5 c6 c7).mpr (zle' k4 (ai_n (by omega)) (fun _ => h _ σ (ai_n (by omega)) f (fun _ => hg)) (fun z => by omega))
  | succ m ih =>
    intro i item T m7 g σ v5 v6 v7 hm hi hT c5 c6 c7 f hg h
    have l := pWz_lay f l0
    have eT : tP σ = t := by
      rw [← et]
      exact funext (fun i => by unfold tP; rw [f.i (by unfold pWz; omega)])
    have ez : zI σ 2 1 = nI len := by rw [f.i (by unfold pWz; omega)]; exact e2
    have sb := skp_b (t := t) (len := len) _ i rfl
    have er : rs t len (m + 1) i T g = rs2 t len (skp t len i) T g (fun T' i' g' => rs t len m i' T' g') := rfl
    rw [er] at h
    unfold rs2 at h
    refine (bX8_readStick_14 l zk_2 zk_95 c5 c6 c7).mpr (zle' k4 (ai_n (by omega)) (fun z => by omega) (fun _ => p_skip l ez hn (by omega) ⟨rfl, (bX8_readStick_25 l zk_2 zk_95 c5 c6 c7).mpr ?_⟩))
    rw [eT]
    refine p_byteAt l ez hn (by omega) (fun v hv => ⟨rfl, (bX8_readStick_31 l zk_2 zk_95 c5 c6 c7).mpr (p_letter l (fun w hw => ⟨rfl, (bX8_readStick_34 l zk_2 zk_95 c5 c6 c7).mpr ?_⟩))⟩)
    rw [eT] at hv
    have hv2 : v.toInt = tz t len (skp t len i) := hv
    rw [hv2] at hw
    have stop : (ltr (tz t len (skp t len i)) = -1 ∨ T (ltr (tz t len (skp t len i))).toNat = true) → Q (some (.int (nI (skp t len i)))) σ := fun c => by
      rw [if_pos c] at h
      refine h _ σ (ai_n (by omega)) f (fun z => ?_)
      have z2 : ((skp t len i : Nat) : Int) = -1 := z
      omega
    refine zeq' hw km1 (fun z => stop (Or.inl z)) (fun z => ?_)
    obtain ⟨a, a2⟩ := (ltr_b (tz t len (skp t len i))).resolve_left z
    have hlt := tz_lt a2
    obtain ⟨k, hk1, rfl, hk2⟩ := ai_nx (x := w) (by omega)
    have hk3 : k < 3 := by omega
    have ek : ltr (tz t len (skp t len i)) = (k : Int) := by omega
    have ekn : (ltr (tz t len (skp t len i))).toNat = k := by omega
    refine zti (fun c => ?_) (fun c => stop (Or.inr ?_))
    rotate_left
    · rw [ekn]
      exact (hT k hk3).mp (Classical.not_not.mp (fun q => c ((p_bit0 (by omega)).mpr q)))
    have c2 : ¬ T k = true := fun q => ((p_bit0 (by omega)).mp c) ((hT k hk3).mpr q)
    rw [if_neg (by rw [ekn]; exact fun q => q.elim z c2), ekn, ek] at h
    have sb2 := skp_b (t := t) (len := len) _ (skp t len i + 1) rfl
    rw [nI_1]
    refine p_skip l ez hn (by omega) ⟨rfl, (bX8_readStick_67 l zk_2 zk_95 c6 c7).mpr ?_⟩
    rw [eT]
    refine p_digits l ez hn (by omega) ⟨rfl, ?_⟩
    rw [eT]
    refine p_rs3 (F := fun i' g' => rs t len m i' (rT T k) g') l0 e2 hn et c6 c7 (sb2.2.1 (by omega)) rfl hk3 (by omega) f hg h (fun i' v6 v7 g' σ' e1 h1 f1 g1 => ?_)
    refine ih i' (item + 1) (rT T k) _ g' σ' _ _ _ (by omega) h1 (fun j hj => ?_) (zcat_i _) (zcat_i _) (zcat_i _) f1 g1 (by rw [← e1]; exact h)
    rw [bt_or (by omega) (by omega)]
    unfold rT
    by_cases e : j = k
    · rw [if_pos e, if_pos e]; simp
    · rw [if_neg e, if_neg e]; exact hT j hj
/-- a stick read in all -/
noncomputable def rsk (t : Nat → Int) (len : Nat) : Int × (Int × Int × Int) := rs t len 4 0 (fun _ => false) (1, 5, 0)
theorem p_readStick {len : Nat} (l0 : zLay σ0) (e2 : zI σ0 2 1 = nI len) (hn : len ≤ 160)
    (h : ∀ (v : Int32) (σ' : zS), v.toInt = (rsk (tP σ0) len).1 → zFr pWz σ0 σ' → ((rsk (tP σ0) len).1 = -1 → pDr σ' (rsk (tP σ0) len).2) → Q (some (.int v)) σ') : zCall (d + 2) kX8_readStick [.ref 2, .ref 95] σ0 Q := by
  refine (bX8_readStick_0 l0 zk_2 zk_95).mpr ((bX6_shape_0 l0 zk_95).mpr ⟨rfl, (bX8_readStick_7 l0.I zk_2 zk_95).mpr ?_⟩)
  refine p_rs (d := d) l0 e2 hn rfl 4 0 0 (fun _ => false) 0 (1, 5, 0) _ _ _ _ (by omega) (by omega) (fun j _ => ?_) (zcat_r _) (zcat_r _) (zcat_r _) (zFr_UUU (by unfold pWz; omega) (by unfold pWz; omega) (by unfold pWz; omega)) ⟨?_, ?_, ?_⟩ h
  · rw [b_0]
  · rw [zI_self, pk_un (by decide), pk_un (by decide), pk_us]; rfl
  · rw [zI_self, pk_un (by decide), pk_us]; rfl
  · rw [zI_self, pk_us]; rfl
end PRS
