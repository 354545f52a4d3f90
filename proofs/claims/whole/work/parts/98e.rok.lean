/-! what is read is a brook, a stick; only the tape's bytes count -/
section ROK
variable {t t' : Nat → Int} {len : Nat}
theorem rb_c (h : ∀ i, i < len → t i = t' i) : ∀ (m i lane x W : Nat) (C : Nat → Nat → Int), i + m ≤ len → rb t len m i lane x W C = rb t' len m i lane x W C := by
  intro m
  induction m with
  | zero => intro i lane x W C _; rfl
  | succ m ih =>
    intro i lane x W C hi
    unfold rb
    rw [h i (by omega), ih (i + 1) lane (x + 1) W _ (by omega), ih (i + 1) (lane + 1) 0 x C (by omega), ih (i + 1) lane x W C (by omega)]
theorem rbk_c (h : ∀ i, i < len → t i = t' i) : rbk t len = rbk t' len := rb_c h len 0 0 0 0 _ (by omega)
theorem skp_c (h : ∀ i, i < len → t i = t' i) : ∀ (m i : Nat), len - i = m → skp t len i = skp t' len i
  | 0, i, hm => by rw [skp_n (by omega), skp_n (by omega)]
  | m + 1, i, hm => by
    by_cases q : i < len ∧ t i = 32
    · rw [skp_y q.1 q.2, skp_y q.1 (by rw [← h i q.1]; exact q.2), skp_c h m (i + 1) (by omega)]
    · rw [skp_n q, skp_n (fun z => q ⟨z.1, by rw [h i z.1]; exact z.2⟩)]
theorem tz_c (h : ∀ i, i < len → t i = t' i) (i : Nat) : tz t len i = tz t' len i := by
  unfold tz
  by_cases q : i < len
  · rw [if_pos q, if_pos q, h i q]
  · rw [if_neg q, if_neg q]
theorem dgs_c (h : ∀ i, i < len → t i = t' i) (q : Nat) : dgs t len q = dgs t' len q := by
  unfold dgs
  rw [tz_c h q, tz_c h (q + 1), tz_c h (q + 2)]
theorem nmb_c (h : ∀ i, i < len → t i = t' i) (q n : Nat) : nmb t len q n = nmb t' len q n := by
  unfold nmb
  rw [tz_c h q, tz_c h (q + 1)]
theorem rs3_c (h : ∀ i, i < len → t i = t' i) {q n : Nat} {k : Int} {g : Int × Int × Int} {F : Nat → Int × Int × Int → Int × (Int × Int × Int)} : rs3 t len q n k g F = rs3 t' len q n k g F := by
  unfold rs3
  rw [nmb_c h q n, skp_c h _ (q + n) rfl, tz_c h]
theorem rs_c (h : ∀ i, i < len → t i = t' i) : ∀ (m i : Nat) (T : Nat → Bool) (g : Int × Int × Int), rs t len m i T g = rs t' len m i T g := by
  intro m
  induction m with
  | zero => intro i T g; rfl
  | succ m ih =>
    intro i T g
    have e : (fun (T' : Nat → Bool) (i' : Nat) (g' : Int × Int × Int) => rs t len m i' T' g') = fun T' i' g' => rs t' len m i' T' g' := by
      funext T' i' g'
      exact ih i' T' g'
    show rs2 t len (skp t len i) T g (fun T' i' g' => rs t len m i' T' g') = rs2 t' len (skp t' len i) T g (fun T' i' g' => rs t' len m i' T' g')
    rw [e, skp_c h _ i rfl]
    unfold rs2
    rw [tz_c h, skp_c h _ _ rfl, dgs_c h, rs3_c h]
theorem rsk_c (h : ∀ i, i < len → t i = t' i) : rsk t len = rsk t' len := rs_c h 4 0 _ _
theorem rbq_ok : ∀ (m p lane x W : Nat) (C : Nat → Nat → Int), len - p = m → p ≤ len → lane ≤ 5 → (lane = 0 → W = 0 ∧ x ≤ 16) → (0 < lane → x ≤ W ∧ 4 ≤ W) → W ≤ 16 → (∀ y x', rbD lane x W y x' → 0 ≤ C y x' ∧ C y x' ≤ 10) → (rbq t len p lane x W C).1 = -1 → aBok ((rbq t len p lane x W C).2.2.2, ((rbq t len p lane x W C).2.1 : Int), ((rbq t len p lane x W C).2.2.1 : Int)) := by
  intro m
  induction m with
  | zero =>
    intro p lane x W C hm hp hl h0 h1 hW hC h
    have e : p = len := by omega
    subst e
    rw [rbq_end] at h ⊢
    have h' : (if lane + 1 < 2 ∨ x < W then (p : Int) else -1) = -1 := h
    have c : ¬ (lane + 1 < 2 ∨ x < W) := fun c => by
      rw [if_pos c] at h'
      omega
    have := h1 (by omega)
    refine ⟨?_, ?_, ?_, ?_, fun y x' hy hx => hC y x' ?_⟩
    · show (2 : Int) ≤ ((lane + 1 : Nat) : Int); omega
    · show ((lane + 1 : Nat) : Int) ≤ 6; omega
    · show (4 : Int) ≤ (W : Int); omega
    · show (W : Int) ≤ 16; omega
    · have hy2 : (y : Int) < ((lane + 1 : Nat) : Int) := hy
      have hx2 : (x' : Int) < (W : Int) := hx
      unfold rbD
      omega
  | succ m ih =>
    intro p lane x W C hm hp hl h0 h1 hW hC h
    have hq : p < len := by omega
    have no : ∀ {z : Nat × Nat × (Nat → Nat → Int)}, (((p : Int), z) : Int × Nat × Nat × (Nat → Nat → Int)).1 = -1 → False := fun {z} q => by
      have q2 : (p : Int) = -1 := q
      omega
    rw [rbq_go hq] at h ⊢
    by_cases c1 : sgb (t p) ≠ -1
    · rw [if_pos c1] at h ⊢
      by_cases c2 : (if lane = 0 then 16 else W) ≤ x
      · rw [if_pos c2] at h; exact (no h).elim
      · rw [if_neg c2] at h ⊢
        have hx : x < 16 ∧ (0 < lane → x < W) := by
          by_cases z : lane = 0
          · rw [if_pos z] at c2; omega
          · rw [if_neg z] at c2; omega
        refine ih (p + 1) lane (x + 1) W _ (by omega) (by omega) hl (fun z => ⟨(h0 z).1, by omega⟩) (fun z => ⟨by have := hx.2 z; omega, (h1 z).2⟩) hW (fun y x' q => ?_) h
        by_cases z : y = lane ∧ x' = x
        · obtain ⟨z1, z2⟩ := z
          subst z1; subst z2
          rw [rC_s]
          have := (sgb_b (b := t p)).resolve_left c1
          omega
        · rw [rC_n z]
          refine hC y x' ?_
          unfold rbD at q ⊢
          omega
    · rw [if_neg c1] at h ⊢
      by_cases c3 : t p = 59
      · rw [if_pos c3] at h ⊢
        by_cases c4 : 5 ≤ lane ∨ x < (if lane = 0 then 4 else W)
        · rw [if_pos c4] at h; exact (no h).elim
        · rw [if_neg c4] at h ⊢
          have hx : 4 ≤ x ∧ x ≤ 16 ∧ (0 < lane → x = W) := by
            by_cases z : lane = 0
            · rw [if_pos z] at c4; have := h0 z; omega
            · rw [if_neg z] at c4; have := h1 (by omega); omega
          refine ih (p + 1) (lane + 1) 0 x C (by omega) (by omega) (by omega) (fun z => by omega) (fun _ => ⟨by omega, hx.1⟩) hx.2.1 (fun y x' q => hC y x' ?_) h
          have := hx.2.2
          have := h0
          unfold rbD at q ⊢
          omega
      · rw [if_neg c3] at h ⊢
        by_cases c5 : t p = 32
        · rw [if_pos c5] at h ⊢
          exact ih (p + 1) lane x W C (by omega) (by omega) hl h0 h1 hW hC h
        · rw [if_neg c5] at h; exact (no h).elim
theorem rbk_q : rbk t len = rbq t len 0 0 0 0 (fun _ _ => 0) := rfl
theorem rbk_ok (h : (rbk t len).1 = -1) : aBok ((rbk t len).2.2.2, ((rbk t len).2.1 : Int), ((rbk t len).2.2.1 : Int)) := by
  rw [rbk_q] at h ⊢
  exact rbq_ok len 0 0 0 0 _ (by omega) (by omega) (by omega) (fun _ => ⟨rfl, by omega⟩) (fun z => by omega) (by omega) (fun y x' q => by unfold rbD at q; omega) h
def gok (g : Int × Int × Int) : Prop := (1 ≤ g.1 ∧ g.1 ≤ 5) ∧ (0 ≤ g.2.1 ∧ g.2.1 ≤ 9) ∧ 0 ≤ g.2.2 ∧ g.2.2 ≤ 9
theorem gok_s {g : Int × Int × Int} {k v : Int} (h : gok g) (hb : ¬ (v < loL k ∨ hiL k < v)) : gok (gs g k v) := by
  obtain ⟨h0, h1, h2⟩ := h
  unfold loL hiL at hb
  unfold gok gs
  by_cases c : k = 0
  · rw [if_pos c, if_pos c] at hb
    rw [if_pos c]
    exact ⟨⟨by show 1 ≤ v; omega, by show v ≤ 5; omega⟩, h1, h2⟩
  · rw [if_neg c, if_neg c] at hb
    rw [if_neg c]
    by_cases c2 : k = 1
    · rw [if_pos c2]
      exact ⟨h0, ⟨by show 0 ≤ v; omega, by show v ≤ 9; omega⟩, h2⟩
    · rw [if_neg c2]
      exact ⟨h0, h1, by show 0 ≤ v; omega, by show v ≤ 9; omega⟩
theorem rs3_ok {q n : Nat} {k : Int} {g : Int × Int × Int} {F : Nat → Int × Int × Int → Int × (Int × Int × Int)} (hg : gok g) (hF : ∀ i g', gok g' → (F i g').1 = -1 → gok (F i g').2) (h : (rs3 t len q n k g F).1 = -1) : gok (rs3 t len q n k g F).2 := by
  by_cases y0 : n = 0
  · rw [rs3_0 y0]; exact hg
  · by_cases y3 : 2 < n
    · rw [rs3_3 y3]; exact hg
    · by_cases bad : nmb t len q n < loL k ∨ hiL k < nmb t len q n
      · rw [rs3_b y0 (by omega) bad]; exact hg
      · have g1 := gok_s hg bad
        by_cases he : len ≤ skp t len (q + n)
        · rw [rs3_e y0 (by omega) bad he]; exact g1
        · by_cases h44 : tz t len (skp t len (q + n)) = 44
          · rw [rs3_f y0 (by omega) bad he h44] at h ⊢
            exact hF _ _ g1 h
          · rw [rs3_g y0 (by omega) bad he h44]; exact g1
theorem rs_ok : ∀ (m i : Nat) (T : Nat → Bool) (g : Int × Int × Int), gok g → (rs t len m i T g).1 = -1 → gok (rs t len m i T g).2 := by
  intro m
  induction m with
  | zero => intro i T g hg _; exact hg
  | succ m ih =>
    intro i T g hg h
    have er : rs t len (m + 1) i T g = rs2 t len (skp t len i) T g (fun T' i' g' => rs t len m i' T' g') := rfl
    rw [er] at h ⊢
    unfold rs2 at h ⊢
    by_cases c : ltr (tz t len (skp t len i)) = -1 ∨ T (ltr (tz t len (skp t len i))).toNat = true
    · rw [if_pos c]; exact hg
    · rw [if_neg c] at h ⊢
      exact rs3_ok hg (fun i' g' a b => ih i' _ g' a b) h
theorem rsk_ok (h : (rsk t len).1 = -1) : gok (rsk t len).2 := rs_ok 4 0 _ _ ⟨by decide, by decide, by decide⟩ h
end ROK
section MRD
variable {d : Nat} {Q : Option Value → zS → Prop} {σ0 : zS}
/-- the model reads a brook in all -/
theorem m_readBrook {len b : Nat} {t : Nat → Int} (l0 : zLay σ0) (hb : b < 7) (e2 : zI σ0 131 2 = nI len) (hn : len ≤ 160) (et : tM σ0 = t) (ht : ∀ i, i < len → 1 ≤ t i)
    (h : ∀ (σ' : zS), (zI σ' 131 4).toInt = (rbk t len).1 → zFr (wRb b) σ0 σ' → ((rbk t len).1 = -1 → zI σ' 134 b = nI (rbk t len).2.1 ∧ zI σ' 135 b = nI (rbk t len).2.2.1 ∧ ∀ y x' : Nat, y < 6 → x' < 16 → y < (rbk t len).2.1 → x' < (rbk t len).2.2.1 → (zI σ' 133 (16 * (6 * b + y) + x')).toInt = (rbk t len).2.2.2 y x') → Q none σ') : zCall (d + 2) kX12_readBrook [.ref 131, .int (nI b)] σ0 Q := by
  have vb : vp_in (nI b) 7 := vp_in_nI hb (by decide)
  have cb : (nI b).toNatClampNeg = b := nI_clamp (by omega)
  have f1 : zFr (wRb b) σ0 (zsI σ0 131 (upd (upd (zI σ0 131) 3 0) 4 (-1))) := zFr_UU (by unfold wRb; omega) (by unfold wRb; omega)
  refine (bX12_readBrook_0 l0).mpr (m_beginT l0 ⟨rfl, (bX12_readBrook_4 l0.I).mpr ⟨vb, vb, ?_⟩⟩)
  rw [cb]
  have z13 : zI (zsI σ0 131 (upd (upd (zI σ0 131) 3 0) 4 (-1))) 131 3 = nI 0 := by rw [zI_self, pk_un (by decide), pk_us]; rfl
  have z14 : zI (zsI σ0 131 (upd (upd (zI σ0 131) 3 0) 4 (-1))) 131 4 = -1 := by rw [zI_self, pk_us]
  have l1 : zLay (zsI σ0 131 (upd (upd (zI σ0 131) 3 0) 4 (-1))) := l0.I
  generalize zsI σ0 131 (upd (upd (zI σ0 131) 3 0) 4 (-1)) = σ1 at f1 z13 z14 l1 ⊢
  have f2 : zFr (wRb b) σ1 (zsI (zsI σ1 134 (upd (zI σ1 134) b 1)) 135 (upd (zI σ1 135) b 0)) := by
    have fa : zFr (wRb b) σ1 (zsI σ1 134 (upd (zI σ1 134) b 1)) := zFr_U (by unfold wRb; omega)
    have fb : zFr (wRb b) (zsI σ1 134 (upd (zI σ1 134) b 1)) (zsI (zsI σ1 134 (upd (zI σ1 134) b 1)) 135 (upd (zI (zsI σ1 134 (upd (zI σ1 134) b 1)) 135) b 0)) := zFr_U (by unfold wRb; omega)
    exact fa.trans fb
  have z23 : zI (zsI (zsI σ1 134 (upd (zI σ1 134) b 1)) 135 (upd (zI σ1 135) b 0)) 131 3 = nI 0 := by rw [zI_ne (by decide), zI_ne (by decide)]; exact z13
  have z24 : zI (zsI (zsI σ1 134 (upd (zI σ1 134) b 1)) 135 (upd (zI σ1 135) b 0)) 131 4 = -1 := by rw [zI_ne (by decide), zI_ne (by decide)]; exact z14
  have zL : zI (zsI (zsI σ1 134 (upd (zI σ1 134) b 1)) 135 (upd (zI σ1 135) b 0)) 134 b = nI (0 + 1) := by rw [zI_ne (by decide), zI_self, pk_us]; rfl
  have zW' : zI (zsI (zsI σ1 134 (upd (zI σ1 134) b 1)) 135 (upd (zI σ1 135) b 0)) 135 b = nI 0 := by rw [zI_self, pk_us]; rfl
  have l2 : zLay (zsI (zsI σ1 134 (upd (zI σ1 134) b 1)) 135 (upd (zI σ1 135) b 0)) := l1.I.I
  generalize zsI (zsI σ1 134 (upd (zI σ1 134) b 1)) 135 (upd (zI σ1 135) b 0) = σ2 at f2 z23 z24 zL zW' l2 ⊢
  have f02 := f1.trans f2
  have et2 : tM σ2 = t := (tM_fr f02 (fun k => by unfold wRb; omega)).trans et
  have sb := skp_b (t := t) (len := len) _ 0 rfl
  refine m_look _ 0 σ2 rfl (by omega) l2 (by rw [f02.i (by unfold wRb; omega)]; exact e2) z23 hn (fun v σ3 hv l3 z33 f3 => ⟨rfl, (bX12_readBrook_24 l3).mpr ?_⟩)
  rw [et2] at hv z33
  have f3' : zFr (wRb b) σ2 σ3 := f3.mono (fun j c k w => by unfold wAt at w; unfold wRb; omega)
  rw [rbk_q, ← rbq_sk _ 0 rfl] at h
  refine m_rb l0 hb e2 hn et ht len (skp t len 0) 0 0 0 (fun _ _ => 0) σ3 v (by omega) (sb.2.1 (by omega)) sb.2.2 hv (by omega) (fun _ => ⟨rfl, by omega⟩) (fun z => by omega) (by omega) (f02.trans f3') (fun y x' _ _ q => by unfold rbD at q; omega) z33 ?_ ?_ ?_ h
  · rw [f3.i (by unfold wAt; omega)]; exact z24
  · rw [f3.i (by unfold wAt; omega)]; exact zL
  · rw [f3.i (by unfold wAt; omega)]; exact zW'
/-- and a stick -/
theorem m_readStick {len s : Nat} {t : Nat → Int} (l0 : zLay σ0) (hs : s < 11) (e2 : zI σ0 131 2 = nI len) (hn : len ≤ 160) (et : tM σ0 = t) (ht : ∀ i, i < len → 1 ≤ t i)
    (h : ∀ (σ' : zS), (zI σ' 131 4).toInt = (rsk t len).1 → zFr (wRs s) σ0 σ' → ((rsk t len).1 = -1 → mDr σ' s (rsk t len).2) → Q none σ') : zCall (d + 3) kX12_readStick [.ref 131, .int (nI s)] σ0 Q := by
  have vs : vp_in (nI s) 11 := vp_in_nI hs (by decide)
  have cs : (nI s).toNatClampNeg = s := nI_clamp (by omega)
  have f1 : zFr (wRs s) σ0 (zsI σ0 131 (upd (upd (zI σ0 131) 3 0) 4 (-1))) := zFr_UU (by unfold wRs; omega) (by unfold wRs; omega)
  refine (bX12_readStick_0 l0).mpr (m_beginT l0 ⟨rfl, (bX12_readStick_4 l0.I).mpr ⟨vs, vs, vs, ?_⟩⟩)
  rw [cs]
  have z13 : zI (zsI σ0 131 (upd (upd (zI σ0 131) 3 0) 4 (-1))) 131 3 = nI 0 := by rw [zI_self, pk_un (by decide), pk_us]; rfl
  have z14 : zI (zsI σ0 131 (upd (upd (zI σ0 131) 3 0) 4 (-1))) 131 4 = -1 := by rw [zI_self, pk_us]
  have l1 : zLay (zsI σ0 131 (upd (upd (zI σ0 131) 3 0) 4 (-1))) := l0.I
  generalize zsI σ0 131 (upd (upd (zI σ0 131) 3 0) 4 (-1)) = σ1 at f1 z13 z14 l1 ⊢
  have f2 : zFr (wRs s) σ1 (zsI (zsI (zsI σ1 136 (upd (zI σ1 136) s 1)) 137 (upd (zI σ1 137) s 5)) 138 (upd (zI σ1 138) s 0)) := by
    have fa : zFr (wRs s) σ1 (zsI σ1 136 (upd (zI σ1 136) s 1)) := zFr_U (by unfold wRs; omega)
    have fb : zFr (wRs s) (zsI σ1 136 (upd (zI σ1 136) s 1)) (zsI (zsI σ1 136 (upd (zI σ1 136) s 1)) 137 (upd (zI (zsI σ1 136 (upd (zI σ1 136) s 1)) 137) s 5)) := zFr_U (by unfold wRs; omega)
    have fc : zFr (wRs s) (zsI (zsI σ1 136 (upd (zI σ1 136) s 1)) 137 (upd (zI σ1 137) s 5)) (zsI (zsI (zsI σ1 136 (upd (zI σ1 136) s 1)) 137 (upd (zI σ1 137) s 5)) 138 (upd (zI (zsI (zsI σ1 136 (upd (zI σ1 136) s 1)) 137 (upd (zI σ1 137) s 5)) 138) s 0)) := zFr_U (by unfold wRs; omega)
    exact (fa.trans fb).trans fc
  have g2 : mDr (zsI (zsI (zsI σ1 136 (upd (zI σ1 136) s 1)) 137 (upd (zI σ1 137) s 5)) 138 (upd (zI σ1 138) s 0)) s (1, 5, 0) := by
    refine ⟨?_, ?_, ?_⟩
    · rw [zI_ne (by decide), zI_ne (by decide), zI_self, pk_us]; rfl
    · rw [zI_ne (by decide), zI_self, pk_us]; rfl
    · rw [zI_self, pk_us]; rfl
  have z23 : zI (zsI (zsI (zsI σ1 136 (upd (zI σ1 136) s 1)) 137 (upd (zI σ1 137) s 5)) 138 (upd (zI σ1 138) s 0)) 131 3 = nI 0 := by rw [zI_ne (by decide), zI_ne (by decide), zI_ne (by decide)]; exact z13
  have z24 : zI (zsI (zsI (zsI σ1 136 (upd (zI σ1 136) s 1)) 137 (upd (zI σ1 137) s 5)) 138 (upd (zI σ1 138) s 0)) 131 4 = -1 := by rw [zI_ne (by decide), zI_ne (by decide), zI_ne (by decide)]; exact z14
  generalize zsI (zsI (zsI σ1 136 (upd (zI σ1 136) s 1)) 137 (upd (zI σ1 137) s 5)) 138 (upd (zI σ1 138) s 0) = σ2 at f2 g2 z23 z24 ⊢
  exact m_rs l0 hs e2 hn et ht 4 0 (fun _ => false) 0 (1, 5, 0) σ2 _ _ _ (by unfold cT; rfl) (by omega) (fun j _ => by rw [b_0]) (zcat_r _) (zcat_r _) (zcat_r _) (f1.trans f2) g2 z23 z24 h
end MRD
