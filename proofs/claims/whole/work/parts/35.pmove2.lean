/-! the class's move, its strike and steps. s_l and b_sshr began as the kit's starting text on bits -/
theorem s_l : ∀ n, n < 32 → ((nI n &&& 31).toBitVec.smod 32).toNat = n := by decide +kernel
theorem b_sshr (n : Nat) (hn : n < 32) (x : Int32) {i : Nat} (hi : i < 32) : bt (x >>> (nI n &&& 31)) i = if n + i < 32 then bt x (n + i) else bt x 31 := by
  unfold bt
  rw [Int32.toBitVec_shiftRight]
  show (x.toBitVec.sshiftRight ((nI n &&& 31).toBitVec.smod 32).toNat).getLsbD i = _
  rw [s_l n hn, BitVec.getLsbD_sshiftRight, BitVec.msb_eq_getLsbD_last]
  simp [hi]
theorem b_1 : ∀ i, i < 32 → bt 1 i = decide (i = 0) := by decide +kernel
theorem p_bit {m : Int32} {s : Nat} (hs : s < 32) : (m >>> (nI s &&& 31)) &&& 1 = if bt m s = true then 1 else 0 := by
  refine b_ext (fun i hi => ?_)
  rw [b_and, b_1 i hi, b_sshr s hs m hi]
  by_cases e : i = 0
  · subst e
    rw [if_pos (by omega)]
    show (bt m s && decide (0 = 0)) = _
    cases bt m s <;> simp [b_0, b_1]
  · rw [decide_eq_false e, Bool.and_false]
    by_cases q : bt m s = true
    · rw [if_pos q, b_1 i hi, decide_eq_false e]
    · rw [if_neg q, b_0]
theorem p_bit0 {m : Int32} {s : Nat} (hs : s < 32) : (m >>> (nI s &&& 31)) &&& 1 = 0 ↔ ¬ bt m s = true := by
  rw [p_bit hs]
  by_cases q : bt m s = true
  · rw [if_pos q]; simp [q]
  · rw [if_neg q]; simp [q]
theorem p_bit1 {m : Int32} {s : Nat} (hs : s < 32) : (m >>> (nI s &&& 31)) &&& 1 = 1 ↔ bt m s = true := by
  rw [p_bit hs]
  by_cases q : bt m s = true
  · rw [if_pos q]; simp [q]
  · rw [if_neg q]; simp [q]
theorem aAside_u {B : aBk} {W : aWx} {n : Nat} {F : aFn} {r w : Nat} {v y : Int} (h : w ≠ 0 ∧ w ≠ 4 ∧ w ≠ 5 ∧ w ≠ 7) : aAside B W n (aU F r w v) r y = aU (aAside B W n F r y) r w v := by
  unfold aAside
  rw [aU_w (Ne.symm h.1), aU_w (Ne.symm h.2.1)]
  have e : (aCan B W (F r 0) (F r 4) y ∧ aFree n (aU F r w v) r (F r 0) (F r 4) y) ↔ (aCan B W (F r 0) (F r 4) y ∧ aFree n F r (F r 0) (F r 4) y) := by
    unfold aFree
    constructor
    · rintro ⟨q1, q2⟩
      exact ⟨q1, fun k k1 k2 z => q2 k k1 k2 ((aOcc_u h).mpr z)⟩
    · rintro ⟨q1, q2⟩
      exact ⟨q1, fun k k1 k2 z => q2 k k1 k2 ((aOcc_u h).mp z)⟩
  rw [zif_c e]
  by_cases c : aCan B W (F r 0) (F r 4) y ∧ aFree n F r (F r 0) (F r 4) y
  · rw [zif_t c, zif_t c, aU_c h.2.2.1]
  · rw [zif_f c, zif_f c]
theorem z_least {p : Nat → Prop} (n : Nat) : p n → ∃ k, k ≤ n ∧ p k ∧ ∀ i, i < k → ¬ p i := by
  induction n using Nat.strongRecOn with
  | _ n ih =>
    intro h
    by_cases q : ∃ i, i < n ∧ p i
    · obtain ⟨i, i1, i2⟩ := q
      obtain ⟨k, k1, k2, k3⟩ := ih i i1 i2
      exact ⟨k, by omega, k2, k3⟩
    · exact ⟨n, Nat.le_refl _, h, fun i hi hp => q ⟨i, hi, hp⟩⟩
section PMOVE
variable {d : Nat} {σ : zS} {Q : Option Value → zS → Prop}
theorem p_strike {t n r : Nat} {B : aBk} {W : aWx} {w : Nat} {D : aD} (C : pCx σ t n B W w) (hD : pHas σ t n D) (hr : r < n) (hx : 0 ≤ D.1 r 4 ∧ D.1 r 4 < B.2.2) (h : ∀ σ', pHas σ' t n (aU (aU D.1 r 6 0) r 10 (aInc (D.1 r 10)), D.2.1, D.2.2.1, D.2.2.2.1, aHit D.2.2.2.2 (D.1 r 4)) → zFr (pWg t) σ σ' → Q none σ') : zCall d kX2_strike [.ref t, .ref (t + 8 + 2 * r)] σ Q := by
  obtain ⟨c1, c2, c3, c4, c5, c6, c8, c9, c10, c11⟩ := C
  have hkr := zf_racer c2 (show r < 6 by omega)
  have hB2 := c10.2.2.2.1
  have e4 := pF_4 hD.1 hr
  have f3 := zf_race c2
  have e8 : (zI σ (t + 8 + 2 * r) 8).toInt = D.1 r 10 := by rw [← hD.1, pF_w hr (by omega) (by omega)]
  refine (bX2_strike_0 c1 c2 hkr).mpr (zlt' e4 k0 (fun q => by omega) (fun _ => zle' k16 e4 (fun q => by omega) (fun _ => ⟨zin' e4, zin' e4, ?_⟩)))
  rw [zsI_2]
  have h1 := pS_has c2 c4 c8 hD (r := r) (w := 6) hr (by omega) (by omega) k0
  have g1 : zFr (pWg t) σ (pS σ t r 6 0) := pS_fr c2 (by omega) (by omega)
  have h2 := pS_has (σ := pS σ t r 6 0) (v := zI σ (t + 8 + 2 * r) 8 + 1) c2 c4 c8 h1 (r := r) (w := 10) hr (by omega) (by omega) (aInc_of _)
  have g2 : zFr (pWg t) σ (pS (pS σ t r 6 0) t r 10 (zI σ (t + 8 + 2 * r) 8 + 1)) := g1.trans (pS_fr c2 (by omega) (by omega))
  rw [e8] at h2
  have eS : zI (pS (pS σ t r 6 0) t r 10 (zI σ (t + 8 + 2 * r) 8 + 1)) (t + 3) = zI σ (t + 3) := by
    unfold pS
    rw [zI_ne (by omega), zI_ne (by omega)]
  show Q none (zsI (pS (pS σ t r 6 0) t r 10 (zI σ (t + 8 + 2 * r) 8 + 1)) (t + 3) (upd (zI σ (t + 3)) (zI σ (t + 8 + 2 * r) 2).toNatClampNeg (zI σ (t + 3) (zI σ (t + 8 + 2 * r) 2).toNatClampNeg + 1)))
  generalize pS (pS σ t r 6 0) t r 10 (zI σ (t + 8 + 2 * r) 8 + 1) = σ2 at h2 g2 eS ⊢
  rw [← eS, zcn e4]
  obtain ⟨d1, d2, d3, d4, d5⟩ := h2
  refine h _ ⟨?_, ?_, d3, ?_, fun x hx2 => ?_⟩ (g2.trans (zFr_U (Or.inl ⟨rfl, Or.inr (Or.inl rfl)⟩)))
  · rw [← d1]
    funext r' w'
    unfold pF
    by_cases q : r' < n ∧ w' < 11
    · rw [if_pos q, if_pos q]
      by_cases q3 : w' < 3
      · rw [if_pos q3, if_pos q3]
        show (zI (zsI σ2 (t + 3) _) ((zR σ2 (t + 8 + 2 * r') 0).getD 0) w').toInt = _
        obtain ⟨s, hs, ks⟩ := c8 r' q.1
        have hs2 : zR σ2 (t + 8 + 2 * r') 0 = some s := by rw [g2.r (by unfold pWg; omega)]; exact hs
        rw [hs2]
        show (zI (zsI σ2 (t + 3) _) s w').toInt = (zI σ2 s w').toInt
        rw [zI_ne (fun e => by rw [e] at ks; omega)]
      · rw [if_neg q3, if_neg q3, zI_ne (by omega)]
    · rw [if_neg q, if_neg q]
  · rw [zI_ne (by omega)]; exact d2
  · rw [zI_ne (by omega)]; exact d4
  · rw [zI_self]
    show _ = aHit D.2.2.2.2 (D.1 r 4) x
    unfold aHit
    by_cases e : x = (D.1 r 4).toNat
    · rw [e, pk_us, if_pos rfl, aInc_of, d5 _ (by omega)]
    · rw [pk_un e, if_neg e]
      exact d5 x hx2
theorem p_away {t n r : Nat} {B : aBk} {W : aWx} {w : Nat} {F : aFn} (C : pCx σ t n B W w) (hF : pF σ t n = F) (hr : r < n) (hL : aLn B F n) {m : Int32} (P : Int → Prop) (hm : ∀ k : Nat, k < 32 → (bt m k = true ↔ F r 5 ≤ k ∧ (k : Int) < F r 5 + F r 0 ∧ P k)) (hne : ¬ m = 0) (h : ∀ v : Int32, v.toInt = zif (∃ k : Int, F r 5 ≤ k ∧ 2 * (k - F r 5) < F r 0 ∧ P k) (F r 5 + 1) (F r 5 - 1) → Q (some (.int v)) σ) :
    zCall d kX2_awayFrom [.int m, .ref (t + 8 + 2 * r)] σ Q := by
  obtain ⟨c1, c2, c3, c4, c5, c6, c8, c9, c10, c11⟩ := C
  obtain ⟨st, hs, ks⟩ := c8 r hr
  have hkr := zf_racer c2 (show r < 6 by omega)
  have hB1 := c10.2.1
  have hLr := hL r hr
  have e0 : (zI σ st 0).toInt = F r 0 := by rw [← hF, pF_s hr (by omega) hs]
  have e5 := pF_5 hF hr
  obtain ⟨k', hk1', hk2'⟩ : ∃ k : Nat, k < 6 ∧ bt m k = true := by
    refine Classical.not_not.mp (fun q => hne (b_ext (fun i hi => ?_)))
    rw [b_0]
    cases e : bt m i
    · rfl
    · have := (hm i hi).mp e
      exact absurd ⟨i, by omega, e⟩ q
  obtain ⟨k, hk1, hk2, hk3⟩ := z_least (p := fun k => bt m k = true) k' hk2'
  have main : ∀ (j s : Nat), k - s = j → s ≤ k → (∀ i, i < s → ¬ bt m i = true) → zW d kX2_awayFrom 2 [.int m, .ref (t + 8 + 2 * r), .int (nI s)] [] σ Q := by
    intro j
    induction j with
    | zero =>
      intro s hj hsk hno
      have e : s = k := by omega
      subst e
      refine (bX2_awayFrom_2 c1 hkr).mpr (zle' k6 (ai_n (by omega)) (fun q => by omega) (fun _ => zti (fun q => absurd hk2 ((p_bit0 (by omega)).mp q)) (fun _ => ?_)))
      refine (bX2_awayFrom_22 c1 hkr).mpr ?_
      rw [hs]
      have e2 : (2 * (nI s - zI σ (t + 8 + 2 * r) 3) : Int32).toInt = 2 * (s - F r 5) := zmul k2 (zsub (ai_n (by omega)) e5)
      have hms := (hm s (by omega)).mp hk2
      refine (bX2_awayFrom_34 c1 hkr ks).mpr (zle' e0 e2 (fun q => h _ ?_) (fun q => h _ ?_))
      · rw [zif_f, zsub e5 k1]
        rintro ⟨i, i1, i2, i3⟩
        have e : ((i.toNat : Nat) : Int) = i := by omega
        refine hno i.toNat (by omega) ((hm _ (by omega)).mpr ?_)
        rw [e]
        exact ⟨i1, by omega, i3⟩
      · rw [zif_t, zadd e5 k1]
        exact ⟨s, hms.1, q, hms.2.2⟩
    | succ j ih =>
      intro s hj hsk hno
      have q : ¬ bt m s = true := hk3 s (by omega)
      refine (bX2_awayFrom_2 c1 hkr).mpr (zle' k6 (ai_n (by omega)) (fun q => by omega) (fun _ => zti (fun _ => ?_) (fun z => absurd ((p_bit0 (by omega)).mpr q) z)))
      rw [nI_1]
      refine ih (s + 1) (by omega) (by omega) (fun i hi => ?_)
      rcases Nat.lt_succ_iff_lt_or_eq.mp hi with z | z
      · exact hno i z
      · rw [z]; exact q
  exact (bX2_awayFrom_0 c1 hkr).mpr (main k 0 (by omega) (by omega) (fun i hi => absurd hi (by omega)))
theorem p_leave {t n r : Nat} {B : aBk} {W : aWx} {w : Nat} {D : aD} {ticks : Int} (C : pCx σ t n B W w) (hD : pHas σ t n D) (ht : (zI σ t 5).toInt = ticks) (hr : r < n) (hx : D.1 r 4 + 1 = B.2.2) (hu : 0 ≤ D.2.1 ∧ D.2.1 ≤ 6) (h : ∀ σ', pHas σ' t n (aU (aU (aU D.1 r 4 (D.1 r 4 + 1)) r 7 ticks) r 8 D.2.1, D.2.1 + 1, D.2.2) → zFr (pWg t) σ σ' → Q none σ') : zCall d kX2_leave [.ref t, .ref (t + 8 + 2 * r)] σ Q := by
  obtain ⟨c1, c2, c3, c4, c5, ⟨b, c6, c7⟩, c8, c9, c10, c11⟩ := C
  have hkr := zf_racer c2 (show r < 6 by omega)
  have d2 := hD.2.1
  refine (bX2_leave_0 c1 c2 hkr).mpr ?_
  rw [c6]
  refine (bX2_leave_5 c1 c2 hkr c7.1).mpr ?_
  have e : zsI σ (t + 8 + 2 * r) (upd (upd (upd (zI σ (t + 8 + 2 * r)) 2 (zI σ b 4)) 5 (zI σ t 5)) 6 (zI σ t 6)) = pS (pS (pS σ t r 4 (zI σ b 4)) t r 7 (zI σ t 5)) t r 8 (zI σ t 6) := by
    unfold pS
    rw [zsI_s, zsI_s, zI_self, zI_self]
  rw [e]
  have h1 := pS_has c2 c4 c8 hD (r := r) (w := 4) hr (by omega) (by omega) (show (zI σ b 4).toInt = D.1 r 4 + 1 by rw [hx]; exact c7.2.2.1)
  have g1 : zFr (pWg t) σ (pS σ t r 4 (zI σ b 4)) := pS_fr c2 (by omega) (by omega)
  have h2 := pS_has (σ := pS σ t r 4 (zI σ b 4)) c2 c4 c8 h1 (r := r) (w := 7) hr (by omega) (by omega) ht
  have g2 : zFr (pWg t) σ (pS (pS σ t r 4 (zI σ b 4)) t r 7 (zI σ t 5)) := g1.trans (pS_fr c2 (by omega) (by omega))
  have h3 := pS_has (σ := pS (pS σ t r 4 (zI σ b 4)) t r 7 (zI σ t 5)) c2 c4 c8 h2 (r := r) (w := 8) hr (by omega) (by omega) d2
  have g3 : zFr (pWg t) σ (pS (pS (pS σ t r 4 (zI σ b 4)) t r 7 (zI σ t 5)) t r 8 (zI σ t 6)) := g2.trans (pS_fr c2 (by omega) (by omega))
  have eT : zI (pS (pS (pS σ t r 4 (zI σ b 4)) t r 7 (zI σ t 5)) t r 8 (zI σ t 6)) t = zI σ t := by
    unfold pS
    rw [zI_ne (by omega), zI_ne (by omega), zI_ne (by omega)]
  generalize pS (pS (pS σ t r 4 (zI σ b 4)) t r 7 (zI σ t 5)) t r 8 (zI σ t 6) = σ3 at h3 g3 eT ⊢
  rw [← eT]
  obtain ⟨q1, q2, q3, q4, q5⟩ := h3
  refine h _ ⟨?_, ?_, q3, ?_, fun x hx2 => ?_⟩ (g3.trans (zFr_U (Or.inl ⟨rfl, Or.inl ⟨rfl, Or.inl rfl⟩⟩)))
  · rw [← q1]
    funext r' w'
    unfold pF
    by_cases q : r' < n ∧ w' < 11
    · rw [if_pos q, if_pos q]
      by_cases q3 : w' < 3
      · rw [if_pos q3, if_pos q3]
        show (zI (zsI σ3 t _) ((zR σ3 (t + 8 + 2 * r') 0).getD 0) w').toInt = _
        obtain ⟨s, hs, ks⟩ := c8 r' q.1
        have hs2 : zR σ3 (t + 8 + 2 * r') 0 = some s := by rw [g3.r (by unfold pWg; omega)]; exact hs
        rw [hs2]
        show (zI (zsI σ3 t _) s w').toInt = (zI σ3 s w').toInt
        rw [zI_ne (fun e => by rw [e] at ks; omega)]
      · rw [if_neg q3, if_neg q3, zI_ne (by omega)]
    · rw [if_neg q, if_neg q]
  · rw [zI_self, pk_us]
    exact zadd q2 k1 (by show -2147483648 ≤ D.2.1 + 1; omega) (by show D.2.1 + 1 < 2147483648; omega)
  · rw [zI_self, pk_un (by decide)]; exact q4
  · rw [zI_ne (by omega)]; exact q5 x hx2
end PMOVE
