/-! the calls image and back -/
theorem zR_rr {σ : zS} {t i : Nat} (hl : zLay σ) (ht : zk t = 2) (hi : i < 6) : zR σ (t + 1) i = some (t + 8 + 2 * i) := by
  refine hl.r ?_
  unfold zRT
  rw [(zf_race ht).1.1]
  show (if i < 6 then some (t + 1 + 7 + 2 * i) else none) = _
  rw [if_pos hi]
section COPY
variable {d : Nat} {Q : Option Value → zS → Prop}
theorem p_rcopy_l {a0 a1 : Nat} {S : Nat → Nat} {X : Nat → Nat → Int32} (ha0 : zk a0 = 2) (ha1 : zk a1 = 2) (hne : a0 + 20 ≤ a1 ∨ a1 + 20 ≤ a0) (hS : ∀ r, r < 6 → zk (S r) = 6) :
    ∀ (m i : Nat) (σ : zS), 6 - i = m → i ≤ 6 → zLay σ → (∀ r, r < 6 → zR σ (a1 + 8 + 2 * r) 0 = some (S r) ∧ ∀ k, 1 ≤ k → k ≤ 8 → zI σ (a1 + 8 + 2 * r) k = X r k) → (∀ r, r < i → zR σ (a0 + 8 + 2 * r) 0 = some (S r) ∧ ∀ k, 1 ≤ k → k ≤ 8 → zI σ (a0 + 8 + 2 * r) k = X r k) →
    (∀ σ', zLay σ' → (∀ r, r < 6 → zR σ' (a0 + 8 + 2 * r) 0 = some (S r) ∧ ∀ k, 1 ≤ k → k ≤ 8 → zI σ' (a0 + 8 + 2 * r) k = X r k) → zFr (fun j c k => zk c = 4 ∧ a0 + 8 ≤ c ∧ c ≤ a0 + 18 ∧ (j = 0 ∨ (j = 2 ∧ k = 0))) σ σ' → Q none σ') → zW (d + 1) kX2_copyFrom 73 [.ref a0, .ref a1, .int (nI i)] [] σ Q := by
  intro m
  induction m with
  | zero =>
    intro i σ hm hi hl h1 h2 h
    obtain rfl : i = 6 := by omega
    exact (bX2_copyFrom_73 hl ha0 ha1 (by omega)).mpr (zle' k6 (ai_n (by omega)) (fun _ => h σ hl h2 (zFr.refl _ _)) (fun q => by omega))
  | succ m ih =>
    intro i σ hm hi hl h1 h2 h
    have hi6 : i < 6 := by omega
    have k0r := zf_racer ha0 hi6
    have k1r := zf_racer ha1 hi6
    obtain ⟨eS, eX⟩ := h1 i hi6
    refine (bX2_copyFrom_73 hl ha0 ha1 (by omega)).mpr (zle' k6 (ai_n (by omega)) (fun q => by omega) (fun _ => ⟨vp_in_nI (by omega) (by decide), ?_⟩))
    rw [nI_clamp (by omega), zR_rr hl ha0 hi6]
    refine (bX2_copyFrom_85 hl ha0 ha1 k0r (by omega)).mpr ⟨vp_in_nI (by omega) (by decide), ?_⟩
    rw [nI_clamp (by omega), zR_rr hl ha1 hi6]
    refine (bX2_copyFrom_91 hl ha0 ha1 k1r k0r (by omega)).mpr ((bX4_copyFrom_0 hl k0r k1r (by omega)).mpr ?_)
    rw [eS]
    refine (bX4_copyFrom_5 hl k0r k1r (hS i hi6) (by omega)).mpr ⟨rfl, ?_⟩
    have v : ∀ k, 1 ≤ k → k ≤ 8 → (upd (upd (upd (upd (upd (upd (upd (upd (zI σ (a0 + 8 + 2 * i)) 1 (zI σ (a1 + 8 + 2 * i) 1)) 2 (zI σ (a1 + 8 + 2 * i) 2)) 3 (zI σ (a1 + 8 + 2 * i) 3)) 4 (zI σ (a1 + 8 + 2 * i) 4)) 5 (zI σ (a1 + 8 + 2 * i) 5)) 6 (zI σ (a1 + 8 + 2 * i) 6)) 7 (zI σ (a1 + 8 + 2 * i) 7)) 8 (zI σ (a1 + 8 + 2 * i) 8)) k = zI σ (a1 + 8 + 2 * i) k := by
      intro k q1 q2
      rcases (by omega : k = 1 ∨ k = 2 ∨ k = 3 ∨ k = 4 ∨ k = 5 ∨ k = 6 ∨ k = 7 ∨ k = 8) with e | e | e | e | e | e | e | e <;> subst e <;> rfl
    generalize (upd (upd (upd (upd (upd (upd (upd (upd (zI σ (a0 + 8 + 2 * i)) 1 (zI σ (a1 + 8 + 2 * i) 1)) 2 (zI σ (a1 + 8 + 2 * i) 2)) 3 (zI σ (a1 + 8 + 2 * i) 3)) 4 (zI σ (a1 + 8 + 2 * i) 4)) 5 (zI σ (a1 + 8 + 2 * i) 5)) 6 (zI σ (a1 + 8 + 2 * i) 6)) 7 (zI σ (a1 + 8 + 2 * i) 7)) 8 (zI σ (a1 + 8 + 2 * i) 8)) = f at v ⊢
    have f1 : zFr (fun j c k => zk c = 4 ∧ a0 + 8 ≤ c ∧ c ≤ a0 + 18 ∧ (j = 0 ∨ (j = 2 ∧ k = 0))) σ (zsR σ (a0 + 8 + 2 * i) (va_up (zR σ (a0 + 8 + 2 * i)) 0 (some (S i)))) := zFr_R ⟨k0r, by omega, by omega, Or.inr ⟨rfl, rfl⟩⟩
    have f2 : zFr (fun j c k => zk c = 4 ∧ a0 + 8 ≤ c ∧ c ≤ a0 + 18 ∧ (j = 0 ∨ (j = 2 ∧ k = 0))) σ (zsI (zsR σ (a0 + 8 + 2 * i) (va_up (zR σ (a0 + 8 + 2 * i)) 0 (some (S i)))) (a0 + 8 + 2 * i) f) := f1.trans (zFr_I (fun k => Or.inl ⟨k0r, by omega, by omega, Or.inl rfl⟩))
    have g1 : zR (zsI (zsR σ (a0 + 8 + 2 * i) (va_up (zR σ (a0 + 8 + 2 * i)) 0 (some (S i)))) (a0 + 8 + 2 * i) f) (a0 + 8 + 2 * i) 0 = some (S i) := by
      show zR (zsR σ (a0 + 8 + 2 * i) _) (a0 + 8 + 2 * i) 0 = _
      rw [zR_self]
      exact if_pos rfl
    have g2 : zI (zsI (zsR σ (a0 + 8 + 2 * i) (va_up (zR σ (a0 + 8 + 2 * i)) 0 (some (S i)))) (a0 + 8 + 2 * i) f) (a0 + 8 + 2 * i) = f := zI_self
    have gI : ∀ c k, c ≠ a0 + 8 + 2 * i → zI (zsI (zsR σ (a0 + 8 + 2 * i) (va_up (zR σ (a0 + 8 + 2 * i)) 0 (some (S i)))) (a0 + 8 + 2 * i) f) c k = zI σ c k := fun c k h => by
      rw [zI_ne h]
      rfl
    have gR : ∀ c k, c ≠ a0 + 8 + 2 * i → zR (zsI (zsR σ (a0 + 8 + 2 * i) (va_up (zR σ (a0 + 8 + 2 * i)) 0 (some (S i)))) (a0 + 8 + 2 * i) f) c k = zR σ c k := fun c k h => by
      show zR (zsR σ (a0 + 8 + 2 * i) _) c k = _
      rw [zR_ne h]
    generalize zsI (zsR σ (a0 + 8 + 2 * i) (va_up (zR σ (a0 + 8 + 2 * i)) 0 (some (S i)))) (a0 + 8 + 2 * i) f = σ1 at f2 g1 g2 gI gR ⊢
    have l1 : zLay σ1 := f2.lay hl (fun c k w hw q => by
      have := zRT_4 q.1
      rcases q.2.2.2 with q2 | ⟨_, q2⟩
      · omega
      · rw [q2, this] at hw; cases hw)
    refine (bX2_copyFrom_94 l1 ha0 ha1 (by omega)).mpr ?_
    rw [nI_1]
    refine ih (i + 1) σ1 (by omega) (by omega) l1 (fun r hr => ?_) (fun r hr => ?_) (fun σ' q0 q1 q2 => h σ' q0 q1 (f2.trans q2))
    · rw [gR _ _ (by omega)]
      exact ⟨(h1 r hr).1, fun k k1 k2 => by rw [gI _ _ (by omega)]; exact (h1 r hr).2 k k1 k2⟩
    · rcases Nat.lt_or_ge r i with h3 | h3
      · rw [gR _ _ (by omega)]
        exact ⟨(h2 r h3).1, fun k k1 k2 => by rw [gI _ _ (by omega)]; exact (h2 r h3).2 k k1 k2⟩
      · obtain rfl : r = i := by omega
        exact ⟨g1, fun k k1 k2 => by rw [g2, v k k1 k2]; exact eX k k1 k2⟩
theorem p_rcopy {a0 a1 b : Nat} {σ : zS} (hl : zLay σ) (ha0 : zk a0 = 2) (ha1 : zk a1 = 2) (hne : a0 + 20 ≤ a1 ∨ a1 + 20 ≤ a0) (hb : zR σ a1 3 = some b) (kb : zk b = 0) (h8 : zI σ a1 8 = 0 ∨ zI σ a1 8 = 1) (h9 : zI σ a1 9 = 0 ∨ zI σ a1 9 = 1) (hst : ∀ r, r < 6 → ∃ s, zR σ (a1 + 8 + 2 * r) 0 = some s ∧ zk s = 6)
    (h : ∀ σ', zLay σ' → zR σ' a0 3 = some b → (∀ k, 4 ≤ k → k ≤ 9 → k ≠ 7 → zI σ' a0 k = zI σ a1 k) → zL σ' a0 7 = zL σ a1 7 → (∀ x, x < 16 → zI σ' (a0 + 3) x = zI σ (a1 + 3) x) → (∀ r, r < 6 → zR σ' (a0 + 8 + 2 * r) 0 = zR σ (a1 + 8 + 2 * r) 0 ∧ ∀ k, 1 ≤ k → k ≤ 8 → zI σ' (a0 + 8 + 2 * r) k = zI σ (a1 + 8 + 2 * r) k) → zFr (pWq a0) σ σ' → Q none σ') : zCall (d + 1) kX2_copyFrom [.ref a0, .ref a1] σ Q := by
  obtain ⟨S, hS⟩ : ∃ S : Nat → Nat, ∀ r, r < 6 → zR σ (a1 + 8 + 2 * r) 0 = some (S r) ∧ zk (S r) = 6 := ⟨fun r => (zR σ (a1 + 8 + 2 * r) 0).getD 0, fun r hr => by
    obtain ⟨s, s1, s2⟩ := hst r hr
    have e : (zR σ (a1 + 8 + 2 * r) 0).getD 0 = s := by rw [s1]; rfl
    exact ⟨s1.trans (congrArg some e.symm), by show zk ((zR σ (a1 + 8 + 2 * r) 0).getD 0) = 6; rw [e]; exact s2⟩⟩
  refine (bX2_copyFrom_0 hl ha0 ha1 (by omega)).mpr ?_
  rw [hb]
  refine (bX2_copyFrom_5 hl ha0 ha1 kb (by omega)).mpr ⟨h8, h9, ?_⟩
  have v : ∀ k, 4 ≤ k → k ≤ 9 → k ≠ 7 → (upd (upd (upd (upd (upd (zI σ a0) 4 (zI σ a1 4)) 5 (zI σ a1 5)) 6 (zI σ a1 6)) 8 (zI σ a1 8)) 9 (zI σ a1 9)) k = zI σ a1 k := by
    intro k q1 q2 q3
    rcases (by omega : k = 4 ∨ k = 5 ∨ k = 6 ∨ k = 8 ∨ k = 9) with e | e | e | e | e <;> subst e <;> rfl
  generalize (upd (upd (upd (upd (upd (zI σ a0) 4 (zI σ a1 4)) 5 (zI σ a1 5)) 6 (zI σ a1 6)) 8 (zI σ a1 8)) 9 (zI σ a1 9)) = f at v ⊢
  generalize (upd (upd (upd (zI σ a0) 4 (zI σ a1 4)) 5 (zI σ a1 5)) 6 (zI σ a1 6)) = f'
  have vc : ∀ x, x < 16 → va_cpy (zI σ (a1 + 3)) (zI σ (a0 + 3)) (0 : Int32).toNatClampNeg (0 : Int32).toNatClampNeg (16 : Int32).toNatClampNeg x = zI σ (a1 + 3) x := fun x hx => by
    show (if 0 ≤ x ∧ x < 0 + 16 then zI σ (a1 + 3) (0 + (x - 0)) else _) = _
    rw [if_pos (by omega), Nat.zero_add, Nat.sub_zero]
  generalize va_cpy (zI σ (a1 + 3)) (zI σ (a0 + 3)) (0 : Int32).toNatClampNeg (0 : Int32).toNatClampNeg (16 : Int32).toNatClampNeg = u at vc ⊢
  have gI : ∀ c, c ≠ a0 → c ≠ a0 + 3 → zI (zsI (zsI (zsL (zsI (zsR σ a0 (va_up (zR σ a0) 3 (some b))) a0 f') a0 (vp_updL (zL σ a0) 7 ((zL σ a1) 7))) a0 f) (a0 + 3) u) c = zI σ c := fun c q1 q2 => by
    rw [zI_ne q2, zI_ne q1]
    show zI (zsI (zsR σ a0 _) a0 f') c = _
    rw [zI_ne q1]
    rfl
  have g1 : zI (zsI (zsI (zsL (zsI (zsR σ a0 (va_up (zR σ a0) 3 (some b))) a0 f') a0 (vp_updL (zL σ a0) 7 ((zL σ a1) 7))) a0 f) (a0 + 3) u) a0 = f := by
    rw [zI_ne (by omega), zI_self]
  have g2 : zI (zsI (zsI (zsL (zsI (zsR σ a0 (va_up (zR σ a0) 3 (some b))) a0 f') a0 (vp_updL (zL σ a0) 7 ((zL σ a1) 7))) a0 f) (a0 + 3) u) (a0 + 3) = u := zI_self
  have g3 : zR (zsI (zsI (zsL (zsI (zsR σ a0 (va_up (zR σ a0) 3 (some b))) a0 f') a0 (vp_updL (zL σ a0) 7 ((zL σ a1) 7))) a0 f) (a0 + 3) u) = zR (zsR σ a0 (va_up (zR σ a0) 3 (some b))) := rfl
  have g4 : zL (zsI (zsI (zsL (zsI (zsR σ a0 (va_up (zR σ a0) 3 (some b))) a0 f') a0 (vp_updL (zL σ a0) 7 ((zL σ a1) 7))) a0 f) (a0 + 3) u) = zL (zsL σ a0 (vp_updL (zL σ a0) 7 ((zL σ a1) 7))) := rfl
  have f1 : zFr (pWq a0) σ (zsI (zsI (zsL (zsI (zsR σ a0 (va_up (zR σ a0) 3 (some b))) a0 f') a0 (vp_updL (zL σ a0) 7 ((zL σ a1) 7))) a0 f) (a0 + 3) u) := by
    refine ⟨rfl, rfl, fun c k q => ?_, fun c k q => ?_, fun c k q => ?_⟩
    · rw [gI c (fun e => q (by unfold pWq; omega)) (fun e => q (by unfold pWq; omega))]
    · rw [g4, zL_ne (fun e => q (by unfold pWq; omega))]
    · rw [g3]
      by_cases e : c = a0
      · subst e
        rw [zR_self]
        unfold va_up
        exact if_neg (fun e => q (by unfold pWq; omega))
      · rw [zR_ne e]
  have g5 : ∀ c, c ≠ a0 → zR (zsI (zsI (zsL (zsI (zsR σ a0 (va_up (zR σ a0) 3 (some b))) a0 f') a0 (vp_updL (zL σ a0) 7 ((zL σ a1) 7))) a0 f) (a0 + 3) u) c = zR σ c := fun c e => by rw [g3, zR_ne e]
  have g6 : zR (zsI (zsI (zsL (zsI (zsR σ a0 (va_up (zR σ a0) 3 (some b))) a0 f') a0 (vp_updL (zL σ a0) 7 ((zL σ a1) 7))) a0 f) (a0 + 3) u) a0 3 = some b := by
    rw [g3, zR_self]
    exact if_pos rfl
  have g7 : zL (zsI (zsI (zsL (zsI (zsR σ a0 (va_up (zR σ a0) 3 (some b))) a0 f') a0 (vp_updL (zL σ a0) 7 ((zL σ a1) 7))) a0 f) (a0 + 3) u) a0 7 = zL σ a1 7 := by
    rw [g4, zL_self]
    exact if_pos rfl
  generalize zsI (zsI (zsL (zsI (zsR σ a0 (va_up (zR σ a0) 3 (some b))) a0 f') a0 (vp_updL (zL σ a0) 7 ((zL σ a1) 7))) a0 f) (a0 + 3) u = σ1 at gI g1 g2 f1 g5 g6 g7 ⊢
  have l1 := pWq_lay ha0 f1 hl
  refine p_rcopy_l (S := S) (X := fun r k => zI σ (a1 + 8 + 2 * r) k) ha0 ha1 hne (fun r hr => (hS r hr).2) 6 0 σ1 rfl (by omega) l1 (fun r hr => ?_) (fun r hr => by omega) (fun σ' q0 q1 q2 => ?_)
  · rw [g5 _ (by omega)]
    exact ⟨(hS r hr).1, fun k _ _ => by rw [gI _ (by omega) (by omega)]⟩
  · have e0 : ∀ k, zI σ' a0 k = zI σ1 a0 k := fun k => q2.i (by omega)
    refine h σ' q0 (by rw [q2.r (by omega)]; exact g6) (fun k k1 k2 k3 => by rw [e0, g1]; exact v k k1 k2 k3) (by rw [q2.l (by omega)]; exact g7) (fun x hx => by rw [q2.i (by omega), g2]; exact vc x hx) (fun r hr => ?_) (f1.trans (q2.mono (fun j c k q => by unfold pWq; omega)))
    rw [(q1 r hr).1, (hS r hr).1]
    exact ⟨rfl, (q1 r hr).2⟩
theorem va_cpy0 {f g : Nat → Int32} {n : Int32} {k : Nat} (h : k < n.toNatClampNeg) : va_cpy f g (0 : Int32).toNatClampNeg (0 : Int32).toNatClampNeg n.toNatClampNeg k = f k := by
  show (if 0 ≤ k ∧ k < 0 + n.toNatClampNeg then f (0 + (k - 0)) else g k) = _
  rw [if_pos (by omega), Nat.zero_add, Nat.sub_zero]
theorem p_lcopy {a0 a1 : Nat} {σ : zS} (hl : zLay σ) (ha0 : zk a0 = 1) (ha1 : zk a1 = 1) (hne : a0 + 4 ≤ a1 ∨ a1 + 4 ≤ a0)
    (h : ∀ σ', zLay σ' → (∀ k, k < 366 → zI σ' (a0 + 1) k = zI σ (a1 + 1) k ∧ zI σ' (a0 + 2) k = zI σ (a1 + 2) k) → (∀ k, k < 61 → zI σ' (a0 + 3) k = zI σ (a1 + 3) k) → zFr (fun j c _ => j = 0 ∧ a0 + 1 ≤ c ∧ c ≤ a0 + 3) σ σ' → Q none σ') : zCall (d + 1) kX1_copyFrom [.ref a0, .ref a1] σ Q := by
  refine (bX1_copyFrom_0 hl ha0 ha1 hne).mpr ?_
  have v1 : ∀ k, k < 366 → va_cpy (zI σ (a1 + 1)) (zI σ (a0 + 1)) (0 : Int32).toNatClampNeg (0 : Int32).toNatClampNeg (366 : Int32).toNatClampNeg k = zI σ (a1 + 1) k := fun k hk => va_cpy0 hk
  have v2 : ∀ k, k < 366 → va_cpy (zI σ (a1 + 2)) (zI σ (a0 + 2)) (0 : Int32).toNatClampNeg (0 : Int32).toNatClampNeg (366 : Int32).toNatClampNeg k = zI σ (a1 + 2) k := fun k hk => va_cpy0 hk
  have v3 : ∀ k, k < 61 → va_cpy (zI σ (a1 + 3)) (zI σ (a0 + 3)) (0 : Int32).toNatClampNeg (0 : Int32).toNatClampNeg (61 : Int32).toNatClampNeg k = zI σ (a1 + 3) k := fun k hk => va_cpy0 hk
  generalize va_cpy (zI σ (a1 + 1)) (zI σ (a0 + 1)) (0 : Int32).toNatClampNeg (0 : Int32).toNatClampNeg (366 : Int32).toNatClampNeg = u1 at v1 ⊢
  generalize va_cpy (zI σ (a1 + 2)) (zI σ (a0 + 2)) (0 : Int32).toNatClampNeg (0 : Int32).toNatClampNeg (366 : Int32).toNatClampNeg = u2 at v2 ⊢
  generalize va_cpy (zI σ (a1 + 3)) (zI σ (a0 + 3)) (0 : Int32).toNatClampNeg (0 : Int32).toNatClampNeg (61 : Int32).toNatClampNeg = u3 at v3 ⊢
  refine h _ hl.I.I.I (fun k hk => ⟨?_, ?_⟩) (fun k hk => ?_) ⟨rfl, rfl, fun c k q => ?_, fun _ _ _ => rfl, fun _ _ _ => rfl⟩
  · rw [zI_ne (by omega), zI_ne (by omega), zI_self]; exact v1 k hk
  · rw [zI_ne (by omega), zI_self]; exact v2 k hk
  · rw [zI_self]; exact v3 k hk
  · rw [zI_ne (fun e => q ⟨rfl, by omega⟩), zI_ne (fun e => q ⟨rfl, by omega⟩), zI_ne (fun e => q ⟨rfl, by omega⟩)]
theorem m_copy_l {a0 a1 N : Nat} (ha0 : zk a0 = 14) (ha1 : zk a1 = 14) (n0 : zl a0 = N) (n1 : zl a1 = N) (hN : N < 1000) (hne : a0 ≠ a1) :
    ∀ (m i : Nat) (σ : zS), N - i = m → i ≤ N → zLay σ → (∀ k, k < i → zI σ a1 k = zI σ a0 k) → (∀ σ', zLay σ' → (∀ k, k < N → zI σ' a1 k = zI σ' a0 k) → zFr (fun j c _ => j = 0 ∧ c = a1) σ σ' → Q none σ') → zW d kX12_copy 2 [.ref a0, .ref a1, .int (nI i)] [] σ Q := by
  intro m
  induction m with
  | zero =>
    intro i σ hm hi hl hk h
    have e : i = N := by omega
    subst e
    refine (bX12_copy_2 hl ha0 ha1).mpr (zle' (show (Int32.ofNat (zl a1)).toInt = i by rw [n1]; exact ai_n (by omega)) (ai_n (by omega)) (fun _ => h σ hl hk (zFr.refl _ _)) (fun q => by omega))
  | succ m ih =>
    intro i σ hm hi hl hk h
    refine (bX12_copy_2 hl ha0 ha1).mpr (zle' (show (Int32.ofNat (zl a1)).toInt = N by rw [n1]; exact ai_n (by omega)) (ai_n (by omega)) (fun q => by omega) (fun _ => ⟨by rw [n0]; exact vp_in_nI (by omega) (by omega), by rw [n1]; exact vp_in_nI (by omega) (by omega), ?_⟩))
    rw [nI_clamp (by omega), nI_1]
    refine ih (i + 1) _ (by omega) (by omega) hl.I (fun k hk2 => ?_) (fun σ' q0 q1 q2 => h σ' q0 q1 ((zFr_U (W := fun j c _ => j = 0 ∧ c = a1) ⟨rfl, rfl⟩).trans q2))
    rw [zI_self, zI_ne hne]
    rcases Nat.lt_or_ge k i with h1 | h1
    · rw [pk_un (by omega)]; exact hk k h1
    · obtain rfl : k = i := by omega
      exact pk_us
theorem m_copy {a0 a1 N : Nat} {σ : zS} (hl : zLay σ) (ha0 : zk a0 = 14) (ha1 : zk a1 = 14) (n0 : zl a0 = N) (n1 : zl a1 = N) (hN : N < 1000) (hne : a0 ≠ a1) (h : ∀ σ', zLay σ' → (∀ k, k < N → zI σ' a1 k = zI σ' a0 k) → zFr (fun j c _ => j = 0 ∧ c = a1) σ σ' → Q none σ') : zCall d kX12_copy [.ref a0, .ref a1] σ Q :=
  (bX12_copy_0 hl ha0 ha1).mpr (m_copy_l ha0 ha1 n0 n1 hN hne N 0 σ rfl (by omega) hl (fun k hk => by omega) h)
end COPY
section IMAGE
variable {nb ns : Nat}
/-- a race told, carried over to other cells -/
theorem iTl_cp {σ σ' : zS} {t R t' R' n b : Nat} (hn : n ≤ 6) (hns : ns ≤ 10) (g : iTl σ t R nb ns n b) (e3 : zR σ' t' 3 = zR σ t 3) (er : ∀ r, r < 6 → zR σ' (t' + 8 + 2 * r) 0 = zR σ (t + 8 + 2 * r) 0 ∧ ∀ k, 1 ≤ k → k ≤ 8 → zI σ' (t' + 8 + 2 * r) k = zI σ (t + 8 + 2 * r) k) (es : ∀ s k, s < 10 → zI σ' (121 + s) k = zI σ (121 + s) k) (eF : mFR σ' R' n = mFR σ R n) (eB : mB σ' b = mB σ b) : iTl σ' t' R' nb ns n b := by
  obtain ⟨g1, g2, g3, g4, g5, g6⟩ := g
  refine ⟨g1, e3.trans g2, fun r hr => ?_, ?_, fun r hr => ?_, fun r hr o ho => ?_⟩
  · obtain ⟨s, s1, s2⟩ := g3 r hr
    exact ⟨s, s1, ((er r (by omega)).1).trans s2⟩
  · rw [eF, ← g4]
    funext r w
    unfold pF
    by_cases q : r < n ∧ w < 11
    · rw [if_pos q, if_pos q]
      obtain ⟨s, s1, s2⟩ := g3 r q.1
      by_cases q3 : w < 3
      · rw [if_pos q3, if_pos q3, (er r (by omega)).1, s2]
        show (zI σ' (121 + s) w).toInt = (zI σ (121 + s) w).toInt
        rw [es s w (by omega)]
      · rw [if_neg q3, if_neg q3, (er r (by omega)).2 _ (by omega) (by omega)]
    · rw [if_neg q, if_neg q]
  · rw [eF, eB]; exact g5 r hr
  · rw [eF]; exact g6 r hr o ho
theorem iRn_cp {σ σ' : zS} {t R f l S x1 y1 d1 x2 y2 d2 t' R' f' l' S' u1 v1 c1 u2 v2 c2 n T : Nat} (hn : n ≤ 6) (g : iRn σ t R f l S x1 y1 d1 x2 y2 d2 n T) (a1 : zI σ' 131 (f' + 2) = zI σ 131 (f + 2)) (a2 : zI σ' 131 (f' + 3) = zI σ 131 (f + 3)) (a3 : zL σ' 131 l' = zL σ 131 l) (b1 : ∀ k, 4 ≤ k → k ≤ 9 → k ≠ 7 → zI σ' t' k = zI σ t k) (b2 : zL σ' t' 7 = zL σ t 7) (b3 : ∀ x, x < 16 → zI σ' (t' + 3) x = zI σ (t + 3) x) (eF : mFR σ' R' n = mFR σ R n) (eS : ∀ x, x < 16 → zI σ' S' x = zI σ S x)
    (p1 : ∀ k, k < 366 → zI σ' u1 k = zI σ x1 k ∧ zI σ' v1 k = zI σ y1 k) (p2 : ∀ k, k < 61 → zI σ' c1 k = zI σ d1 k) (q1 : ∀ k, k < 366 → zI σ' u2 k = zI σ x2 k ∧ zI σ' v2 k = zI σ y2 k) (q2 : ∀ k, k < 61 → zI σ' c2 k = zI σ d2 k) : iRn σ' t' R' f' l' S' u1 v1 c1 u2 v2 c2 n T := by
  obtain ⟨g1, g2, g3, g4, g5, g6, g7, g8, g9, g10, g11, g12, g13, g14⟩ := g
  unfold iRn
  rw [eF, a1, a2, a3, b2, b1 5 (by omega) (by omega) (by omega), b1 6 (by omega) (by omega) (by omega), b1 8 (by omega) (by omega) (by omega), b1 9 (by omega) (by omega) (by omega)]
  refine ⟨g1, g2, g3, g4, g5, g6, g7, g8, g9, g10, fun x hx => ?_, fun x hx => ?_, fun k hk => ⟨fun r hr => ?_, ?_⟩, fun r hr => ?_⟩
  · rw [eS x hx]; exact g11 x hx
  · rw [b3 x hx, eS x hx]; exact g12 x hx
  · rw [(p1 _ (by omega)).1, (p1 _ (by omega)).2, (q1 _ (by omega)).1, (q1 _ (by omega)).2]; exact (g13 k hk).1 r hr
  · rw [p2 k (by omega), q2 k (by omega)]; exact (g13 k hk).2
  · rw [(q1 r (by omega)).1]; exact g14 r hr
theorem m_row_im {d : Nat} {Q : Option Value → zS → Prop} : ∀ (m i : Nat) (σ : zS), 66 - i = m → i ≤ 66 → zLay σ → (∀ k, k < i → zI σ 141 k = zI σ 139 k) → (∀ σ', zLay σ' → (∀ k, k < 66 → zI σ' 141 k = zI σ' 139 k) → zFr (fun j c _ => j = 0 ∧ c = 141) σ σ' → zCall d kX12_copy [.ref 142, .ref 146] σ' (fun r σ2 => zisN r = true ∧ zW (d + 1) kX12_image 52 [.ref 131, .int (nI 66)] (zRstk r ++ []) σ2 Q)) → zW (d + 1) kX12_image 17 [.ref 131, .int (nI i)] [] σ Q := by
  intro m
  induction m with
  | zero =>
    intro i σ hm hi hl hz h
    obtain rfl : i = 66 := by omega
    exact (bX12_image_17 hl).mpr (zle' k66 (ai_n (by omega)) (fun _ => h σ hl hz (zFr.refl _ _)) (fun q => by omega))
  | succ m ih =>
    intro i σ hm hi hl hz h
    refine (bX12_image_17 hl).mpr (zle' k66 (ai_n (by omega)) (fun q => by omega) (fun _ => ⟨vp_in_nI (by omega) (by decide), vp_in_nI (by omega) (by decide), ?_⟩))
    rw [nI_clamp (by omega), nI_1]
    refine ih (i + 1) _ (by omega) (by omega) hl.I (fun k hk => ?_) (fun σ' q1 q2 q3 => h σ' q1 q2 ((zFr_U (W := fun j c k => j = 0 ∧ c = 141) ⟨rfl, rfl⟩).trans q3))
    rw [zI_self, zI_ne (by decide)]
    rcases Nat.lt_or_ge k i with h1 | h1
    · rw [pk_un (by omega)]; exact hz k h1
    · obtain rfl : k = i := by omega
      exact pk_us
theorem m_row_bk {d : Nat} {Q : Option Value → zS → Prop} : ∀ (m i : Nat) (σ : zS), 66 - i = m → i ≤ 66 → zLay σ → (∀ k, k < i → zI σ 139 k = zI σ 141 k) → (∀ σ', zLay σ' → (∀ k, k < 66 → zI σ' 139 k = zI σ' 141 k) → zFr (fun j c _ => j = 0 ∧ c = 139) σ σ' → zCall d kX12_copy [.ref 146, .ref 142] σ' (fun r σ2 => zisN r = true ∧ zW (d + 1) kX12_back 51 [.ref 131, .int (nI 66)] (zRstk r ++ []) σ2 Q)) → zW (d + 1) kX12_back 16 [.ref 131, .int (nI i)] [] σ Q := by
  intro m
  induction m with
  | zero =>
    intro i σ hm hi hl hz h
    obtain rfl : i = 66 := by omega
    exact (bX12_back_16 hl).mpr (zle' k66 (ai_n (by omega)) (fun _ => h σ hl hz (zFr.refl _ _)) (fun q => by omega))
  | succ m ih =>
    intro i σ hm hi hl hz h
    refine (bX12_back_16 hl).mpr (zle' k66 (ai_n (by omega)) (fun q => by omega) (fun _ => ⟨vp_in_nI (by omega) (by decide), vp_in_nI (by omega) (by decide), ?_⟩))
    rw [nI_clamp (by omega), nI_1]
    refine ih (i + 1) _ (by omega) (by omega) hl.I (fun k hk => ?_) (fun σ' q1 q2 q3 => h σ' q1 q2 ((zFr_U (W := fun j c k => j = 0 ∧ c = 139) ⟨rfl, rfl⟩).trans q3))
    rw [zI_self, zI_ne (by decide)]
    rcases Nat.lt_or_ge k i with h1 | h1
    · rw [pk_un (by omega)]; exact hz k h1
    · obtain rfl : k = i := by omega
      exact pk_us
def wIm (j c k : Nat) : Prop := (j = 0 ∧ (c = 36 ∨ c = 38 ∨ c = 39 ∨ (44 ≤ c ∧ c ≤ 54) ∨ (57 ≤ c ∧ c ≤ 59) ∨ c = 141 ∨ (146 ≤ c ∧ c ≤ 149) ∨ (c = 131 ∧ (k = 0 ∨ (27 ≤ k ∧ k ≤ 30) ∨ k = 34)))) ∨ (j = 1 ∧ (c = 36 ∨ (c = 131 ∧ k = 33))) ∨ (j = 2 ∧ ((c = 36 ∧ k = 3) ∨ (44 ≤ c ∧ c ≤ 54 ∧ k = 0)))
theorem e_image {σ : zS} (g : iA σ nb ns) : eCall kX11_image kX12_image [] [] σ := by
  have h6 := g.nb6
  have h10 := g.ns10
  rcases g.go with ⟨n, b, T, TT, R⟩ | ⟨m21, p9⟩
  · have n6 := TT.1
    have hb := TT.bb
    have R' := R
    obtain ⟨g1, h0, g3, g4, g5, g6, g7, g8, -, -, -, -, -, -⟩ := R'
    have hsr : ∀ r, r < 6 → ∃ s, zR σ (12 + 8 + 2 * r) 0 = some s ∧ zk s = 6 := fun r hr => (g.sr r hr).1
    refine (bX11_image_0 g.1).mpr (zn (by rw [g5]; decide) (p_rcopy (a0 := 36) (a1 := 12) g.1 zk_36 zk_12 (by omega) TT.2.2.2.2.2.1 (zk_bk (by omega)) g8 (Or.inr g5) hsr (fun σ1 l1 r1 r2 r3 r4 r5 f1 => ⟨rfl, (bX11_image_23 l1).mpr ?_⟩)))
    refine p_lcopy (a0 := 56) (a1 := 32) l1 zk_56 zk_32 (by omega) (fun σ2 l2 c1 c2 f2 => ⟨rfl, (bX11_image_34 l2).mpr ?_⟩)
    have f1i : zFr wIm σ σ1 := f1.mono (fun j c k q => by
      rcases q with ⟨rfl, q | q | q | ⟨_, q1, q2⟩⟩ | ⟨rfl, q⟩ | ⟨rfl, ⟨q, q2⟩ | ⟨_, q1, q2, q3⟩⟩
      · exact Or.inl ⟨rfl, Or.inl q⟩
      · exact Or.inl ⟨rfl, Or.inr (Or.inl q)⟩
      · exact Or.inl ⟨rfl, Or.inr (Or.inr (Or.inl q))⟩
      · exact Or.inl ⟨rfl, Or.inr (Or.inr (Or.inr (Or.inl ⟨q1, q2⟩)))⟩
      · exact Or.inr (Or.inl ⟨rfl, Or.inl q⟩)
      · exact Or.inr (Or.inr ⟨rfl, Or.inl ⟨q, q2⟩⟩)
      · exact Or.inr (Or.inr ⟨rfl, Or.inr ⟨q1, q2, q3⟩⟩))
    have f2i : zFr wIm σ1 σ2 := f2.mono (fun j c k q => Or.inl ⟨q.1, Or.inr (Or.inr (Or.inr (Or.inr (Or.inl (by omega)))))⟩)
    have f02 := f1i.trans f2i
    have eT : zI σ2 12 5 = nI T := by rw [f02.i (by unfold wIm; omega)]; exact g4
    rw [eT]
    refine ⟨nI T, rfl, l2, zSam.fr f02 (fun k => by unfold wIm; omega), (bX12_image_0 l2).mpr ?_⟩
    have e21 : zI σ2 131 21 = nI T := by rw [f02.i (by unfold wIm; omega)]; exact g3
    rw [e21]
    refine zn (nI_m1 (by omega)) ?_
    have f3 : zFr (fun j c k => j = 0 ∧ c = 131 ∧ k = 0) σ2 (zsI σ2 131 (upd (zI σ2 131) 0 0)) := zFr_U ⟨rfl, rfl, rfl⟩
    have l3 : zLay (zsI σ2 131 (upd (zI σ2 131) 0 0)) := l2.I
    generalize zsI σ2 131 (upd (zI σ2 131) 0 0) = σ3 at f3 l3 ⊢
    refine m_row_im (d := 12) 66 0 σ3 (by omega) (by omega) l3 (fun k hk => by omega) (fun σ4 l4 z4 f4 => ?_)
    refine m_copy (N := 366) l4 zk_142 zk_146 zl_142 zl_146 (by omega) (by decide) (fun σ5 l5 z5 f5 => ⟨rfl, (bX12_image_52 l5).mpr ?_⟩)
    refine m_copy (N := 366) l5 zk_143 zk_147 zl_143 zl_147 (by omega) (by decide) (fun σ6 l6 z6 f6 => ⟨rfl, (bX12_image_63 l6).mpr ?_⟩)
    refine m_copy (N := 61) l6 zk_144 zk_148 zl_144 zl_148 (by omega) (by decide) (fun σ7 l7 z7 f7 => ⟨rfl, (bX12_image_74 l7).mpr ?_⟩)
    refine m_copy (N := 16) l7 zk_145 zk_149 zl_145 zl_149 (by omega) (by decide) (fun σ8 l8 z8 f8 => ⟨rfl, (bX12_image_85 l8).mpr ?_⟩)
    have f38 : zFr (fun j c _ => j = 0 ∧ (c = 141 ∨ (146 ≤ c ∧ c ≤ 149))) σ3 σ8 := ((((f4.mono (fun j c k q => ⟨q.1, by omega⟩)).trans (f5.mono (fun j c k q => ⟨q.1, by omega⟩))).trans (f6.mono (fun j c k q => ⟨q.1, by omega⟩))).trans (f7.mono (fun j c k q => ⟨q.1, by omega⟩))).trans (f8.mono (fun j c k q => ⟨q.1, by omega⟩))
    have f28 : zFr (fun j c k => j = 0 ∧ (c = 141 ∨ (146 ≤ c ∧ c ≤ 149) ∨ (c = 131 ∧ k = 0))) σ2 σ8 := (f3.mono (fun j c k q => ⟨q.1, by omega⟩)).trans (f38.mono (fun j c k q => ⟨q.1, by omega⟩))
    have e8 : ∀ c k, c ≠ 141 → (c < 146 ∨ 149 < c) → (c = 131 → k ≠ 0) → zI σ8 c k = zI σ2 c k := fun c k q1 q2 q3 => f28.i (by omega)
    have e218 : zI σ8 131 21 = nI T := by rw [e8 _ _ (by omega) (by omega) (by omega)]; exact e21
    rw [e218]
    have v131 : ∀ k, (zI (zsI (zsL (zsI σ8 131 (upd (upd (upd (upd (zI σ8 131) 27 (zI σ8 131 19)) 28 (zI σ8 131 20)) 29 (nI T)) 30 (zI σ8 131 22))) 131 (vp_updL (zL σ8 131) 33 ((zL σ8 131) 31))) 131 (upd (upd (upd (upd (upd (zI σ8 131) 27 (zI σ8 131 19)) 28 (zI σ8 131 20)) 29 (nI T)) 30 (zI σ8 131 22)) 34 1)) 131 k) = upd (upd (upd (upd (upd (zI σ8 131) 27 (zI σ8 131 19)) 28 (zI σ8 131 20)) 29 (nI T)) 30 (zI σ8 131 22)) 34 1 k := fun k => by rw [zI_self]
    have vI : ∀ c, c ≠ 131 → zI (zsI (zsL (zsI σ8 131 (upd (upd (upd (upd (zI σ8 131) 27 (zI σ8 131 19)) 28 (zI σ8 131 20)) 29 (nI T)) 30 (zI σ8 131 22))) 131 (vp_updL (zL σ8 131) 33 ((zL σ8 131) 31))) 131 (upd (upd (upd (upd (upd (zI σ8 131) 27 (zI σ8 131 19)) 28 (zI σ8 131 20)) 29 (nI T)) 30 (zI σ8 131 22)) 34 1)) c = zI σ8 c := fun c hc => by
      rw [zI_ne hc]
      show zI (zsI σ8 131 _) c = _
      rw [zI_ne hc]
    have vL : zL (zsI (zsL (zsI σ8 131 (upd (upd (upd (upd (zI σ8 131) 27 (zI σ8 131 19)) 28 (zI σ8 131 20)) 29 (nI T)) 30 (zI σ8 131 22))) 131 (vp_updL (zL σ8 131) 33 ((zL σ8 131) 31))) 131 (upd (upd (upd (upd (upd (zI σ8 131) 27 (zI σ8 131 19)) 28 (zI σ8 131 20)) 29 (nI T)) 30 (zI σ8 131 22)) 34 1)) = zL (zsL σ8 131 (vp_updL (zL σ8 131) 33 ((zL σ8 131) 31))) := rfl
    have vR : zR (zsI (zsL (zsI σ8 131 (upd (upd (upd (upd (zI σ8 131) 27 (zI σ8 131 19)) 28 (zI σ8 131 20)) 29 (nI T)) 30 (zI σ8 131 22))) 131 (vp_updL (zL σ8 131) 33 ((zL σ8 131) 31))) 131 (upd (upd (upd (upd (upd (zI σ8 131) 27 (zI σ8 131 19)) 28 (zI σ8 131 20)) 29 (nI T)) 30 (zI σ8 131 22)) 34 1)) = zR σ8 := rfl
    have l9 : zLay (zsI (zsL (zsI σ8 131 (upd (upd (upd (upd (zI σ8 131) 27 (zI σ8 131 19)) 28 (zI σ8 131 20)) 29 (nI T)) 30 (zI σ8 131 22))) 131 (vp_updL (zL σ8 131) 33 ((zL σ8 131) 31))) 131 (upd (upd (upd (upd (upd (zI σ8 131) 27 (zI σ8 131 19)) 28 (zI σ8 131 20)) 29 (nI T)) 30 (zI σ8 131 22)) 34 1)) := l8.I.L.I
    have f9 : zFr wIm σ8 (zsI (zsL (zsI σ8 131 (upd (upd (upd (upd (zI σ8 131) 27 (zI σ8 131 19)) 28 (zI σ8 131 20)) 29 (nI T)) 30 (zI σ8 131 22))) 131 (vp_updL (zL σ8 131) 33 ((zL σ8 131) 31))) 131 (upd (upd (upd (upd (upd (zI σ8 131) 27 (zI σ8 131 19)) 28 (zI σ8 131 20)) 29 (nI T)) 30 (zI σ8 131 22)) 34 1)) := by
      refine ⟨rfl, rfl, fun c k q => ?_, fun c k q => ?_, fun c k q => by rw [vR]⟩
      · by_cases e : c = 131
        · subst e
          have z : k ≠ 27 ∧ k ≠ 28 ∧ k ≠ 29 ∧ k ≠ 30 ∧ k ≠ 34 := by unfold wIm at q; omega
          rw [v131, pk_un z.2.2.2.2, pk_un z.2.2.2.1, pk_un z.2.2.1, pk_un z.2.1, pk_un z.1]
        · rw [vI c e]
      · rw [vL]
        by_cases e : c = 131
        · subst e
          rw [zL_self, pk_uLn (by unfold wIm at q; omega)]
        · rw [zL_ne e]
    generalize zsI (zsL (zsI σ8 131 (upd (upd (upd (upd (zI σ8 131) 27 (zI σ8 131 19)) 28 (zI σ8 131 20)) 29 (nI T)) 30 (zI σ8 131 22))) 131 (vp_updL (zL σ8 131) 33 ((zL σ8 131) 31))) 131 (upd (upd (upd (upd (upd (zI σ8 131) 27 (zI σ8 131 19)) 28 (zI σ8 131 20)) 29 (nI T)) 30 (zI σ8 131 22)) 34 1) = σ9 at v131 vI vL vR l9 f9 ⊢
    have f28i : zFr wIm σ2 σ8 := f28.mono (fun j c k q => by
      obtain ⟨rfl, q | q | ⟨q, q2⟩⟩ := q
      · exact Or.inl ⟨rfl, Or.inr (Or.inr (Or.inr (Or.inr (Or.inr (Or.inl q)))))⟩
      · exact Or.inl ⟨rfl, Or.inr (Or.inr (Or.inr (Or.inr (Or.inr (Or.inr (Or.inl q))))))⟩
      · exact Or.inl ⟨rfl, Or.inr (Or.inr (Or.inr (Or.inr (Or.inr (Or.inr (Or.inr ⟨q, Or.inl q2⟩))))))⟩)
    have f09 := (f02.trans f28i).trans f9
    have e9 : ∀ c k, ¬ wIm 0 c k → zI σ9 c k = zI σ c k := fun c k q => f09.i q
    have e92 : ∀ c k, c < 131 → zI σ9 c k = zI σ2 c k := fun c k q => by rw [vI c (by omega), e8 _ _ (by omega) (by omega) (by omega)]
    have eF : mFR σ9 141 n = mFR σ 139 n := by
      unfold mFR
      funext r w
      by_cases q : r < n ∧ w < 11
      · rw [if_pos q, if_pos q, vI _ (by decide), f8.i (by omega), f7.i (by omega), f6.i (by omega), f5.i (by omega), z4 _ (by omega), f4.i (by omega), f3.i (by omega), f02.i (by unfold wIm; omega)]
      · rw [if_neg q, if_neg q]
    have eB : mB σ9 b = mB σ b := mB_f (nb := nb) f09 (fun c k q => by unfold jB at q; unfold wIm; omega) hb
    have eR2 : ∀ c k, c < 131 → zR σ9 c k = zR σ2 c k := fun c k _ => by rw [vR, f28.r (by omega)]
    have er : ∀ r, r < 6 → zR σ9 (36 + 8 + 2 * r) 0 = zR σ (12 + 8 + 2 * r) 0 ∧ ∀ k, 1 ≤ k → k ≤ 8 → zI σ9 (36 + 8 + 2 * r) k = zI σ (12 + 8 + 2 * r) k := fun r hr => by
      rw [eR2 _ _ (by omega), f2.r (by omega), (r5 r hr).1]
      exact ⟨rfl, fun k k1 k2 => by rw [e92 _ _ (by omega), f2.i (by omega), (r5 r hr).2 k k1 k2]⟩
    refine ⟨rfl, ⟨nb, ns, iA_but f09 l9 g (by unfold wIm; omega) (Or.inl fun c k q => by unfold jTape at q; unfold wIm; omega) (Or.inl fun c k q => by unfold jWx at q; unfold wIm; omega) (Or.inl fun c k q => by unfold jBr jB at q; unfold wIm; omega) (Or.inl fun c k q => by unfold jSt at q; unfold wIm; omega) (Or.inl fun c k q => by unfold jSg at q; unfold wIm; omega) (Or.inl ⟨fun c k q => by unfold jRc jB at q; unfold wIm; omega, by unfold wIm; omega, fun c k _ _ => by unfold wIm; omega⟩) (Or.inr (Or.inr ⟨?_, n, b, T, n6, ?_, ?_, ?_, ?_, ?_⟩)) (Or.inr fun r hr => ?_)⟩, zSam.fr (f28i.trans f9) (fun k => by unfold wIm; omega)⟩
    · rw [v131, pk_us]
    · rw [v131, pk_un (by decide), pk_un (by decide), pk_un (by decide), pk_us, e8 _ _ (by omega) (by omega) (by omega), f02.i (by unfold wIm; omega)]; exact TT.2.1
    · rw [e92 _ _ (by omega), f2.i (by omega), r2 4 (by omega) (by omega) (by omega)]; exact TT.2.2.1
    · rw [v131, pk_un (by decide), pk_un (by decide), pk_un (by decide), pk_un (by decide), pk_us, e8 _ _ (by omega) (by omega) (by omega), f02.i (by unfold wIm; omega)]; exact TT.2.2.2.1
    · exact iTl_cp n6 h10 TT.2.2.2.2 (by rw [eR2 _ _ (by omega), f2.r (by omega), r1]; exact TT.2.2.2.2.2.1.symm) er (fun s k hs => e9 _ _ (by unfold wIm; omega)) eF eB
    · refine iRn_cp n6 R ?_ ?_ ?_ (fun k k1 k2 k3 => by rw [e92 _ _ (by omega), f2.i (by omega), r2 k k1 k2 k3]) ?_ (fun x hx => by rw [e92 _ _ (by omega), f2.i (by omega)]; exact r4 x hx) eF (fun x hx => ?_) (fun k hk => ⟨?_, ?_⟩) (fun k hk => ?_) (fun k hk => ⟨?_, ?_⟩) (fun k hk => ?_)
      · rw [v131, pk_un (by decide), pk_un (by decide), pk_us]; exact g3.symm
      · rw [v131, pk_un (by decide), pk_us, e8 _ _ (by omega) (by omega) (by omega), f02.i (by unfold wIm; omega)]
      · rw [vL, zL_self]
        show (if 33 = 33 then zL σ8 131 31 else _) = _
        rw [if_pos rfl, f28.l (by omega), f02.l (by unfold wIm; omega)]
      · rw [vL, zL_ne (by decide), f28.l (by omega), f2.l (by omega)]; exact r3
      · rw [vI _ (by decide), z8 x hx, f8.i (by omega), f7.i (by omega), f6.i (by omega), f5.i (by omega), f4.i (by omega), f3.i (by omega), f02.i (by unfold wIm; omega)]
      · rw [e92 _ _ (by omega), (c1 k hk).1, f1.i (by unfold pWq; omega)]
      · rw [e92 _ _ (by omega), (c1 k hk).2, f1.i (by unfold pWq; omega)]
      · rw [e92 _ _ (by omega), c2 k hk, f1.i (by unfold pWq; omega)]
      · rw [vI _ (by decide), f8.i (by omega), f7.i (by omega), f6.i (by omega), z5 k hk, f5.i (by omega), f4.i (by omega), f3.i (by omega), f02.i (by unfold wIm; omega)]
      · rw [vI _ (by decide), f8.i (by omega), f7.i (by omega), z6 k hk, f6.i (by omega), f5.i (by omega), f4.i (by omega), f3.i (by omega), f02.i (by unfold wIm; omega)]
      · rw [vI _ (by decide), f8.i (by omega), z7 k hk, f7.i (by omega), f6.i (by omega), f5.i (by omega), f4.i (by omega), f3.i (by omega), f02.i (by unfold wIm; omega)]
    · obtain ⟨a1, a2⟩ := g.sr r hr
      refine ⟨by rw [f09.r (by unfold wIm; omega)]; exact a1, ?_⟩
      have e := (er r hr).1
      rw [show 44 + 2 * r = 36 + 8 + 2 * r by omega, e]
      exact a1
  · refine e_q g (-1) (fun Q h => (bX11_image_0 g.1).mpr (zy p9 (h _ σ km1 (zFr.refl _ _)))) (fun σ1 σ2 Q l1 e2 g2 f2 h => ?_)
    refine (bX12_image_0 l1).mpr ?_
    rw [e2]
    exact zy (by rw [← m21, ← f2.i (nS3 (k := 21) (by omega)), ← e2, zI_self, pk_un (by decide)]) (h _ σ2 km1 (zFr.refl _ _))
end IMAGE
