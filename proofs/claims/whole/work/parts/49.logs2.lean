/-! led, struck, and what changes little: end, weather, on, sight -/
theorem a_pred {i : Nat} (h : 1 ≤ i) (h2 : i < 2147483648) : nI i - 1 = nI (i - 1) := zint (by rw [zsub (ai_n h2) k1, ai_n (by omega)]; omega)
theorem aCt_c {p p' : Nat → Prop} : ∀ (m i : Nat), (∀ k, i ≤ k → k < i + m → (p k ↔ p' k)) → aCt p m i = aCt p' m i
  | 0, _, _ => rfl
  | m + 1, i, h => by
    have e := aCt_c m (i + 1) (fun k h1 h2 => h k (by omega) (by omega))
    show zif (p i) 1 0 + aCt p m (i + 1) = zif (p' i) 1 0 + aCt p' m (i + 1)
    rw [e, zif_c (h i (by omega) (by omega))]
def sBst (S : Nat → Int) : Nat → Nat
  | 0 => 0
  | i + 1 => if S (sBst S i) < S i then i else sBst S i
theorem sBst_lt (S : Nat → Int) : ∀ i, 1 ≤ i → sBst S i < i
  | 0, h => by omega
  | i + 1, _ => by
    unfold sBst
    by_cases q : S (sBst S i) < S i
    · rw [if_pos q]; omega
    · rw [if_neg q]
      rcases Nat.eq_zero_or_pos i with h | h
      · subst h
        show 0 < 0 + 1
        omega
      · have := sBst_lt S i h
        omega
section LOGS2
variable {σ : zS} {nb ns : Nat} {Q : Option Value → zS → Prop}
theorem p_changes_l {d T : Nat} (hl : zLay σ) (hT : T ≤ 60) :
    ∀ (m i : Nat) (c : Int32), T + 1 - i = m → 1 ≤ i → i ≤ 100 → 0 ≤ c.toInt → c.toInt ≤ i → (∀ v : Int32, v.toInt = c.toInt + aCt (fun t => ¬ zI σ 35 t = zI σ 35 (t - 1)) m i → Q (some (.int v)) σ) → zW d kX1_changes 4 [.ref 32, .int (nI T), .int c, .int (nI i)] [] σ Q := by
  intro m
  induction m with
  | zero =>
    intro i c hm h1 h2 c0 c1 h
    exact (bX1_changes_4 hl zk_32).mpr (zlt' (ai_n (by omega)) (ai_n (by omega)) (fun _ => h c (by show _ = c.toInt + 0; omega)) (fun q => by omega))
  | succ m ih =>
    intro i c hm h1 h2 c0 c1 h
    refine (bX1_changes_4 hl zk_32).mpr (zlt' (ai_n (by omega)) (ai_n (by omega)) (fun q => by omega) (fun _ => zlt' k60 (ai_n (by omega)) (fun q => by omega) (fun _ => ⟨vp_in_nI (by omega) (by decide), ?_⟩)))
    rw [a_pred h1 (by omega)]
    refine ⟨vp_in_nI (by omega) (by decide), ?_⟩
    rw [nI_clamp (by omega), nI_clamp (by omega), nI_1]
    refine zti (fun q => ?_) (fun q => ?_)
    · exact ih (i + 1) c (by omega) (by omega) (by omega) c0 (by omega) (fun v hv => h v (by rw [hv, aCt_f (fun q2 => q2 q)]))
    · have ec : (c + 1).toInt = c.toInt + 1 := zadd rfl k1
      exact ih (i + 1) (c + 1) (by omega) (by omega) (by omega) (by omega) (by omega) (fun v hv => h v (by rw [hv, aCt_t q, ec]; omega))
theorem p_ticksLed_l {d T : Nat} {r : Int32} (hl : zLay σ) (hT : T ≤ 60) :
    ∀ (m i : Nat) (c : Int32), T + 1 - i = m → 1 ≤ i → i ≤ 100 → 0 ≤ c.toInt → c.toInt ≤ i → (∀ v : Int32, v.toInt = c.toInt + aCt (fun t => zI σ 35 t = r) m i → Q (some (.int v)) σ) → zW d kX1_ticksLed 5 [.ref 32, .int r, .int (nI T), .int c, .int (nI i)] [] σ Q := by
  intro m
  induction m with
  | zero =>
    intro i c hm h1 h2 c0 c1 h
    exact (bX1_ticksLed_5 hl zk_32).mpr (zlt' (ai_n (by omega)) (ai_n (by omega)) (fun _ => h c (by show _ = c.toInt + 0; omega)) (fun q => by omega))
  | succ m ih =>
    intro i c hm h1 h2 c0 c1 h
    refine (bX1_ticksLed_5 hl zk_32).mpr (zlt' (ai_n (by omega)) (ai_n (by omega)) (fun q => by omega) (fun _ => zlt' k60 (ai_n (by omega)) (fun q => by omega) (fun _ => ⟨vp_in_nI (by omega) (by decide), ?_⟩)))
    rw [nI_clamp (by omega), nI_1]
    refine zti (fun q => ?_) (fun q => ?_)
    · have ec : (c + 1).toInt = c.toInt + 1 := zadd rfl k1
      exact ih (i + 1) (c + 1) (by omega) (by omega) (by omega) (by omega) (by omega) (fun v hv => h v (by rw [hv, aCt_t (show zI σ 35 i = r from q), ec]; omega))
    · exact ih (i + 1) c (by omega) (by omega) (by omega) c0 (by omega) (fun v hv => h v (by rw [hv, aCt_f (show ¬ zI σ 35 i = r from q)]))
theorem m_led_l {d T : Nat} {r : Int32} (hl : zLay σ) (hT : T ≤ 60) (e21 : zI σ 131 21 = nI T) :
    ∀ (m i : Nat) (c : Int32), T + 1 - i = m → 1 ≤ i → i ≤ 100 → 0 ≤ c.toInt → c.toInt ≤ i → (∀ v : Int32, v.toInt = c.toInt + aCt (fun t => (r = -1 ∧ 1 < t ∧ ¬ zI σ 144 t = zI σ 144 (t - 1)) ∨ (¬ r = -1 ∧ zI σ 144 t = r)) m i → Q (some (.int v)) σ) → zW (d + 1) kX12_led 32 [.ref 131, .int r, .int c, .int (nI i)] [] σ Q := by
  intro m
  induction m with
  | zero =>
    intro i c hm h1 h2 c0 c1 h
    exact (bX12_led_32 hl).mpr (zlt' (zto e21 (ai_n (by omega))) (ai_n (by omega)) (fun _ => h c (by show _ = c.toInt + 0; omega)) (fun q => by omega))
  | succ m ih =>
    intro i c hm h1 h2 c0 c1 h
    have n1 : ¬ ((r = -1 ∧ 1 < i ∧ ¬ zI σ 144 i = zI σ 144 (i - 1)) ∨ (¬ r = -1 ∧ zI σ 144 i = r)) → zW (d + 1) kX12_led 32 [.ref 131, .int r, .int (c + 0), .int (nI i + 1)] [] σ Q := by
      intro q
      have ec : (c + 0).toInt = c.toInt := by rw [zadd (x := c) rfl k0 (by omega) (by omega)]; omega
      rw [nI_1]
      exact ih (i + 1) (c + 0) (by omega) (by omega) (by omega) (by omega) (by omega) (fun v hv => h v (by rw [hv, aCt_f q, ec]))
    have n2 : ((r = -1 ∧ 1 < i ∧ ¬ zI σ 144 i = zI σ 144 (i - 1)) ∨ (¬ r = -1 ∧ zI σ 144 i = r)) → zW (d + 1) kX12_led 32 [.ref 131, .int r, .int (c + 1), .int (nI i + 1)] [] σ Q := by
      intro q
      have ec : (c + 1).toInt = c.toInt + 1 := zadd rfl k1
      rw [nI_1]
      exact ih (i + 1) (c + 1) (by omega) (by omega) (by omega) (by omega) (by omega) (fun v hv => h v (by rw [hv, aCt_t q, ec]; omega))
    refine (bX12_led_32 hl).mpr (zlt' (zto e21 (ai_n (by omega))) (ai_n (by omega)) (fun q => by omega) (fun _ => zti (fun q => zle' (ai_n (by omega)) k1 (fun q2 => ?_) (fun q2 => ⟨vp_in_nI (by omega) (by decide), ?_⟩)) (fun q => ⟨vp_in_nI (by omega) (by decide), ?_⟩)))
    · exact n1 (fun q3 => by rcases q3 with q3 | q3; omega; exact q3.1 q)
    · rw [a_pred h1 (by omega)]
      refine ⟨vp_in_nI (by omega) (by decide), ?_⟩
      rw [nI_clamp (by omega), nI_clamp (by omega)]
      exact zti (fun q3 => n1 (fun q4 => by rcases q4 with q4 | q4; exact q4.2.2 q3; exact q4.1 q)) (fun q3 => n2 (Or.inl ⟨q, by omega, q3⟩))
    · rw [nI_clamp (by omega)]
      exact zti (fun q3 => n2 (Or.inr ⟨q, q3⟩)) (fun q3 => n1 (fun q4 => by rcases q4 with q4 | q4; exact q q4.1; exact q3 q4.2))
theorem e_led (g : iA σ nb ns) (x : Int32) : eCall kX11_led kX12_led [.int x] [.int x] σ := by
  have h6 := g.nb6
  have h10 := g.ns10
  rcases g.go with ⟨n, b, T, TT, R⟩ | ⟨m21, p9⟩
  · obtain ⟨g1, g2', g3, g4, g5, -, -, -, -, -, -, -, g13, g14⟩ := R
    have n6 := TT.1
    have m21' : ∀ {σ2 : zS}, zFr iSafe σ σ2 → zI σ2 131 21 = nI T := fun f2 => by rw [f2.i (show ¬ iSafe 0 131 21 by unfold iSafe; omega)]; exact g3
    have mB : ∀ {σ1 σ2 : zS}, zsI σ1 131 (upd (zI σ1 131) 0 0) = σ2 → zFr iSafe σ σ2 → zI σ1 131 21 = nI T := fun e2 f2 => by
      rw [← m21' f2, ← e2, zI_self, pk_un (by decide)]
    have e144 : ∀ {σ2 : zS}, zFr iSafe σ σ2 → ∀ k, zI σ2 144 k = zI σ 144 k := fun f2 k => f2.i (by unfold iSafe; omega)
    by_cases c : x = -1
    · subst c
      refine e_q g (aCt (fun t => ¬ zI σ 144 t = zI σ 144 (t - 1)) (T - 1) 2) (fun Q h => ?_) (fun σ1 σ2 Q l1 e2 g2 f2 h => ?_)
      · refine (bX11_led_0 g.1).mpr (zn (by rw [g5]; decide) (zy rfl ((bX11_led_25 g.1).mpr (zy rfl ?_))))
        rw [g4]
        refine (bX1_changes_0 g.1 zk_32).mpr (p_changes_l (T := T) g.1 g1 (T - 1) 2 0 (by omega) (by omega) (by omega) (by decide) (by decide) (fun v hv => ⟨rfl, (bX11_led_44 g.1).mpr ((bX11_led_62 g.1).mpr (h v σ ?_ (zFr.refl _ _)))⟩))
        rw [hv, k0, Int.zero_add]
        exact aCt_c _ _ (fun k h1 h2 => by rw [(g13 k (by omega)).2, (g13 (k - 1) (by omega)).2])
      · refine (bX12_led_0 l1).mpr ?_
        rw [mB e2 f2, e2]
        refine zn (nI_m1 (by omega)) (zy rfl (m_led_l g2.1 g1 (m21' f2) (T + 1 - 1) 1 0 rfl (by omega) (by omega) (by decide) (by decide) (fun v hv => h v σ2 ?_ (zFr.refl _ _))))
        rw [hv, k0, Int.zero_add, Nat.add_sub_cancel]
        rcases Nat.eq_zero_or_pos T with hT | hT
        · subst hT; rfl
        · obtain ⟨T', rfl⟩ : ∃ T', T = T' + 1 := ⟨T - 1, by omega⟩
          rw [aCt_f (by rintro (q | q); omega; exact q.1 rfl)]
          refine aCt_c _ _ (fun k h1 h2 => ?_)
          rw [e144 f2, e144 f2]
          exact ⟨fun q => q.elim (fun q => q.2.2) (fun q => absurd rfl q.1), fun q => Or.inl ⟨rfl, by omega, q⟩⟩
    · rcases a_cs x n with ⟨r, hr, rfl, -⟩ | hx
      · refine e_q g (aCt (fun t => zI σ 144 t = nI r) T 1) (fun Q h => ?_) (fun σ1 σ2 Q l1 e2 g2 f2 h => ?_)
        · refine (bX11_led_0 g.1).mpr (zn (by rw [g5]; decide) (zn c (p_nr0 g.1 TT.2.2.1 n6 hr ⟨rfl, (bX11_led_20 g.1).mpr (zy rfl ((bX11_led_25 g.1).mpr (zn c ?_)))⟩)))
          rw [g4]
          refine (bX1_ticksLed_0 g.1 zk_32).mpr (p_ticksLed_l (T := T) g.1 g1 T 1 0 (by omega) (by omega) (by omega) (by decide) (by decide) (fun v hv => ⟨rfl, (bX11_led_62 g.1).mpr (h v σ ?_ (zFr.refl _ _))⟩))
          rw [hv, k0, Int.zero_add]
          exact aCt_c _ _ (fun k h1 h2 => by rw [(g13 k (by omega)).2])
        · refine (bX12_led_0 l1).mpr ?_
          rw [mB e2 f2, e2]
          refine zn (nI_m1 (by omega)) (zn c (m_ir1 g2.1 (iT_fr f2 h6 h10 TT).2.1 n6 hr ⟨rfl, (bX12_led_23 g2.1).mpr (zn (by decide) (m_led_l g2.1 g1 (m21' f2) T 1 0 (by omega) (by omega) (by omega) (by decide) (by decide) (fun v hv => h v σ2 ?_ (zFr.refl _ _))))⟩))
          rw [hv, k0, Int.zero_add]
          refine aCt_c _ _ (fun k h1 h2 => ?_)
          rw [e144 f2]
          exact ⟨fun q => q.elim (fun q => absurd q.1 c) (fun q => q.2), fun q => Or.inr ⟨c, q⟩⟩
      · refine e_q g (-1) (fun Q h => (bX11_led_0 g.1).mpr (zn (by rw [g5]; decide) (zn c (p_nr1 g.1 TT.2.2.1 n6 hx ⟨rfl, (bX11_led_20 g.1).mpr (zn (by decide) (h _ σ km1 (zFr.refl _ _)))⟩)))) (fun σ1 σ2 Q l1 e2 g2 f2 h => ?_)
        refine (bX12_led_0 l1).mpr ?_
        rw [mB e2 f2, e2]
        exact zn (nI_m1 (by omega)) (zn c (m_ir0 g2.1 (iT_fr f2 h6 h10 TT).2.1 n6 hx ⟨rfl, (bX12_led_23 g2.1).mpr (zy rfl (h _ σ2 km1 (zFr.refl _ _)))⟩))
  · refine e_q g (-1) (fun Q h => (bX11_led_0 g.1).mpr (zy p9 (h _ σ km1 (zFr.refl _ _)))) (fun σ1 σ2 Q l1 e2 g2 f2 h => ?_)
    refine (bX12_led_0 l1).mpr ?_
    rw [e2]
    exact zy (by rw [← m21, ← f2.i (show ¬ iSafe 0 131 21 by unfold iSafe; omega), ← e2, zI_self, pk_un (by decide)]) (h _ σ2 km1 (zFr.refl _ _))
theorem p_narrow_l {d : Nat} {S : Nat → Int} (hl : zLay σ) (hS : ∀ x, x < 16 → (zI σ 15 x).toInt = S x ∧ 0 ≤ S x) (h : ∀ v : Int32, v.toInt = (if S (sBst S 16) = 0 then -1 else (sBst S 16 : Int)) → Q (some (.int v)) σ) :
    ∀ (m i : Nat) (x1 x2 : Int32), 16 - i = m → 1 ≤ i → i ≤ 16 → ((S (sBst S i) = 0 ∧ x1.toInt = 0 ∧ x2.toInt = -1) ∨ (0 < S (sBst S i) ∧ x1.toInt = S (sBst S i) ∧ x2.toInt = sBst S i)) → zW d kX2_narrow 6 [.ref 12, .int x1, .int x2, .int (nI i)] [] σ Q := by
  intro m
  induction m with
  | zero =>
    intro i x1 x2 hm h1 h2 hi
    obtain rfl : i = 16 := by omega
    refine (bX2_narrow_6 hl zk_12).mpr (zle' k16 (ai_n (by omega)) (fun _ => h x2 ?_) (fun q => by omega))
    rcases hi with hi | hi
    · rw [if_pos hi.1]; exact hi.2.2
    · rw [if_neg (by omega)]; exact hi.2.2
  | succ m ih =>
    intro i x1 x2 hm h1 h2 hi
    have hb := sBst_lt S i h1
    have hSi := hS i (by omega)
    have hSb := hS (sBst S i) (by omega)
    have eb : sBst S (i + 1) = if S (sBst S i) < S i then i else sBst S i := rfl
    refine (bX2_narrow_6 hl zk_12).mpr (zle' k16 (ai_n (by omega)) (fun q => by omega) (fun _ => ⟨vp_in_nI (by omega) (by decide), ?_⟩))
    rw [nI_clamp (by omega), nI_1]
    refine zle' (show (zI σ (12 + 3) i).toInt = S i from hSi.1) rfl (fun q => ?_) (fun q => ⟨vp_in_nI (by omega) (by decide), ?_⟩)
    · refine ih (i + 1) x1 x2 (by omega) (by omega) (by omega) ?_
      rw [eb, if_neg (by omega)]
      exact hi
    · refine ih (i + 1) _ _ (by omega) (by omega) (by omega) ?_
      rw [eb, if_pos (by omega)]
      exact Or.inr ⟨by omega, hSi.1, ai_n (by omega)⟩
theorem m_struck_l {d : Nat} {S : Nat → Int} {x : Int32} (hl : zLay σ) (hS : ∀ x, x < 16 → (zI σ 145 x).toInt = S x) (h : ∀ v : Int32, v.toInt = (if S (sBst S 16) = 0 then -1 else (sBst S 16 : Int)) → Q (some (.int v)) σ) :
    ∀ (m i : Nat), 16 - i = m → 1 ≤ i → i ≤ 16 → zW (d + 1) kX12_struck 46 [.ref 131, .int x, .int (nI (sBst S i)), .int (nI i)] [] σ Q := by
  intro m
  induction m with
  | zero =>
    intro i hm h1 h2
    obtain rfl : i = 16 := by omega
    have hb := sBst_lt S 16 (by omega)
    refine (bX12_struck_46 hl).mpr (zle' k16 (ai_n (by omega)) (fun _ => ⟨vp_in_nI (by omega) (by decide), ?_⟩) (fun q => by omega))
    rw [nI_clamp (by omega)]
    refine zeq' (hS _ (by omega)) k0 (fun q => h _ (by rw [if_pos q]; rfl)) (fun q => h _ (by rw [if_neg q]; exact ai_n (by omega)))
  | succ m ih =>
    intro i hm h1 h2
    have hb := sBst_lt S i h1
    have eb : sBst S (i + 1) = if S (sBst S i) < S i then i else sBst S i := rfl
    refine (bX12_struck_46 hl).mpr (zle' k16 (ai_n (by omega)) (fun q => by omega) (fun _ => ⟨vp_in_nI (by omega) (by decide), vp_in_nI (by omega) (by decide), ?_⟩))
    rw [nI_clamp (by omega), nI_clamp (by omega), nI_1]
    have z := ih (i + 1) (by omega) (by omega) (by omega)
    rw [eb] at z
    refine zle' (hS i (by omega)) (hS _ (by omega)) (fun q => ?_) (fun q => ?_)
    · rw [if_neg (by omega)] at z; exact z
    · rw [if_pos (by omega)] at z; exact z
theorem e_struck (g : iA σ nb ns) (x : Int32) : eCall kX11_struck kX12_struck [.int x] [.int x] σ := by
  rcases g.go with ⟨n, b, T, TT, R⟩ | ⟨m21, p9⟩
  · obtain ⟨g1, g2', g3, g4, g5, -, -, -, -, -, g11, g12, -, -⟩ := R
    have mB : ∀ {σ1 σ2 : zS}, zsI σ1 131 (upd (zI σ1 131) 0 0) = σ2 → zFr iSafe σ σ2 → zI σ1 131 21 = nI T := fun e2 f2 => by
      rw [← g3, ← f2.i (show ¬ iSafe 0 131 (19 + 2) by unfold iSafe; omega), ← e2, zI_self, pk_un (by decide)]
    have e145 : ∀ {σ2 : zS}, zFr iSafe σ σ2 → ∀ k, zI σ2 145 k = zI σ 145 k := fun f2 k => f2.i (by unfold iSafe; omega)
    have e15 : ∀ k, k < 16 → zI σ 15 k = zI σ 145 k := g12
    by_cases c : x = -1
    · subst c
      refine e_q g (if (zI σ 145 (sBst (fun k => (zI σ 145 k).toInt) 16)).toInt = 0 then -1 else (sBst (fun k => (zI σ 145 k).toInt) 16 : Int)) (fun Q h => ?_) (fun σ1 σ2 Q l1 e2 g2 f2 h => ?_)
      · refine (bX11_struck_0 g.1).mpr (zn (by rw [g5]; decide) (zn (by decide) (zy (by decide) (zy rfl ((bX2_narrow_0 g.1 zk_12).mpr ?_)))))
        have S0 : (zI σ 15 0).toInt = (zI σ 145 0).toInt := by rw [e15 0 (by omega)]
        have b0 := (g11 0 (by omega)).1
        have fin : ∀ (x1 x2 : Int32), (((zI σ 145 0).toInt = 0 ∧ x1.toInt = 0 ∧ x2.toInt = -1) ∨ (0 < (zI σ 145 0).toInt ∧ x1.toInt = (zI σ 145 0).toInt ∧ x2.toInt = 0)) → zW 12 kX2_narrow 6 [.ref 12, .int x1, .int x2, .int (nI 1)] [] σ (fun r σ' => zisN r = true ∧ zW 13 kX11_struck 35 [.ref 1, .int (-1)] (zRstk r ++ []) σ' Q) := by
          intro x1 x2 hx
          refine p_narrow_l (S := fun k => (zI σ 145 k).toInt) g.1 (fun k hk => ⟨by rw [e15 k hk], (g11 k hk).1⟩) (fun v hv => ⟨rfl, (bX11_struck_35 g.1).mpr (h v σ hv (zFr.refl _ _))⟩) 15 1 x1 x2 (by omega) (by omega) (by omega) ?_
          have e1 : sBst (fun k => (zI σ 145 k).toInt) 1 = 0 := by
            unfold sBst
            exact if_neg (by show ¬ (zI σ 145 0).toInt < (zI σ 145 0).toInt; omega)
          rw [e1]
          exact hx
        refine (bX2_narrow_6 g.1 zk_12).mpr (zle' k16 k0 (fun q => by omega) (fun _ => ⟨vp_in_nI (n := 0) (by omega) (by decide), ?_⟩))
        rw [show ((0 : Int32)).toNatClampNeg = 0 from rfl]
        refine zle' (show (zI σ (12 + 3) 0).toInt = (zI σ 145 0).toInt from S0) k0 (fun q => ?_) (fun q => ⟨vp_in_nI (n := 0) (by omega) (by decide), ?_⟩)
        · exact fin 0 (-1) (Or.inl ⟨by omega, rfl, rfl⟩)
        · exact fin _ 0 (Or.inr ⟨by omega, S0, rfl⟩)
      · refine (bX12_struck_0 l1).mpr ?_
        rw [mB e2 f2, e2]
        refine zn (nI_m1 (by omega)) (zy rfl ((bX12_struck_30 g2.1).mpr (zy rfl ?_)))
        have e1 : sBst (fun k => (zI σ 145 k).toInt) 1 = 0 := by
          unfold sBst
          exact if_neg (by show ¬ (zI σ 145 0).toInt < (zI σ 145 0).toInt; omega)
        have z := m_struck_l (d := 12) (Q := Q) (x := -1) (S := fun k => (zI σ 145 k).toInt) g2.1 (fun k hk => by rw [e145 f2]) (fun v hv => h v σ2 hv (zFr.refl _ _)) 15 1 (by omega) (by omega) (by omega)
        rw [e1] at z
        exact z
    · rcases a_cs x 16 with ⟨k, hk, rfl, -⟩ | hx
      · refine e_q g (zI σ 145 k).toInt (fun Q h => ?_) (fun σ1 σ2 Q l1 e2 g2 f2 h => ?_)
        · refine (bX11_struck_0 g.1).mpr (zn (by rw [g5]; decide) (zlt' (ai_n (by omega)) km1 (fun q => by omega) (fun _ => zlt' (ai_n (by omega)) k16 (fun _ => zn c ⟨vp_in_nI (by omega) (by decide), ?_⟩) (fun q => by omega))))
          rw [nI_clamp (by omega)]
          exact h _ σ (by rw [e15 k hk]) (zFr.refl _ _)
        · refine (bX12_struck_0 l1).mpr ?_
          rw [mB e2 f2, e2]
          refine zn (nI_m1 (by omega)) (zn c (m_isIn g2.1 ⟨rfl, (bX12_struck_25 g2.1).mpr (zt0 (fun _ => (bX12_struck_30 g2.1).mpr (zn c ⟨vp_in_nI (by omega) (by decide), ?_⟩)) (fun q => absurd (by rw [ai_n (by omega), k0, k15]; omega) q))⟩))
          rw [nI_clamp (by omega)]
          exact h _ σ2 (by rw [e145 f2]) (zFr.refl _ _)
      · have hx1 : ¬ x.toInt = -1 := fun q => c (zint q)
        refine e_q g (-1) (fun Q h => ?_) (fun σ1 σ2 Q l1 e2 g2 f2 h => ?_)
        · exact (bX11_struck_0 g.1).mpr (zn (by rw [g5]; decide) (zlt' rfl km1 (fun q => h _ σ km1 (zFr.refl _ _)) (fun q1 => zlt' rfl k16 (fun q2 => absurd ⟨by omega, q2⟩ hx) (fun _ => h _ σ km1 (zFr.refl _ _)))))
        · refine (bX12_struck_0 l1).mpr ?_
          rw [mB e2 f2, e2]
          exact zn (nI_m1 (by omega)) (zn c (m_isIn g2.1 ⟨rfl, (bX12_struck_25 g2.1).mpr (zt0 (fun q => absurd (by rw [k0, k15] at q; omega) hx) (fun _ => h _ σ2 km1 (zFr.refl _ _)))⟩))
  · refine e_q g (-1) (fun Q h => (bX11_struck_0 g.1).mpr (zy p9 (h _ σ km1 (zFr.refl _ _)))) (fun σ1 σ2 Q l1 e2 g2 f2 h => ?_)
    refine (bX12_struck_0 l1).mpr ?_
    rw [e2]
    exact zy (by rw [← m21, ← f2.i (show ¬ iSafe 0 131 21 by unfold iSafe; omega), ← e2, zI_self, pk_un (by decide)]) (h _ σ2 km1 (zFr.refl _ _))
end LOGS2
