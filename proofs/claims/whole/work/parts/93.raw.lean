/-! a brook half read: its cells so far -/
def pRw (σ : zS) (b : Nat) (D : Nat → Nat → Prop) (C : Nat → Nat → Int) : Prop := zk b = 0 ∧ (∀ y x : Nat, y < 6 → x < 16 → D y x → (zI σ (b + 1) (16 * y + x)).toInt = pCode (C y x)) ∧
  (∀ x k : Nat, x < 16 → k < 32 → (bt (zI σ (b + 2) x) k = true ↔ D k x ∧ C k x = 0)) ∧ (∀ x k : Nat, x < 16 → k < 32 → (bt (zI σ (b + 3) x) k = true ↔ D k x ∧ C k x = 10))
def rD (D : Nat → Nat → Prop) (y x : Nat) : Nat → Nat → Prop := fun y' x' => D y' x' ∨ (y' = y ∧ x' = x)
def rC (C : Nat → Nat → Int) (y x : Nat) (v : Int) : Nat → Nat → Int := fun y' x' => if y' = y ∧ x' = x then v else C y' x'
theorem rC_s {C : Nat → Nat → Int} {y x : Nat} {v : Int} : rC C y x v y x = v := if_pos ⟨rfl, rfl⟩
theorem rC_n {C : Nat → Nat → Int} {y x y' x' : Nat} {v : Int} (h : ¬ (y' = y ∧ x' = x)) : rC C y x v y' x' = C y' x' := if_neg h
theorem rD_n {D : Nat → Nat → Prop} {y x y' x' : Nat} (h : ¬ (y' = y ∧ x' = x)) : rD D y x y' x' ↔ D y' x' := ⟨fun z => z.resolve_right h, Or.inl⟩
theorem rD_s {D : Nat → Nat → Prop} {y x : Nat} : rD D y x y x := Or.inr ⟨rfl, rfl⟩
theorem pRw_c {σ : zS} {b : Nat} {D D' : Nat → Nat → Prop} {C : Nat → Nat → Int} (g : pRw σ b D C) (h : ∀ y x, D' y x ↔ D y x) : pRw σ b D' C := ⟨g.1, fun y x a b d => g.2.1 y x a b ((h y x).mp d), fun x k a b => by rw [h]; exact g.2.2.1 x k a b, fun x k a b => by rw [h]; exact g.2.2.2 x k a b⟩
theorem pRw_b {σ : zS} {b : Nat} {B : aBk} {D : Nat → Nat → Prop} (g : pRw σ b D B.1) (e1 : (zI σ b 3).toInt = B.2.1) (e2 : (zI σ b 4).toInt = B.2.2) (h : ∀ y x, D y x ↔ ((y : Int) < B.2.1 ∧ (x : Int) < B.2.2)) : pBk σ b B :=
  ⟨g.1, e1, e2, fun y x a b c d => g.2.1 y x a b ((h y x).mpr ⟨c, d⟩), fun x k a b => by rw [g.2.2.1 x k a b, h, and_assoc], fun x k a b => by rw [g.2.2.2 x k a b, h, and_assoc]⟩
theorem pRw_fr {W : Nat → Nat → Nat → Prop} {σ σ' : zS} {b : Nat} {D : Nat → Nat → Prop} {C : Nat → Nat → Int} (h : zFr W σ σ') (w : (∀ k, ¬ W 0 (b + 1) k) ∧ (∀ k, ¬ W 0 (b + 2) k) ∧ ∀ k, ¬ W 0 (b + 3) k) (g : pRw σ b D C) : pRw σ' b D C :=
  ⟨g.1, fun y x a c d => by rw [h.i (w.1 _)]; exact g.2.1 y x a c d, fun x k a c => by rw [h.i (w.2.1 _)]; exact g.2.2.1 x k a c, fun x k a c => by rw [h.i (w.2.2 _)]; exact g.2.2.2 x k a c⟩
theorem p_raw_st {σ : zS} {b y x : Nat} {D : Nat → Nat → Prop} {C : Nat → Nat → Int} {v : Int} {c m2 m3 : Int32} (g : pRw σ b D C) (hy : y < 6) (hx : x < 16) (hc : c.toInt = pCode v)
    (h2 : ∀ k, k < 32 → (bt m2 k = true ↔ if k = y then v = 0 else bt (zI σ (b + 2) x) k = true)) (h3 : ∀ k, k < 32 → (bt m3 k = true ↔ if k = y then v = 10 else bt (zI σ (b + 3) x) k = true)) :
    pRw (zsI (zsI (zsI σ (b + 1) (upd (zI σ (b + 1)) (16 * y + x) c)) (b + 2) (upd (zI σ (b + 2)) x m2)) (b + 3) (upd (zI σ (b + 3)) x m3)) b (rD D y x) (rC C y x v) := by
  obtain ⟨g0, g3, g4, g5⟩ := g
  have e1 : zI (zsI (zsI (zsI σ (b + 1) (upd (zI σ (b + 1)) (16 * y + x) c)) (b + 2) (upd (zI σ (b + 2)) x m2)) (b + 3) (upd (zI σ (b + 3)) x m3)) (b + 1) = upd (zI σ (b + 1)) (16 * y + x) c := by rw [zI_ne (by omega), zI_ne (by omega), zI_self]
  have e2 : zI (zsI (zsI (zsI σ (b + 1) (upd (zI σ (b + 1)) (16 * y + x) c)) (b + 2) (upd (zI σ (b + 2)) x m2)) (b + 3) (upd (zI σ (b + 3)) x m3)) (b + 2) = upd (zI σ (b + 2)) x m2 := by rw [zI_ne (by omega), zI_self]
  have e3 : zI (zsI (zsI (zsI σ (b + 1) (upd (zI σ (b + 1)) (16 * y + x) c)) (b + 2) (upd (zI σ (b + 2)) x m2)) (b + 3) (upd (zI σ (b + 3)) x m3)) (b + 3) = upd (zI σ (b + 3)) x m3 := zI_self
  refine ⟨g0, fun y' x' a1 a2 a3 => ?_, fun x' k a1 a2 => ?_, fun x' k a1 a2 => ?_⟩
  · rw [e1]
    by_cases q : y' = y ∧ x' = x
    · obtain ⟨q1, q2⟩ := q
      subst q1; subst q2
      rw [pk_us, rC_s]; exact hc
    · rw [pk_un (by omega), rC_n q]
      exact g3 y' x' a1 a2 ((rD_n q).mp a3)
  · rw [e2]
    by_cases q : x' = x
    · subst q
      rw [pk_us, h2 k a2]
      by_cases q2 : k = y
      · subst q2
        rw [if_pos rfl, rC_s]
        exact ⟨fun z => ⟨rD_s, z⟩, fun z => z.2⟩
      · rw [if_neg q2, rC_n (fun z => q2 z.1), rD_n (fun z => q2 z.1)]
        exact g4 _ k a1 a2
    · rw [pk_un q, rC_n (fun z => q z.2), rD_n (fun z => q z.2)]
      exact g4 x' k a1 a2
  · rw [e3]
    by_cases q : x' = x
    · subst q
      rw [pk_us, h3 k a2]
      by_cases q2 : k = y
      · subst q2
        rw [if_pos rfl, rC_s]
        exact ⟨fun z => ⟨rD_s, z⟩, fun z => z.2⟩
      · rw [if_neg q2, rC_n (fun z => q2 z.1), rD_n (fun z => q2 z.1)]
        exact g5 _ k a1 a2
    · rw [pk_un q, rC_n (fun z => q z.2), rD_n (fun z => q z.2)]
      exact g5 x' k a1 a2
section RAW
variable {d : Nat} {Q : Option Value → zS → Prop} {σ : zS}
theorem p_raw {b y x : Nat} {D : Nat → Nat → Prop} {C : Nat → Nat → Int} {v : Int} {c : Int32} (hl : zLay σ) (g : pRw σ b D C) (hy : y < 6) (hx : x < 16) (hv : 0 ≤ v ∧ v ≤ 10) (hc : c.toInt = pCode v)
    (h : ∀ σ', pRw σ' b (rD D y x) (rC C y x v) → zFr (fun j c _ => j = 0 ∧ b + 1 ≤ c ∧ c ≤ b + 3) σ σ' → Q none σ') : zCall d kX0_put [.ref b, .int (nI x), .int (nI y), .int c] σ Q := by
  have g0 := g.1
  have ei : (16 * nI y + nI x : Int32) = nI (16 * y + x) := zint (by
    rw [zadd (zmul (show (16 : Int32).toInt = 16 from rfl) (ai_n (show y < 2147483648 by omega)) (by omega) (by omega)) (ai_n (by omega)) (by omega) (by omega), ai_n (by omega)]
    omega)
  have fr : ∀ m2 m3 : Int32, zFr (fun j c _ => j = 0 ∧ b + 1 ≤ c ∧ c ≤ b + 3) σ (zsI (zsI (zsI σ (b + 1) (upd (zI σ (b + 1)) (16 * y + x) c)) (b + 2) (upd (zI σ (b + 2)) x m2)) (b + 3) (upd (zI σ (b + 3)) x m3)) := fun m2 m3 => by
    have f1 : zFr (fun j c _ => j = 0 ∧ b + 1 ≤ c ∧ c ≤ b + 3) σ (zsI σ (b + 1) (upd (zI σ (b + 1)) (16 * y + x) c)) := zFr_U ⟨rfl, by omega, by omega⟩
    have f2 : zFr (fun j c _ => j = 0 ∧ b + 1 ≤ c ∧ c ≤ b + 3) (zsI σ (b + 1) (upd (zI σ (b + 1)) (16 * y + x) c)) (zsI (zsI σ (b + 1) (upd (zI σ (b + 1)) (16 * y + x) c)) (b + 2) (upd (zI σ (b + 2)) x m2)) := zFr_I (fun k => Or.inl ⟨rfl, by omega, by omega⟩)
    have f3 : zFr (fun j c _ => j = 0 ∧ b + 1 ≤ c ∧ c ≤ b + 3) (zsI (zsI σ (b + 1) (upd (zI σ (b + 1)) (16 * y + x) c)) (b + 2) (upd (zI σ (b + 2)) x m2)) (zsI (zsI (zsI σ (b + 1) (upd (zI σ (b + 1)) (16 * y + x) c)) (b + 2) (upd (zI σ (b + 2)) x m2)) (b + 3) (upd (zI σ (b + 3)) x m3)) := zFr_I (fun k => Or.inl ⟨rfl, by omega, by omega⟩)
    exact (f1.trans f2).trans f3
  have l1 : zLay (zsI σ (b + 1) (upd (zI σ (b + 1)) (16 * y + x) c)) := hl.I
  have z2 : zI (zsI σ (b + 1) (upd (zI σ (b + 1)) (16 * y + x) c)) (b + 2) = zI σ (b + 2) := zI_ne (by omega)
  have z3 : zI (zsI σ (b + 1) (upd (zI σ (b + 1)) (16 * y + x) c)) (b + 3) = zI σ (b + 3) := zI_ne (by omega)
  have cx : (nI x).toNatClampNeg = x := nI_clamp (by omega)
  have k64 : (64 : Int32).toInt = 64 := rfl
  have k111 : (111 : Int32).toInt = 111 := rfl
  refine (bX0_put_0 hl g0).mpr (zlt' (ai_n (by omega)) k0 (fun q => by omega) (fun _ => zle' (show (16 : Int32).toInt = 16 from rfl) (ai_n (by omega)) (fun q => by omega) (fun _ => zlt' (ai_n (by omega)) k0 (fun q => by omega) (fun _ => zlt' (ai_n (by omega)) k6 (fun _ => ?_) (fun q => by omega)))))
  rw [ei]
  refine ⟨vp_in_nI (by omega) (by decide), ?_⟩
  rw [nI_clamp (show 16 * y + x < 2 ^ 31 by omega), cx]
  have end_ : ∀ m2 : Int32, (∀ k, k < 32 → (bt m2 k = true ↔ if k = y then v = 0 else bt (zI σ (b + 2) x) k = true)) → zW d kX0_put 72 [.ref b, .int (nI x), .int (nI y), .int c, .int (1 <<< (nI y &&& 31))] [.int m2, .int (nI x), .ref (b + 2)] (zsI σ (b + 1) (upd (zI σ (b + 1)) (16 * y + x) c)) Q := fun m2 h2 => by
    refine (bX0_put_72 l1 g0).mpr ⟨vp_in_nI (by omega) (by decide), ?_⟩
    rw [cx, z2, z3]
    by_cases q10 : v = 10
    · refine zy (zint (by rw [hc, k64, q10]; rfl)) ⟨vp_in_nI (by omega) (by decide), vp_in_nI (by omega) (by decide), h _ (p_raw_st g hy hx hc h2 (fun k hk => ?_)) (fr _ _)⟩
      rw [bt_or hy hk]
      by_cases e : k = y
      · rw [if_pos e, if_pos e]; exact ⟨fun _ => q10, fun _ => trivial⟩
      · rw [if_neg e, if_neg e]
    · refine zn (fun z => ?_) ⟨vp_in_nI (by omega) (by decide), vp_in_nI (by omega) (by decide), h _ (p_raw_st g hy hx hc h2 (fun k hk => ?_)) (fr _ _)⟩
      · rw [z, k64] at hc
        unfold pCode at hc
        by_cases q0 : v = 0
        · rw [if_pos q0] at hc; omega
        · rw [if_neg q0, if_neg q10] at hc; omega
      · rw [bt_and hy hk]
        by_cases e : k = y
        · rw [if_pos e, if_pos e]; exact ⟨fun z => absurd z id, fun z => q10 z⟩
        · rw [if_neg e, if_neg e]
  by_cases q0 : v = 0
  · refine zy (zint (by rw [hc, k111, q0]; rfl)) ⟨vp_in_nI (by omega) (by decide), end_ _ (fun k hk => ?_)⟩
    rw [bt_or hy hk]
    by_cases e : k = y
    · rw [if_pos e, if_pos e]; exact ⟨fun _ => q0, fun _ => trivial⟩
    · rw [if_neg e, if_neg e]
  · refine zn (fun z => ?_) ⟨vp_in_nI (by omega) (by decide), end_ _ (fun k hk => ?_)⟩
    · rw [z, k111] at hc
      unfold pCode at hc
      rw [if_neg q0] at hc
      by_cases q10 : v = 10
      · rw [if_pos q10] at hc; omega
      · rw [if_neg q10] at hc; omega
    · rw [bt_and hy hk]
      by_cases e : k = y
      · rw [if_pos e, if_pos e]; exact ⟨fun z => absurd z id, fun z => q0 z⟩
      · rw [if_neg e, if_neg e]
end RAW
