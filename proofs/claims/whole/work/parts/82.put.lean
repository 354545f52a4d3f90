/-! a cell of a brook put, a brook copied -/
def bPut (B : aBk) (y x : Nat) (v : Int) : aBk := (fun y' x' => if y' = y ∧ x' = x then v else B.1 y' x', B.2)
theorem bPut_s {B : aBk} {y x : Nat} {v : Int} : (bPut B y x v).1 y x = v := if_pos ⟨rfl, rfl⟩
theorem bPut_n {B : aBk} {y x y' x' : Nat} {v : Int} (h : ¬ (y' = y ∧ x' = x)) : (bPut B y x v).1 y' x' = B.1 y' x' := if_neg h
theorem bPut_ok {B : aBk} {y x : Nat} {v : Int} (h : aBok B) (hv : 0 ≤ v ∧ v ≤ 10) : aBok (bPut B y x v) := by
  refine ⟨h.1, h.2.1, h.2.2.1, h.2.2.2.1, fun y' x' hy hx => ?_⟩
  by_cases c : y' = y ∧ x' = x
  · obtain ⟨e1, e2⟩ := c
    subst e1; subst e2
    rw [bPut_s]; exact hv
  · rw [bPut_n c]; exact h.2.2.2.2 y' x' hy hx
theorem p_1bit : ∀ y, y < 6 → ∀ k, k < 32 → bt ((1 : Int32) <<< (nI y &&& 31)) k = decide (k = y) := by decide +kernel
theorem p_0bit : ∀ y, y < 6 → ∀ k, k < 32 → bt (((1 : Int32) <<< (nI y &&& 31)) ^^^ (-1)) k = decide (¬ k = y) := by decide +kernel
theorem bt_or {m : Int32} {y k : Nat} (hy : y < 6) (hk : k < 32) : bt (m ||| ((1 : Int32) <<< (nI y &&& 31))) k = true ↔ (if k = y then True else bt m k = true) := by
  rw [b_or, p_1bit y hy k hk]
  by_cases e : k = y
  · rw [if_pos e]; simp [e]
  · rw [if_neg e]; simp [e]
theorem bt_and {m : Int32} {y k : Nat} (hy : y < 6) (hk : k < 32) : bt (m &&& (((1 : Int32) <<< (nI y &&& 31)) ^^^ (-1))) k = true ↔ (if k = y then False else bt m k = true) := by
  rw [b_and, p_0bit y hy k hk]
  by_cases e : k = y
  · rw [if_pos e]; simp [e]
  · rw [if_neg e]; simp [e]
theorem p_put_st {σ : zS} {b y x : Nat} {B : aBk} {v : Int} {c m2 m3 : Int32} (g : pBk σ b B) (hy : y < 6) (hx : x < 16) (hyB : (y : Int) < B.2.1) (hxB : (x : Int) < B.2.2) (hc : c.toInt = pCode v)
    (h2 : ∀ k, k < 32 → (bt m2 k = true ↔ if k = y then v = 0 else bt (zI σ (b + 2) x) k = true)) (h3 : ∀ k, k < 32 → (bt m3 k = true ↔ if k = y then v = 10 else bt (zI σ (b + 3) x) k = true)) :
    pBk (zsI (zsI (zsI σ (b + 1) (upd (zI σ (b + 1)) (16 * y + x) c)) (b + 2) (upd (zI σ (b + 2)) x m2)) (b + 3) (upd (zI σ (b + 3)) x m3)) b (bPut B y x v) := by
  obtain ⟨g0, g1, g2, g3, g4, g5⟩ := g
  have e0 : zI (zsI (zsI (zsI σ (b + 1) (upd (zI σ (b + 1)) (16 * y + x) c)) (b + 2) (upd (zI σ (b + 2)) x m2)) (b + 3) (upd (zI σ (b + 3)) x m3)) b = zI σ b := by rw [zI_ne (by omega), zI_ne (by omega), zI_ne (by omega)]
  have e1 : zI (zsI (zsI (zsI σ (b + 1) (upd (zI σ (b + 1)) (16 * y + x) c)) (b + 2) (upd (zI σ (b + 2)) x m2)) (b + 3) (upd (zI σ (b + 3)) x m3)) (b + 1) = upd (zI σ (b + 1)) (16 * y + x) c := by rw [zI_ne (by omega), zI_ne (by omega), zI_self]
  have e2 : zI (zsI (zsI (zsI σ (b + 1) (upd (zI σ (b + 1)) (16 * y + x) c)) (b + 2) (upd (zI σ (b + 2)) x m2)) (b + 3) (upd (zI σ (b + 3)) x m3)) (b + 2) = upd (zI σ (b + 2)) x m2 := by rw [zI_ne (by omega), zI_self]
  have e3 : zI (zsI (zsI (zsI σ (b + 1) (upd (zI σ (b + 1)) (16 * y + x) c)) (b + 2) (upd (zI σ (b + 2)) x m2)) (b + 3) (upd (zI σ (b + 3)) x m3)) (b + 3) = upd (zI σ (b + 3)) x m3 := zI_self
  refine ⟨g0, by rw [e0]; exact g1, by rw [e0]; exact g2, fun y' x' a1 a2 a3 a4 => ?_, fun x' k a1 a2 => ?_, fun x' k a1 a2 => ?_⟩
  · rw [e1]
    by_cases q : y' = y ∧ x' = x
    · obtain ⟨q1, q2⟩ := q
      subst q1; subst q2
      rw [pk_us, bPut_s]; exact hc
    · rw [pk_un (by omega), bPut_n q]
      exact g3 y' x' a1 a2 a3 a4
  · rw [e2]
    by_cases q : x' = x
    · subst q
      rw [pk_us, h2 k a2]
      by_cases q2 : k = y
      · subst q2
        rw [if_pos rfl, bPut_s]
        exact ⟨fun z => ⟨hyB, hxB, z⟩, fun z => z.2.2⟩
      · rw [if_neg q2, bPut_n (fun z => q2 z.1)]
        exact g4 _ k a1 a2
    · rw [pk_un q, bPut_n (fun z => q z.2)]
      exact g4 x' k a1 a2
  · rw [e3]
    by_cases q : x' = x
    · subst q
      rw [pk_us, h3 k a2]
      by_cases q2 : k = y
      · subst q2
        rw [if_pos rfl, bPut_s]
        exact ⟨fun z => ⟨hyB, hxB, z⟩, fun z => z.2.2⟩
      · rw [if_neg q2, bPut_n (fun z => q2 z.1)]
        exact g5 _ k a1 a2
    · rw [pk_un q, bPut_n (fun z => q z.2)]
      exact g5 x' k a1 a2
section PUT
variable {d : Nat} {Q : Option Value → zS → Prop} {σ : zS}
theorem p_put {b y x : Nat} {B : aBk} {v : Int} {c : Int32} (hl : zLay σ) (g : pBk σ b B) (hy : y < 6) (hx : x < 16) (hyB : (y : Int) < B.2.1) (hxB : (x : Int) < B.2.2) (hv : 0 ≤ v ∧ v ≤ 10) (hc : c.toInt = pCode v)
    (h : ∀ σ', pBk σ' b (bPut B y x v) → zFr (fun j c _ => j = 0 ∧ b + 1 ≤ c ∧ c ≤ b + 3) σ σ' → Q none σ') : zCall d kX0_put [.ref b, .int (nI x), .int (nI y), .int c] σ Q := by
  have g0 := g.1
  have ei : (16 * nI y + nI x : Int32) = nI (16 * y + x) := zint (by
    rw [zadd (zmul (show (16 : Int32).toInt = 16 from rfl) (ai_n (show y < 2147483648 by omega)) (by omega) (by omega)) (ai_n (by omega)) (by omega) (by omega), ai_n (by omega)]
    omega)
  have fr : ∀ m2 m3 : Int32, zFr (fun j c _ => j = 0 ∧ b + 1 ≤ c ∧ c ≤ b + 3) σ (zsI (zsI (zsI σ (b + 1) (upd (zI σ (b + 1)) (16 * y + x) c)) (b + 2) (upd (zI σ (b + 2)) x m2)) (b + 3) (upd (zI σ (b + 3)) x m3)) := fun m2 m3 => by
    have f1 : zFr (fun j c _ => j = 0 ∧ b + 1 ≤ c ∧ c ≤ b + 3) σ (zsI σ (b + 1) (upd (zI σ (b + 1)) (16 * y + x) c)) := zFr_U ⟨rfl, by omega, by omega⟩
    have f2 : zFr (fun j c _ => j = 0 ∧ b + 1 ≤ c ∧ c ≤ b + 3) (zsI σ (b + 1) (upd (zI σ (b + 1)) (16 * y + x) c)) (zsI (zsI σ (b + 1) (upd (zI σ (b + 1)) (16 * y + x) c)) (b + 2) (upd (zI σ (b + 2)) x m2)) := zFr_I (fun k => Or.inl ⟨rfl, by omega, by omega⟩)
    have f3 : zFr (fun j c _ => j = 0 ∧ b + 1 ≤ c ∧ c ≤ b + 3) (zsI (zsI σ (b + 1) (upd (zI σ (b + 1)) (16 * y + x) c)) (b + 2) (upd (zI σ (b + 2)) x m2)) (zsI (zsI (zsI σ (b + 1) (upd (zI σ (b + 1)) (16 * y + x) c)) (b + 2) (upd (zI σ (b + 2)) x m2)) (b + 3) (upd (zI σ (b + 3)) x m3)) := zFr_I (fun k => Or.inl ⟨rfl, by omega, by omega⟩)
    exact (f1.trans f2).trans f3
  have l1 : zLay (zsI σ (b + 1) (upd (zI σ (b + 1)) (16 * y + x) c)) := hl.I
  have z2 : zI (zsI σ (b + 1) (upd (zI σ (b + 1)) (16 * y + x) c)) (b + 2) = zI σ (b + 2) := zI_ne (by omega)
  have z3 : zI (zsI σ (b + 1) (upd (zI σ (b + 1)) (16 * y + x) c)) (b + 3) = zI σ (b + 3) := zI_ne (by omega)
  have cx : (nI x).toNatClampNeg = x := nI_clamp (by omega)
  have k64 : (64 : Int32).toInt = 64 := rfl
  have k111 : (111 : Int32).toInt = 111 := rfl
  refine (bX0_put_0 hl g0).mpr (zlt' (ai_n (by omega)) k0 (fun q => by omega) (fun _ => zle' (show (16 : Int32).toInt = 16 from rfl) (ai_n (by omega)) (fun q => by omega) (fun _ => zlt' (ai_n (by omega)) k0 (fun q => by omega) (fun _ => zlt' (ai_n (by omega)) k6 (fun _ => ?_) (fun q => by omega)))))
  rw [ei]
  refine ⟨vp_in_nI (by omega) (by decide), ?_⟩
  rw [nI_clamp (show 16 * y + x < 2 ^ 31 by omega), cx]
  have end_ : ∀ m2 : Int32, (∀ k, k < 32 → (bt m2 k = true ↔ if k = y then v = 0 else bt (zI σ (b + 2) x) k = true)) → zW d kX0_put 72 [.ref b, .int (nI x), .int (nI y), .int c, .int (1 <<< (nI y &&& 31))] [.int m2, .int (nI x), .ref (b + 2)] (zsI σ (b + 1) (upd (zI σ (b + 1)) (16 * y + x) c)) Q := fun m2 h2 => by
    refine (bX0_put_72 l1 g0).mpr ⟨vp_in_nI (by omega) (by decide), ?_⟩
    rw [cx, z2, z3]
    by_cases q10 : v = 10
    · refine zy (zint (by rw [hc, k64, q10]; rfl)) ⟨vp_in_nI (by omega) (by decide), vp_in_nI (by omega) (by decide), h _ (p_put_st g hy hx hyB hxB hc h2 (fun k hk => ?_)) (fr _ _)⟩
      rw [bt_or hy hk]
      by_cases e : k = y
      · rw [if_pos e, if_pos e]; exact ⟨fun _ => q10, fun _ => trivial⟩
      · rw [if_neg e, if_neg e]
    · refine zn (fun z => ?_) ⟨vp_in_nI (by omega) (by decide), vp_in_nI (by omega) (by decide), h _ (p_put_st g hy hx hyB hxB hc h2 (fun k hk => ?_)) (fr _ _)⟩
      · rw [z, k64] at hc
        unfold pCode at hc
        by_cases q0 : v = 0
        · rw [if_pos q0] at hc; omega
        · rw [if_neg q0, if_neg q10] at hc; omega
      · rw [bt_and hy hk]
        by_cases e : k = y
        · rw [if_pos e, if_pos e]; exact ⟨fun z => absurd z id, fun z => q10 z⟩
        · rw [if_neg e, if_neg e]
  by_cases q0 : v = 0
  · refine zy (zint (by rw [hc, k111, q0]; rfl)) ⟨vp_in_nI (by omega) (by decide), end_ _ (fun k hk => ?_)⟩
    rw [bt_or hy hk]
    by_cases e : k = y
    · rw [if_pos e, if_pos e]; exact ⟨fun _ => q0, fun _ => trivial⟩
    · rw [if_neg e, if_neg e]
  · refine zn (fun z => ?_) ⟨vp_in_nI (by omega) (by decide), end_ _ (fun k hk => ?_)⟩
    · rw [z, k111] at hc
      unfold pCode at hc
      rw [if_neg q0] at hc
      by_cases q10 : v = 10
      · rw [if_pos q10] at hc; omega
      · rw [if_neg q10] at hc; omega
    · rw [bt_and hy hk]
      by_cases e : k = y
      · rw [if_pos e, if_pos e]; exact ⟨fun z => absurd z id, fun z => q0 z⟩
      · rw [if_neg e, if_neg e]
theorem p_signAt {b y x : Nat} {B : aBk} (hl : zLay σ) (g : pBk σ b B) (hy : y < 6) (hx : x < 16) (hyB : (y : Int) < B.2.1) (hxB : (x : Int) < B.2.2) (h : ∀ c : Int32, c.toInt = pCode (B.1 y x) → Q (some (.int c)) σ) : zCall d kX0_signAt [.ref b, .int (nI x), .int (nI y)] σ Q := by
  have ei : (16 * nI y + nI x : Int32) = nI (16 * y + x) := zint (by
    rw [zadd (zmul (show (16 : Int32).toInt = 16 from rfl) (ai_n (show y < 2147483648 by omega)) (by omega) (by omega)) (ai_n (by omega)) (by omega) (by omega), ai_n (by omega)]
    omega)
  refine (bX0_signAt_0 hl g.1).mpr (zlt' (ai_n (by omega)) k0 (fun q => by omega) (fun _ => zle' (show (16 : Int32).toInt = 16 from rfl) (ai_n (by omega)) (fun q => by omega) (fun _ => zlt' (ai_n (by omega)) k0 (fun q => by omega) (fun _ => zlt' (ai_n (by omega)) k6 (fun _ => ?_) (fun q => by omega)))))
  rw [ei]
  refine ⟨vp_in_nI (by omega) (by decide), ?_⟩
  rw [nI_clamp (by omega)]
  exact h _ (g.2.2.2.1 y x hy hx hyB hxB)
theorem p_bcopy {b a : Nat} {B : aBk} (hl : zLay σ) (ha : zk a = 0) (g : pBk σ b B) (hne : a + 4 ≤ b ∨ b + 4 ≤ a) (h : ∀ σ', pBk σ' a B → zFr (fun j c _ => j = 0 ∧ a ≤ c ∧ c ≤ a + 3) σ σ' → Q none σ') : zCall (d + 1) kX0_copyFrom [.ref a, .ref b] σ Q := by
  obtain ⟨g0, g1, g2, g3, g4, g5⟩ := g
  have c96 : (96 : Int32).toNatClampNeg = 96 := by decide
  have c16 : (16 : Int32).toNatClampNeg = 16 := by decide
  refine (bX0_copyFrom_0 hl ha g0 hne).mpr ?_
  generalize hv1 : va_cpy (zI σ (b + 1)) (zI σ (a + 1)) (0 : Int32).toNatClampNeg (0 : Int32).toNatClampNeg (96 : Int32).toNatClampNeg = v1
  generalize hv2 : va_cpy (zI σ (b + 2)) (zI σ (a + 2)) (0 : Int32).toNatClampNeg (0 : Int32).toNatClampNeg (16 : Int32).toNatClampNeg = v2
  generalize hv3 : va_cpy (zI σ (b + 3)) (zI σ (a + 3)) (0 : Int32).toNatClampNeg (0 : Int32).toNatClampNeg (16 : Int32).toNatClampNeg = v3
  have w1 : ∀ k, k < 96 → v1 k = zI σ (b + 1) k := fun k hk => by rw [← hv1]; exact va_cpy0 (by rw [c96]; exact hk)
  have w2 : ∀ k, k < 16 → v2 k = zI σ (b + 2) k := fun k hk => by rw [← hv2]; exact va_cpy0 (by rw [c16]; exact hk)
  have w3 : ∀ k, k < 16 → v3 k = zI σ (b + 3) k := fun k hk => by rw [← hv3]; exact va_cpy0 (by rw [c16]; exact hk)
  clear hv1 hv2 hv3
  have e0 : zI (zsI (zsI (zsI (zsI σ a (upd (upd (zI σ a) 3 (zI σ b 3)) 4 (zI σ b 4))) (a + 1) v1) (a + 2) v2) (a + 3) v3) a = upd (upd (zI σ a) 3 (zI σ b 3)) 4 (zI σ b 4) := by rw [zI_ne (by omega), zI_ne (by omega), zI_ne (by omega), zI_self]
  have e1 : zI (zsI (zsI (zsI (zsI σ a (upd (upd (zI σ a) 3 (zI σ b 3)) 4 (zI σ b 4))) (a + 1) v1) (a + 2) v2) (a + 3) v3) (a + 1) = v1 := by rw [zI_ne (by omega), zI_ne (by omega), zI_self]
  have e2 : zI (zsI (zsI (zsI (zsI σ a (upd (upd (zI σ a) 3 (zI σ b 3)) 4 (zI σ b 4))) (a + 1) v1) (a + 2) v2) (a + 3) v3) (a + 2) = v2 := by rw [zI_ne (by omega), zI_self]
  have e3 : zI (zsI (zsI (zsI (zsI σ a (upd (upd (zI σ a) 3 (zI σ b 3)) 4 (zI σ b 4))) (a + 1) v1) (a + 2) v2) (a + 3) v3) (a + 3) = v3 := zI_self
  refine h _ ⟨ha, ?_, ?_, fun y x a1 a2 a3 a4 => ?_, fun x k a1 a2 => ?_, fun x k a1 a2 => ?_⟩ ((((zFr_I (fun k => Or.inl ⟨rfl, by omega, by omega⟩)).trans (zFr_I (fun k => Or.inl ⟨rfl, by omega, by omega⟩))).trans (zFr_I (fun k => Or.inl ⟨rfl, by omega, by omega⟩))).trans (zFr_I (fun k => Or.inl ⟨rfl, by omega, by omega⟩)))
  · rw [e0, pk_un (by decide), pk_us]; exact g1
  · rw [e0, pk_us]; exact g2
  · rw [e1, w1 _ (by omega)]; exact g3 y x a1 a2 a3 a4
  · rw [e2, w2 _ a1]; exact g4 x k a1 a2
  · rw [e3, w3 _ a1]; exact g5 x k a1 a2
end PUT
