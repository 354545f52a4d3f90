/-! what a run comes to, and its rules -/
theorem zrun_succ : ∀ (f d : Nat) (K : zK) (pc : Nat) (ls st : List Value) (σ : zS) (x : Option Value × zS), zrun f d K pc ls st σ = some x → zrun (f + 1) d K pc ls st σ = some x := by
  intro f
  induction f with
  | zero => intro d K pc ls st σ x h; cases h
  | succ f ih =>
    intro d K pc ls st σ x h
    unfold zrun at h ⊢
    split at h
    · cases h
    · split at h
      · rename_i hn
        rw [if_pos hn]
        split at h
        · cases h
        · exact ih _ _ _ _ _ _ _ h
        · exact h
        · split at h
          · cases h
          · split at h
            · rename_i hk8
              simp only [if_pos hk8]
              split at h
              · split at h
                · rename_i hr
                  rw [ih _ _ _ _ _ _ _ hr]
                  split at h
                  · rename_i hq
                    simp only [if_pos hq]
                    exact ih _ _ _ _ _ _ _ h
                  · cases h
                · rename_i hr
                  rw [ih _ _ _ _ _ _ _ hr]
                  split at h
                  · rename_i hq
                    simp only [if_pos hq]
                    exact ih _ _ _ _ _ _ _ h
                  · cases h
                · cases h
              · cases h
            · rename_i hk8
              simp only [if_neg hk8]
              split at h
              · cases h
              · rename_i hr
                rw [ih _ _ _ _ _ _ _ hr]
                split at h
                · rename_i hq
                  simp only [if_pos hq]
                  exact ih _ _ _ _ _ _ _ h
                · cases h
      · cases h
theorem zrun_le {f g d : Nat} {K : zK} {pc : Nat} {ls st : List Value} {σ : zS} {x : Option Value × zS} (h : zrun f d K pc ls st σ = some x) (hg : f ≤ g) : zrun g d K pc ls st σ = some x := by
  induction hg with
  | refl => exact h
  | step _ ih => exact zrun_succ _ _ _ _ _ _ _ _ ih
def zW (d : Nat) (K : zK) (pc : Nat) (ls st : List Value) (σ : zS) (Q : Option Value → zS → Prop) : Prop := ∃ f r σ', zrun f d K pc ls st σ = some (r, σ') ∧ Q r σ'
def zCall (d : Nat) (K : zK) (as : List Value) (σ : zS) (Q : Option Value → zS → Prop) : Prop := zW d K 0 (zentry (zKmax K) as) [] σ Q
theorem zW.imp {d : Nat} {K : zK} {pc : Nat} {ls st : List Value} {σ : zS} {Q Q' : Option Value → zS → Prop} (h : zW d K pc ls st σ Q) (hq : ∀ r σ', Q r σ' → Q' r σ') : zW d K pc ls st σ Q' := by
  obtain ⟨f, r, σ', h1, h2⟩ := h
  exact ⟨f, r, σ', h1, hq _ _ h2⟩
section ZW
variable {d : Nat} {K : zK} {pc n : Nat} {i : Instr} {ls st : List Value} {σ : zS} {Q : Option Value → zS → Prop}
theorem zW_next (hd : decode (zKcode K) pc = .ok (i, n)) (hn : (n == zilen i || zilen i == 0) = true) {pc' : Nat} {ls' st' : List Value} {σ' : zS} (hs : zstep K i n d pc ls st σ = some (.inl (pc', ls', st', σ'))) : zW d K pc ls st σ Q ↔ zW d K pc' ls' st' σ' Q := by
  have e : ∀ f, zrun (f + 1) d K pc ls st σ = zrun f d K pc' ls' st' σ' := fun f => by
    conv => lhs; unfold zrun
    simp only [hd, hn, if_pos, hs]
  constructor
  · rintro ⟨f, r, σ2, h, hq⟩
    cases f with
    | zero => cases h
    | succ f => rw [e] at h; exact ⟨f, r, σ2, h, hq⟩
  · rintro ⟨f, r, σ2, h, hq⟩
    exact ⟨f + 1, r, σ2, by rw [e]; exact h, hq⟩
theorem zW_stuck (hd : decode (zKcode K) pc = .ok (i, n)) (hs : zstep K i n d pc ls st σ = none) : ¬ zW d K pc ls st σ Q := by
  rintro ⟨f, r, σ2, h, -⟩
  cases f with
  | zero => cases h
  | succ f =>
    unfold zrun at h
    simp only [hd, hs] at h
    split at h <;> cases h
theorem zW_ret (hd : decode (zKcode K) pc = .ok (i, n)) (hn : (n == zilen i || zilen i == 0) = true) {v : Option Value} (hs : zstep K i n d pc ls st σ = some (.inr (.inl v))) : zW d K pc ls st σ Q ↔ Q v σ := by
  have e : ∀ f, zrun (f + 1) d K pc ls st σ = some (v, σ) := fun f => by
    conv => lhs; unfold zrun
    simp only [hd, hn, if_pos, hs]
  constructor
  · rintro ⟨f, r, σ2, h, hq⟩
    cases f with
    | zero => cases h
    | succ f => rw [e] at h; cases h; exact hq
  · intro hq
    exact ⟨1, v, σ, e 0, hq⟩
theorem zW_call {K' : zK} {as rest : List Value} (hd : decode (zKcode K) pc = .ok (i, n)) (hn : (n == zilen i || zilen i == 0) = true) (hs : zstep K i n (d + 1) pc ls st σ = some (.inr (.inr (K', as, rest)))) (hk8 : ¬ zKkind K' = 8) :
    zW (d + 1) K pc ls st σ Q ↔ zCall d K' as σ (fun r σ' => zisN r = true ∧ zW (d + 1) K (pc + 3) ls (zRstk r ++ rest) σ' Q) := by
  constructor
  · rintro ⟨f, r, σ2, h, hq⟩
    cases f with
    | zero => cases h
    | succ f =>
      unfold zrun at h
      simp only [hd, hn, if_pos, hs, if_neg hk8] at h
      split at h
      · cases h
      · rename_i r1 σ1 hr
        split at h
        · rename_i hz
          exact ⟨f, r1, σ1, hr, hz, f, r, σ2, h, hq⟩
        · cases h
  · rintro ⟨f, r1, σ1, hr, hz, g, r, σ2, h, hq⟩
    refine ⟨max f g + 1, r, σ2, ?_, hq⟩
    conv => lhs; unfold zrun
    simp only [hd, hn, if_pos, hs, if_neg hk8, zrun_le hr (Nat.le_max_left f g), hz]
    exact zrun_le h (Nat.le_max_right f g)
-- the rules, an instruction each
theorem zw_iload_n {k0 : Fin 4} {x : Int32} (hd : decode (zKcode K) pc = .ok (.iload_n k0, 1)) (h : ls[(k0 : Nat)]? = some (.int x)) : zW d K pc ls st σ Q ↔ zW d K (pc + 1) ls (.int x :: st) σ Q := zW_next hd rfl (by show zld _ _ _ _ _ _ = _; unfold zld; rw [h]; rfl)
theorem zw_iload {k0 : Nat} {x : Int32} (hd : decode (zKcode K) pc = .ok (.iload k0, 2)) (h : ls[k0]? = some (.int x)) : zW d K pc ls st σ Q ↔ zW d K (pc + 2) ls (.int x :: st) σ Q := zW_next hd rfl (by show zld _ _ _ _ _ _ = _; unfold zld; rw [h]; rfl)
theorem zw_lload_n {k0 : Fin 4} {x : Int64} (hd : decode (zKcode K) pc = .ok (.lload_n k0, 1)) (h : ls[(k0 : Nat)]? = some (.long x)) : zW d K pc ls st σ Q ↔ zW d K (pc + 1) ls (.long x :: st) σ Q := zW_next hd rfl (by show zldL _ _ _ _ _ _ = _; unfold zldL; rw [h]; rfl)
theorem zw_lload {k0 : Nat} {x : Int64} (hd : decode (zKcode K) pc = .ok (.lload k0, 2)) (h : ls[k0]? = some (.long x)) : zW d K pc ls st σ Q ↔ zW d K (pc + 2) ls (.long x :: st) σ Q := zW_next hd rfl (by show zldL _ _ _ _ _ _ = _; unfold zldL; rw [h]; rfl)
theorem zw_aload_n {k0 : Fin 4} {x : Nat} (hd : decode (zKcode K) pc = .ok (.aload_n k0, 1)) (h : ls[(k0 : Nat)]? = some (.ref x)) : zW d K pc ls st σ Q ↔ zW d K (pc + 1) ls (.ref x :: st) σ Q := zW_next hd rfl (by show zldA _ _ _ _ _ _ = _; unfold zldA; rw [h]; rfl)
theorem zw_aload {k0 x : Nat} (hd : decode (zKcode K) pc = .ok (.aload k0, 2)) (h : ls[k0]? = some (.ref x)) : zW d K pc ls st σ Q ↔ zW d K (pc + 2) ls (.ref x :: st) σ Q := zW_next hd rfl (by show zldA _ _ _ _ _ _ = _; unfold zldA; rw [h]; rfl)
theorem zw_aload_nN {k0 : Fin 4} (hd : decode (zKcode K) pc = .ok (.aload_n k0, 1)) (h : ls[(k0 : Nat)]? = some .null) : zW d K pc ls st σ Q ↔ zW d K (pc + 1) ls (.null :: st) σ Q := zW_next hd rfl (by show zldA _ _ _ _ _ _ = _; unfold zldA; rw [h]; rfl)
theorem zw_istore_n {k0 : Fin 4} {x : Int32} {ls' : List Value} (hd : decode (zKcode K) pc = .ok (.istore_n k0, 1)) (h : zset ls k0 (.int x) = some ls') : zW d K pc ls (.int x :: st) σ Q ↔ zW d K (pc + 1) ls' st σ Q := zW_next hd rfl (by show (match zset ls k0 (.int x) with | some ls' => zgo (pc + 1) ls' st σ | none => none) = _; rw [h]; rfl)
theorem zw_istore {k0 : Nat} {x : Int32} {ls' : List Value} (hd : decode (zKcode K) pc = .ok (.istore k0, 2)) (h : zset ls k0 (.int x) = some ls') : zW d K pc ls (.int x :: st) σ Q ↔ zW d K (pc + 2) ls' st σ Q := zW_next hd rfl (by show (match zset ls k0 (.int x) with | some ls' => zgo (pc + 2) ls' st σ | none => none) = _; rw [h]; rfl)
theorem zw_astore_n {k0 : Fin 4} {x : Nat} {ls' : List Value} (hd : decode (zKcode K) pc = .ok (.astore_n k0, 1)) (h : zset ls k0 (.ref x) = some ls') : zW d K pc ls (.ref x :: st) σ Q ↔ zW d K (pc + 1) ls' st σ Q := zW_next hd rfl (by show (match zset ls k0 (.ref x) with | some ls' => zgo (pc + 1) ls' st σ | none => none) = _; rw [h]; rfl)
theorem zw_astore {k0 x : Nat} {ls' : List Value} (hd : decode (zKcode K) pc = .ok (.astore k0, 2)) (h : zset ls k0 (.ref x) = some ls') : zW d K pc ls (.ref x :: st) σ Q ↔ zW d K (pc + 2) ls' st σ Q := zW_next hd rfl (by show (match zset ls k0 (.ref x) with | some ls' => zgo (pc + 2) ls' st σ | none => none) = _; rw [h]; rfl)
theorem zw_iconst {v : Int} {x : Int32} (hd : decode (zKcode K) pc = .ok (.iconst v, 1)) (h : Int32.ofInt v = x) : zW d K pc ls st σ Q ↔ zW d K (pc + 1) ls (.int x :: st) σ Q := zW_next hd rfl (by subst h; rfl)
theorem zw_bipush {v : Int} {x : Int32} (hd : decode (zKcode K) pc = .ok (.bipush v, 2)) (h : (Int8.ofInt v).toInt32 = x) : zW d K pc ls st σ Q ↔ zW d K (pc + 2) ls (.int x :: st) σ Q := zW_next hd rfl (by subst h; rfl)
theorem zw_sipush {v : Int} {x : Int32} (hd : decode (zKcode K) pc = .ok (.sipush v, 3)) (h : (Int16.ofInt v).toInt32 = x) : zW d K pc ls st σ Q ↔ zW d K (pc + 3) ls (.int x :: st) σ Q := zW_next hd rfl (by subst h; rfl)
theorem zw_lconst {v : Fin 2} {x : Int64} (hd : decode (zKcode K) pc = .ok (.lconst v, 1)) (h : Int64.ofNat (v : Nat) = x) : zW d K pc ls st σ Q ↔ zW d K (pc + 1) ls (.long x :: st) σ Q := zW_next hd rfl (by subst h; rfl)
theorem zw_aconst_null (hd : decode (zKcode K) pc = .ok (.aconst_null, 1)) : zW d K pc ls st σ Q ↔ zW d K (pc + 1) ls (.null :: st) σ Q := zW_next hd rfl rfl
theorem zw_ldc {k0 : Nat} {x : Int32} (hd : decode (zKcode K) pc = .ok (.ldc k0, 2)) (h : zcon (zKci K) k0 = some x) : zW d K pc ls st σ Q ↔ zW d K (pc + 2) ls (.int x :: st) σ Q := zW_next hd rfl (by show (match zcon (zKci K) k0 with | some v => zgo (pc + 2) ls (.int v :: st) σ | none => none) = _; rw [h]; rfl)
theorem zw_ldc_w {k0 : Nat} {x : Int32} (hd : decode (zKcode K) pc = .ok (.ldc_w k0, 3)) (h : zcon (zKci K) k0 = some x) : zW d K pc ls st σ Q ↔ zW d K (pc + 3) ls (.int x :: st) σ Q := zW_next hd rfl (by show (match zcon (zKci K) k0 with | some v => zgo (pc + 3) ls (.int v :: st) σ | none => none) = _; rw [h]; rfl)
theorem zw_ldc2_w {k0 : Nat} {x : Int64} (hd : decode (zKcode K) pc = .ok (.ldc2_w k0, 3)) (h : zconL (zKci K) k0 = some x) : zW d K pc ls st σ Q ↔ zW d K (pc + 3) ls (.long x :: st) σ Q := zW_next hd rfl (by show (match zconL (zKci K) k0 with | some v => zgo (pc + 3) ls (.long v :: st) σ | none => none) = _; rw [h]; rfl)
theorem zw_iinc {k0 : Nat} {v : Int} {x w : Int32} {ls' : List Value} (hd : decode (zKcode K) pc = .ok (.iinc k0 v, 3)) (h : ls[k0]? = some (.int x)) (hv : Int32.ofInt v = w) (h2 : zset ls k0 (.int (x + w)) = some ls') : zW d K pc ls st σ Q ↔ zW d K (pc + 3) ls' st σ Q := zW_next hd rfl (by
  subst hv
  show (match ls[k0]? with
    | some (.int x) => (match zset ls k0 (.int (x + Int32.ofInt v)) with | some ls' => zgo (pc + 3) ls' st σ | none => none)
    | _ => none) = _
  rw [h]
  simp only [h2]
  rfl)
theorem zw_iadd {x y : Int32} (hd : decode (zKcode K) pc = .ok (.iadd, 1)) : zW d K pc ls (.int y :: .int x :: st) σ Q ↔ zW d K (pc + 1) ls (.int (x + y) :: st) σ Q := zW_next hd rfl rfl
theorem zw_isub {x y : Int32} (hd : decode (zKcode K) pc = .ok (.isub, 1)) : zW d K pc ls (.int y :: .int x :: st) σ Q ↔ zW d K (pc + 1) ls (.int (x - y) :: st) σ Q := zW_next hd rfl rfl
theorem zw_imul {x y : Int32} (hd : decode (zKcode K) pc = .ok (.imul, 1)) : zW d K pc ls (.int y :: .int x :: st) σ Q ↔ zW d K (pc + 1) ls (.int (x * y) :: st) σ Q := zW_next hd rfl rfl
theorem zw_iand {x y : Int32} (hd : decode (zKcode K) pc = .ok (.iand, 1)) : zW d K pc ls (.int y :: .int x :: st) σ Q ↔ zW d K (pc + 1) ls (.int (x &&& y) :: st) σ Q := zW_next hd rfl rfl
theorem zw_ior {x y : Int32} (hd : decode (zKcode K) pc = .ok (.ior, 1)) : zW d K pc ls (.int y :: .int x :: st) σ Q ↔ zW d K (pc + 1) ls (.int (x ||| y) :: st) σ Q := zW_next hd rfl rfl
theorem zw_ixor {x y : Int32} (hd : decode (zKcode K) pc = .ok (.ixor, 1)) : zW d K pc ls (.int y :: .int x :: st) σ Q ↔ zW d K (pc + 1) ls (.int (x ^^^ y) :: st) σ Q := zW_next hd rfl rfl
theorem zw_ishl {x y : Int32} (hd : decode (zKcode K) pc = .ok (.ishl, 1)) : zW d K pc ls (.int y :: .int x :: st) σ Q ↔ zW d K (pc + 1) ls (.int (x <<< (y &&& 31)) :: st) σ Q := zW_next hd rfl rfl
theorem zw_ishr {x y : Int32} (hd : decode (zKcode K) pc = .ok (.ishr, 1)) : zW d K pc ls (.int y :: .int x :: st) σ Q ↔ zW d K (pc + 1) ls (.int (x >>> (y &&& 31)) :: st) σ Q := zW_next hd rfl rfl
theorem zw_iushr {x y : Int32} (hd : decode (zKcode K) pc = .ok (.iushr, 1)) : zW d K pc ls (.int y :: .int x :: st) σ Q ↔ zW d K (pc + 1) ls (.int ((x.toUInt32 >>> (y.toUInt32 &&& Int32.toUInt32 31)).toInt32) :: st) σ Q := zW_next hd rfl rfl
theorem zw_ineg {x : Int32} (hd : decode (zKcode K) pc = .ok (.ineg, 1)) : zW d K pc ls (.int x :: st) σ Q ↔ zW d K (pc + 1) ls (.int (-x) :: st) σ Q := zW_next hd rfl rfl
theorem zw_idiv {x y : Int32} (hd : decode (zKcode K) pc = .ok (.idiv, 1)) : zW d K pc ls (.int y :: .int x :: st) σ Q ↔ (¬ y = 0 ∧ zW d K (pc + 1) ls (.int (x / y) :: st) σ Q) := by
  by_cases hy : y = 0
  · exact ⟨fun h => absurd h (zW_stuck hd (by show (if y = 0 then none else _) = _; rw [if_pos hy])), fun h => absurd hy h.1⟩
  · exact (zW_next hd rfl (by show (if y = 0 then none else _) = _; rw [if_neg hy]; rfl)).trans ⟨fun h => ⟨hy, h⟩, fun h => h.2⟩
theorem zw_irem {x y : Int32} (hd : decode (zKcode K) pc = .ok (.irem, 1)) : zW d K pc ls (.int y :: .int x :: st) σ Q ↔ (¬ y = 0 ∧ zW d K (pc + 1) ls (.int (x - x / y * y) :: st) σ Q) := by
  by_cases hy : y = 0
  · exact ⟨fun h => absurd h (zW_stuck hd (by show (if y = 0 then none else _) = _; rw [if_pos hy])), fun h => absurd hy h.1⟩
  · exact (zW_next hd rfl (by show (if y = 0 then none else _) = _; rw [if_neg hy]; rfl)).trans ⟨fun h => ⟨hy, h⟩, fun h => h.2⟩
theorem zw_lrem {x y : Int64} (hd : decode (zKcode K) pc = .ok (.lrem, 1)) : zW d K pc ls (.long y :: .long x :: st) σ Q ↔ (¬ y = 0 ∧ zW d K (pc + 1) ls (.long (x - x / y * y) :: st) σ Q) := by
  by_cases hy : y = 0
  · exact ⟨fun h => absurd h (zW_stuck hd (by show (if y = 0 then none else _) = _; rw [if_pos hy])), fun h => absurd hy h.1⟩
  · exact (zW_next hd rfl (by show (if y = 0 then none else _) = _; rw [if_neg hy]; rfl)).trans ⟨fun h => ⟨hy, h⟩, fun h => h.2⟩
theorem zw_ladd {x y : Int64} (hd : decode (zKcode K) pc = .ok (.ladd, 1)) : zW d K pc ls (.long y :: .long x :: st) σ Q ↔ zW d K (pc + 1) ls (.long (x + y) :: st) σ Q := zW_next hd rfl rfl
theorem zw_lmul {x y : Int64} (hd : decode (zKcode K) pc = .ok (.lmul, 1)) : zW d K pc ls (.long y :: .long x :: st) σ Q ↔ zW d K (pc + 1) ls (.long (x * y) :: st) σ Q := zW_next hd rfl rfl
theorem zw_land {x y : Int64} (hd : decode (zKcode K) pc = .ok (.land, 1)) : zW d K pc ls (.long y :: .long x :: st) σ Q ↔ zW d K (pc + 1) ls (.long (x &&& y) :: st) σ Q := zW_next hd rfl rfl
theorem zw_lor {x y : Int64} (hd : decode (zKcode K) pc = .ok (.lor, 1)) : zW d K pc ls (.long y :: .long x :: st) σ Q ↔ zW d K (pc + 1) ls (.long (x ||| y) :: st) σ Q := zW_next hd rfl rfl
theorem zw_lshl {x : Int64} {y : Int32} (hd : decode (zKcode K) pc = .ok (.lshl, 1)) : zW d K pc ls (.int y :: .long x :: st) σ Q ↔ zW d K (pc + 1) ls (.long (x <<< (y.toInt64 &&& 63)) :: st) σ Q := zW_next hd rfl rfl
theorem zw_lushr {x : Int64} {y : Int32} (hd : decode (zKcode K) pc = .ok (.lushr, 1)) : zW d K pc ls (.int y :: .long x :: st) σ Q ↔ zW d K (pc + 1) ls (.long (x.toUInt64 >>> (y.toInt64.toUInt64 &&& Int64.toUInt64 63)).toInt64 :: st) σ Q := zW_next hd rfl rfl
theorem zw_lcmp {x y : Int64} (hd : decode (zKcode K) pc = .ok (.lcmp, 1)) : zW d K pc ls (.long y :: .long x :: st) σ Q ↔ zW d K (pc + 1) ls (.int (lg_cmp x y) :: st) σ Q := zW_next hd rfl rfl
theorem zw_i2l {x : Int32} (hd : decode (zKcode K) pc = .ok (.i2l, 1)) : zW d K pc ls (.int x :: st) σ Q ↔ zW d K (pc + 1) ls (.long x.toInt64 :: st) σ Q := zW_next hd rfl rfl
theorem zw_l2i {x : Int64} (hd : decode (zKcode K) pc = .ok (.l2i, 1)) : zW d K pc ls (.long x :: st) σ Q ↔ zW d K (pc + 1) ls (.int x.toInt32 :: st) σ Q := zW_next hd rfl rfl
theorem zw_i2b {x : Int32} (hd : decode (zKcode K) pc = .ok (.i2b, 1)) : zW d K pc ls (.int x :: st) σ Q ↔ zW d K (pc + 1) ls (.int x.toInt8.toInt32 :: st) σ Q := zW_next hd rfl rfl
theorem zw_dup {v : Value} (hd : decode (zKcode K) pc = .ok (.dup, 1)) (hv : v.category = 1) : zW d K pc ls (v :: st) σ Q ↔ zW d K (pc + 1) ls (v :: v :: st) σ Q := zW_next hd rfl (by show (if v.category = 1 then _ else _) = _; rw [if_pos hv]; rfl)
theorem zw_dup_x1 {v w : Value} (hd : decode (zKcode K) pc = .ok (.dup_x1, 1)) (hv : v.category = 1 ∧ w.category = 1) : zW d K pc ls (v :: w :: st) σ Q ↔ zW d K (pc + 1) ls (v :: w :: v :: st) σ Q := zW_next hd rfl (by show (if v.category = 1 ∧ w.category = 1 then _ else _) = _; rw [if_pos hv]; rfl)
theorem zw_dup2 {v w : Value} (hd : decode (zKcode K) pc = .ok (.dup2, 1)) (hv : v.category = 1 ∧ w.category = 1) : zW d K pc ls (v :: w :: st) σ Q ↔ zW d K (pc + 1) ls (v :: w :: v :: w :: st) σ Q := zW_next hd rfl (by show (if v.category = 1 ∧ w.category = 1 then _ else _) = _; rw [if_pos hv]; rfl)
theorem zw_goto {off : Int} {t : Nat} (hd : decode (zKcode K) pc = .ok (.goto off, 3)) (ht : zbr pc off = some t) : zW d K pc ls st σ Q ↔ zW d K t ls st σ Q := zW_next hd rfl (by show zjmp _ _ _ _ _ = _; unfold zjmp; rw [ht]; rfl)
theorem zw_icmp_eq {x y : Int32} {off : Int} {t : Nat} (hd : decode (zKcode K) pc = .ok (.if_icmp .eq off, 3)) (ht : zbr pc off = some t) : zW d K pc ls (.int y :: .int x :: st) σ Q ↔ (if x = y then zW d K t ls st σ Q else zW d K (pc + 3) ls st σ Q) := by
  by_cases h : x = y
  · rw [if_pos h]
    exact zW_next hd rfl (by show (match zbr pc off with | some t => zicmp .eq x y pc t ls st σ | none => none) = _; rw [ht]; show (if _ then _ else _) = _; rw [if_pos h]; rfl)
  · rw [if_neg h]
    exact zW_next hd rfl (by show (match zbr pc off with | some t => zicmp .eq x y pc t ls st σ | none => none) = _; rw [ht]; show (if _ then _ else _) = _; rw [if_neg h]; rfl)
theorem zw_if_eq {x : Int32} {off : Int} {t : Nat} (hd : decode (zKcode K) pc = .ok (.ifCond .eq off, 3)) (ht : zbr pc off = some t) : zW d K pc ls (.int x :: st) σ Q ↔ (if x = (0 : Int32) then zW d K t ls st σ Q else zW d K (pc + 3) ls st σ Q) := by
  by_cases h : x = (0 : Int32)
  · rw [if_pos h]
    exact zW_next hd rfl (by show (match zbr pc off with | some t => zicmp .eq x 0 pc t ls st σ | none => none) = _; rw [ht]; show (if _ then _ else _) = _; rw [if_pos h]; rfl)
  · rw [if_neg h]
    exact zW_next hd rfl (by show (match zbr pc off with | some t => zicmp .eq x 0 pc t ls st σ | none => none) = _; rw [ht]; show (if _ then _ else _) = _; rw [if_neg h]; rfl)
theorem zw_icmp_ne {x y : Int32} {off : Int} {t : Nat} (hd : decode (zKcode K) pc = .ok (.if_icmp .ne off, 3)) (ht : zbr pc off = some t) : zW d K pc ls (.int y :: .int x :: st) σ Q ↔ (if x = y then zW d K (pc + 3) ls st σ Q else zW d K t ls st σ Q) := by
  by_cases h : x = y
  · rw [if_pos h]
    exact zW_next hd rfl (by show (match zbr pc off with | some t => zicmp .ne x y pc t ls st σ | none => none) = _; rw [ht]; show (if _ then _ else _) = _; rw [if_pos h]; rfl)
  · rw [if_neg h]
    exact zW_next hd rfl (by show (match zbr pc off with | some t => zicmp .ne x y pc t ls st σ | none => none) = _; rw [ht]; show (if _ then _ else _) = _; rw [if_neg h]; rfl)
theorem zw_if_ne {x : Int32} {off : Int} {t : Nat} (hd : decode (zKcode K) pc = .ok (.ifCond .ne off, 3)) (ht : zbr pc off = some t) : zW d K pc ls (.int x :: st) σ Q ↔ (if x = (0 : Int32) then zW d K (pc + 3) ls st σ Q else zW d K t ls st σ Q) := by
  by_cases h : x = (0 : Int32)
  · rw [if_pos h]
    exact zW_next hd rfl (by show (match zbr pc off with | some t => zicmp .ne x 0 pc t ls st σ | none => none) = _; rw [ht]; show (if _ then _ else _) = _; rw [if_pos h]; rfl)
  · rw [if_neg h]
    exact zW_next hd rfl (by show (match zbr pc off with | some t => zicmp .ne x 0 pc t ls st σ | none => none) = _; rw [ht]; show (if _ then _ else _) = _; rw [if_neg h]; rfl)
theorem zw_icmp_lt {x y : Int32} {off : Int} {t : Nat} (hd : decode (zKcode K) pc = .ok (.if_icmp .lt off, 3)) (ht : zbr pc off = some t) : zW d K pc ls (.int y :: .int x :: st) σ Q ↔ (if x < y then zW d K t ls st σ Q else zW d K (pc + 3) ls st σ Q) := by
  by_cases h : x < y
  · rw [if_pos h]
    exact zW_next hd rfl (by show (match zbr pc off with | some t => zicmp .lt x y pc t ls st σ | none => none) = _; rw [ht]; show (if _ then _ else _) = _; rw [if_pos h]; rfl)
  · rw [if_neg h]
    exact zW_next hd rfl (by show (match zbr pc off with | some t => zicmp .lt x y pc t ls st σ | none => none) = _; rw [ht]; show (if _ then _ else _) = _; rw [if_neg h]; rfl)
theorem zw_if_lt {x : Int32} {off : Int} {t : Nat} (hd : decode (zKcode K) pc = .ok (.ifCond .lt off, 3)) (ht : zbr pc off = some t) : zW d K pc ls (.int x :: st) σ Q ↔ (if x < (0 : Int32) then zW d K t ls st σ Q else zW d K (pc + 3) ls st σ Q) := by
  by_cases h : x < (0 : Int32)
  · rw [if_pos h]
    exact zW_next hd rfl (by show (match zbr pc off with | some t => zicmp .lt x 0 pc t ls st σ | none => none) = _; rw [ht]; show (if _ then _ else _) = _; rw [if_pos h]; rfl)
  · rw [if_neg h]
    exact zW_next hd rfl (by show (match zbr pc off with | some t => zicmp .lt x 0 pc t ls st σ | none => none) = _; rw [ht]; show (if _ then _ else _) = _; rw [if_neg h]; rfl)
theorem zw_icmp_ge {x y : Int32} {off : Int} {t : Nat} (hd : decode (zKcode K) pc = .ok (.if_icmp .ge off, 3)) (ht : zbr pc off = some t) : zW d K pc ls (.int y :: .int x :: st) σ Q ↔ (if y ≤ x then zW d K t ls st σ Q else zW d K (pc + 3) ls st σ Q) := by
  by_cases h : y ≤ x
  · rw [if_pos h]
    exact zW_next hd rfl (by show (match zbr pc off with | some t => zicmp .ge x y pc t ls st σ | none => none) = _; rw [ht]; show (if _ then _ else _) = _; rw [if_pos h]; rfl)
  · rw [if_neg h]
    exact zW_next hd rfl (by show (match zbr pc off with | some t => zicmp .ge x y pc t ls st σ | none => none) = _; rw [ht]; show (if _ then _ else _) = _; rw [if_neg h]; rfl)
theorem zw_if_ge {x : Int32} {off : Int} {t : Nat} (hd : decode (zKcode K) pc = .ok (.ifCond .ge off, 3)) (ht : zbr pc off = some t) : zW d K pc ls (.int x :: st) σ Q ↔ (if (0 : Int32) ≤ x then zW d K t ls st σ Q else zW d K (pc + 3) ls st σ Q) := by
  by_cases h : (0 : Int32) ≤ x
  · rw [if_pos h]
    exact zW_next hd rfl (by show (match zbr pc off with | some t => zicmp .ge x 0 pc t ls st σ | none => none) = _; rw [ht]; show (if _ then _ else _) = _; rw [if_pos h]; rfl)
  · rw [if_neg h]
    exact zW_next hd rfl (by show (match zbr pc off with | some t => zicmp .ge x 0 pc t ls st σ | none => none) = _; rw [ht]; show (if _ then _ else _) = _; rw [if_neg h]; rfl)
theorem zw_icmp_gt {x y : Int32} {off : Int} {t : Nat} (hd : decode (zKcode K) pc = .ok (.if_icmp .gt off, 3)) (ht : zbr pc off = some t) : zW d K pc ls (.int y :: .int x :: st) σ Q ↔ (if y < x then zW d K t ls st σ Q else zW d K (pc + 3) ls st σ Q) := by
  by_cases h : y < x
  · rw [if_pos h]
    exact zW_next hd rfl (by show (match zbr pc off with | some t => zicmp .gt x y pc t ls st σ | none => none) = _; rw [ht]; show (if _ then _ else _) = _; rw [if_pos h]; rfl)
  · rw [if_neg h]
    exact zW_next hd rfl (by show (match zbr pc off with | some t => zicmp .gt x y pc t ls st σ | none => none) = _; rw [ht]; show (if _ then _ else _) = _; rw [if_neg h]; rfl)
theorem zw_if_gt {x : Int32} {off : Int} {t : Nat} (hd : decode (zKcode K) pc = .ok (.ifCond .gt off, 3)) (ht : zbr pc off = some t) : zW d K pc ls (.int x :: st) σ Q ↔ (if (0 : Int32) < x then zW d K t ls st σ Q else zW d K (pc + 3) ls st σ Q) := by
  by_cases h : (0 : Int32) < x
  · rw [if_pos h]
    exact zW_next hd rfl (by show (match zbr pc off with | some t => zicmp .gt x 0 pc t ls st σ | none => none) = _; rw [ht]; show (if _ then _ else _) = _; rw [if_pos h]; rfl)
  · rw [if_neg h]
    exact zW_next hd rfl (by show (match zbr pc off with | some t => zicmp .gt x 0 pc t ls st σ | none => none) = _; rw [ht]; show (if _ then _ else _) = _; rw [if_neg h]; rfl)
theorem zw_icmp_le {x y : Int32} {off : Int} {t : Nat} (hd : decode (zKcode K) pc = .ok (.if_icmp .le off, 3)) (ht : zbr pc off = some t) : zW d K pc ls (.int y :: .int x :: st) σ Q ↔ (if x ≤ y then zW d K t ls st σ Q else zW d K (pc + 3) ls st σ Q) := by
  by_cases h : x ≤ y
  · rw [if_pos h]
    exact zW_next hd rfl (by show (match zbr pc off with | some t => zicmp .le x y pc t ls st σ | none => none) = _; rw [ht]; show (if _ then _ else _) = _; rw [if_pos h]; rfl)
  · rw [if_neg h]
    exact zW_next hd rfl (by show (match zbr pc off with | some t => zicmp .le x y pc t ls st σ | none => none) = _; rw [ht]; show (if _ then _ else _) = _; rw [if_neg h]; rfl)
theorem zw_if_le {x : Int32} {off : Int} {t : Nat} (hd : decode (zKcode K) pc = .ok (.ifCond .le off, 3)) (ht : zbr pc off = some t) : zW d K pc ls (.int x :: st) σ Q ↔ (if x ≤ (0 : Int32) then zW d K t ls st σ Q else zW d K (pc + 3) ls st σ Q) := by
  by_cases h : x ≤ (0 : Int32)
  · rw [if_pos h]
    exact zW_next hd rfl (by show (match zbr pc off with | some t => zicmp .le x 0 pc t ls st σ | none => none) = _; rw [ht]; show (if _ then _ else _) = _; rw [if_pos h]; rfl)
  · rw [if_neg h]
    exact zW_next hd rfl (by show (match zbr pc off with | some t => zicmp .le x 0 pc t ls st σ | none => none) = _; rw [ht]; show (if _ then _ else _) = _; rw [if_neg h]; rfl)
theorem zw_acmp_eq {x y : Nat} {off : Int} {t : Nat} (hd : decode (zKcode K) pc = .ok (.if_acmp .eq off, 3)) (ht : zbr pc off = some t) (hq : zkind σ x < 13 ∧ x < znum σ ∧ zkind σ y < 13 ∧ y < znum σ) : zW d K pc ls (.ref y :: .ref x :: st) σ Q ↔ (if x = y then zW d K t ls st σ Q else zW d K (pc + 3) ls st σ Q) := by
  have e : zstep K (.if_acmp .eq off) 3 d pc ls (.ref y :: .ref x :: st) σ = (match zbr pc off, (Value.ref y :: Value.ref x :: st) with
    | some t, .ref y :: .ref x :: r => if zkind σ x < 13 ∧ x < znum σ ∧ zkind σ y < 13 ∧ y < znum σ then (if x = y then zgo t ls r σ else zgo (pc + 3) ls r σ) else none
    | some _, .ref _ :: .null :: r => zgo (pc + 3) ls r σ
    | some _, .null :: .ref _ :: r => zgo (pc + 3) ls r σ
    | _, _ => none) := rfl
  rw [ht] at e
  simp only [if_pos hq] at e
  by_cases h : x = y
  · rw [if_pos h] at e ⊢
    exact zW_next hd rfl e
  · rw [if_neg h] at e ⊢
    exact zW_next hd rfl e
theorem zw_acmp_eqN {x : Nat} {off : Int} {t : Nat} (hd : decode (zKcode K) pc = .ok (.if_acmp .eq off, 3)) (ht : zbr pc off = some t) : zW d K pc ls (.null :: .ref x :: st) σ Q ↔ zW d K (pc + 3) ls st σ Q := by
  have e : zstep K (.if_acmp .eq off) 3 d pc ls (.null :: .ref x :: st) σ = (match zbr pc off, (Value.null :: Value.ref x :: st) with
    | some t, .ref y :: .ref x :: r => if zkind σ x < 13 ∧ x < znum σ ∧ zkind σ y < 13 ∧ y < znum σ then (if x = y then zgo t ls r σ else zgo (pc + 3) ls r σ) else none
    | some _, .ref _ :: .null :: r => zgo (pc + 3) ls r σ
    | some _, .null :: .ref _ :: r => zgo (pc + 3) ls r σ
    | _, _ => none) := rfl
  rw [ht] at e
  exact zW_next hd rfl e
theorem zw_tableOut {dflt lo hi : Int} {offs : Array Int} {n t : Nat} {x : Int32} (hd : decode (zKcode K) pc = .ok (.tableswitch dflt lo hi offs, n)) (h : x.toInt < lo ∨ hi < x.toInt) (ht : zbr pc dflt = some t) : zW d K pc ls (.int x :: st) σ Q ↔ zW d K t ls st σ Q := zW_next hd (by simp [zilen]) (by
  show (if x.toInt < lo ∨ hi < x.toInt then zjmp pc dflt ls st σ else _) = _
  rw [if_pos h]
  unfold zjmp
  rw [ht]
  rfl)
theorem zw_tableIn {dflt lo hi off : Int} {offs : Array Int} {n t : Nat} {x : Int32} (hd : decode (zKcode K) pc = .ok (.tableswitch dflt lo hi offs, n)) (h1 : ¬ x.toInt < lo) (h2 : ¬ hi < x.toInt) (ho : offs[(x.toInt - lo).toNat]? = some off) (ht : zbr pc off = some t) : zW d K pc ls (.int x :: st) σ Q ↔ zW d K t ls st σ Q := zW_next hd (by simp [zilen]) (by
  show (if x.toInt < lo ∨ hi < x.toInt then zjmp pc dflt ls st σ else (match offs[(x.toInt - lo).toNat]? with | some off => zjmp pc off ls st σ | none => none)) = _
  rw [if_neg (by omega), ho]
  show zjmp pc off ls st σ = _
  unfold zjmp
  rw [ht]
  rfl)
-- fields
theorem zw_get {k0 tc sl a : Nat} {v : Value} (hd : decode (zKcode K) pc = .ok (.getfield k0, 3)) (hf : zfld (zKci K) k0 = some (tc, sl)) (hk : zkind σ a = tc) (hn : a < znum σ) (hg : zget σ a sl (zty tc sl) = some v) : zW d K pc ls (.ref a :: st) σ Q ↔ zW d K (pc + 3) ls (v :: st) σ Q := zW_next hd rfl (by
  show (match zfld (zKci K) k0, (Value.ref a :: st) with
    | some (tc, sl), .ref a :: r => if zkind σ a = tc ∧ a < znum σ then (match zget σ a sl (zty tc sl) with | some v => zgo (pc + 3) ls (v :: r) σ | none => none) else none
    | _, _ => none) = _
  rw [hf]
  simp only [hk, hn, and_self, if_pos, hg]
  rfl)
theorem zgetR {σ : zS} {c k v : Nat} {ty : FieldType} (h : zR σ c k = some v) (ht : (match ty with | .object _ => true | .array _ => true | _ => false) = true) : zget σ c k ty = some (.ref v) := by
  cases ty <;> first | (cases ht; done) | (show some (va_rf (zR σ c k)) = _; rw [h]; rfl)
theorem zw_put {k0 tc sl a : Nat} {v : Value} {σ' : zS} (hd : decode (zKcode K) pc = .ok (.putfield k0, 3)) (hf : zfld (zKci K) k0 = some (tc, sl)) (hk : zkind σ a = tc) (hn : a < znum σ) (hfin : (zT tc sl).2.2.2 = false) (hp : zput σ a sl (zty tc sl) v = some σ') : zW d K pc ls (v :: .ref a :: st) σ Q ↔ zW d K (pc + 3) ls st σ' Q := zW_next hd rfl (by
  show (match zfld (zKci K) k0, (v :: Value.ref a :: st) with
    | some (tc, sl), v :: .ref a :: r => if zkind σ a = tc ∧ a < znum σ ∧ ((zT tc sl).2.2.2 = false ∨ (zKkind K = 2 ∧ (zT tc sl).1 = zC (zKci K))) then (match zput σ a sl (zty tc sl) v with | some σ' => zgo (pc + 3) ls r σ' | none => none) else none
    | _, _ => none) = _
  rw [hf]
  simp only [hk, hn, hfin, true_or, and_self, if_pos, hp]
  rfl)
theorem zw_putZ {k0 tc sl a : Nat} {x : Int32} (hd : decode (zKcode K) pc = .ok (.putfield k0, 3)) (hf : zfld (zKci K) k0 = some (tc, sl)) (hk : zkind σ a = tc) (hn : a < znum σ) (hfin : (zT tc sl).2.2.2 = false) (ht : zty tc sl = .boolean) : zW d K pc ls (.int x :: .ref a :: st) σ Q ↔ ((x = 0 ∨ x = 1) ∧ zW d K (pc + 3) ls st (zsI σ a (upd (zI σ a) sl x)) Q) := by
  by_cases hx : x = 0 ∨ x = 1
  · exact (zw_put hd hf hk hn hfin (by rw [ht]; show (if x = 0 ∨ x = 1 then _ else _) = _; rw [if_pos hx])).trans ⟨fun h => ⟨hx, h⟩, fun h => h.2⟩
  · refine ⟨fun h => absurd h (zW_stuck hd ?_), fun h => absurd h.1 hx⟩
    show (match zfld (zKci K) k0, (Value.int x :: Value.ref a :: st) with
      | some (tc, sl), v :: .ref a :: r => if zkind σ a = tc ∧ a < znum σ ∧ ((zT tc sl).2.2.2 = false ∨ (zKkind K = 2 ∧ (zT tc sl).1 = zC (zKci K))) then (match zput σ a sl (zty tc sl) v with | some σ' => zgo (pc + 3) ls r σ' | none => none) else none
      | _, _ => none) = _
    rw [hf]
    have hp : zput σ a sl (zty tc sl) (.int x) = none := by rw [ht]; show (if x = 0 ∨ x = 1 then _ else _) = _; rw [if_neg hx]
    simp only [hk, hn, hfin, true_or, and_self, if_pos, hp]
-- rows
theorem zw_iald {a len : Nat} {j : Int32} (hd : decode (zKcode K) pc = .ok (.iaload, 1)) (hk : zkind σ a = 14) (hn : a < znum σ) (hl : zlen σ a = len) : zW d K pc ls (.int j :: .ref a :: st) σ Q ↔ (vp_in j len ∧ zW d K (pc + 1) ls (.int (zI σ a j.toNatClampNeg) :: st) σ Q) := by
  subst hl
  have hk1 : ((zkind σ a == 14 || (zkind σ a == 99 && a == 0)) = true) := by rw [hk]; rfl
  by_cases hq : vp_in j (zlen σ a)
  · exact (zW_next hd rfl (by show (if (zkind σ a == 14 || (zkind σ a == 99 && a == 0)) = true ∧ a < znum σ ∧ ¬ (j < 0 ∨ zlen σ a ≤ j.toNatClampNeg) then _ else _) = _; rw [if_pos ⟨hk1, hn, hq⟩]; rfl)).trans ⟨fun h => ⟨hq, h⟩, fun h => h.2⟩
  · exact ⟨fun h => absurd h (zW_stuck hd (by show (if (zkind σ a == 14 || (zkind σ a == 99 && a == 0)) = true ∧ a < znum σ ∧ ¬ (j < 0 ∨ zlen σ a ≤ j.toNatClampNeg) then _ else _) = _; rw [if_neg (fun h => hq h.2.2)])), fun h => absurd h.1 hq⟩
theorem zw_isld {len : Nat} {j : Int32} (hd : decode (zKcode K) pc = .ok (.iaload, 1)) (hk : zkind σ 0 = 99) (hn : 0 < znum σ) (hl : zlen σ 0 = len) (hq : vp_in j len) : zW d K pc ls (.int j :: .ref 0 :: st) σ Q ↔ zW d K (pc + 1) ls (.int (zI σ 0 j.toNatClampNeg) :: st) σ Q := by
  subst hl
  have hk1 : ((zkind σ 0 == 14 || (zkind σ 0 == 99 && (0 : Nat) == 0)) = true) := by rw [hk]; rfl
  exact zW_next hd rfl (by show (if (zkind σ 0 == 14 || (zkind σ 0 == 99 && (0 : Nat) == 0)) = true ∧ 0 < znum σ ∧ ¬ (j < 0 ∨ zlen σ 0 ≤ j.toNatClampNeg) then _ else _) = _; rw [if_pos ⟨hk1, hn, hq⟩]; rfl)
theorem zw_bald {a len : Nat} {j : Int32} (hd : decode (zKcode K) pc = .ok (.baload, 1)) (hk : zkind σ a = 13 ∨ zkind σ a = 15) (hn : a < znum σ) (hl : zlen σ a = len) : zW d K pc ls (.int j :: .ref a :: st) σ Q ↔ (vp_in j len ∧ zW d K (pc + 1) ls (.int (zI σ a j.toNatClampNeg) :: st) σ Q) := by
  subst hl
  have hk1 : ((zkind σ a == 13 || zkind σ a == 15) = true) := by rcases hk with h | h <;> rw [h] <;> rfl
  by_cases hq : vp_in j (zlen σ a)
  · exact (zW_next hd rfl (by show (if (zkind σ a == 13 || zkind σ a == 15) = true ∧ a < znum σ ∧ ¬ (j < 0 ∨ zlen σ a ≤ j.toNatClampNeg) then _ else _) = _; rw [if_pos ⟨hk1, hn, hq⟩]; rfl)).trans ⟨fun h => ⟨hq, h⟩, fun h => h.2⟩
  · exact ⟨fun h => absurd h (zW_stuck hd (by show (if (zkind σ a == 13 || zkind σ a == 15) = true ∧ a < znum σ ∧ ¬ (j < 0 ∨ zlen σ a ≤ j.toNatClampNeg) then _ else _) = _; rw [if_neg (fun h => hq h.2.2)])), fun h => absurd h.1 hq⟩
theorem zw_iast {a len : Nat} {j x : Int32} (hd : decode (zKcode K) pc = .ok (.iastore, 1)) (hk : zkind σ a = 14) (hn : a < znum σ) (hl : zlen σ a = len) : zW d K pc ls (.int x :: .int j :: .ref a :: st) σ Q ↔ (vp_in j len ∧ zW d K (pc + 1) ls st (zsI σ a (upd (zI σ a) j.toNatClampNeg x)) Q) := by
  subst hl
  by_cases hq : vp_in j (zlen σ a)
  · exact (zW_next hd rfl (by show (if zkind σ a = 14 ∧ a < znum σ ∧ ¬ (j < 0 ∨ zlen σ a ≤ j.toNatClampNeg) then _ else _) = _; rw [if_pos ⟨hk, hn, hq⟩]; rfl)).trans ⟨fun h => ⟨hq, h⟩, fun h => h.2⟩
  · exact ⟨fun h => absurd h (zW_stuck hd (by show (if zkind σ a = 14 ∧ a < znum σ ∧ ¬ (j < 0 ∨ zlen σ a ≤ j.toNatClampNeg) then _ else _) = _; rw [if_neg (fun h => hq h.2.2)])), fun h => absurd h.1 hq⟩
theorem zw_bast {a len kd : Nat} {j x : Int32} (hd : decode (zKcode K) pc = .ok (.bastore, 1)) (hkd : zkind σ a = kd) (hk : kd = 13 ∨ kd = 15) (hn : a < znum σ) (hl : zlen σ a = len) : zW d K pc ls (.int x :: .int j :: .ref a :: st) σ Q ↔ (vp_in j len ∧ zW d K (pc + 1) ls st (zsI σ a (upd (zI σ a) j.toNatClampNeg (vp_nar (zAty kd) x))) Q) := by
  subst hl
  subst hkd
  by_cases hq : vp_in j (zlen σ a)
  · exact (zW_next hd rfl (by show (if (zkind σ a = 13 ∨ zkind σ a = 15) ∧ a < znum σ ∧ ¬ (j < 0 ∨ zlen σ a ≤ j.toNatClampNeg) then _ else _) = _; rw [if_pos ⟨hk, hn, hq⟩]; rfl)).trans ⟨fun h => ⟨hq, h⟩, fun h => h.2⟩
  · exact ⟨fun h => absurd h (zW_stuck hd (by show (if (zkind σ a = 13 ∨ zkind σ a = 15) ∧ a < znum σ ∧ ¬ (j < 0 ∨ zlen σ a ≤ j.toNatClampNeg) then _ else _) = _; rw [if_neg (fun h => hq h.2.2)])), fun h => absurd h.1 hq⟩
theorem zw_aald {a len : Nat} {j : Int32} (hd : decode (zKcode K) pc = .ok (.aaload, 1)) (hk : 16 ≤ zkind σ a ∧ zkind σ a ≤ 18) (hn : a < znum σ) (hl : zlen σ a = len) : zW d K pc ls (.int j :: .ref a :: st) σ Q ↔ (vp_in j len ∧ zW d K (pc + 1) ls (va_rf (zR σ a j.toNatClampNeg) :: st) σ Q) := by
  subst hl
  by_cases hq : vp_in j (zlen σ a)
  · exact (zW_next hd rfl (by show (if 16 ≤ zkind σ a ∧ zkind σ a ≤ 18 ∧ a < znum σ ∧ ¬ (j < 0 ∨ zlen σ a ≤ j.toNatClampNeg) then _ else _) = _; rw [if_pos ⟨hk.1, hk.2, hn, hq⟩]; rfl)).trans ⟨fun h => ⟨hq, h⟩, fun h => h.2⟩
  · exact ⟨fun h => absurd h (zW_stuck hd (by show (if 16 ≤ zkind σ a ∧ zkind σ a ≤ 18 ∧ a < znum σ ∧ ¬ (j < 0 ∨ zlen σ a ≤ j.toNatClampNeg) then _ else _) = _; rw [if_neg (fun h => hq h.2.2.2)])), fun h => absurd h.1 hq⟩
theorem zw_alen {a len : Nat} {v : Int32} (hd : decode (zKcode K) pc = .ok (.arraylength, 1)) (hk : 13 ≤ zkind σ a ∧ (zkind σ a ≤ 19 ∨ (zkind σ a = 99 ∧ a = 0))) (hn : a < znum σ) (hl : zlen σ a = len) (hv : Int32.ofNat len = v) : zW d K pc ls (.ref a :: st) σ Q ↔ zW d K (pc + 1) ls (.int v :: st) σ Q := zW_next hd rfl (by
  subst hl
  subst hv
  show (if 13 ≤ zkind σ a ∧ a < znum σ ∧ (zkind σ a ≤ 19 ∨ (zkind σ a = 99 ∧ a = 0)) then _ else _) = _
  rw [if_pos ⟨hk.1, hn, hk.2⟩]
  rfl)
-- returns
theorem zw_iret1 {v : Int32} (hd : decode (zKcode K) pc = .ok (.ireturn, 1)) (hr : zKret K = 1) : zW d K pc ls [.int v] σ Q ↔ Q (some (.int v)) σ := zW_ret hd rfl (by show (if zKret K = 1 ∨ (zKret K = 2 ∧ (v = 0 ∨ v = 1)) then _ else _) = _; rw [if_pos (Or.inl hr)])
theorem zw_iret2 {v : Int32} (hd : decode (zKcode K) pc = .ok (.ireturn, 1)) (hr : zKret K = 2) : zW d K pc ls [.int v] σ Q ↔ ((v = 0 ∨ v = 1) ∧ Q (some (.int v)) σ) := by
  by_cases hv : v = 0 ∨ v = 1
  · exact (zW_ret hd rfl (by show (if zKret K = 1 ∨ (zKret K = 2 ∧ (v = 0 ∨ v = 1)) then _ else _) = _; rw [if_pos (Or.inr ⟨hr, hv⟩)])).trans ⟨fun h => ⟨hv, h⟩, fun h => h.2⟩
  · refine ⟨fun h => absurd h (zW_stuck hd ?_), fun h => absurd h.1 hv⟩
    show (if zKret K = 1 ∨ (zKret K = 2 ∧ (v = 0 ∨ v = 1)) then _ else _) = _
    rw [if_neg]
    rintro (h | h)
    · omega
    · exact hv h.2
theorem zw_iret2c {v : Int32} (hd : decode (zKcode K) pc = .ok (.ireturn, 1)) (hr : zKret K = 2) (hv : v = 0 ∨ v = 1) : zW d K pc ls [.int v] σ Q ↔ Q (some (.int v)) σ := (zw_iret2 hd hr).trans ⟨fun h => h.2, fun h => ⟨hv, h⟩⟩
theorem zw_ret (hd : decode (zKcode K) pc = .ok (.return_, 1)) (hr : zKret K = 0) : zW d K pc ls [] σ Q ↔ Q none σ := zW_ret hd rfl (by show (if zKret K = 0 then _ else _) = _; rw [if_pos hr])
-- calls
theorem zw_invV {k0 a : Nat} {K' : zK} {as' rest : List Value} (hd : decode (zKcode K) pc = .ok (.invokevirtual k0, 3)) (hres : zres (zKci K) k0 = some K') (hk : zKkind K' = 1) (hst : st = as'.reverse ++ .ref a :: rest) (hn : as'.length = zKn K') (hka : zkind σ a = zKci K') (h13 : zKci K' < 13) (hna : a < znum σ) (hm : zKmax K' ≤ 28 ∧ (zargs (.ref a :: as')).length ≤ zKmax K' ∧ zcat rest ≤ 8) :
    zW (d + 1) K pc ls st σ Q ↔ zCall d K' (.ref a :: as') σ (fun r σ' => zisN r = true ∧ zW (d + 1) K (pc + 3) ls (zRstk r ++ rest) σ' Q) := by
  refine zW_call hd rfl ?_ (by rw [hk]; decide)
  show (match zres (zKci K) k0 with | some K' => zinvV K' st σ | none => none) = _
  rw [hres]
  show zinvV K' st σ = _
  subst hst
  have e1 : (as'.reverse ++ Value.ref a :: rest).drop (zKn K') = .ref a :: rest := by rw [← hn, ← List.length_reverse]; exact List.drop_left
  have e2 : (as'.reverse ++ Value.ref a :: rest).take (zKn K') = as'.reverse := by rw [← hn, ← List.length_reverse]; exact List.take_left
  unfold zinvV
  rw [if_pos ⟨hk, by simp; omega⟩, e1, e2]
  show (if zkind σ a = zKci K' ∧ zKci K' < 13 ∧ a < znum σ then _ else _) = _
  rw [if_pos ⟨hka, h13, hna⟩, List.reverse_reverse]
  unfold zcall
  rw [if_pos hm]
theorem zw_invS {k0 : Nat} {K' : zK} {as rest : List Value} (hd : decode (zKcode K) pc = .ok (.invokestatic k0, 3)) (hres : zres (zKci K) k0 = some K') (hk : zKkind K' = 0) (hst : st = as.reverse ++ rest) (hn : as.length = zKn K') (hm : zKmax K' ≤ 28 ∧ (zargs as).length ≤ zKmax K' ∧ zcat rest ≤ 8) :
    zW (d + 1) K pc ls st σ Q ↔ zCall d K' as σ (fun r σ' => zisN r = true ∧ zW (d + 1) K (pc + 3) ls (zRstk r ++ rest) σ' Q) := by
  refine zW_call hd rfl ?_ (by rw [hk]; decide)
  show (match zres (zKci K) k0 with | some K' => zinvS K' (d + 1) pc ls st σ | none => none) = _
  rw [hres]
  show zinvS K' (d + 1) pc ls st σ = _
  subst hst
  have e1 : (as.reverse ++ rest).drop (zKn K') = rest := by rw [← hn, ← List.length_reverse]; exact List.drop_left
  have e2 : (as.reverse ++ rest).take (zKn K') = as.reverse := by rw [← hn, ← List.length_reverse]; exact List.take_left
  unfold zinvS
  rw [if_pos (Or.inl hk), if_pos (by simp; omega), e1, e2, List.reverse_reverse]
  unfold zcall
  rw [if_pos hm]
theorem zw_nmax {k0 : Nat} {x y : Int32} (hd : decode (zKcode K) pc = .ok (.invokestatic k0, 3)) (hres : zres (zKci K) k0 = some knMax) (hm : zcat st ≤ 8) : zW (d + 1) K pc ls (.int y :: .int x :: st) σ Q ↔ zW (d + 1) K (pc + 3) ls (.int (if x < y then y else x) :: st) σ Q := zW_next hd rfl (by
  show (match zres (zKci K) k0 with | some K' => zinvS K' (d + 1) pc ls (.int y :: .int x :: st) σ | none => none) = _
  rw [hres]
  show (if 1 ≤ d + 1 then (if zcat st ≤ 8 then _ else none) else none) = _
  rw [if_pos (by omega), if_pos hm]
  rfl)
theorem zw_nmin {k0 : Nat} {x y : Int32} (hd : decode (zKcode K) pc = .ok (.invokestatic k0, 3)) (hres : zres (zKci K) k0 = some knMin) (hm : zcat st ≤ 8) : zW (d + 1) K pc ls (.int y :: .int x :: st) σ Q ↔ zW (d + 1) K (pc + 3) ls (.int (if y < x then y else x) :: st) σ Q := zW_next hd rfl (by
  show (match zres (zKci K) k0 with | some K' => zinvS K' (d + 1) pc ls (.int y :: .int x :: st) σ | none => none) = _
  rw [hres]
  show (if 1 ≤ d + 1 then (if zcat st ≤ 8 then _ else none) else none) = _
  rw [if_pos (by omega), if_pos hm]
  rfl)
theorem zw_nabs {k0 : Nat} {x : Int32} (hd : decode (zKcode K) pc = .ok (.invokestatic k0, 3)) (hres : zres (zKci K) k0 = some knAbs) (hm : zcat st ≤ 8) : zW (d + 1) K pc ls (.int x :: st) σ Q ↔ zW (d + 1) K (pc + 3) ls (.int (if 0 ≤ x then x else 0 - x) :: st) σ Q := zW_next hd rfl (by
  show (match zres (zKci K) k0 with | some K' => zinvS K' (d + 1) pc ls (.int x :: st) σ | none => none) = _
  rw [hres]
  show (if 1 ≤ d + 1 then (if zcat st ≤ 8 then _ else none) else none) = _
  rw [if_pos (by omega), if_pos hm]
  rfl)
theorem zw_ncopy {k0 a b la lb : Nat} {sp dp n0 : Int32} (hd : decode (zKcode K) pc = .ok (.invokestatic k0, 3)) (hres : zres (zKci K) k0 = some knCopy) (hm : zcat st ≤ 6) (hka : zkind σ a = 14) (hkb : zkind σ b = 14) (hla : zlen σ a = la) (hlb : zlen σ b = lb) (hs : ¬ sp < 0 ∧ ¬ dp < 0 ∧ ¬ n0 < 0 ∧ sp.toNatClampNeg + n0.toNatClampNeg ≤ la ∧ dp.toNatClampNeg + n0.toNatClampNeg ≤ lb) :
    zW (d + 1) K pc ls (.int n0 :: .int dp :: .ref b :: .int sp :: .ref a :: st) σ Q ↔ zW (d + 1) K (pc + 3) ls st (zsI σ b (va_cpy (zI σ a) (zI σ b) sp.toNatClampNeg dp.toNatClampNeg n0.toNatClampNeg)) Q := zW_next hd rfl (by
  subst hla
  subst hlb
  show (match zres (zKci K) k0 with | some K' => zinvS K' (d + 1) pc ls (.int n0 :: .int dp :: .ref b :: .int sp :: .ref a :: st) σ | none => none) = _
  rw [hres]
  show (if 1 ≤ d + 1 then (if zcat st ≤ 6 ∧ zkind σ a = 14 ∧ zkind σ b = 14 ∧ ¬ sp < 0 ∧ ¬ dp < 0 ∧ ¬ n0 < 0 ∧ sp.toNatClampNeg + n0.toNatClampNeg ≤ zlen σ a ∧ dp.toNatClampNeg + n0.toNatClampNeg ≤ zlen σ b then _ else none) else none) = _
  rw [if_pos (by omega), if_pos ⟨hm, hka, hkb, hs⟩]
  rfl)
theorem zw_ite {c : Prop} [Decidable c] {a b a' b' : Prop} (ha : a ↔ a') (hb : b ↔ b') : (if c then a else b) ↔ (if c then a' else b') := by split <;> assumption
theorem zw_and {c a a' : Prop} (ha : a ↔ a') : (c ∧ a) ↔ (c ∧ a') := and_congr_right' ha
end ZW
theorem zI_self {σ : zS} {c : Nat} {f : Nat → Int32} : zI (zsI σ c f) c = f := if_pos rfl
theorem zI_ne {σ : zS} {c j : Nat} {f : Nat → Int32} (h : j ≠ c) : zI (zsI σ c f) j = zI σ j := if_neg h
theorem zL_self {σ : zS} {c : Nat} {f : Nat → Int64} : zL (zsL σ c f) c = f := if_pos rfl
theorem zL_ne {σ : zS} {c j : Nat} {f : Nat → Int64} (h : j ≠ c) : zL (zsL σ c f) j = zL σ j := if_neg h
theorem zR_self {σ : zS} {c : Nat} {f : Nat → Option Nat} : zR (zsR σ c f) c = f := if_pos rfl
theorem zR_ne {σ : zS} {c j : Nat} {f : Nat → Option Nat} (h : j ≠ c) : zR (zsR σ c f) j = zR σ j := if_neg h
theorem zsI_s {σ : zS} {c : Nat} {f g : Nat → Int32} : zsI (zsI σ c f) c g = zsI σ c g := by
  unfold zsI
  simp only [Prod.mk.injEq, and_true, true_and]
  funext c'
  split <;> rfl
theorem zsL_s {σ : zS} {c : Nat} {f g : Nat → Int64} : zsL (zsL σ c f) c g = zsL σ c g := by
  unfold zsL
  simp only [Prod.mk.injEq, and_true, true_and]
  funext c'
  split <;> rfl
section ZW
variable {d : Nat} {K : zK} {pc n : Nat} {ls st : List Value} {σ σ' : zS} {Q : Option Value → zS → Prop} {k0 tc sl a : Nat}
theorem zw_getI {w : Int32} (hd : decode (zKcode K) pc = .ok (.getfield k0, 3)) (hf : zfld (zKci K) k0 = some (tc, sl)) (hk : zkind σ a = tc) (hn : a < znum σ) (ht : zty tc sl = .int ∨ zty tc sl = .boolean) (hw : zI σ a sl = w) : zW d K pc ls (.ref a :: st) σ Q ↔ zW d K (pc + 3) ls (.int w :: st) σ Q :=
  zw_get hd hf hk hn (by rcases ht with h | h <;> rw [h, ← hw] <;> rfl)
theorem zw_getL {w : Int64} (hd : decode (zKcode K) pc = .ok (.getfield k0, 3)) (hf : zfld (zKci K) k0 = some (tc, sl)) (hk : zkind σ a = tc) (hn : a < znum σ) (ht : zty tc sl = .long) (hw : zL σ a sl = w) : zW d K pc ls (.ref a :: st) σ Q ↔ zW d K (pc + 3) ls (.long w :: st) σ Q :=
  zw_get hd hf hk hn (by rw [ht, ← hw]; rfl)
theorem zw_getR {w : Option Nat} (hd : decode (zKcode K) pc = .ok (.getfield k0, 3)) (hf : zfld (zKci K) k0 = some (tc, sl)) (hk : zkind σ a = tc) (hn : a < znum σ) (ht : (match zty tc sl with | .object _ => true | .array _ => true | _ => false) = true) (hw : zR σ a sl = w) : zW d K pc ls (.ref a :: st) σ Q ↔ zW d K (pc + 3) ls (va_rf w :: st) σ Q :=
  zw_get hd hf hk hn (by
    rw [← hw]
    revert ht
    cases zty tc sl <;> intro ht <;> first | (cases ht; done) | rfl)
theorem zw_putI {x : Int32} (hd : decode (zKcode K) pc = .ok (.putfield k0, 3)) (hf : zfld (zKci K) k0 = some (tc, sl)) (hk : zkind σ a = tc) (hn : a < znum σ) (hfin : (zT tc sl).2.2.2 = false) (ht : zty tc sl = .int ∨ (zty tc sl = .boolean ∧ (x = 0 ∨ x = 1))) (hσ : zsI σ a (upd (zI σ a) sl x) = σ') : zW d K pc ls (.int x :: .ref a :: st) σ Q ↔ zW d K (pc + 3) ls st σ' Q :=
  zw_put hd hf hk hn hfin (by
    rw [← hσ]
    rcases ht with h | ⟨h, hx⟩
    · rw [h]; rfl
    · rw [h]
      show (if x = 0 ∨ x = 1 then _ else _) = _
      rw [if_pos hx])
theorem zw_putZ2 {x : Int32} (hd : decode (zKcode K) pc = .ok (.putfield k0, 3)) (hf : zfld (zKci K) k0 = some (tc, sl)) (hk : zkind σ a = tc) (hn : a < znum σ) (hfin : (zT tc sl).2.2.2 = false) (ht : zty tc sl = .boolean) (hσ : zsI σ a (upd (zI σ a) sl x) = σ') : zW d K pc ls (.int x :: .ref a :: st) σ Q ↔ ((x = 0 ∨ x = 1) ∧ zW d K (pc + 3) ls st σ' Q) := by
  rw [← hσ]
  exact zw_putZ hd hf hk hn hfin ht
theorem zw_putL {x : Int64} (hd : decode (zKcode K) pc = .ok (.putfield k0, 3)) (hf : zfld (zKci K) k0 = some (tc, sl)) (hk : zkind σ a = tc) (hn : a < znum σ) (hfin : (zT tc sl).2.2.2 = false) (ht : zty tc sl = .long) (hσ : zsL σ a (vp_updL (zL σ a) sl x) = σ') : zW d K pc ls (.long x :: .ref a :: st) σ Q ↔ zW d K (pc + 3) ls st σ' Q :=
  zw_put hd hf hk hn hfin (by rw [← hσ, ht]; rfl)
theorem zw_putR {x : Nat} (hd : decode (zKcode K) pc = .ok (.putfield k0, 3)) (hf : zfld (zKci K) k0 = some (tc, sl)) (hk : zkind σ a = tc) (hn : a < znum σ) (hfin : (zT tc sl).2.2.2 = false) (ht : (match zty tc sl with | .object _ => true | .array _ => true | _ => false) = true) (hσ : zsR σ a (va_up (zR σ a) sl (some x)) = σ') : zW d K pc ls (.ref x :: .ref a :: st) σ Q ↔ zW d K (pc + 3) ls st σ' Q :=
  zw_put hd hf hk hn hfin (by
    rw [← hσ]
    revert ht
    cases zty tc sl <;> intro ht <;> first | (cases ht; done) | rfl)
theorem zw_iald2 {len : Nat} {j w : Int32} (hd : decode (zKcode K) pc = .ok (.iaload, 1)) (hk : zkind σ a = 14) (hn : a < znum σ) (hl : zlen σ a = len) (hw : zI σ a j.toNatClampNeg = w) : zW d K pc ls (.int j :: .ref a :: st) σ Q ↔ (vp_in j len ∧ zW d K (pc + 1) ls (.int w :: st) σ Q) := by
  rw [← hw]
  exact zw_iald hd hk hn hl
theorem zw_bald2 {len : Nat} {j w : Int32} (hd : decode (zKcode K) pc = .ok (.baload, 1)) (hk : zkind σ a = 13 ∨ zkind σ a = 15) (hn : a < znum σ) (hl : zlen σ a = len) (hw : zI σ a j.toNatClampNeg = w) : zW d K pc ls (.int j :: .ref a :: st) σ Q ↔ (vp_in j len ∧ zW d K (pc + 1) ls (.int w :: st) σ Q) := by
  rw [← hw]
  exact zw_bald hd hk hn hl
theorem zw_iast2 {len : Nat} {j x : Int32} (hd : decode (zKcode K) pc = .ok (.iastore, 1)) (hk : zkind σ a = 14) (hn : a < znum σ) (hl : zlen σ a = len) (hσ : zsI σ a (upd (zI σ a) j.toNatClampNeg x) = σ') : zW d K pc ls (.int x :: .int j :: .ref a :: st) σ Q ↔ (vp_in j len ∧ zW d K (pc + 1) ls st σ' Q) := by
  rw [← hσ]
  exact zw_iast hd hk hn hl
theorem zw_bast2 {len kd : Nat} {j x : Int32} (hd : decode (zKcode K) pc = .ok (.bastore, 1)) (hkd : zkind σ a = kd) (hk : kd = 13 ∨ kd = 15) (hn : a < znum σ) (hl : zlen σ a = len) (hσ : zsI σ a (upd (zI σ a) j.toNatClampNeg (vp_nar (zAty kd) x)) = σ') : zW d K pc ls (.int x :: .int j :: .ref a :: st) σ Q ↔ (vp_in j len ∧ zW d K (pc + 1) ls st σ' Q) := by
  rw [← hσ]
  exact zw_bast hd hkd hk hn hl
theorem zw_ncopy2 {b la lb : Nat} {sp dp n0 : Int32} (hd : decode (zKcode K) pc = .ok (.invokestatic k0, 3)) (hres : zres (zKci K) k0 = some knCopy) (hm : zcat st ≤ 6) (hka : zkind σ a = 14) (hkb : zkind σ b = 14) (hla : zlen σ a = la) (hlb : zlen σ b = lb) (hs : ¬ sp < 0 ∧ ¬ dp < 0 ∧ ¬ n0 < 0 ∧ sp.toNatClampNeg + n0.toNatClampNeg ≤ la ∧ dp.toNatClampNeg + n0.toNatClampNeg ≤ lb)
    (hσ : zsI σ b (va_cpy (zI σ a) (zI σ b) sp.toNatClampNeg dp.toNatClampNeg n0.toNatClampNeg) = σ') : zW (d + 1) K pc ls (.int n0 :: .int dp :: .ref b :: .int sp :: .ref a :: st) σ Q ↔ zW (d + 1) K (pc + 3) ls st σ' Q := by
  rw [← hσ]
  exact zw_ncopy hd hres hm hka hkb hla hlb hs
end ZW
theorem zset_0 {ls : List Value} {v : Value} (h : 0 < ls.length) : zset ls 0 v = some (ls.set 0 v) := by
  unfold zset
  rw [if_pos ⟨h, rfl⟩]
theorem zset_s {ls : List Value} {i : Nat} {v : Value} (h : i + 1 < ls.length) (hc : (ls.getD i .null).category = 1) : zset ls (i + 1) v = some (ls.set (i + 1) v) := by
  unfold zset
  rw [if_pos ⟨h, by unfold zfree; simpa using hc⟩]
theorem zw_lald {d : Nat} {K : zK} {pc : Nat} {ls st : List Value} {σ : zS} {Q : Option Value → zS → Prop} {a len : Nat} {j : Int32} (hd : decode (zKcode K) pc = .ok (.laload, 1)) (hk : zkind σ a = 19) (hn : a < znum σ) (hl : zlen σ a = len) : zW d K pc ls (.int j :: .ref a :: st) σ Q ↔ (vp_in j len ∧ zW d K (pc + 1) ls (.long (zL σ a j.toNatClampNeg) :: st) σ Q) := by
  subst hl
  by_cases hq : vp_in j (zlen σ a)
  · exact (zW_next hd rfl (by show (if zkind σ a = 19 ∧ a < znum σ ∧ ¬ (j < 0 ∨ zlen σ a ≤ j.toNatClampNeg) then _ else _) = _; rw [if_pos ⟨hk, hn, hq⟩]; rfl)).trans ⟨fun h => ⟨hq, h⟩, fun h => h.2⟩
  · exact ⟨fun h => absurd h (zW_stuck hd (by show (if zkind σ a = 19 ∧ a < znum σ ∧ ¬ (j < 0 ∨ zlen σ a ≤ j.toNatClampNeg) then _ else _) = _; rw [if_neg (fun h => hq h.2.2)])), fun h => absurd h.1 hq⟩
theorem zcong2 {α β : Type} (F : α → α → β) {f f' g g' : α} (h1 : f = f') (h2 : g = g') : F f g = F f' g' := by rw [h1, h2]
