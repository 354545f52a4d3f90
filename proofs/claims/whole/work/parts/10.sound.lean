/-! a whole run is what the machine does -/
section ZN
variable {p : Program} {l : Launch} {e : Env} {R : Room} {s : State} {m : MethodId} {args : Array Value} {below : List Frame} {meth : Method} {c : Code} {Q : State → Prop} {A : Nat → Prop} {H0 H : Heap} {D : va_G} {K : zK} {d pc n pc' cells slots : Nat} {i : Instr} {ls st ls' st' : List Value} {σ σ' : zS} {ad : Nat → Nat} {ca : Nat → ClassId} {lsA : Array Slot} {locs : List Loc}
set_option maxHeartbeats 4000000 in
theorem zsnd_next (hd : decode (zKcode K) pc = .ok (i, n)) (hn : (n == zilen i || zilen i == 0) = true) (hs : zstep K i n d pc ls st σ = some (.inl (pc', ls', st', σ'))) (C : zCx p R s m args meth c K d A H0 (ad 0)) (hW : zWd D ad ca σ s A H0 H locs) (hL : zLs ad lsA (zKmax K) ls) (hv1 : zVv (znum σ) ls) (hv2 : zVv (znum σ) st) (hc : cells + zcc σ' ≤ R.cells + zcc σ) (hsl : slots + zcs σ' ≤ R.slots + zcs σ) (k : zCont p l e R s m args below meth c Q A H0 D (zKmax K) (znum σ) (zcc σ) (zcs σ) cells slots ad pc' ls' st' σ') :
    W p l e R s m args below meth c H locs cells slots Q (F0 m pc lsA (st.map (zv ad))) := by
  cases i
  case aload_n k0 => exact zn_aload_n hd hn hs C hW hL hv1 hv2 hc hsl k
  case aload k0 => exact zn_aload hd hn hs C hW hL hv1 hv2 hc hsl k
  case iload_n k0 => exact zn_iload_n hd hn hs C hW hL hv1 hv2 hc hsl k
  case iload k0 => exact zn_iload hd hn hs C hW hL hv1 hv2 hc hsl k
  case lload_n k0 => exact zn_lload_n hd hn hs C hW hL hv1 hv2 hc hsl k
  case lload k0 => exact zn_lload hd hn hs C hW hL hv1 hv2 hc hsl k
  case istore_n k0 => exact zn_istore_n hd hn hs C hW hL hv1 hv2 hc hsl k
  case istore k0 => exact zn_istore hd hn hs C hW hL hv1 hv2 hc hsl k
  case astore_n k0 => exact zn_astore_n hd hn hs C hW hL hv1 hv2 hc hsl k
  case astore k0 => exact zn_astore hd hn hs C hW hL hv1 hv2 hc hsl k
  case iconst k0 => exact zn_iconst hd hn hs C hW hL hv1 hv2 hc hsl k
  case bipush k0 => exact zn_bipush hd hn hs C hW hL hv1 hv2 hc hsl k
  case sipush k0 => exact zn_sipush hd hn hs C hW hL hv1 hv2 hc hsl k
  case lconst k0 => exact zn_lconst hd hn hs C hW hL hv1 hv2 hc hsl k
  case aconst_null => exact zn_aconst_null hd hn hs C hW hL hv1 hv2 hc hsl k
  case ldc k0 => exact zn_ldc hd hn hs C hW hL hv1 hv2 hc hsl k
  case ldc_w k0 => exact zn_ldc_w hd hn hs C hW hL hv1 hv2 hc hsl k
  case ldc2_w k0 => exact zn_ldc2_w hd hn hs C hW hL hv1 hv2 hc hsl k
  case iinc k0 v => exact zn_iinc hd hn hs C hW hL hv1 hv2 hc hsl k
  case iadd => exact zn_iadd hd hn hs C hW hL hv1 hv2 hc hsl k
  case isub => exact zn_isub hd hn hs C hW hL hv1 hv2 hc hsl k
  case imul => exact zn_imul hd hn hs C hW hL hv1 hv2 hc hsl k
  case iand => exact zn_iand hd hn hs C hW hL hv1 hv2 hc hsl k
  case ior => exact zn_ior hd hn hs C hW hL hv1 hv2 hc hsl k
  case ixor => exact zn_ixor hd hn hs C hW hL hv1 hv2 hc hsl k
  case ishl => exact zn_ishl hd hn hs C hW hL hv1 hv2 hc hsl k
  case ishr => exact zn_ishr hd hn hs C hW hL hv1 hv2 hc hsl k
  case iushr => exact zn_iushr hd hn hs C hW hL hv1 hv2 hc hsl k
  case idiv => exact zn_idiv hd hn hs C hW hL hv1 hv2 hc hsl k
  case irem => exact zn_irem hd hn hs C hW hL hv1 hv2 hc hsl k
  case ineg => exact zn_ineg hd hn hs C hW hL hv1 hv2 hc hsl k
  case ladd => exact zn_ladd hd hn hs C hW hL hv1 hv2 hc hsl k
  case lmul => exact zn_lmul hd hn hs C hW hL hv1 hv2 hc hsl k
  case land => exact zn_land hd hn hs C hW hL hv1 hv2 hc hsl k
  case lor => exact zn_lor hd hn hs C hW hL hv1 hv2 hc hsl k
  case lrem => exact zn_lrem hd hn hs C hW hL hv1 hv2 hc hsl k
  case lshl => exact zn_lshl hd hn hs C hW hL hv1 hv2 hc hsl k
  case lushr => exact zn_lushr hd hn hs C hW hL hv1 hv2 hc hsl k
  case lcmp => exact zn_lcmp hd hn hs C hW hL hv1 hv2 hc hsl k
  case i2l => exact zn_i2l hd hn hs C hW hL hv1 hv2 hc hsl k
  case l2i => exact zn_l2i hd hn hs C hW hL hv1 hv2 hc hsl k
  case i2b => exact zn_i2b hd hn hs C hW hL hv1 hv2 hc hsl k
  case dup => exact zn_dup hd hn hs C hW hL hv1 hv2 hc hsl k
  case dup_x1 => exact zn_dup_x1 hd hn hs C hW hL hv1 hv2 hc hsl k
  case dup2 => exact zn_dup2 hd hn hs C hW hL hv1 hv2 hc hsl k
  case goto off => exact zn_goto hd hn hs C hW hL hv1 hv2 hc hsl k
  case if_icmp cn off => exact zn_if_icmp hd hn hs C hW hL hv1 hv2 hc hsl k
  case ifCond cn off => exact zn_ifCond hd hn hs C hW hL hv1 hv2 hc hsl k
  case if_acmp cn off =>
    cases cn
    · exact zn_if_acmp hd hn hs C hW hL hv1 hv2 hc hsl k
    · exact absurd (show (none : Option zN3) = _ from hs) (by simp)
  case tableswitch a b c0 d0 => exact zn_tableswitch hd hn hs C hW hL hv1 hv2 hc hsl k
  case getfield k0 => exact zn_getfield hd hn hs C hW hL hv1 hv2 hc hsl k
  case putfield k0 => exact zn_putfield hd hn hs C hW hL hv1 hv2 hc hsl k
  case iaload => exact zn_iaload hd hn hs C hW hL hv1 hv2 hc hsl k
  case baload => exact zn_baload hd hn hs C hW hL hv1 hv2 hc hsl k
  case aaload => exact zn_aaload hd hn hs C hW hL hv1 hv2 hc hsl k
  case laload => exact zn_laload hd hn hs C hW hL hv1 hv2 hc hsl k
  case iastore => exact zn_iastore hd hn hs C hW hL hv1 hv2 hc hsl k
  case bastore => exact zn_bastore hd hn hs C hW hL hv1 hv2 hc hsl k
  case aastore => exact zn_aastore hd hn hs C hW hL hv1 hv2 hc hsl k
  case lastore => exact zn_lastore hd hn hs C hW hL hv1 hv2 hc hsl k
  case arraylength => exact zn_arraylength hd hn hs C hW hL hv1 hv2 hc hsl k
  case new k0 => exact zn_new hd hn hs C hW hL hv1 hv2 hc hsl k
  case newarray at0 =>
    cases at0
    case byte => exact zn_newarray_byte hd hn hs C hW hL hv1 hv2 hc hsl k
    case int => exact zn_newarray_int hd hn hs C hW hL hv1 hv2 hc hsl k
    case boolean => exact zn_newarray_boolean hd hn hs C hW hL hv1 hv2 hc hsl k
    case long => exact zn_newarray_long hd hn hs C hW hL hv1 hv2 hc hsl k
    all_goals exact absurd (show (none : Option zN3) = _ from hs) (by simp)
  case anewarray k0 => exact zn_anewarray hd hn hs C hW hL hv1 hv2 hc hsl k
  case invokestatic k0 => exact zn_invokestatic hd hn hs C hW hL hv1 hv2 hc hsl k
  case invokespecial k0 => exact zn_invokespecial hd hn hs C hW hL hv1 hv2 hc hsl k
  case invokevirtual k0 =>
    replace hs : (match zres (zKci K) k0 with | some K' => zinvV K' st σ | none => none) = some (.inl (pc', ls', st', σ')) := hs
    split at hs
    · unfold zinvV at hs
      split at hs
      · split at hs
        · split at hs
          · unfold zcall at hs
            split at hs <;> cases hs
          · cases hs
        · cases hs
      · cases hs
    · cases hs
  case ireturn =>
    replace hs : (match (generalizing := false) st with
    | [.int v] => if zKret K = 1 ∨ (zKret K = 2 ∧ (v = 0 ∨ v = 1)) then some (.inr (.inl (some (.int v)))) else none
    | _ => none : Option zN3) = some (.inl (pc', ls', st', σ')) := hs
    split at hs
    · split at hs <;> cases hs
    · cases hs
  case return_ =>
    replace hs : (match (generalizing := false) st with | [] => if zKret K = 0 then some (.inr (.inl none)) else none | _ => none : Option zN3) = some (.inl (pc', ls', st', σ')) := hs
    split at hs
    · split at hs <;> cases hs
    · cases hs
  all_goals exact absurd (show (none : Option zN3) = _ from hs) (by simp)
end ZN
/-- what a step answers with: cells are made, none goes -/
def zMon (σ : zS) (r : Option zN3) : Prop := ∀ pc' ls' st' σ', r = some (.inl (pc', ls', st', σ')) → zcc σ ≤ zcc σ' ∧ zcs σ ≤ zcs σ' ∧ znum σ ≤ znum σ'
theorem zMon_none {σ : zS} : zMon σ none := fun _ _ _ _ h => by cases h
theorem zMon_r {σ : zS} {x : Option Value ⊕ (zK × List Value × List Value)} : zMon σ (some (.inr x)) := fun _ _ _ _ h => by cases h
theorem zMon_go {σ σ1 : zS} {pc : Nat} {ls st : List Value} (h : zcc σ ≤ zcc σ1 ∧ zcs σ ≤ zcs σ1 ∧ znum σ ≤ znum σ1) : zMon σ (zgo pc ls st σ1) := fun _ _ _ _ e => by
  obtain ⟨-, -, -, rfl⟩ := zgo_eq e
  exact h
theorem zMon_same {σ : zS} {pc : Nat} {ls st : List Value} : zMon σ (zgo pc ls st σ) := zMon_go ⟨Nat.le_refl _, Nat.le_refl _, Nat.le_refl _⟩
theorem zMon_I {σ : zS} {pc c : Nat} {ls st : List Value} {f : Nat → Int32} : zMon σ (zgo pc ls st (zsI σ c f)) := zMon_go ⟨Nat.le_refl _, Nat.le_refl _, Nat.le_refl _⟩
theorem zMon_L {σ : zS} {pc c : Nat} {ls st : List Value} {f : Nat → Int64} : zMon σ (zgo pc ls st (zsL σ c f)) := zMon_go ⟨Nat.le_refl _, Nat.le_refl _, Nat.le_refl _⟩
theorem zMon_R {σ : zS} {pc c : Nat} {ls st : List Value} {f : Nat → Option Nat} : zMon σ (zgo pc ls st (zsR σ c f)) := zMon_go ⟨Nat.le_refl _, Nat.le_refl _, Nat.le_refl _⟩
theorem zMon_N {σ : zS} {pc w : Nat} {ls st : List Value} {q : Nat × Nat} : zMon σ (zgo pc ls st (zsN σ q w)) := zMon_go ⟨Nat.le_add_right _ _, Nat.le_add_right _ _, by rw [znum_N]; omega⟩
theorem zMon_put {σ σ1 : zS} {pc c k : Nat} {ls st : List Value} {ty : FieldType} {v : Value} (h : zput σ c k ty v = some σ1) : zMon σ (zgo pc ls st σ1) := by
  unfold zput at h
  (repeat' split at h) <;> cases h <;> exact zMon_go ⟨Nat.le_refl _, Nat.le_refl _, Nat.le_refl _⟩
set_option maxHeartbeats 8000000 in
theorem zstep_mon {K : zK} {i : Instr} {n d pc : Nat} {ls st : List Value} {σ : zS} : zMon σ (zstep K i n d pc ls st σ) := by
  unfold zstep
  split <;> (try unfold zld) <;> (try unfold zldL) <;> (try unfold zldA) <;> (try unfold zst) <;> (try unfold zstA) <;> (try unfold zbin) <;> (try unfold zbinL) <;> (try unfold zald) <;> (try unfold zarr) <;> (try unfold zinvS) <;> (try unfold zinvV) <;> (try unfold zinvI) <;> (try unfold zcall) <;> (try unfold zicmp) <;> (try unfold zjmp) <;> (repeat' split) <;>
    first | exact zMon_none | exact zMon_same | exact zMon_r | exact zMon_I | exact zMon_L | exact zMon_R | exact zMon_N | exact zMon_put (by assumption)
theorem zrun_mon : ∀ (f d : Nat) (K : zK) (pc : Nat) (ls st : List Value) (σ : zS) (r : Option Value) (σ' : zS), zrun f d K pc ls st σ = some (r, σ') → zcc σ ≤ zcc σ' ∧ zcs σ ≤ zcs σ' ∧ znum σ ≤ znum σ' := by
  intro f
  induction f with
  | zero => intro d K pc ls st σ r σ' h; cases h
  | succ f ih =>
    intro d K pc ls st σ r σ' h
    unfold zrun at h
    split at h
    · cases h
    · split at h
      · split at h
        · cases h
        · rename_i hs
          have h1 := zstep_mon _ _ _ _ hs
          have h2 := ih _ _ _ _ _ _ _ _ h
          omega
        · cases h
          exact ⟨Nat.le_refl _, Nat.le_refl _, Nat.le_refl _⟩
        · split at h
          · cases h
          · split at h
            · split at h
              · split at h
                · rename_i hr
                  split at h
                  · have h1 := ih _ _ _ _ _ _ _ _ hr
                    have h2 := ih _ _ _ _ _ _ _ _ h
                    exact ⟨Nat.le_trans h1.1 h2.1, Nat.le_trans h1.2.1 h2.2.1, Nat.le_trans h1.2.2 h2.2.2⟩
                  · cases h
                · rename_i hr
                  split at h
                  · have h1 := ih _ _ _ _ _ _ _ _ hr
                    have h2 := ih _ _ _ _ _ _ _ _ h
                    exact ⟨Nat.le_trans h1.1 (Nat.le_trans (Nat.le_add_right _ _) h2.1), Nat.le_trans h1.2.1 (Nat.le_trans (Nat.le_add_right _ _) h2.2.1), Nat.le_trans h1.2.2 h2.2.2⟩
                  · cases h
                · cases h
              · cases h
            · split at h
              · cases h
              · rename_i hr
                split at h
                · have h1 := ih _ _ _ _ _ _ _ _ hr
                  have h2 := ih _ _ _ _ _ _ _ _ h
                  omega
                · cases h
      · cases h
