/-! one instruction, and a run -/
def zicmp (cn : Jvm.ClassFile.Cond) (x y : Int32) (pc t : Nat) (ls st : List Value) (σ : zS) : Option zN3 := match cn with
  | .eq => if x = y then zgo t ls st σ else zgo (pc + 3) ls st σ
  | .ne => if x = y then zgo (pc + 3) ls st σ else zgo t ls st σ
  | .lt => if x < y then zgo t ls st σ else zgo (pc + 3) ls st σ
  | .ge => if y ≤ x then zgo t ls st σ else zgo (pc + 3) ls st σ
  | .gt => if y < x then zgo t ls st σ else zgo (pc + 3) ls st σ
  | .le => if x ≤ y then zgo t ls st σ else zgo (pc + 3) ls st σ
def zld (pc n : Nat) (i : Nat) (ls st : List Value) (σ : zS) : Option zN3 := match ls[i]? with
  | some (.int x) => zgo (pc + n) ls (.int x :: st) σ
  | _ => none
def zldL (pc n : Nat) (i : Nat) (ls st : List Value) (σ : zS) : Option zN3 := match ls[i]? with
  | some (.long x) => zgo (pc + n) ls (.long x :: st) σ
  | _ => none
def zldA (pc n : Nat) (i : Nat) (ls st : List Value) (σ : zS) : Option zN3 := match ls[i]? with
  | some (.ref x) => zgo (pc + n) ls (.ref x :: st) σ
  | some .null => zgo (pc + n) ls (.null :: st) σ
  | _ => none
def zst (pc n : Nat) (i : Nat) (ls st : List Value) (σ : zS) : Option zN3 := match st with
  | .int x :: r => (match zset ls i (.int x) with | some ls' => zgo (pc + n) ls' r σ | none => none)
  | _ => none
def zstA (pc n : Nat) (i : Nat) (ls st : List Value) (σ : zS) : Option zN3 := match st with
  | .ref x :: r => (match zset ls i (.ref x) with | some ls' => zgo (pc + n) ls' r σ | none => none)
  | _ => none
def zbin (f : Int32 → Int32 → Int32) (pc : Nat) (ls st : List Value) (σ : zS) : Option zN3 := match st with
  | .int y :: .int x :: r => zgo (pc + 1) ls (.int (f x y) :: r) σ
  | _ => none
def zbinL (f : Int64 → Int64 → Int64) (pc : Nat) (ls st : List Value) (σ : zS) : Option zN3 := match st with
  | .long y :: .long x :: r => zgo (pc + 1) ls (.long (f x y) :: r) σ
  | _ => none
def zald (pc : Nat) (ls st : List Value) (σ : zS) (ok : Nat → Nat → Bool) : Option zN3 := match st with
  | .int i :: .ref a :: r => if ok (zkind σ a) a = true ∧ a < znum σ ∧ ¬ (i < 0 ∨ zlen σ a ≤ i.toNatClampNeg) then zgo (pc + 1) ls (.int (zI σ a i.toNatClampNeg) :: r) σ else none
  | _ => none
def zarr (k : Nat) (pc n : Nat) (ls st : List Value) (σ : zS) : Option zN3 := match st with
  | .int x :: r => if ¬ x < 0 ∧ x.toNatClampNeg ≤ 10000 then zgo (pc + n) ls (.ref (znum σ) :: r) (zsN σ (k, x.toNatClampNeg) x.toNatClampNeg) else none
  | _ => none
def zstep (K : zK) (i : Instr) (n d pc : Nat) (ls st : List Value) (σ : zS) : Option zN3 := match i with
  | .aload_n k => zldA pc 1 k ls st σ
  | .aload k => zldA pc 2 k ls st σ
  | .iload_n k => zld pc 1 k ls st σ
  | .iload k => zld pc 2 k ls st σ
  | .lload_n k => zldL pc 1 k ls st σ
  | .lload k => zldL pc 2 k ls st σ
  | .istore_n k => zst pc 1 k ls st σ
  | .istore k => zst pc 2 k ls st σ
  | .astore_n k => zstA pc 1 k ls st σ
  | .astore k => zstA pc 2 k ls st σ
  | .iconst v => zgo (pc + 1) ls (.int (Int32.ofInt v) :: st) σ
  | .bipush v => zgo (pc + 2) ls (.int (Int8.ofInt v).toInt32 :: st) σ
  | .sipush v => zgo (pc + 3) ls (.int (Int16.ofInt v).toInt32 :: st) σ
  | .lconst v => zgo (pc + 1) ls (.long (Int64.ofNat (v : Nat)) :: st) σ
  | .aconst_null => zgo (pc + 1) ls (.null :: st) σ
  | .ldc k => (match zcon (zKci K) k with | some v => zgo (pc + 2) ls (.int v :: st) σ | none => none)
  | .ldc_w k => (match zcon (zKci K) k with | some v => zgo (pc + 3) ls (.int v :: st) σ | none => none)
  | .ldc2_w k => (match zconL (zKci K) k with | some v => zgo (pc + 3) ls (.long v :: st) σ | none => none)
  | .iinc k v => (match ls[k]? with
    | some (.int x) => (match zset ls k (.int (x + Int32.ofInt v)) with | some ls' => zgo (pc + 3) ls' st σ | none => none)
    | _ => none)
  | .iadd => zbin (fun x y => x + y) pc ls st σ
  | .isub => zbin (fun x y => x - y) pc ls st σ
  | .imul => zbin (fun x y => x * y) pc ls st σ
  | .iand => zbin (fun x y => x &&& y) pc ls st σ
  | .ior => zbin (fun x y => x ||| y) pc ls st σ
  | .ixor => zbin (fun x y => x ^^^ y) pc ls st σ
  | .ishl => zbin (fun x y => x <<< (y &&& 31)) pc ls st σ
  | .ishr => zbin (fun x y => x >>> (y &&& 31)) pc ls st σ
  | .iushr => zbin (fun x y => (x.toUInt32 >>> (y.toUInt32 &&& Int32.toUInt32 31)).toInt32) pc ls st σ
  | .idiv => (match st with
    | .int y :: .int x :: r => if y = 0 then none else zgo (pc + 1) ls (.int (x / y) :: r) σ
    | _ => none)
  | .irem => (match st with
    | .int y :: .int x :: r => if y = 0 then none else zgo (pc + 1) ls (.int (x - x / y * y) :: r) σ
    | _ => none)
  | .ineg => (match st with | .int x :: r => zgo (pc + 1) ls (.int (-x) :: r) σ | _ => none)
  | .ladd => zbinL (fun x y => x + y) pc ls st σ
  | .lmul => zbinL (fun x y => x * y) pc ls st σ
  | .land => zbinL (fun x y => x &&& y) pc ls st σ
  | .lor => zbinL (fun x y => x ||| y) pc ls st σ
  | .lrem => (match st with
    | .long y :: .long x :: r => if y = 0 then none else zgo (pc + 1) ls (.long (x - x / y * y) :: r) σ
    | _ => none)
  | .lshl => (match st with | .int y :: .long x :: r => zgo (pc + 1) ls (.long (x <<< (y.toInt64 &&& 63)) :: r) σ | _ => none)
  | .lushr => (match st with | .int y :: .long x :: r => zgo (pc + 1) ls (.long (x.toUInt64 >>> (y.toInt64.toUInt64 &&& Int64.toUInt64 63)).toInt64 :: r) σ | _ => none)
  | .lcmp => (match st with | .long y :: .long x :: r => zgo (pc + 1) ls (.int (lg_cmp x y) :: r) σ | _ => none)
  | .i2l => (match st with | .int x :: r => zgo (pc + 1) ls (.long x.toInt64 :: r) σ | _ => none)
  | .l2i => (match st with | .long x :: r => zgo (pc + 1) ls (.int x.toInt32 :: r) σ | _ => none)
  | .i2b => (match st with | .int x :: r => zgo (pc + 1) ls (.int x.toInt8.toInt32 :: r) σ | _ => none)
  | .dup => (match st with | v :: r => if v.category = 1 then zgo (pc + 1) ls (v :: v :: r) σ else none | _ => none)
  | .dup_x1 => (match st with | v :: w :: r => if v.category = 1 ∧ w.category = 1 then zgo (pc + 1) ls (v :: w :: v :: r) σ else none | _ => none)
  | .dup2 => (match st with | v :: w :: r => if v.category = 1 ∧ w.category = 1 then zgo (pc + 1) ls (v :: w :: v :: w :: r) σ else none | _ => none)
  | .goto off => zjmp pc off ls st σ
  | .if_icmp cn off => (match st with
    | .int y :: .int x :: r => (match zbr pc off with | some t => zicmp cn x y pc t ls r σ | none => none)
    | _ => none)
  | .ifCond cn off => (match st with
    | .int x :: r => (match zbr pc off with | some t => zicmp cn x 0 pc t ls r σ | none => none)
    | _ => none)
  | .if_acmp .eq off => (match zbr pc off, st with
    | some t, .ref y :: .ref x :: r => if zkind σ x < 13 ∧ x < znum σ ∧ zkind σ y < 13 ∧ y < znum σ then (if x = y then zgo t ls r σ else zgo (pc + 3) ls r σ) else none
    | some _, .ref _ :: .null :: r => zgo (pc + 3) ls r σ
    | some _, .null :: .ref _ :: r => zgo (pc + 3) ls r σ
    | _, _ => none)
  | .tableswitch dflt lo hi offs => (match st with
    | .int x :: r => if x.toInt < lo ∨ hi < x.toInt then zjmp pc dflt ls r σ else (match offs[(x.toInt - lo).toNat]? with | some off => zjmp pc off ls r σ | none => none)
    | _ => none)
  | .getfield k => (match zfld (zKci K) k, st with
    | some (tc, sl), .ref a :: r => if zkind σ a = tc ∧ a < znum σ then (match zget σ a sl (zty tc sl) with | some v => zgo (pc + 3) ls (v :: r) σ | none => none) else none
    | _, _ => none)
  | .putfield k => (match zfld (zKci K) k, st with
    | some (tc, sl), v :: .ref a :: r => if zkind σ a = tc ∧ a < znum σ ∧ ((zT tc sl).2.2.2 = false ∨ (zKkind K = 2 ∧ (zT tc sl).1 = zC (zKci K))) then (match zput σ a sl (zty tc sl) v with | some σ' => zgo (pc + 3) ls r σ' | none => none) else none
    | _, _ => none)
  | .iaload => zald pc ls st σ (fun k a => k == 14 || (k == 99 && a == 0))
  | .baload => zald pc ls st σ (fun k _ => k == 13 || k == 15)
  | .aaload => (match st with
    | .int i :: .ref a :: r => if 16 ≤ zkind σ a ∧ zkind σ a ≤ 18 ∧ a < znum σ ∧ ¬ (i < 0 ∨ zlen σ a ≤ i.toNatClampNeg) then zgo (pc + 1) ls (va_rf (zR σ a i.toNatClampNeg) :: r) σ else none
    | _ => none)
  | .laload => (match st with
    | .int i :: .ref a :: r => if zkind σ a = 19 ∧ a < znum σ ∧ ¬ (i < 0 ∨ zlen σ a ≤ i.toNatClampNeg) then zgo (pc + 1) ls (.long (zL σ a i.toNatClampNeg) :: r) σ else none
    | _ => none)
  | .iastore => (match st with
    | .int x :: .int i :: .ref a :: r => if zkind σ a = 14 ∧ a < znum σ ∧ ¬ (i < 0 ∨ zlen σ a ≤ i.toNatClampNeg) then zgo (pc + 1) ls r (zsI σ a (upd (zI σ a) i.toNatClampNeg x)) else none
    | _ => none)
  | .bastore => (match st with
    | .int x :: .int i :: .ref a :: r => if (zkind σ a = 13 ∨ zkind σ a = 15) ∧ a < znum σ ∧ ¬ (i < 0 ∨ zlen σ a ≤ i.toNatClampNeg) then zgo (pc + 1) ls r (zsI σ a (upd (zI σ a) i.toNatClampNeg (vp_nar (zAty (zkind σ a)) x))) else none
    | _ => none)
  | .lastore => (match st with
    | .long x :: .int i :: .ref a :: r => if zkind σ a = 19 ∧ a < znum σ ∧ ¬ (i < 0 ∨ zlen σ a ≤ i.toNatClampNeg) then zgo (pc + 1) ls r (zsL σ a (vp_updL (zL σ a) i.toNatClampNeg x)) else none
    | _ => none)
  | .aastore => (match st with
    | .ref v :: .int i :: .ref a :: r => if ((zkind σ a = 16 ∧ zkind σ v = 0) ∨ (zkind σ a = 17 ∧ zkind σ v = 4) ∨ (zkind σ a = 18 ∧ zkind σ v = 6)) ∧ v < znum σ ∧ a < znum σ ∧ ¬ (i < 0 ∨ zlen σ a ≤ i.toNatClampNeg) then zgo (pc + 1) ls r (zsR σ a (va_up (zR σ a) i.toNatClampNeg (some v))) else none
    | _ => none)
  | .arraylength => (match st with
    | .ref a :: r => if 13 ≤ zkind σ a ∧ a < znum σ ∧ (zkind σ a ≤ 19 ∨ (zkind σ a = 99 ∧ a = 0)) then zgo (pc + 1) ls (.int (Int32.ofNat (zlen σ a)) :: r) σ else none
    | _ => none)
  | .new k => (match zcls (zKci K) k with | some tc => zgo (pc + 3) ls (.ref (znum σ) :: st) (zsN σ (tc, zN tc) (zN tc)) | none => (match st with | [] => if zKci K = 11 ∧ k = 161 ∧ pc = 17 then some (.inr (.inl (some zThr))) else none | _ => none))
  | .newarray .byte => zarr 13 pc 2 ls st σ
  | .newarray .int => zarr 14 pc 2 ls st σ
  | .newarray .boolean => zarr 15 pc 2 ls st σ
  | .newarray .long => zarr 19 pc 2 ls st σ
  | .anewarray k => (match zcls (zKci K) k with
    | some 0 => zarr 16 pc 3 ls st σ
    | some 4 => zarr 17 pc 3 ls st σ
    | some 6 => zarr 18 pc 3 ls st σ
    | _ => none)
  | .invokestatic k => (match zres (zKci K) k with | some K' => zinvS K' d pc ls st σ | none => none)
  | .invokevirtual k => (match zres (zKci K) k with | some K' => zinvV K' st σ | none => none)
  | .invokespecial k => (match zres (zKci K) k with | some K' => zinvI K' d pc ls st σ | none => none)
  | .ireturn => (match st with
    | [.int v] => if zKret K = 1 ∨ (zKret K = 2 ∧ (v = 0 ∨ v = 1)) then some (.inr (.inl (some (.int v)))) else none
    | _ => none)
  | .return_ => (match st with | [] => if zKret K = 0 then some (.inr (.inl none)) else none | _ => none)
  | _ => none
/-- how long an instruction is (0: told by its table) -/
def zilen (i : Instr) : Nat := match i with
  | .aload_n _ | .iload_n _ | .lload_n _ | .istore_n _ | .astore_n _ | .iconst _ | .lconst _ | .aconst_null => 1
  | .iadd | .isub | .imul | .iand | .ior | .ixor | .ishl | .ishr | .iushr | .idiv | .irem | .ineg | .ladd | .lmul | .land | .lor | .lrem | .lshl | .lushr | .lcmp | .i2l | .l2i | .i2b => 1
  | .dup | .dup_x1 | .dup2 | .iaload | .baload | .aaload | .laload | .iastore | .bastore | .lastore | .aastore | .arraylength | .ireturn | .return_ => 1
  | .aload _ | .iload _ | .lload _ | .istore _ | .astore _ | .bipush _ | .ldc _ | .newarray _ => 2
  | .sipush _ | .ldc_w _ | .ldc2_w _ | .iinc _ _ | .goto _ | .if_icmp _ _ | .ifCond _ _ | .if_acmp _ _ | .getfield _ | .putfield _ | .new _ | .anewarray _ | .invokestatic _ | .invokevirtual _ | .invokespecial _ => 3
  | .tableswitch _ _ _ _ => 0
  | _ => 1000
def zrun : Nat → Nat → zK → Nat → List Value → List Value → zS → Option (Option Value × zS)
  | 0, _, _, _, _, _, _ => none
  | f + 1, d, K, pc, ls, st, σ => match decode (zKcode K) pc with
    | .error _ => none
    | .ok (i, n) => if (n == zilen i || zilen i == 0) = true then match zstep K i n d pc ls st σ with
      | none => none
      | some (.inl (pc', ls', st', σ')) => zrun f d K pc' ls' st' σ'
      | some (.inr (.inl v)) => some (v, σ)
      | some (.inr (.inr (K', as, rest))) => match d with
        | 0 => none
        | d' + 1 => if zKkind K' = 8 then (match d', as with
            | d2 + 7, [.ref a, .int p0, .int p1, .ref o] => (match zrun f (d2 + 6) kX11_brook 0 (zentry (zKmax kX11_brook) [.ref a, .int p0, .int p1]) [] σ with
              | some (some (.int v), σ') => if zKkind K = 9 ∧ zkind σ a = 11 ∧ a < znum σ ∧ zkind σ' o = 19 ∧ o < znum σ ∧ 0 < zlen σ' o then zrun f d K (pc + 3) ls (.int 0 :: rest) (zsL σ' o (vp_updL (zL σ' o) 0 v.toInt64)) else none
              | some (some (.retAddr 7), σ') => if zKkind K = 9 ∧ zkind σ a = 11 ∧ a < znum σ then zrun f d K (pc + 3) ls (.int 1 :: rest) (zbump σ' 1 6) else none
              | _ => none)
            | _, _ => none)
          else match zrun f d' K' 0 (zentry (zKmax K') as) [] σ with
          | none => none
          | some (r, σ') => if zisN r = true then zrun f d K (pc + 3) ls (zRstk r ++ rest) σ' else none
      else none
