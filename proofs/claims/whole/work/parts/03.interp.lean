/-! MY OWN BIG STEPS: a run of bytes over numbered cells. A cell is told by its kind (0 to 12 the objects of vwCl, 13 to 19 arrays, 99 the script at place 0) and its length; what it holds stands in three rows: ints, longs, references. -/
/-- a method: (its class's number, bytes, maxLocals), (how called: 0 static, 1 by an object, 2 a constructor, 3 and on: known of itself; how many arguments; what it answers: 0 nothing, 1 an int, 2 a boolean), its name -/
abbrev zK : Type := (Nat × ByteArray × Nat) × (Nat × Nat × Nat) × MethodName
def zKci (K : zK) : Nat := K.1.1
def zKcode (K : zK) : ByteArray := K.1.2.1
def zKmax (K : zK) : Nat := K.1.2.2
def zKkind (K : zK) : Nat := K.2.1.1
def zKn (K : zK) : Nat := K.2.1.2.1
def zKret (K : zK) : Nat := K.2.1.2.2
def zKy (K : zK) : MethodName := K.2.2
def zKrt (K : zK) : Option FieldType := if zKret K = 0 then none else if zKret K = 1 then some .int else some .boolean
abbrev zM : Type := (Nat → Nat → Int32) × (Nat → Nat → Int64) × (Nat → Nat → Option Nat)
abbrev zS : Type := List (Nat × Nat) × zM × (Nat × Nat)
def zI (σ : zS) (c : Nat) : Nat → Int32 := σ.2.1.1 c
def zL (σ : zS) (c : Nat) : Nat → Int64 := σ.2.1.2.1 c
def zR (σ : zS) (c : Nat) : Nat → Option Nat := σ.2.1.2.2 c
def zlen (σ : zS) (c : Nat) : Nat := (σ.1.getD c (98, 0)).2
def zkind (σ : zS) (c : Nat) : Nat := (σ.1.getD c (98, 0)).1
def znum (σ : zS) : Nat := σ.1.length
def zcc (σ : zS) : Nat := σ.2.2.1
def zcs (σ : zS) : Nat := σ.2.2.2
def zsI (σ : zS) (c : Nat) (f : Nat → Int32) : zS := (σ.1, (fun c' => if c' = c then f else σ.2.1.1 c', σ.2.1.2.1, σ.2.1.2.2), σ.2.2)
def zsL (σ : zS) (c : Nat) (f : Nat → Int64) : zS := (σ.1, (σ.2.1.1, fun c' => if c' = c then f else σ.2.1.2.1 c', σ.2.1.2.2), σ.2.2)
def zsR (σ : zS) (c : Nat) (f : Nat → Option Nat) : zS := (σ.1, (σ.2.1.1, σ.2.1.2.1, fun c' => if c' = c then f else σ.2.1.2.2 c'), σ.2.2)
def zsN (σ : zS) (q : Nat × Nat) (w : Nat) : zS := (σ.1 ++ [q], (fun c' => if c' = σ.1.length then (fun _ => 0) else σ.2.1.1 c', fun c' => if c' = σ.1.length then (fun _ => 0) else σ.2.1.2.1 c', fun c' => if c' = σ.1.length then (fun _ => none) else σ.2.1.2.2 c'), (σ.2.2.1 + 1, σ.2.2.2 + w))
-- the classes by their numbers
def zC (ci : Nat) : String := match ci with
  | 0 => RX0 | 1 => RX1 | 2 => RX2 | 3 => RX3 | 4 => RX4 | 5 => RX5 | 6 => RX6 | 7 => RX7 | 8 => RX8 | 9 => RX9 | 10 => RX10 | 11 => RX11 | 12 => RX12 | 13 => RL | 14 => RJ6 | _ => RJ7
def zT (ci : Nat) : u_T := match ci with
  | 0 => TX0 | 1 => TX1 | 2 => TX2 | 3 => TX3 | 4 => TX4 | 5 => TX5 | 6 => TX6 | 7 => TX7 | 8 => TX8 | 9 => TX9 | 10 => TX10 | 11 => TX11 | _ => TX12
def zN (ci : Nat) : Nat := match ci with
  | 0 => 5 | 1 => 3 | 2 => 10 | 3 => 3 | 4 => 9 | 5 => 4 | 6 => 3 | 7 => 3 | 8 => 2 | 9 => 4 | 10 => 3 | 11 => 20 | _ => 60
def zty (ci : Nat) : Nat → FieldType := match ci with
  | 0 => tyX0 | 1 => tyX1 | 2 => tyX2 | 3 => tyX3 | 4 => tyX4 | 5 => tyX5 | 6 => tyX6 | 7 => tyX7 | 8 => tyX8 | 9 => tyX9 | 10 => tyX10 | 11 => tyX11 | _ => tyX12
def zAty (k : Nat) : FieldType := match k with
  | 13 => .byte | 14 => .int | 15 => .boolean | 16 => .object RX0 | 17 => .object RX4 | 18 => .object RX6 | _ => .long
def zget (σ : zS) (c k : Nat) (ty : FieldType) : Option Value := match ty with
  | .int => some (.int (zI σ c k))
  | .boolean => some (.int (zI σ c k))
  | .long => some (.long (zL σ c k))
  | .object _ => some (va_rf (zR σ c k))
  | .array _ => some (va_rf (zR σ c k))
  | _ => none
def zput (σ : zS) (c k : Nat) (ty : FieldType) (v : Value) : Option zS := match ty with
  | .int => (match v with | .int x => some (zsI σ c (upd (zI σ c) k x)) | _ => none)
  | .boolean => (match v with | .int x => if x = 0 ∨ x = 1 then some (zsI σ c (upd (zI σ c) k x)) else none | _ => none)
  | .long => (match v with | .long x => some (zsL σ c (vp_updL (zL σ c) k x)) | _ => none)
  | .object _ => (match v with | .ref a => some (zsR σ c (va_up (zR σ c) k (some a))) | _ => none)
  | .array _ => (match v with | .ref a => some (zsR σ c (va_up (zR σ c) k (some a))) | _ => none)
  | _ => none
/-- where a jump goes to -/
def zbr (pc : Nat) (off : Int) : Option Nat := if 0 ≤ (pc : Int) + off then some ((pc : Int) + off).toNat else none
/-- storing a value of one slot: not behind a long -/
def zfree (ls : List Value) (i : Nat) : Bool := match i with
  | 0 => true
  | j + 1 => (ls.getD j .null).category == 1
def zset (ls : List Value) (i : Nat) (v : Value) : Option (List Value) :=
  if i < ls.length ∧ zfree ls i = true then some (ls.set i v) else none
def zargs : List Value → List Value
  | [] => []
  | v :: vs => if v.category = 2 then v :: .retAddr 1 :: zargs vs else v :: zargs vs
def zentry (n : Nat) (as : List Value) : List Value := zargs as ++ List.replicate (n - (zargs as).length) (.retAddr 0)
def zcat (st : List Value) : Nat := (st.map fun v => v.category).sum
/-- what one instruction does: goes on; answers; calls (the method, its arguments, what stays on the stack) -/
abbrev zN3 : Type := (Nat × List Value × List Value × zS) ⊕ (Option Value) ⊕ (zK × List Value × List Value)
/-- what a throw leaves: the run's answer says that it threw -/
def zThr : Value := .retAddr 7
def zRstk (r : Option Value) : List Value := match r with
  | some (.int x) => [.int x]
  | _ => []
def zisN (r : Option Value) : Bool := match r with
  | none => true
  | some (.int _) => true
  | _ => false
/-- cells that nobody reaches any more -/
def zbump (σ : zS) (a b : Nat) : zS := (σ.1, σ.2.1, (σ.2.2.1 + a, σ.2.2.2 + b))
def zgo (pc : Nat) (ls st : List Value) (σ : zS) : Option zN3 := some (.inl (pc, ls, st, σ))
def zjmp (pc : Nat) (off : Int) (ls st : List Value) (σ : zS) : Option zN3 := match zbr pc off with
  | some t => zgo t ls st σ
  | none => none

def zcall (K' : zK) (as rest : List Value) : Option zN3 :=
  if zKmax K' ≤ 28 ∧ (zargs as).length ≤ zKmax K' ∧ zcat rest ≤ 8 then some (.inr (.inr (K', as, rest))) else none
/-- calls: the arguments lie on the stack, the last on top -/
def zinvS (K' : zK) (d pc : Nat) (ls st : List Value) (σ : zS) : Option zN3 :=
  if zKkind K' = 0 ∨ zKkind K' = 8 then
    (if zKn K' ≤ st.length then zcall K' (st.take (zKn K')).reverse (st.drop (zKn K')) else none)
  else if 1 ≤ d then match zKkind K', st with
    | 3, .int y :: .int x :: r => if zcat r ≤ 8 then zgo (pc + 3) ls (.int (if x < y then y else x) :: r) σ else none
    | 4, .int y :: .int x :: r => if zcat r ≤ 8 then zgo (pc + 3) ls (.int (if y < x then y else x) :: r) σ else none
    | 5, .int x :: r => if zcat r ≤ 8 then zgo (pc + 3) ls (.int (if 0 ≤ x then x else 0 - x) :: r) σ else none
    | 6, .int n :: .int dp :: .ref b :: .int sp :: .ref a :: r =>
      if zcat r ≤ 6 ∧ zkind σ a = 14 ∧ zkind σ b = 14 ∧ ¬ sp < 0 ∧ ¬ dp < 0 ∧ ¬ n < 0 ∧ sp.toNatClampNeg + n.toNatClampNeg ≤ zlen σ a ∧ dp.toNatClampNeg + n.toNatClampNeg ≤ zlen σ b then
        zgo (pc + 3) ls r (zsI σ b (va_cpy (zI σ a) (zI σ b) sp.toNatClampNeg dp.toNatClampNeg n.toNatClampNeg)) else none
    | _, _ => none
  else none
def zinvV (K' : zK) (st : List Value) (σ : zS) : Option zN3 :=
  if zKkind K' = 1 ∧ zKn K' < st.length then match st.drop (zKn K') with
    | .ref a :: rest => if zkind σ a = zKci K' ∧ zKci K' < 13 ∧ a < znum σ then zcall K' (.ref a :: (st.take (zKn K')).reverse) rest else none
    | _ => none
  else none
def zinvI (K' : zK) (d pc : Nat) (ls st : List Value) (σ : zS) : Option zN3 :=
  if zKkind K' = 2 then (if zKn K' < st.length then match st.drop (zKn K') with
    | .ref a :: rest => if zKret K' = 0 then zcall K' (.ref a :: (st.take (zKn K')).reverse) rest else none
    | _ => none
  else none)
  else if zKkind K' = 7 ∧ 1 ≤ d then match st with
    | .ref _ :: rest => if zcat rest ≤ 8 then zgo (pc + 3) ls rest σ else none
    | _ => none
  else none
