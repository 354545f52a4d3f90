/-! what one instruction does is what the machine does -/
def zRv (σ : zS) : Prop := ∀ c k a, zR σ c k = some a → a < znum σ
def zKK (D : va_G) (ca : Nat → ClassId) (σ : zS) (s : State) : Prop :=
  (∀ (c : Nat) (q : vw_C), vwCl[c]? = some q → u_Kn s q.1 q.2.1 q.2.2 (D.1 c) (D.2 c)) ∧
  (∀ c, c < znum σ → 13 ≤ zkind σ c → zkind σ c ≤ 19 → ArrOfT s (ca c) (zAty (zkind σ c)) ∧ va_RA s (ca c) (zAty (zkind σ c))) ∧
  (va_AO RX0 s ∧ va_AO RX4 s ∧ va_AO RX6 s) ∧ zNest s
theorem zKK.K0 {D : va_G} {ca : Nat → ClassId} {σ : zS} {s : State} (h : zKK D ca σ s) : va_K D vwCl [] s := ⟨h.1, fun k q hk => by simp at hk⟩
theorem zKK.K1 {D : va_G} {ca : Nat → ClassId} {σ : zS} {s : State} (h : zKK D ca σ s) {c : Nat} (hc : c < znum σ) (h1 : 13 ≤ zkind σ c) (h2 : zkind σ c ≤ 19) {ty : FieldType} (ht : zAty (zkind σ c) = ty) : va_K D vwCl [(ca c, ty)] s :=
  ⟨h.1, fun k q hk => by
    cases k with
    | zero => cases hk; rw [← ht]; exact h.2.1 c hc h1 h2
    | succ k => simp at hk⟩
theorem zKK.K2 {D : va_G} {ca : Nat → ClassId} {σ : zS} {s : State} (h : zKK D ca σ s) {c c' : Nat} (hc : c < znum σ) (h1 : 13 ≤ zkind σ c) (h2 : zkind σ c ≤ 19) {ty : FieldType} (ht : zAty (zkind σ c) = ty) (hc' : c' < znum σ) (h1' : 13 ≤ zkind σ c') (h2' : zkind σ c' ≤ 19) (ht' : zAty (zkind σ c') = ty) : va_K D vwCl [(ca c, ty), (ca c', ty)] s :=
  ⟨h.1, fun k q hk => by
    cases k with
    | zero => cases hk; rw [← ht]; exact h.2.1 c hc h1 h2
    | succ k =>
      cases k with
      | zero => cases hk; rw [← ht']; exact h.2.1 c' hc' h1' h2'
      | succ k => simp at hk⟩
theorem zKK.moved {D : va_G} {ca : Nat → ClassId} {σ : zS} {s U : State} (hW : s.WarmedH U.vm) (h : zKK D ca σ s) : zKK D ca σ U := by
  have hvm := hW.alike
  refine ⟨fun c q hq => ?_, fun c hc h1 h2 => ?_, ⟨h.2.2.1.1.moved hvm, h.2.2.1.2.1.moved hvm, h.2.2.1.2.2.moved hvm⟩, h.2.2.2.warm hW⟩
  · exact (va_K.moved hvm h.K0).1 c q hq
  · exact (va_K.moved hvm (h.K1 hc h1 h2 rfl)).2 0 _ rfl
/-- the world of the numbered cells -/
def zWd (D : va_G) (ad : Nat → Nat) (ca : Nat → ClassId) (σ : zS) (s : State) (A : Nat → Prop) (H0 H : Heap) (locs : List Loc) : Prop :=
  va_P D vwCl (zws ad ca σ) H ∧ zKK D ca σ s ∧ va_D A (zws ad ca σ) ∧ va_S A H0 H locs ∧ (zkind σ 0 = 99 → va_X (ad 0) (zlen σ 0) (zI σ 0) s H0) ∧ (zkind σ 0 = 98 ∨ zkind σ 0 = 99) ∧ 1 ≤ znum σ ∧ zRv σ
def zCx (p : Program) (R : Room) (s : State) (m : MethodId) (args : Array Value) (meth : Method) (c : Code) (K : zK) (d : Nat) (A : Nat → Prop) (H0 : Heap) (b : Nat) : Prop :=
  p.tables.exec = Jvm.exec ∧ c.code = zKcode K ∧ c.maxLocals = zKmax K ∧ s.vm.findClass (zC (zKci K)) = some m.cls ∧ (∀ w ∈ zGT, w.before args s = true) ∧ (zKkind K = 2 → meth.name = "<init>") ∧ d ≤ R.frames ∧ 47 * d ≤ R.locals ∧ (∀ q, H0.size ≤ q → A q) ∧ b < H0.size ∧ ¬ A b
theorem zbr_eq {pc : Nat} {off : Int} {t : Nat} (h : zbr pc off = some t) : (pc : Int) + off = (t : Int) := by
  unfold zbr at h
  split at h
  · cases h
    omega
  · cases h
theorem zgo_eq {pc pc' : Nat} {ls st ls' st' : List Value} {σ σ' : zS} (h : zgo pc ls st σ = some (.inl (pc', ls', st', σ'))) : pc' = pc ∧ ls' = ls ∧ st' = st ∧ σ = σ' := by
  unfold zgo at h
  cases h
  exact ⟨rfl, rfl, rfl, rfl⟩
theorem zjmp_eq {pc pc' : Nat} {off : Int} {ls st ls' st' : List Value} {σ σ' : zS} (h : zjmp pc off ls st σ = some (.inl (pc', ls', st', σ'))) : (pc : Int) + off = (pc' : Int) ∧ ls' = ls ∧ st' = st ∧ σ = σ' := by
  unfold zjmp at h
  split at h
  · rename_i t ht
    obtain ⟨rfl, h2⟩ := zgo_eq h
    exact ⟨zbr_eq ht, h2⟩
  · cases h
theorem zWd.upd {D : va_G} {ad : Nat → Nat} {ca : Nat → ClassId} {σ σ' : zS} {s : State} {A : Nat → Prop} {H0 H H1 : Heap} {locs locs1 : List Loc} (hW : zWd D ad ca σ s A H0 H locs) {c : Nat} (h0 : c ≠ 0) (h : c < znum σ) (hs : σ'.1 = σ.1)
    (hI : ∀ j, j ≠ c → zI σ' j = zI σ j) (hL : ∀ j, j ≠ c → zL σ' j = zL σ j) (hR : ∀ j, j ≠ c → zR σ' j = zR σ j) (hv : zRv σ') {e : va_E} (he : zent ad ca σ' c = e)
    (hP : va_P D vwCl ((zws ad ca σ).set (c - 1) (ad c, e)) H1) (hD : va_D A ((zws ad ca σ).set (c - 1) (ad c, e))) (hS : va_S A H0 H1 locs1) : zWd D ad ca σ' s A H0 H1 locs1 := by
  have hn : znum σ' = znum σ := by simp [znum, hs]
  have e1 := zws_set (ad := ad) (ca := ca) h0 h hn (fun j hj => zent_cong hs (hI j hj) (hL j hj) (hR j hj))
  rw [he] at e1
  rw [e1] at hP hD
  obtain ⟨-, hK, -, -, hX, h99, h1, -⟩ := hW
  have ek : ∀ j, zkind σ' j = zkind σ j := fun j => by simp [zkind, hs]
  refine ⟨hP, ⟨hK.1, fun j hj a b => ?_, hK.2.2⟩, hD, hS, ?_, ?_, by rw [hn]; exact h1, hv⟩
  · rw [ek] at a b ⊢
    exact hK.2.1 j (by rw [← hn]; exact hj) a b
  · rw [hI 0 (Ne.symm h0)]
    have : zlen σ' 0 = zlen σ 0 := by simp [zlen, hs]
    rw [this, ek]
    exact hX
  · rw [ek]; exact h99
theorem zWd.ne0 {D : va_G} {ad : Nat → Nat} {ca : Nat → ClassId} {σ : zS} {s : State} {A : Nat → Prop} {H0 H : Heap} {locs : List Loc} (hW : zWd D ad ca σ s A H0 H locs) {c : Nat} (h : zkind σ c < 98) : c ≠ 0 := by
  rintro rfl
  have := hW.2.2.2.2.2.1
  omega
theorem zWd.get {D : va_G} {ad : Nat → Nat} {ca : Nat → ClassId} {σ : zS} {s : State} {A : Nat → Prop} {H0 H : Heap} {locs : List Loc} (hW : zWd D ad ca σ s A H0 H locs) {c : Nat} (h : zkind σ c < 98) (hc : c < znum σ) {e : va_E} (he : zent ad ca σ c = e) : (zws ad ca σ)[c - 1]? = some (ad c, e) := by
  rw [← he]
  exact zws_get (hW.ne0 h) hc
