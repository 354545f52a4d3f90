/-! the numbered cells in the machine's heap: cell c lies at ad c, an array's class is ca c -/
def zv (ad : Nat → Nat) (v : Value) : Value := match v with
  | .ref a => .ref (ad a)
  | w => w
def zok (n : Nat) (v : Value) : Prop := match v with
  | .ref a => a < n
  | _ => True
def zVv (n : Nat) (l : List Value) : Prop := ∀ v ∈ l, zok n v
theorem zVv_nil {n : Nat} : zVv n [] := fun _ h => by cases h
theorem zVv_cons {n : Nat} {v : Value} {l : List Value} : zVv n (v :: l) ↔ zok n v ∧ zVv n l := by simp [zVv]
theorem zVv_mono {n n' : Nat} {l : List Value} (h : n ≤ n') (hv : zVv n l) : zVv n' l := by
  intro v hm
  have := hv v hm
  cases v with
  | ref a => exact Nat.lt_of_lt_of_le this h
  | _ => trivial
theorem zVv_set {n : Nat} {l : List Value} {i : Nat} {v : Value} (h : zVv n l) (hv : zok n v) : zVv n (l.set i v) := by
  intro w hw
  rcases List.mem_or_eq_of_mem_set hw with h1 | h1
  · exact h w h1
  · rw [h1]; exact hv
theorem zVv_get {n : Nat} {l : List Value} {i : Nat} {v : Value} (h : zVv n l) (hi : l[i]? = some v) : zok n v := h v (List.mem_of_getElem? hi)
theorem zVv_app {n : Nat} {a b : List Value} (ha : zVv n a) (hb : zVv n b) : zVv n (a ++ b) := fun v h => (List.mem_append.mp h).elim (ha v) (hb v)
theorem zv_rf (ad : Nat → Nat) (r : Option Nat) : zv ad (va_rf r) = va_rf (r.map ad) := by cases r <;> rfl
theorem zv_cat (ad : Nat → Nat) (v : Value) : (zv ad v).category = v.category := by cases v <;> rfl
theorem zv_eq {ad ad' : Nat → Nat} {n : Nat} {v : Value} (h : ∀ j, j < n → ad' j = ad j) (hv : zok n v) : zv ad' v = zv ad v := by
  cases v <;> first | rfl | exact congrArg Value.ref (h _ hv)
theorem zv_eqL {ad ad' : Nat → Nat} {n : Nat} {l : List Value} (h : ∀ j, j < n → ad' j = ad j) (hv : zVv n l) : l.map (zv ad') = l.map (zv ad) :=
  List.map_congr_left fun v hm => zv_eq h (hv v hm)
theorem zcat_map (ad : Nat → Nat) (st : List Value) : ((st.map (zv ad)).map fun v => v.category).sum = zcat st := by
  unfold zcat
  rw [List.map_map]
  congr 1
  exact List.map_congr_left fun v _ => zv_cat ad v
-- the locals
def zLs (ad : Nat → Nat) (lsA : Array Slot) (nL : Nat) (ls : List Value) : Prop :=
  lsA.size = nL ∧ lv_wf lsA ∧ ls.length = nL ∧ ∀ (i : Nat) (v : Value), ls[i]? = some v → (∀ n, v ≠ .retAddr n) → lsA[i]? = some (.val (zv ad v))
def zisRet (v : Value) : Bool := match v with | .retAddr _ => true | _ => false
def zlv (ad : Nat → Nat) (ls : List Value) : List (Nat × Value) := (List.range ls.length).filterMap fun i => (ls[i]?).bind fun v => if zisRet v then none else some (i, zv ad v)
theorem zisRet_iff {v : Value} : zisRet v = false ↔ ∀ n, v ≠ .retAddr n := by cases v <;> simp [zisRet]
theorem zlv_mem {ad : Nat → Nat} {ls : List Value} {i : Nat} {w : Value} : (i, w) ∈ zlv ad ls ↔ ∃ v, ls[i]? = some v ∧ (∀ n, v ≠ .retAddr n) ∧ w = zv ad v := by
  unfold zlv
  rw [List.mem_filterMap]
  constructor
  · rintro ⟨j, hj, h⟩
    rw [Option.bind_eq_some_iff] at h
    obtain ⟨v, hv, h⟩ := h
    split at h
    · cases h
    · rename_i hr
      cases h
      exact ⟨v, hv, zisRet_iff.mp (by simpa using hr), rfl⟩
  · rintro ⟨v, hv, hr, rfl⟩
    refine ⟨i, ?_, ?_⟩
    · rw [List.mem_range]
      exact (List.getElem?_eq_some_iff.mp hv).1
    · rw [hv]
      simp [zisRet_iff.mpr hr]
theorem zLs.has {ad : Nat → Nat} {lsA : Array Slot} {nL : Nat} {ls : List Value} (h : zLs ad lsA nL ls) : lv_has lsA nL (zlv ad ls) := by
  refine ⟨h.1, h.2.1, fun q hq => ?_⟩
  obtain ⟨i, w⟩ := q
  obtain ⟨v, hv, hr, rfl⟩ := zlv_mem.mp hq
  exact h.2.2.2 i v hv hr
theorem zLs.store {ad : Nat → Nat} {lsA : Array Slot} {nL i : Nat} {ls ls' : List Value} {v : Value} (h0 : ls.length = nL) (hs : zset ls i v = some ls') (hv : ∀ n, v ≠ .retAddr n)
    (h : lv_has lsA nL ((i, zv ad v) :: (zlv ad ls).filter (fun q => !(q.1 == i) && !(q.1 + 1 == i && q.2.category == 2)))) : zLs ad lsA nL ls' := by
  unfold zset at hs
  split at hs
  · rename_i hc
    obtain ⟨hlt, hfr⟩ := hc
    cases hs
    refine ⟨h.1, h.2.1, by simp [h0], fun j w hj hr => ?_⟩
    by_cases hji : j = i
    · subst hji
      rw [List.getElem?_set_self hlt] at hj
      cases hj
      exact h.2.2 _ List.mem_cons_self
    · rw [List.getElem?_set_ne (Ne.symm hji)] at hj
      refine h.2.2 (j, zv ad w) (List.mem_cons_of_mem _ (List.mem_filter.mpr ⟨zlv_mem.mpr ⟨w, hj, hr, rfl⟩, ?_⟩))
      have e1 : (j == i) = false := by simpa using hji
      simp only [e1, Bool.not_false, Bool.true_and, zv_cat]
      cases i with
      | zero => simp
      | succ i =>
        simp only [zfree, beq_iff_eq] at hfr
        by_cases hj2 : j = i
        · subst hj2
          have e2 : ls.getD j .null = w := by simp [List.getD, hj]
          rw [e2] at hfr
          simp [hfr]
        · simp [hj2]
  · cases hs
theorem zLs.mono {ad ad' : Nat → Nat} {lsA : Array Slot} {nL n : Nat} {ls : List Value} (h : zLs ad lsA nL ls) (ha : ∀ j, j < n → ad' j = ad j) (hv : zVv n ls) : zLs ad' lsA nL ls :=
  ⟨h.1, h.2.1, h.2.2.1, fun i v hi hr => by rw [zv_eq ha (zVv_get hv hi)]; exact h.2.2.2 i v hi hr⟩
-- the entry of a method
theorem zargs_sl (ad : Nat → Nat) (vs : List Value) : (lg_sl (vs.map (zv ad))).length = (zargs vs).length := by
  induction vs with
  | nil => rfl
  | cons v vs ih =>
    simp only [lg_sl, List.map_cons, List.flatMap_cons, List.length_append, zv_cat, zargs] at ih ⊢
    split <;> simp [ih] <;> omega
theorem zargs_lv (ad : Nat → Nat) (vs : List Value) : ∀ (o i : Nat) (v : Value), (zargs vs)[i]? = some v → (∀ n, v ≠ .retAddr n) → (o + i, zv ad v) ∈ lv_args o (vs.map (zv ad)) := by
  induction vs with
  | nil => intro o i v h; simp [zargs] at h
  | cons w vs ih =>
    intro o i v h hr
    simp only [List.map_cons, lv_args, zv_cat]
    unfold zargs at h
    split at h
    · rename_i hc
      rw [if_pos hc]
      cases i with
      | zero => simp at h; subst h; exact List.mem_cons_self
      | succ i =>
        cases i with
        | zero => simp at h; exact absurd h.symm (hr 1)
        | succ i =>
          simp at h
          have := ih (o + 2) i v h hr
          rw [show o + (i + 1 + 1) = o + 2 + i by omega]
          exact List.mem_cons_of_mem _ this
    · rename_i hc
      rw [if_neg hc]
      cases i with
      | zero => simp at h; subst h; exact List.mem_cons_self
      | succ i =>
        simp at h
        have := ih (o + 1) i v h hr
        rw [show o + (i + 1) = o + 1 + i by omega]
        exact List.mem_cons_of_mem _ this
theorem zargs_ok {n : Nat} {vs : List Value} (h : zVv n vs) : zVv n (zargs vs) := by
  induction vs with
  | nil => exact h
  | cons v vs ih =>
    obtain ⟨h1, h2⟩ := zVv_cons.mp h
    unfold zargs
    split
    · exact zVv_cons.mpr ⟨h1, zVv_cons.mpr ⟨trivial, ih h2⟩⟩
    · exact zVv_cons.mpr ⟨h1, ih h2⟩
theorem zentry_ok {n N : Nat} {vs : List Value} (h : zVv n vs) : zVv n (zentry N vs) :=
  zVv_app (zargs_ok h) (fun v hv => by rw [List.eq_of_mem_replicate hv]; trivial)
theorem zLs.entry (ad : Nat → Nat) (vs : List Value) {n : Nat} (h : (zargs vs).length ≤ n) : zLs ad ((lg_sl (vs.map (zv ad)) ++ List.replicate (n - (lg_sl (vs.map (zv ad))).length) Slot.unset).toArray) n (zentry n vs) := by
  have h1 := lv_entry (vs.map (zv ad)) (n := n) (by rw [zargs_sl]; exact h)
  refine ⟨h1.1, h1.2.1, by simp [zentry]; omega, fun i v hi hr => ?_⟩
  unfold zentry at hi
  by_cases hl : i < (zargs vs).length
  · rw [List.getElem?_append_left hl] at hi
    have := h1.2.2 _ (zargs_lv ad vs 0 i v hi hr)
    simpa using this
  · rw [List.getElem?_append_right (by omega)] at hi
    have := List.eq_of_mem_replicate (List.mem_of_getElem? hi)
    exact absurd this (hr 0)
-- the cells
def zfv (ad : Nat → Nat) (σ : zS) (c k : Nat) (ty : FieldType) : Value := match ty with
  | .long => .long (zL σ c k)
  | .object _ => va_rf ((zR σ c k).map ad)
  | .array _ => va_rf ((zR σ c k).map ad)
  | _ => .int (zI σ c k)
def zfs (ad : Nat → Nat) (σ : zS) (c ci : Nat) : List Value := (List.range (zN ci)).map fun k => zfv ad σ c k (zty ci k)
def zent (ad : Nat → Nat) (ca : Nat → ClassId) (σ : zS) (c : Nat) : va_E :=
  if zkind σ c < 13 then .inr (zkind σ c, zfs ad σ c (zkind σ c))
  else if zkind σ c ≤ 15 then .inl (ca c, (zlen σ c, .inl (zI σ c)))
  else if zkind σ c ≤ 18 then .inl (ca c, (zlen σ c, .inr (.inr (.inr (.inr (fun k => (zR σ c k).map ad))))))
  else .inl (ca c, (zlen σ c, .inr (.inl (zL σ c))))
def zws (ad : Nat → Nat) (ca : Nat → ClassId) (σ : zS) : va_W := (List.range (znum σ - 1)).map fun i => (ad (i + 1), zent ad ca σ (i + 1))
theorem zws_get {ad : Nat → Nat} {ca : Nat → ClassId} {σ : zS} {c : Nat} (h0 : c ≠ 0) (h : c < znum σ) : (zws ad ca σ)[c - 1]? = some (ad c, zent ad ca σ c) := by
  obtain ⟨k, rfl⟩ : ∃ k, c = k + 1 := ⟨c - 1, by omega⟩
  have hk : k < znum σ - 1 := by omega
  simp [zws, List.getElem?_range hk]
theorem zws_len {ad : Nat → Nat} {ca : Nat → ClassId} {σ : zS} : (zws ad ca σ).length = znum σ - 1 := by simp [zws]
theorem zws_set {ad : Nat → Nat} {ca : Nat → ClassId} {σ σ' : zS} {c : Nat} (h0 : c ≠ 0) (h : c < znum σ) (hn : znum σ' = znum σ) (ho : ∀ j, j ≠ c → zent ad ca σ' j = zent ad ca σ j) :
    (zws ad ca σ).set (c - 1) (ad c, zent ad ca σ' c) = zws ad ca σ' := by
  apply List.ext_getElem?
  intro j
  by_cases hj : j = c - 1
  · subst hj
    rw [List.getElem?_set_self (by rw [zws_len]; omega), zws_get h0 (by omega)]
  · rw [List.getElem?_set_ne (Ne.symm hj)]
    by_cases hj2 : j + 1 < znum σ
    · have a := zws_get (ad := ad) (ca := ca) (σ := σ) (c := j + 1) (by omega) hj2
      have b := zws_get (ad := ad) (ca := ca) (σ := σ') (c := j + 1) (by omega) (by omega)
      simp only [Nat.add_sub_cancel] at a b
      rw [a, b, ho (j + 1) (by omega)]
    · rw [List.getElem?_eq_none (by rw [zws_len]; omega), List.getElem?_eq_none (by rw [zws_len]; omega)]
theorem zrange_set {α : Type} {g g' : Nat → α} {N k : Nat} (hk : k < N) (ho : ∀ j, j ≠ k → g' j = g j) : ((List.range N).map g).set k (g' k) = (List.range N).map g' := by
  apply List.ext_getElem?
  intro j
  by_cases hj : j = k
  · subst hj
    rw [List.getElem?_set_self (by simp [hk])]
    simp [List.getElem?_range hk]
  · rw [List.getElem?_set_ne (Ne.symm hj)]
    by_cases hj2 : j < N
    · simp [List.getElem?_range hj2, ho j hj]
    · rw [List.getElem?_eq_none (by simp; omega), List.getElem?_eq_none (by simp; omega)]
theorem zfs_get {ad : Nat → Nat} {σ : zS} {c ci k : Nat} (hk : k < zN ci) : (zfs ad σ c ci)[k]? = some (zfv ad σ c k (zty ci k)) := by simp [zfs, List.getElem?_range hk]
theorem zent_obj {ad : Nat → Nat} {ca : Nat → ClassId} {σ : zS} {c : Nat} (h : zkind σ c < 13) : zent ad ca σ c = .inr (zkind σ c, zfs ad σ c (zkind σ c)) := by simp [zent, h]
theorem zent_i {ad : Nat → Nat} {ca : Nat → ClassId} {σ : zS} {c : Nat} (h : ¬ zkind σ c < 13) (h2 : zkind σ c ≤ 15) : zent ad ca σ c = .inl (ca c, (zlen σ c, .inl (zI σ c))) := by simp [zent, h, h2]
theorem zent_r {ad : Nat → Nat} {ca : Nat → ClassId} {σ : zS} {c : Nat} (h : 16 ≤ zkind σ c) (h2 : zkind σ c ≤ 18) : zent ad ca σ c = .inl (ca c, (zlen σ c, .inr (.inr (.inr (.inr (fun k => (zR σ c k).map ad)))))) := by
  simp [zent, show ¬ zkind σ c < 13 by omega, show ¬ zkind σ c ≤ 15 by omega, h2]
theorem zent_l {ad : Nat → Nat} {ca : Nat → ClassId} {σ : zS} {c : Nat} (h : 19 ≤ zkind σ c) : zent ad ca σ c = .inl (ca c, (zlen σ c, .inr (.inl (zL σ c)))) := by
  simp [zent, show ¬ zkind σ c < 13 by omega, show ¬ zkind σ c ≤ 15 by omega, show ¬ zkind σ c ≤ 18 by omega]
-- what a step leaves as it was
theorem zI_sI (σ : zS) (c : Nat) (f : Nat → Int32) (j : Nat) : zI (zsI σ c f) j = if j = c then f else zI σ j := rfl
theorem zL_sI (σ : zS) (c : Nat) (f : Nat → Int32) (j : Nat) : zL (zsI σ c f) j = zL σ j := rfl
theorem zR_sI (σ : zS) (c : Nat) (f : Nat → Int32) (j : Nat) : zR (zsI σ c f) j = zR σ j := rfl
theorem zI_sL (σ : zS) (c : Nat) (f : Nat → Int64) (j : Nat) : zI (zsL σ c f) j = zI σ j := rfl
theorem zL_sL (σ : zS) (c : Nat) (f : Nat → Int64) (j : Nat) : zL (zsL σ c f) j = if j = c then f else zL σ j := rfl
theorem zR_sL (σ : zS) (c : Nat) (f : Nat → Int64) (j : Nat) : zR (zsL σ c f) j = zR σ j := rfl
theorem zI_sR (σ : zS) (c : Nat) (f : Nat → Option Nat) (j : Nat) : zI (zsR σ c f) j = zI σ j := rfl
theorem zL_sR (σ : zS) (c : Nat) (f : Nat → Option Nat) (j : Nat) : zL (zsR σ c f) j = zL σ j := rfl
theorem zR_sR (σ : zS) (c : Nat) (f : Nat → Option Nat) (j : Nat) : zR (zsR σ c f) j = if j = c then f else zR σ j := rfl
theorem zent_cong {ad : Nat → Nat} {ca : Nat → ClassId} {σ σ' : zS} {j : Nat} (h0 : σ'.1 = σ.1) (h1 : zI σ' j = zI σ j) (h2 : zL σ' j = zL σ j) (h3 : zR σ' j = zR σ j) : zent ad ca σ' j = zent ad ca σ j := by
  have e1 : zkind σ' j = zkind σ j := by simp [zkind, h0]
  have e2 : zlen σ' j = zlen σ j := by simp [zlen, h0]
  have e3 : ∀ ci, zfs ad σ' j ci = zfs ad σ j ci := fun ci => List.map_congr_left fun k _ => by simp only [zfv, h1, h2, h3]
  simp only [zent, e1, e2, e3, h1, h2, h3]
-- the classes by their numbers
def zcF (ci : Nat) : Prop := vwCl[ci]? = some (zC ci, zT ci, zN ci) ∧ (∀ w ∈ u_ws (zC ci) (zT ci) (zN ci), w ∈ zGT) ∧ (∀ k, k < zN ci → parseFieldDescriptor (zT ci k).2.2.1 = some (zty ci k)) ∧ (∀ a, a < zN ci → ∀ b, b < zN ci → a ≠ b → (zT ci a).2.1 ≠ (zT ci b).2.1) ∧ Cond.instantiable (zC ci) (zN ci) ∈ zGT ∧ Cond.initialized (zC ci) ∈ zGT
theorem zcF_all (ci : Nat) (h : ci < 13) : zcF ci := by
  rcases (show ci = 0 ∨ ci = 1 ∨ ci = 2 ∨ ci = 3 ∨ ci = 4 ∨ ci = 5 ∨ ci = 6 ∨ ci = 7 ∨ ci = 8 ∨ ci = 9 ∨ ci = 10 ∨ ci = 11 ∨ ci = 12 by omega) with rfl | rfl | rfl | rfl | rfl | rfl | rfl | rfl | rfl | rfl | rfl | rfl | rfl
  · exact ⟨rfl, zin0, tyX0_ok, nmX0, zmk0⟩
  · exact ⟨rfl, zin1, tyX1_ok, nmX1, zmk1⟩
  · exact ⟨rfl, zin2, tyX2_ok, nmX2, zmk2⟩
  · exact ⟨rfl, zin3, tyX3_ok, nmX3, zmk3⟩
  · exact ⟨rfl, zin4, tyX4_ok, nmX4, zmk4⟩
  · exact ⟨rfl, zin5, tyX5_ok, nmX5, zmk5⟩
  · exact ⟨rfl, zin6, tyX6_ok, nmX6, zmk6⟩
  · exact ⟨rfl, zin7, tyX7_ok, nmX7, zmk7⟩
  · exact ⟨rfl, zin8, tyX8_ok, nmX8, zmk8⟩
  · exact ⟨rfl, zin9, tyX9_ok, nmX9, zmk9⟩
  · exact ⟨rfl, zin10, tyX10_ok, nmX10, zmk10⟩
  · exact ⟨rfl, zin11, tyX11_ok, nmX11, zmk11⟩
  · exact ⟨rfl, zin12, tyX12_ok, nmX12, zmk12⟩
theorem zlookup_mem {β : Type} {l : List (Nat × β)} {k : Nat} {b : β} (h : l.lookup k = some b) : (k, b) ∈ l := by
  induction l with
  | nil => simp at h
  | cons q t ih =>
    obtain ⟨a, b2⟩ := q
    rw [List.lookup_cons] at h
    split at h
    · rename_i e
      have : k = a := by simpa using e
      subst this
      cases h
      exact List.mem_cons_self
    · exact List.mem_cons_of_mem _ (ih h)
theorem zres_ok {ci idx : Nat} {K : zK} (h : zres ci idx = some K) : zlkOk ci (idx, K) := by
  have hm := zlookup_mem h
  unfold zcl at hm
  split at hm
  · exact zcl0_ok _ hm
  · exact zcl1_ok _ hm
  · exact zcl2_ok _ hm
  · exact zcl3_ok _ hm
  · exact zcl4_ok _ hm
  · exact zcl5_ok _ hm
  · exact zcl6_ok _ hm
  · exact zcl7_ok _ hm
  · exact zcl8_ok _ hm
  · exact zcl9_ok _ hm
  · exact zcl10_ok _ hm
  · exact zcl11_ok _ hm
  · exact zcl12_ok _ hm
  · exact zcl13_ok _ hm
  · exact zcl14_ok _ hm
  · cases hm
theorem zfld_ok {ci idx tc k : Nat} (h : zfld ci idx = some (tc, k)) : zflOk ci (idx, tc, k) := by
  have hm := zlookup_mem h
  unfold zfl at hm
  split at hm
  · exact zfl0_ok _ hm
  · exact zfl1_ok _ hm
  · exact zfl2_ok _ hm
  · exact zfl3_ok _ hm
  · exact zfl4_ok _ hm
  · exact zfl5_ok _ hm
  · exact zfl6_ok _ hm
  · exact zfl7_ok _ hm
  · exact zfl8_ok _ hm
  · exact zfl9_ok _ hm
  · exact zfl10_ok _ hm
  · exact zfl11_ok _ hm
  · exact zfl12_ok _ hm
  · exact zfl13_ok _ hm
  · exact zfl14_ok _ hm
  · cases hm
theorem zcls_ok {ci idx tc : Nat} (h : zcls ci idx = some tc) : Cond.classLink (zC ci) idx (zC tc) ∈ zGT ∧ tc < 13 := by
  unfold zcls at h
  obtain ⟨q, hq, rfl⟩ := Option.map_eq_some_iff.mp h
  have h1 := List.mem_of_find?_eq_some hq
  have h2 := List.find?_some hq
  simp only [Bool.and_eq_true, beq_iff_eq] at h2
  have h3 := zclsL_ok q h1
  rw [h2.1, h2.2] at h3
  exact h3
theorem zcon_ok {ci idx : Nat} {v : Int32} (h : zcon ci idx = some v) : Cond.constant (zC ci) idx v ∈ zGT := by
  unfold zcon at h
  obtain ⟨q, hq, rfl⟩ := Option.map_eq_some_iff.mp h
  have h2 := List.find?_some hq
  simp only [Bool.and_eq_true, beq_iff_eq] at h2
  have h3 := zconT_ok q (List.mem_of_find?_eq_some hq)
  rw [h2.1, h2.2] at h3
  exact h3
theorem zconL_ok {ci idx : Nat} {v : Int64} (h : zconL ci idx = some v) : Cond.constantLong (zC ci) idx v ∈ zGT := by
  unfold zconL at h
  obtain ⟨q, hq, rfl⟩ := Option.map_eq_some_iff.mp h
  have h2 := List.find?_some hq
  simp only [Bool.and_eq_true, beq_iff_eq] at h2
  have h3 := zconLT_ok q (List.mem_of_find?_eq_some hq)
  rw [h2.1, h2.2] at h3
  exact h3
