/-! a stretch of a method, and the law's first stretch: what the constructors make -/
/-- the empty world, and what the law's first thirteen instructions make of it -/
def z0 : zS := ([(98, 0)], (fun _ _ => 0, fun _ _ => 0, fun _ _ => none), (0, 0))
def zini : Option (Nat × List Value × List Value × zS) := zpart 3000 13 14 kL_law 0 [.ref 0, .retAddr 0, .retAddr 0, .retAddr 0, .retAddr 0, .retAddr 0, .retAddr 0] [] z0
def z1 : zS := match zini with
  | some q => q.2.2.2
  | none => z0
/-- what the objects' numbers are at first -/
def zint0 (kd k : Nat) : Int32 := match kd, k with
  | 10, 2 => 5
  | 6, 0 => 1
  | 6, 1 => 5
  | 4, 5 => -1
  | 4, 6 => -1
  | 12, 15 => 5
  | 12, 19 => -1
  | 12, 21 => -1
  | _, _ => 0
/-- the references at first that may change -/
def zref0 (c k : Nat) : Option Nat := if zk c = 4 ∧ k = 0 then some (c + 1) else if zk c = 2 ∧ k = 3 then some (c + 4) else none
def zck (σ : zS) : Bool := (List.range 165).all fun c => (List.range 60).all fun k =>
  (match zRT c k with | some v => decide (zR σ c k = some v) | none => true) && (match zref0 c k with | some v => decide (zR σ c k = some v) | none => true) && (if zk c < 13 ∧ k < zl c then decide (zI σ c k = zint0 (zk c) k) else true)
def zini_ok : Bool := match zini with
  | some q => decide (q.1 = 23) && decide (q.2.1 = [.ref 0, .ref 1, .ref 131, .ref 164, .int 0, .retAddr 0, .retAddr 0]) && decide (q.2.2.1 = []) && decide (q.2.2.2.1 = (98, 0) :: zSH) && decide (q.2.2.2.2.2 = (164, 6661)) && zck q.2.2.2
  | none => false
set_option maxRecDepth 100000 in
theorem zini_t : zini_ok = true := by decide +kernel
theorem zini_eq : zini = some (23, [.ref 0, .ref 1, .ref 131, .ref 164, .int 0, .retAddr 0, .retAddr 0], [], z1) ∧ z1.1 = (98, 0) :: zSH ∧ z1.2.2 = (164, 6661) ∧ zck z1 = true := by
  have h := zini_t
  unfold zini_ok at h
  unfold z1
  split at h
  · rename_i q hq
    simp only [Bool.and_eq_true, decide_eq_true_eq] at h
    obtain ⟨⟨⟨⟨⟨h1, h2⟩, h3⟩, h4⟩, h5⟩, h6⟩ := h
    obtain ⟨a, b, c, d⟩ := q
    simp only at h1 h2 h3 h4 h5 h6
    subst h1 h2 h3
    rw [hq]
    exact ⟨rfl, h4, h5, h6⟩
  · cases h
theorem zck_at {σ : zS} (h : zck σ = true) {c k : Nat} (hc : c < 165) (hk : k < 60) : (∀ v, zRT c k = some v → zR σ c k = some v) ∧ (∀ v, zref0 c k = some v → zR σ c k = some v) ∧ (zk c < 13 → k < zl c → zI σ c k = zint0 (zk c) k) := by
  unfold zck at h
  have h1 := List.all_eq_true.mp (List.all_eq_true.mp h c (List.mem_range.mpr hc)) k (List.mem_range.mpr hk)
  simp only [Bool.and_eq_true] at h1
  obtain ⟨⟨h2, h3⟩, h4⟩ := h1
  refine ⟨fun v hv => ?_, fun v hv => ?_, fun a b => ?_⟩
  · rw [hv] at h2
    simpa using h2
  · rw [hv] at h3
    simpa using h3
  · rw [if_pos ⟨a, b⟩] at h4
    simpa using h4
theorem zRT_lt {c k v : Nat} (h : zRT c k = some v) : c < 165 ∧ k < 60 := by
  unfold zRT at h
  have hc : zk c < 98 := by
    unfold zRTk at h
    split at h <;> first | omega | skip
    cases h
  refine ⟨zk_lt hc, ?_⟩
  unfold zRTk at h
  split at h
  case h_9 =>
    rcases Nat.lt_or_ge k 20 with hk | hk
    · omega
    · rw [List.getD_eq_getElem?_getD, List.getElem?_eq_none (by simpa using hk)] at h
      cases h
  case h_10 =>
    rcases Nat.lt_or_ge k 60 with hk | hk
    · exact hk
    · rw [List.getD_eq_getElem?_getD, List.getElem?_eq_none (by simpa using hk)] at h
      cases h
  all_goals
    first
    | (cases h; done)
    | (split at h
       · omega
       · cases h)
theorem z1_lay : zLay z1 := ⟨⟨_, zini_eq.2.1⟩, fun c k v hv => (zck_at zini_eq.2.2.2 (zRT_lt hv).1 (zRT_lt hv).2).1 v hv⟩
theorem z1_I {c k : Nat} (hc : c < 165) (hk : k < 60) (h1 : zk c < 13) (h2 : k < zl c) : zI z1 c k = zint0 (zk c) k := (zck_at zini_eq.2.2.2 hc hk).2.2 h1 h2
theorem z1_R {c k v : Nat} (hc : c < 165) (hk : k < 60) (h : zref0 c k = some v) : zR z1 c k = some v := (zck_at zini_eq.2.2.2 hc hk).2.1 v h
