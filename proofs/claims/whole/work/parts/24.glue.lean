/-! the law's run from its loop on is all that is wanting -/
def zscr (σ : zS) (L : Nat) (xs : Nat → Int32) : zS := ((99, L) :: σ.1.tail, (fun c => if c = 0 then xs else σ.2.1.1 c, σ.2.1.2.1, σ.2.1.2.2), σ.2.2)
theorem zscr_k {σ : zS} {L : Nat} {xs : Nat → Int32} {q : Nat × Nat} {t : List (Nat × Nat)} (e : σ.1 = q :: t) {j : Nat} (h : j ≠ 0) : zkind (zscr σ L xs) j = zkind σ j ∧ zlen (zscr σ L xs) j = zlen σ j := by
  obtain ⟨i, rfl⟩ : ∃ i, j = i + 1 := ⟨j - 1, by omega⟩
  simp [zkind, zlen, zscr, e]
theorem zscr_cc (σ : zS) (L : Nat) (xs : Nat → Int32) : zcc (zscr σ L xs) = zcc σ ∧ zcs (zscr σ L xs) = zcs σ := ⟨rfl, rfl⟩
theorem zscr_n {σ : zS} {L : Nat} {xs : Nat → Int32} {q : Nat × Nat} {t : List (Nat × Nat)} (e : σ.1 = q :: t) : znum (zscr σ L xs) = znum σ := by simp [znum, zscr, e]
theorem zscr_ws {σ : zS} {L : Nat} {xs : Nat → Int32} {q : Nat × Nat} {t : List (Nat × Nat)} (e : σ.1 = q :: t) (ad : Nat → Nat) (ca : Nat → ClassId) : zws ad ca (zscr σ L xs) = zws ad ca σ := by
  have hn : znum (zscr σ L xs) = znum σ := by simp [znum, zscr, e]
  unfold zws
  rw [hn]
  refine List.map_congr_left fun i _ => ?_
  have hk := zscr_k (L := L) (xs := xs) e (j := i + 1) (by omega)
  have h1 : zI (zscr σ L xs) (i + 1) = zI σ (i + 1) := by
    show (if i + 1 = 0 then xs else σ.2.1.1 (i + 1)) = _
    rw [if_neg (by omega)]
    rfl
  have h2 : zL (zscr σ L xs) (i + 1) = zL σ (i + 1) := rfl
  have h3 : zR (zscr σ L xs) (i + 1) = zR σ (i + 1) := rfl
  have h4 : ∀ ci, zfs ad (zscr σ L xs) (i + 1) ci = zfs ad σ (i + 1) ci := fun ci => List.map_congr_left fun k _ => by simp only [zfv, h1, h2, h3]
  simp only [zent, hk.1, hk.2, h1, h2, h3, h4]
theorem zscr_wd {D : va_G} {ad : Nat → Nat} {ca : Nat → ClassId} {σ : zS} {s : State} {A : Nat → Prop} {H0 H : Heap} {locs : List Loc} {L : Nat} {xs : Nat → Int32} {q : Nat × Nat} {t : List (Nat × Nat)} (e : σ.1 = q :: t) (hW : zWd D ad ca σ s A H0 H locs) (hX : va_X (ad 0) L xs s H0) : zWd D ad ca (zscr σ L xs) s A H0 H locs := by
  obtain ⟨hP, hK, hD, hS, -, -, h1, hR⟩ := hW
  have hn : znum (zscr σ L xs) = znum σ := by simp [znum, zscr, e]
  have h0 : zkind (zscr σ L xs) 0 = 99 := by simp [zkind, zscr]
  refine ⟨by rw [zscr_ws e]; exact hP, ⟨hK.1, fun c hc a b => ?_, hK.2.2⟩, by rw [zscr_ws e]; exact hD, hS, fun _ => ?_, Or.inr h0, by rw [hn]; exact h1, fun c k a ha => by rw [hn]; exact hR c k a ha⟩
  · have hc0 : c ≠ 0 := by
      rintro rfl
      omega
    rw [(zscr_k e hc0).1] at a b ⊢
    exact hK.2.1 c (by rw [← hn]; exact hc) a b
  · have hl : zlen (zscr σ L xs) 0 = L := by simp [zlen, zscr]
    have hi : zI (zscr σ L xs) 0 = xs := rfl
    rw [hl, hi]
    exact hX
/-- what is owed of the law's loop, in numbers alone -/
def zOwed : Prop := ∀ (L : Nat) (xs : Nat → Int32), L ≤ 3072 → ∃ (f : Nat) (σ' : zS), zrun f 14 kL_law 23 [.ref 0, .ref 1, .ref 131, .ref 164, .int 0, .retAddr 0, .retAddr 0] [] (zscr z1 L xs) = some (some (.int 1), σ') ∧ zcc σ' ≤ 601024 ∧ zcs σ' ≤ 7293034
theorem zth_1 : Cond.laysStatic Bundle.tN "UNASSIGNED_STACK" Bundle.steD ∈ tables_1 := by decide +kernel
theorem zth_2 : Cond.laysStatic Bundle.tN "SUPPRESSED_SENTINEL" Bundle.listD ∈ tables_1 := by decide +kernel
theorem zth_3 : Cond.initialized Bundle.tN ∈ tables_1 := by decide +kernel
theorem zth_4 : Cond.isRef (.static Bundle.tN "UNASSIGNED_STACK" Bundle.steD) ∈ flatC (Jvm.Cond.and given_1 narrow_1) := by decide +kernel
theorem zth_5 : Cond.isRef (.static Bundle.tN "SUPPRESSED_SENTINEL" Bundle.listD) ∈ flatC (Jvm.Cond.and given_1 narrow_1) := by decide +kernel
set_option maxHeartbeats 4000000 in
theorem whole_start_open (hO : zOwed) {p : Program} {e : Env} {s : State} {m : MethodId} {below : List Frame} {meth : Method} {c : Code} (l : Launch) (hflags : l.flags = flags0) {b L : Nat} {xs : Nat → Int32} (hL : L ≤ 3072) (C0 : lw_At p s m meth c b L xs) : W p l e room_1 s m #[Value.ref b] below meth c s.heap [] 0 0 (lw_Z below #[Value.ref b] s) (entryFrame m ([Value.ref b] : List Value).toArray 7) := by
  obtain ⟨hx, hb, hr, hml, hown, hts, hX, hbl, hlocks, hgv⟩ := C0
  have htsG : ∀ w ∈ zGT, w.before #[Value.ref b] s = true := fun w hw => hts w (zGT_in w hw)
  have htsT : ∀ w ∈ tables_1, w.before #[Value.ref b] s = true := fun w hw => hts w (List.mem_append_right _ hw)
  have hkn : ∀ k, k < 13 → ∃ (cC : ClassId) (iS : Nat → Nat), u_Kn s (zC k) (zT k) (zN k) cC iS := fun k hk => u_known htsG (zcF_all k hk).2.1 (htsG _ (zcF_all k hk).2.2.2.2.1)
  obtain ⟨dC, dI, hKc⟩ : ∃ (dC : Nat → ClassId) (dI : Nat → Nat → Nat), ∀ k, k < 13 → u_Kn s (zC k) (zT k) (zN k) (dC k) (dI k) := by
    have hk2 : ∀ k, ∃ q : ClassId × (Nat → Nat), k < 13 → u_Kn s (zC k) (zT k) (zN k) q.1 q.2 := fun k => by
      by_cases h : k < 13
      · obtain ⟨a, b, h2⟩ := hkn k h
        exact ⟨(a, b), fun _ => h2⟩
      · exact ⟨(0, fun _ => 0), fun h2 => absurd h2 h⟩
    exact ⟨fun k => (Classical.choose (hk2 k)).1, fun k => (Classical.choose (hk2 k)).2, fun k hk => Classical.choose_spec (hk2 k) hk⟩
  have hC : zCx p room_1 s m #[Value.ref b] meth c kL_law 14 (fun q : Nat => s.heap.size ≤ q) s.heap b :=
    ⟨hx, hb, hml, hown, htsG, fun h => absurd h (by decide), Nat.le_of_ble_eq_true rfl, Nat.le_of_ble_eq_true rfl, fun _ h => h, hbl, Nat.not_le.mpr hbl⟩
  have hW : zWd (dC, dI) (fun _ => b) (fun _ => 0) z0 s (fun q : Nat => s.heap.size ≤ q) s.heap s.heap [] := by
    have e0 : zws (fun _ => b) (fun _ => 0) z0 = [] := rfl
    refine ⟨by rw [e0]; exact fun k q h => by simp at h, ⟨fun ci q hq => ?_, fun ci hci h1 h2 => ?_, ⟨va_AO.of (htsT _ zao_0), va_AO.of (htsT _ zao_4), va_AO.of (htsT _ zao_6)⟩, zNest.of htsT⟩, by rw [e0]; exact ⟨fun i j p q h => by simp at h, fun k q h => by simp at h⟩, va_S.rf, fun h => absurd h (by decide), Or.inl rfl, Nat.le_refl 1, fun ci k a h => by cases h⟩
    · have h13 : ci < 13 := by
        rcases Nat.lt_or_ge ci 13 with h | h
        · exact h
        · rw [List.getElem?_eq_none (by simpa [vwCl] using h)] at hq
          cases hq
      rw [(zcF_all ci h13).1] at hq
      cases hq
      exact hKc ci h13
    · have hci2 : ci < 1 := hci
      obtain rfl : ci = 0 := by omega
      exact absurd h2 (by decide)
  have hLs := zLs.entry (fun _ => b) [.ref 0] (n := 7) (Nat.le_of_ble_eq_true rfl)
  rw [lg_entry_eq]
  have hv0 : zVv (znum z0) [Value.ref 0] := zVv_cons.mpr ⟨Nat.zero_lt_one, zVv_nil⟩
  obtain ⟨e1, e2, e3, -⟩ := zini_eq
  obtain ⟨f, σ', hrun, hcc, hcs⟩ := hO L xs hL
  have hl : l.stackTraces = false := by
    unfold Launch.stackTraces
    rw [hflags]
    decide +kernel
  have hth : zTh s (fun q : Nat => s.heap.size ≤ q) s.heap := by
    refine ⟨vx_Zqof (htsT _ zth_1) (htsT _ zth_3) (flat_of_before _ hgv _ zth_4) (fun a h => Nat.not_le.mpr h), vx_Zqof (htsT _ zth_2) (htsT _ zth_3) (flat_of_before _ hgv _ zth_5) (fun a h => Nat.not_le.mpr h), fun w hw => va_Nw.of ?_ (htsT _ (zx_BT w hw))⟩
    have := zx_B w hw
    cases w <;> first | (cases this; done) | rfl
  refine zpart_ok (K := kL_law) (D := (dC, dI)) (st := []) (zsound l hl 3000) 13 14 0 _ z0 23 _ [] z1 s.heap [] 0 0 (fun _ => b) (fun _ => 0) _ e1 hC hW hLs (zentry_ok (N := 7) hv0) zVv_nil (by
    have : zcc z1 = 164 := by show z1.2.2.1 = 164; rw [e3]
    rw [this]
    exact Nat.le_of_ble_eq_true rfl) (by
    have : zcs z1 = 6661 := by show z1.2.2.2 = 6661; rw [e3]
    rw [this]
    exact Nat.le_of_ble_eq_true rfl) (fun ad1 ca1 H1 locs1 cells1 slots1 lsA1 hag hW1 hL1 hv1 hv2 hc1 hs1 => ?_)
  have h0 : ad1 0 = b := hag 0 Nat.zero_lt_one
  have hW2 := zscr_wd (L := L) (xs := xs) e2 hW1 (by rw [h0]; exact hX)
  have hn2 : znum (zscr z1 L xs) = znum z1 := zscr_n e2
  have hm := zrun_mon _ _ _ _ _ _ _ _ _ hrun
  have ec : zcc (zscr z1 L xs) = zcc z1 := (zscr_cc z1 L xs).1
  have es : zcs (zscr z1 L xs) = zcs z1 := (zscr_cc z1 L xs).2
  have ec0 : zcc z0 = 0 := rfl
  have es0 : zcs z0 = 0 := rfl
  have hRc : room_1.cells = 601024 := rfl
  have hRs : room_1.slots = 7293034 := rfl
  refine zsound l hl f 14 kL_law 23 _ [] _ _ σ' hrun p e room_1 s m _ below meth c H1 locs1 cells1 slots1 _ (fun q : Nat => s.heap.size ≤ q) s.heap (dC, dI) ad1 ca1 lsA1 (by rw [h0]; exact hC) (fun _ => hth) hW2 hL1 (by rw [hn2]; exact hv1) zVv_nil (by omega) (by omega) (fun ad2 ca2 H2 locs2 cells2 slots2 pcR lsR hag2 hW3 hc2 hs2 hret _ => ?_)
  refine va_forget (fun q hq => hW3.2.2.2.1.2.2 q hq) ?_
  refine W.widen (k := 601024) (n := 7293034) (by omega) (by omega) ?_
  rcases hret with ⟨h, -⟩ | ⟨x, hx1, -, hdec⟩ | ⟨h, -⟩
  · cases h
  · cases hx1
    exact lw_ret hx hb hr hlocks hdec
  · cases h
