/-! sticks alone, told from one state -/
def tOk (σ : zS) (b s : Nat) (y : Nat) : Prop := aCan (mB σ b) (mW σ) (zI σ 136 s).toInt 0 y
noncomputable def tA (σ : zS) (b s y : Nat) (k : Nat) : Int := aAl (mB σ b) (mW σ) (mG σ s y) (aSd k)
noncomputable def tV (σ : zS) (b s n y : Nat) : Int := aSum (tA σ b s y) n
def tSt (ns : Nat) (m : Int32) : Prop := 0 < m.toInt ∧ m.toInt < ((1 : Int32) <<< (nI ns &&& 31)).toInt
section TIMES
variable {d : Nat} {Q : Option Value → zS → Prop} {σ0 σ : zS} {nb ns : Nat}
theorem tOk_c (f : zFr iSafe σ0 σ) {b s y : Nat} (hb : b < 6) (hs : s < 10) : tOk σ b s y = tOk σ0 b s y := by
  unfold tOk
  rw [iS_mB f hb, iS_mW f, f.i (show ¬ iSafe 0 136 s by unfold iSafe; omega)]
theorem tA_c (f : zFr iSafe σ0 σ) {b s y : Nat} (hb : b < 6) (hs : s < 10) : tA σ b s y = tA σ0 b s y := by
  funext k
  unfold tA
  rw [iS_mB f hb, iS_mW f, iS_mG f hs]
theorem tV_c (f : zFr iSafe σ0 σ) {b s n y : Nat} (hb : b < 6) (hs : s < 10) : tV σ b s n y = tV σ0 b s n y := by
  unfold tV
  rw [tA_c f hb hs]
theorem tGst (g0 : iA σ0 nb ns) {b s y : Nat} (hs : s < ns) (c : tOk σ0 b s y) : aGst (mB σ0 b) (mG σ0 s y) := by
  obtain ⟨h1, h2, h3, h4, h5, h6⟩ := mG_ok (y := (y : Int)) (g0.stk hs)
  exact ⟨h1, h2, h3, h4, h5, h6, c.1, c.2.1⟩
theorem tA_b (g0 : iA σ0 nb ns) {b s y k : Nat} (hb : b < nb) (hs : s < ns) (c : tOk σ0 b s y) : 0 ≤ tA σ0 b s y k ∧ tA σ0 b s y k ≤ 99 := aAl_b (g0.bok hb) g0.wok (tGst g0 hs c)
theorem tV_b (g0 : iA σ0 nb ns) {b s n y : Nat} (hb : b < nb) (hs : s < ns) (c : tOk σ0 b s y) : 0 ≤ tV σ0 b s n y ∧ tV σ0 b s n y ≤ 99 * n := aSum_9 (fun _ => tA_b g0 hb hs c) (by omega) n
theorem pZ (g0 : iA σ0 nb ns) (f : zFr pWz σ0 σ) : iA σ nb ns ∧ zFr iSafe σ0 σ := ⟨iA_fr (pWz_s f) (pWz_lay f g0.1) g0, pWz_s f⟩
theorem mZ (g0 : iA σ0 nb ns) (f : zFr mWq σ0 σ) : iA σ nb ns ∧ zFr iSafe σ0 σ := ⟨iA_fr (mWq_s f) (f.lay g0.1 (fun _ _ _ _ => mWq_2)) g0, mWq_s f⟩
theorem p_timeC (g0 : iA σ0 nb ns) (f : zFr pWz σ0 σ) {b s n y : Nat} (hb : b < nb) (hs : s < ns) (hn : n ≤ 40) (hy : y < 1000)
    (h : ∀ (v : Int32) (σ' : zS), (tOk σ0 b s y → v.toInt = tV σ0 b s n y) → (¬ tOk σ0 b s y → v = -1) → zFr pWz σ0 σ' → zFr pWv σ σ' → Q (some (.int v)) σ') : zCall (d + 5) kX11_timeAlone [.ref 1, .ref (97 + 4 * b), .ref (121 + s), .int (nI y), .int (nI n)] σ Q := by
  obtain ⟨g, fs⟩ := pZ g0 f
  have h6 := g.nb6
  have h10 := g.ns10
  have ey : (nI y).toInt = (y : Int) := ai_n (by omega)
  have e1 : mB σ b = mB σ0 b := iS_mB fs (by omega)
  have e2 : mW σ = mW σ0 := iS_mW fs
  have e3 : mG σ s y = mG σ0 s y := iS_mG fs (by omega) _
  have e4 : zI σ 136 s = zI σ0 136 s := fs.i (show ¬ iSafe 0 136 s by unfold iSafe; omega)
  refine p_time (d := d) g.1 (g.bp hb) (g.bok hb) (zk_sk (by omega)) (mG_p (y := (y : Int)) (g.stk hs)) ey (mG_ok (g.stk hs)) g.wp g.wok hn (fun v σ1 q1 q2 f1 => h v σ1 (fun c => ?_) (fun c => q2 (fun z => c ?_)) (f.trans (pWv_z f1)) f1)
  · have z := (q1 (by
      show aCan (mB σ b) (mW σ) (zI σ 136 s).toInt 0 (y : Int)
      rw [e1, e2, e4]; exact c)).1
    rw [e1, e2, e3] at z
    exact z
  · have z2 : aCan (mB σ b) (mW σ) (zI σ 136 s).toInt 0 (y : Int) := z
    rw [e1, e2, e4] at z2
    exact z2
theorem p_tAlC (g0 : iA σ0 nb ns) (f : zFr pWz σ0 σ) {b s y : Nat} {seed : Int64} (hb : b < nb) (hs : s < ns) (hy : y < 1000)
    (h : ∀ (v : Int32) (σ' : zS), v.toInt = zif (tOk σ0 b s y) (aAl (mB σ0 b) (mW σ0) (mG σ0 s y) seed) (-1) → zFr pWz σ0 σ' → zFr (pWq 60) σ σ' → Q (some (.int v)) σ') : zCall (d + 5) kX11_ticksAlone [.ref 1, .ref (97 + 4 * b), .ref (121 + s), .int (nI y), .long seed] σ Q := by
  obtain ⟨g, fs⟩ := pZ g0 f
  have h6 := g.nb6
  have h10 := g.ns10
  have ey : (nI y).toInt = (y : Int) := ai_n (by omega)
  have e1 : mB σ b = mB σ0 b := iS_mB fs (by omega)
  have e2 : mW σ = mW σ0 := iS_mW fs
  have e3 : mG σ s y = mG σ0 s y := iS_mG fs (by omega) _
  have e4 : zI σ 136 s = zI σ0 136 s := fs.i (show ¬ iSafe 0 136 s by unfold iSafe; omega)
  refine p_tAl (d := d) g.1 (g.bp hb) (g.bok hb) (zk_sk (by omega)) (mG_p (y := (y : Int)) (g.stk hs)) ey (mG_ok (g.stk hs)) g.wp g.wok (fun v σ1 q1 f1 => h v σ1 ?_ (f.trans (pWq_z f1)) f1)
  have z : v.toInt = zif (aCan (mB σ b) (mW σ) (zI σ 136 s).toInt 0 (y : Int)) (aAl (mB σ b) (mW σ) (mG σ s y) seed) (-1) := q1
  rw [e1, e2, e3, e4] at z
  exact z
theorem m_cbC (g0 : iA σ0 nb ns) (f : zFr mWq σ0 σ) {b s y : Nat} (hb : b < nb) (hs : s < ns) (hy : y < 1000) (h : Q (some (.int (zb (tOk σ0 b s y)))) σ) : zCall (d + 3) kX12_canBegin [.ref 131, .int (nI b), .int (nI s), .int (nI y)] σ Q := by
  obtain ⟨g, fs⟩ := mZ g0 f
  have h6 := g.nb6
  have h10 := g.ns10
  have ey : (nI y).toInt = (y : Int) := ai_n (by omega)
  have e4 : zI σ 136 s = zI σ0 136 s := fs.i (show ¬ iSafe 0 136 s by unfold iSafe; omega)
  refine m_cb g.1 (by omega) (iS_mB fs (by omega)) (g0.bok hb) (iS_mW fs) (by omega) (g.stk hs).1 ?_
  rw [ey, e4]
  exact h
theorem m_aByC (g0 : iA σ0 nb ns) (f : zFr mWq σ0 σ) {b s y : Nat} {seed : Int64} (hb : b < nb) (hs : s < ns) (hy : y < 1000) (c : tOk σ0 b s y)
    (h : ∀ (v : Int32) (σ' : zS), v.toInt = aAl (mB σ0 b) (mW σ0) (mG σ0 s y) seed → zFr mWq σ0 σ' → zFr nWq σ σ' → Q (some (.int v)) σ') : zCall (d + 10) kX12_aloneBy [.ref 131, .int (nI b), .int (nI s), .int (nI y), .long seed] σ Q := by
  obtain ⟨g, fs⟩ := mZ g0 f
  have h6 := g.nb6
  have h10 := g.ns10
  have ey : (nI y).toInt = (y : Int) := ai_n (by omega)
  have e3 : mG σ s y = mG σ0 s y := iS_mG fs (by omega) _
  refine m_aBy (d := d) g.1 (by omega) (iS_mB fs (by omega)) (g0.bok hb) (iS_mW fs) g0.wok g.r43 (by omega) (by rw [ey, e3]; exact tGst g0 hs c) (fun v σ1 hv f1 => h v σ1 ?_ (f.trans (nWq_q f1)) f1)
  rw [ey, e3] at hv
  exact hv
theorem p_bits (_hl : zLay σ) {m : Int32} (h0 : tSt ns m → Q (some (.int 0)) σ) (h1 : ¬ tSt ns m → Q (some (.int 1)) σ) : zCall d kX11_noBits [.int m, .int (nI ns)] σ Q :=
  (bX11_noBits_0 _hl).mpr (zle' rfl k0 (fun q => h1 (fun z => by have := z.1; omega)) (fun q => zlt' rfl rfl (fun q2 => h0 ⟨q, q2⟩) (fun q2 => h1 (fun z => by have := z.2; omega))))
theorem m_sticks (hl : zLay σ) {m : Int32} (e : zI σ 131 12 = nI ns) (h0 : tSt ns m → Q (some (.int 1)) σ) (h1 : ¬ tSt ns m → Q (some (.int 0)) σ) : zCall d kX12_areSticks [.ref 131, .int m] σ Q := by
  refine (bX12_areSticks_0 hl).mpr ?_
  rw [e]
  exact zle' rfl k0 (fun q => h1 (fun z => by have := z.1; omega)) (fun q => zle' rfl rfl (fun q2 => h1 (fun z => by have := z.2; omega)) (fun q2 => h0 ⟨q, q2⟩))
end TIMES
/-! the least of many -/
noncomputable def bSt (t : Int × Int × Int) (ok : Prop) (s y v : Int) : Int × Int × Int := @ite _ (ok ∧ (t.2.2 = -1 ∨ v < t.2.2)) (Classical.propDecidable _) (s, y, v) t
theorem bSt_y {t : Int × Int × Int} {ok : Prop} {s y v : Int} (h : ok) (h2 : t.2.2 = -1 ∨ v < t.2.2) : bSt t ok s y v = (s, y, v) := by
  unfold bSt
  exact if_pos ⟨h, h2⟩
theorem bSt_n {t : Int × Int × Int} {ok : Prop} {s y v : Int} (h : ok → ¬ (t.2.2 = -1 ∨ v < t.2.2)) : bSt t ok s y v = t := by
  unfold bSt
  exact if_neg (fun z => h z.1 z.2)
noncomputable def bIn (ok : Nat → Prop) (v : Nat → Int) (s : Int) (t : Int × Int × Int) : Nat → Int × Int × Int
  | 0 => t
  | k + 1 => bSt (bIn ok v s t k) (ok k) s k (v k)
theorem bIn_no {ok : Nat → Prop} {v : Nat → Int} {s : Int} {t : Int × Int × Int} (h : ∀ k, ¬ ok k) : ∀ n, bIn ok v s t n = t
  | 0 => rfl
  | n + 1 => by
    show bSt (bIn ok v s t n) (ok n) s n (v n) = t
    rw [bSt_n (fun z => absurd z (h n)), bIn_no h n]
noncomputable def bOut (L : Nat) (ok : Nat → Nat → Prop) (v : Nat → Nat → Int) : Nat → Int × Int × Int
  | 0 => (-1, -1, -1)
  | s + 1 => bIn (ok s) (v s) s (bOut L ok v s) L
theorem bIn_c {ok ok' : Nat → Prop} {v v' : Nat → Int} {s : Int} {t : Int × Int × Int} : ∀ n, (∀ k, k < n → ok k = ok' k ∧ v k = v' k) → bIn ok v s t n = bIn ok' v' s t n
  | 0, _ => rfl
  | n + 1, h => by
    show bSt (bIn ok v s t n) (ok n) s n (v n) = bSt (bIn ok' v' s t n) (ok' n) s n (v' n)
    rw [bIn_c n (fun k hk => h k (by omega)), (h n (by omega)).1, (h n (by omega)).2]
theorem bOut_c {L : Nat} {ok ok' : Nat → Nat → Prop} {v v' : Nat → Nat → Int} : ∀ n, (∀ s, s < n → ∀ k, k < L → ok s k = ok' s k ∧ v s k = v' s k) → bOut L ok v n = bOut L ok' v' n
  | 0, _ => rfl
  | n + 1, h => by
    show bIn (ok n) (v n) n (bOut L ok v n) L = bIn (ok' n) (v' n) n (bOut L ok' v' n) L
    rw [bOut_c n (fun s hs => h s (by omega)), bIn_c L (h n (by omega))]
def b3 (x y z : Int32) (t : Int × Int × Int) : Prop := x.toInt = t.1 ∧ y.toInt = t.2.1 ∧ z.toInt = t.2.2
