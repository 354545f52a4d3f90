/-! the call back -/
section BACK
variable {nb ns : Nat}
def wBk (j c k : Nat) : Prop := (j = 0 ∧ (c = 12 ∨ c = 14 ∨ c = 15 ∨ (20 ≤ c ∧ c ≤ 30) ∨ (33 ≤ c ∧ c ≤ 35) ∨ c = 139 ∨ (142 ≤ c ∧ c ≤ 145) ∨ (c = 131 ∧ (k = 0 ∨ (19 ≤ k ∧ k ≤ 22))))) ∨ (j = 1 ∧ (c = 12 ∨ (c = 131 ∧ k = 31))) ∨ (j = 2 ∧ ((c = 12 ∧ k = 3) ∨ (20 ≤ c ∧ c ≤ 30 ∧ k = 0)))
theorem e_back {σ : zS} (g : iA σ nb ns) : eCall kX11_back kX12_back [] [] σ := by
  have h6 := g.nb6
  have h10 := g.ns10
  rcases g.im with ⟨m34, p9⟩ | ⟨m34, n, b, T, n6, m28, p4, m27, TL, R⟩
  · refine e_q g (-1) (fun Q h => (bX11_back_0 g.1).mpr (zy p9 (h _ σ km1 (zFr.refl _ _)))) (fun σ1 σ2 Q l1 e2 g2 f2 h => ?_)
    refine (bX12_back_0 l1).mpr ?_
    rw [e2]
    exact zy (by rw [← m34, ← f2.i (nS3 (k := 34) (by omega)), ← e2, zI_self, pk_un (by decide)]) (h _ σ2 km1 (zFr.refl _ _))
  · have hb := TL.1
    have R' := R
    obtain ⟨g1, h0, g3, g4, g5, g6, g7, g8, -, -, -, -, -, -⟩ := R'
    have hsr : ∀ r, r < 6 → ∃ s, zR σ (36 + 8 + 2 * r) 0 = some s ∧ zk s = 6 := fun r hr => (g.sr r hr).2
    refine (bX11_back_0 g.1).mpr (zn (by rw [g5]; decide) (p_rcopy (a0 := 12) (a1 := 36) g.1 zk_12 zk_36 (by omega) TL.2.1 (zk_bk (by omega)) g8 (Or.inr g5) hsr (fun σ1 l1 r1 r2 r3 r4 r5 f1 => ⟨rfl, (bX11_back_23 l1).mpr ?_⟩)))
    refine p_lcopy (a0 := 32) (a1 := 56) l1 zk_32 zk_56 (by omega) (fun σ2 l2 c1 c2 f2 => ⟨rfl, (bX11_back_34 l2).mpr ?_⟩)
    have f1i : zFr wBk σ σ1 := f1.mono (fun j c k q => by
      rcases q with ⟨rfl, q | q | q | ⟨_, q1, q2⟩⟩ | ⟨rfl, q⟩ | ⟨rfl, ⟨q, q2⟩ | ⟨_, q1, q2, q3⟩⟩
      · exact Or.inl ⟨rfl, Or.inl q⟩
      · exact Or.inl ⟨rfl, Or.inr (Or.inl q)⟩
      · exact Or.inl ⟨rfl, Or.inr (Or.inr (Or.inl q))⟩
      · exact Or.inl ⟨rfl, Or.inr (Or.inr (Or.inr (Or.inl ⟨q1, q2⟩)))⟩
      · exact Or.inr (Or.inl ⟨rfl, Or.inl q⟩)
      · exact Or.inr (Or.inr ⟨rfl, Or.inl ⟨q, q2⟩⟩)
      · exact Or.inr (Or.inr ⟨rfl, Or.inr ⟨q1, q2, q3⟩⟩))
    have f2i : zFr wBk σ1 σ2 := f2.mono (fun j c k q => Or.inl ⟨q.1, Or.inr (Or.inr (Or.inr (Or.inr (Or.inl (by omega)))))⟩)
    have f02 := f1i.trans f2i
    have eT : zI σ2 12 5 = nI T := by rw [f2.i (by omega), r2 5 (by omega) (by omega) (by omega)]; exact g4
    rw [eT]
    refine ⟨nI T, rfl, l2, zSam.fr f02 (fun k => by unfold wBk; omega), (bX12_back_0 l2).mpr ?_⟩
    have e34 : zI σ2 131 34 = 1 := by rw [f02.i (by unfold wBk; omega)]; exact m34
    rw [e34]
    refine zn (by decide) ?_
    have f3 : zFr (fun j c k => j = 0 ∧ c = 131 ∧ k = 0) σ2 (zsI σ2 131 (upd (zI σ2 131) 0 0)) := zFr_U ⟨rfl, rfl, rfl⟩
    have l3 : zLay (zsI σ2 131 (upd (zI σ2 131) 0 0)) := l2.I
    generalize zsI σ2 131 (upd (zI σ2 131) 0 0) = σ3 at f3 l3 ⊢
    refine m_row_bk (d := 12) 66 0 σ3 (by omega) (by omega) l3 (fun k hk => by omega) (fun σ4 l4 z4 f4 => ?_)
    refine m_copy (N := 366) l4 zk_146 zk_142 zl_146 zl_142 (by omega) (by decide) (fun σ5 l5 z5 f5 => ⟨rfl, (bX12_back_51 l5).mpr ?_⟩)
    refine m_copy (N := 366) l5 zk_147 zk_143 zl_147 zl_143 (by omega) (by decide) (fun σ6 l6 z6 f6 => ⟨rfl, (bX12_back_62 l6).mpr ?_⟩)
    refine m_copy (N := 61) l6 zk_148 zk_144 zl_148 zl_144 (by omega) (by decide) (fun σ7 l7 z7 f7 => ⟨rfl, (bX12_back_73 l7).mpr ?_⟩)
    refine m_copy (N := 16) l7 zk_149 zk_145 zl_149 zl_145 (by omega) (by decide) (fun σ8 l8 z8 f8 => ⟨rfl, (bX12_back_84 l8).mpr ?_⟩)
    have f38 : zFr (fun j c _ => j = 0 ∧ (c = 139 ∨ (142 ≤ c ∧ c ≤ 145))) σ3 σ8 := ((((f4.mono (fun j c k q => ⟨q.1, by omega⟩)).trans (f5.mono (fun j c k q => ⟨q.1, by omega⟩))).trans (f6.mono (fun j c k q => ⟨q.1, by omega⟩))).trans (f7.mono (fun j c k q => ⟨q.1, by omega⟩))).trans (f8.mono (fun j c k q => ⟨q.1, by omega⟩))
    have f28 : zFr (fun j c k => j = 0 ∧ (c = 139 ∨ (142 ≤ c ∧ c ≤ 145) ∨ (c = 131 ∧ k = 0))) σ2 σ8 := (f3.mono (fun j c k q => ⟨q.1, by omega⟩)).trans (f38.mono (fun j c k q => ⟨q.1, by omega⟩))
    have e8 : ∀ c k, c ≠ 139 → (c < 142 ∨ 145 < c) → (c = 131 → k ≠ 0) → zI σ8 c k = zI σ2 c k := fun c k q1 q2 q3 => f28.i (by omega)
    have e298 : zI σ8 131 29 = nI T := by rw [e8 _ _ (by omega) (by omega) (by omega), f02.i (by unfold wBk; omega)]; exact g3
    rw [e298]
    have v131 : ∀ k, zI (zsL (zsI σ8 131 (upd (upd (upd (upd (zI σ8 131) 19 (zI σ8 131 27)) 20 (zI σ8 131 28)) 21 (nI T)) 22 (zI σ8 131 30))) 131 (vp_updL (zL σ8 131) 31 ((zL σ8 131) 33))) 131 k = upd (upd (upd (upd (zI σ8 131) 19 (zI σ8 131 27)) 20 (zI σ8 131 28)) 21 (nI T)) 22 (zI σ8 131 30) k := fun k => by
      rw [zI_L, zI_self]
    have vI : ∀ c, c ≠ 131 → zI (zsL (zsI σ8 131 (upd (upd (upd (upd (zI σ8 131) 19 (zI σ8 131 27)) 20 (zI σ8 131 28)) 21 (nI T)) 22 (zI σ8 131 30))) 131 (vp_updL (zL σ8 131) 31 ((zL σ8 131) 33))) c = zI σ8 c := fun c hc => by
      rw [zI_L, zI_ne hc]
    have vL : zL (zsL (zsI σ8 131 (upd (upd (upd (upd (zI σ8 131) 19 (zI σ8 131 27)) 20 (zI σ8 131 28)) 21 (nI T)) 22 (zI σ8 131 30))) 131 (vp_updL (zL σ8 131) 31 ((zL σ8 131) 33))) = zL (zsL σ8 131 (vp_updL (zL σ8 131) 31 ((zL σ8 131) 33))) := rfl
    have vR : zR (zsL (zsI σ8 131 (upd (upd (upd (upd (zI σ8 131) 19 (zI σ8 131 27)) 20 (zI σ8 131 28)) 21 (nI T)) 22 (zI σ8 131 30))) 131 (vp_updL (zL σ8 131) 31 ((zL σ8 131) 33))) = zR σ8 := rfl
    have l9 : zLay (zsL (zsI σ8 131 (upd (upd (upd (upd (zI σ8 131) 19 (zI σ8 131 27)) 20 (zI σ8 131 28)) 21 (nI T)) 22 (zI σ8 131 30))) 131 (vp_updL (zL σ8 131) 31 ((zL σ8 131) 33))) := l8.I.L
    have f9 : zFr wBk σ8 (zsL (zsI σ8 131 (upd (upd (upd (upd (zI σ8 131) 19 (zI σ8 131 27)) 20 (zI σ8 131 28)) 21 (nI T)) 22 (zI σ8 131 30))) 131 (vp_updL (zL σ8 131) 31 ((zL σ8 131) 33))) := by
      refine ⟨rfl, rfl, fun c k q => ?_, fun c k q => ?_, fun c k q => by rw [vR]⟩
      · by_cases e : c = 131
        · subst e
          have z : k ≠ 19 ∧ k ≠ 20 ∧ k ≠ 21 ∧ k ≠ 22 := by unfold wBk at q; omega
          rw [v131, pk_un z.2.2.2, pk_un z.2.2.1, pk_un z.2.1, pk_un z.1]
        · rw [vI c e]
      · rw [vL]
        by_cases e : c = 131
        · subst e
          rw [zL_self, pk_uLn (by unfold wBk at q; omega)]
        · rw [zL_ne e]
    generalize zsL (zsI σ8 131 (upd (upd (upd (upd (zI σ8 131) 19 (zI σ8 131 27)) 20 (zI σ8 131 28)) 21 (nI T)) 22 (zI σ8 131 30))) 131 (vp_updL (zL σ8 131) 31 ((zL σ8 131) 33)) = σ9 at v131 vI vL vR l9 f9 ⊢
    have f28i : zFr wBk σ2 σ8 := f28.mono (fun j c k q => by
      obtain ⟨rfl, q | q | ⟨q, q2⟩⟩ := q
      · exact Or.inl ⟨rfl, Or.inr (Or.inr (Or.inr (Or.inr (Or.inr (Or.inl q)))))⟩
      · exact Or.inl ⟨rfl, Or.inr (Or.inr (Or.inr (Or.inr (Or.inr (Or.inr (Or.inl q))))))⟩
      · exact Or.inl ⟨rfl, Or.inr (Or.inr (Or.inr (Or.inr (Or.inr (Or.inr (Or.inr ⟨q, Or.inl q2⟩))))))⟩)
    have f09 := (f02.trans f28i).trans f9
    have e9 : ∀ c k, ¬ wBk 0 c k → zI σ9 c k = zI σ c k := fun c k q => f09.i q
    have e92 : ∀ c k, c < 131 → zI σ9 c k = zI σ2 c k := fun c k q => by rw [vI c (by omega), e8 _ _ (by omega) (by omega) (by omega)]
    have eF : mFR σ9 139 n = mFR σ 141 n := by
      unfold mFR
      funext r w
      by_cases q : r < n ∧ w < 11
      · rw [if_pos q, if_pos q, vI _ (by decide), f8.i (by omega), f7.i (by omega), f6.i (by omega), f5.i (by omega), z4 _ (by omega), f4.i (by omega), f3.i (by omega), f02.i (by unfold wBk; omega)]
      · rw [if_neg q, if_neg q]
    have eB : mB σ9 b = mB σ b := mB_f (nb := nb) f09 (fun c k q => by unfold jB at q; unfold wBk; omega) hb
    have eR2 : ∀ c k, c < 131 → zR σ9 c k = zR σ2 c k := fun c k _ => by rw [vR, f28.r (by omega)]
    have er : ∀ r, r < 6 → zR σ9 (12 + 8 + 2 * r) 0 = zR σ (36 + 8 + 2 * r) 0 ∧ ∀ k, 1 ≤ k → k ≤ 8 → zI σ9 (12 + 8 + 2 * r) k = zI σ (36 + 8 + 2 * r) k := fun r hr => by
      rw [eR2 _ _ (by omega), f2.r (by omega), (r5 r hr).1]
      exact ⟨rfl, fun k k1 k2 => by rw [e92 _ _ (by omega), f2.i (by omega), (r5 r hr).2 k k1 k2]⟩
    refine ⟨rfl, ⟨nb, ns, iA_but f09 l9 g (by unfold wBk; omega) (Or.inl fun c k q => by unfold jTape at q; unfold wBk; omega) (Or.inl fun c k q => by unfold jWx at q; unfold wBk; omega) (Or.inl fun c k q => by unfold jBr jB at q; unfold wBk; omega) (Or.inl fun c k q => by unfold jSt at q; unfold wBk; omega) (Or.inl fun c k q => by unfold jSg at q; unfold wBk; omega) (Or.inr ⟨n, n6, ?_, ?_, Or.inr ⟨b, ?_, ?_, Or.inr ⟨T, ?_⟩⟩⟩) (Or.inl ⟨fun c k q => by unfold jIm jB at q; unfold wBk; omega, by unfold wBk; omega, fun c k _ _ => by unfold wBk; omega⟩) (Or.inr fun r hr => ?_)⟩, zSam.fr (f28i.trans f9) (fun k => by unfold wBk; omega)⟩
    · rw [v131, pk_un (by decide), pk_un (by decide), pk_us, e8 _ _ (by omega) (by omega) (by omega), f02.i (by unfold wBk; omega)]; exact m28
    · rw [e92 _ _ (by omega), f2.i (by omega), r2 4 (by omega) (by omega) (by omega)]; exact p4
    · rw [v131, pk_un (by decide), pk_un (by decide), pk_un (by decide), pk_us, e8 _ _ (by omega) (by omega) (by omega), f02.i (by unfold wBk; omega)]; exact m27
    · exact iTl_cp n6 h10 TL (by rw [eR2 _ _ (by omega), f2.r (by omega), r1]; exact TL.2.1.symm) er (fun s k hs => e9 _ _ (by unfold wBk; omega)) eF eB
    · refine iRn_cp n6 R ?_ ?_ ?_ (fun k k1 k2 k3 => by rw [e92 _ _ (by omega), f2.i (by omega), r2 k k1 k2 k3]) ?_ (fun x hx => by rw [e92 _ _ (by omega), f2.i (by omega)]; exact r4 x hx) eF (fun x hx => ?_) (fun k hk => ⟨?_, ?_⟩) (fun k hk => ?_) (fun k hk => ⟨?_, ?_⟩) (fun k hk => ?_)
      · rw [v131, pk_un (by decide), pk_us]; exact g3.symm
      · rw [v131, pk_us, e8 _ _ (by omega) (by omega) (by omega), f02.i (by unfold wBk; omega)]
      · rw [vL, zL_self]
        show (if 31 = 31 then zL σ8 131 33 else _) = _
        rw [if_pos rfl, f28.l (by omega), f02.l (by unfold wBk; omega)]
      · rw [vL, zL_ne (by decide), f28.l (by omega), f2.l (by omega)]; exact r3
      · rw [vI _ (by decide), z8 x hx, f8.i (by omega), f7.i (by omega), f6.i (by omega), f5.i (by omega), f4.i (by omega), f3.i (by omega), f02.i (by unfold wBk; omega)]
      · rw [e92 _ _ (by omega), (c1 k hk).1, f1.i (by unfold pWq; omega)]
      · rw [e92 _ _ (by omega), (c1 k hk).2, f1.i (by unfold pWq; omega)]
      · rw [e92 _ _ (by omega), c2 k hk, f1.i (by unfold pWq; omega)]
      · rw [vI _ (by decide), f8.i (by omega), f7.i (by omega), f6.i (by omega), z5 k hk, f5.i (by omega), f4.i (by omega), f3.i (by omega), f02.i (by unfold wBk; omega)]
      · rw [vI _ (by decide), f8.i (by omega), f7.i (by omega), z6 k hk, f6.i (by omega), f5.i (by omega), f4.i (by omega), f3.i (by omega), f02.i (by unfold wBk; omega)]
      · rw [vI _ (by decide), f8.i (by omega), z7 k hk, f7.i (by omega), f6.i (by omega), f5.i (by omega), f4.i (by omega), f3.i (by omega), f02.i (by unfold wBk; omega)]
    · obtain ⟨a1, a2⟩ := g.sr r hr
      refine ⟨?_, by rw [f09.r (by unfold wBk; omega)]; exact a2⟩
      have e := (er r hr).1
      rw [show 20 + 2 * r = 12 + 8 + 2 * r by omega, e]
      exact a2
end BACK
