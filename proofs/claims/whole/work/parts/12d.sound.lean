set_option maxHeartbeats 4000000 in
theorem zsound (l : Launch) (hl : l.stackTraces = false) : ∀ f, zSnd l f := by
  intro f
  induction f with
  | zero => intro d K pc ls st σ r σ' h; cases h
  | succ f ih =>
    intro d K pc ls st σ r σ' h p e R s m args below meth c H locs cells slots Q A H0 D ad ca lsA C hth hW hL hv1 hv2 hc hsl k
    have h1n := hW.2.2.2.2.2.2.1
    unfold zrun at h
    split at h
    · cases h
    · rename_i i n hd
      split at h
      · rename_i hn
        split at h
        · cases h
        · rename_i pc1 ls1 st1 σ1 hs
          have m1 := zstep_mon _ _ _ _ hs
          have m2 := zrun_mon _ _ _ _ _ _ _ _ _ h
          refine zsnd_next hd hn hs C hW hL hv1 hv2 (by omega) (by omega) (fun ad1 ca1 H1 locs1 cells1 slots1 lsA1 hag hW1 hL1 hv1' hv2' hc1 hs1 => ?_)
          exact ih d K pc1 ls1 st1 σ1 r σ' h p e R s m args below meth c H1 locs1 cells1 slots1 Q A H0 D ad1 ca1 lsA1 (zCx_ad C (hag 0 (by omega))) hth hW1 hL1 hv1' hv2' (by omega) (by omega) (fun ad2 ca2 H2 locs2 cells2 slots2 pcR lsR hag2 hW2 hc2 hs2 hret hlsz =>
            k ad2 ca2 H2 locs2 cells2 slots2 pcR lsR (fun j hj => (hag2 j (by omega)).trans (hag j hj)) hW2 (by omega) (by omega) hret hlsz)
        · rename_i v hs
          cases h
          rcases zstep_ret hs with ⟨rfl, rfl, rfl, h0⟩ | ⟨rfl, x, rfl, rfl, h0⟩ | ⟨rfl, rfl, rfl, h0⟩
          · obtain rfl : n = 1 := by simpa [zilen] using hn
            exact k ad ca H locs cells slots pc lsA (fun _ _ => rfl) hW rfl rfl (Or.inl ⟨rfl, h0, hd⟩) hL.1
          · obtain rfl : n = 1 := by simpa [zilen] using hn
            exact k ad ca H locs cells slots pc lsA (fun _ _ => rfl) hW rfl rfl (Or.inr (Or.inl ⟨x, rfl, h0, hd⟩)) hL.1
          · obtain rfl : n = 3 := by simpa [zilen] using hn
            exact k ad ca H locs cells slots pc lsA (fun _ _ => rfl) hW rfl rfl (Or.inr (Or.inr ⟨rfl, h0⟩)) hL.1
        · rename_i K' as rest hs
          split at h
          · cases h
          · rename_i dc
            split at h
            · rename_i hk8
              exact zsnd_brook hl ih hd hn hs hk8 h C hth hW hL hv1 hv2 hc hsl k
            · rename_i hk8
              split at h
              · cases h
              rename_i r1 σ1 hr
              split at h
              rotate_left
              · cases h
              rename_i hisN
              have m1 := zrun_mon _ _ _ _ _ _ _ _ _ hr
              have m2 := zrun_mon _ _ _ _ _ _ _ _ _ h
              refine zsnd_call ih hd hn hs hr hisN hk8 C hW hL hv1 hv2 (by omega) (by omega) (fun ad1 ca1 H1 locs1 cells1 slots1 lsA1 hag hW1 hL1 hv1' hv2' hc1 hs1 => ?_)
              exact ih (dc + 1) K (pc + 3) ls _ σ1 r σ' h p e R s m args below meth c H1 locs1 cells1 slots1 Q A H0 D ad1 ca1 lsA1 (zCx_ad C (hag 0 (by omega))) hth hW1 hL1 hv1' hv2' (by omega) (by omega) (fun ad2 ca2 H2 locs2 cells2 slots2 pcR lsR hag2 hW2 hc2 hs2 hret hlsz =>
                k ad2 ca2 H2 locs2 cells2 slots2 pcR lsR (fun j hj => (hag2 j (by omega)).trans (hag j hj)) hW2 (by omega) (by omega) hret hlsz)
      · cases h
