def GF (k j : Nat) : Prop := (1 ≤ k ∧ k ≤ 9) ∨ (19 ≤ k ∧ k ≤ 27) ∨ k = 29 ∨ (k = 0 ∧ j = 8) ∨ k = 32 ∨ k = 50 ∨ GZ k j
theorem Inv_town {υ υ' : hU} {M F : hf_M} (hJ : Jv υ M) (hR : yRf F) (hg : ∀ k j, ¬ GF k j → F.1 k j = M.1 k j ∧ F.2.1 k j = M.2.1 k j) (hu : uWF υ') (hc : cU 1 υ' F) (hr : rU υ' F) (hP : yP (uT υ) ≤ yP (uT υ')) (hfa : F.1 0 8 = F.1 49 8) (hre : iRe F) : Inv F := by
  obtain ⟨j1, j2, j3, j4, j5, j6, j7, j8, j9⟩ := hJ
  refine ⟨υ', ⟨hR, hu, hc, hr, iSh_mono hP (iSh_ag (fun k j hk => hg k j ?_) j5), iIm_ag (fun k j hk => hg k j ?_) j6, hfa, iTr_ag (fun k j hk => (hg k j ?_).1) j8, fun j => ?_⟩, hre⟩
  · unfold GF GZ Gv GrT; omega
  · unfold GF GZ Gv GrT; omega
  · unfold GF GZ Gv GrT; omega
  · rw [(hg 63 j (by unfold GF GZ Gv GrT; omega)).1]; exact j9 j
