/-! witness -/
theorem wit_loop {υ : hU} {M : hf_M} (hJ : Jv υ M) : ∀ (k p fu1 fu2 : Nat) (b m : Nat), yP (uT υ) = p + k → k < fu1 → k < fu2 → b < 6 → m ≤ 64 → ∃ r, s_X4_witness_6 0 fu1 (nI b) (nI m) (nI p) M = some (r, M) ∧ s_X5_witness_20 49 fu2 (nI b) (nI m) (nI p) M = some (r, M) := by
  have hP := (jw hJ).1.2.1
  have hS := jS hJ
  intro k
  induction k with
  | zero =>
    intro p fu1 fu2 b m hk h1 h2 hb hm
    obtain ⟨fu1, rfl⟩ : ∃ u, fu1 = u + 1 := ⟨fu1 - 1, by omega⟩
    obtain ⟨fu2, rfl⟩ : ∃ u, fu2 = u + 1 := ⟨fu2 - 1, by omega⟩
    refine ⟨nI b, ?_, ?_⟩
    · rw [s_X4_witness_6, j0 hJ, qrs, (jc hJ).1.1.2.1, qi_le rfl rfl (by omega) (by omega), if_pos (by omega), if_neg (fun e => qm1 b (by omega) e.symm)]
    · rw [s_X5_witness_20, (jr hJ).1.1.2.1, qi_le rfl rfl (by omega) (by omega), if_pos (by omega)]
  | succ k ih =>
    intro p fu1 fu2 b m hk h1 h2 hb hm
    obtain ⟨fu1, rfl⟩ : ∃ u, fu1 = u + 1 := ⟨fu1 - 1, by omega⟩
    obtain ⟨fu2, rfl⟩ : ∃ u, fu2 = u + 1 := ⟨fu2 - 1, by omega⟩
    have hle := ypop_le (yWd (uT υ) yA1 p)
    have ec : s_X4_witness_6 0 (fu1 + 1) (nI b) (nI m) (nI p) M = if ypop (yWd (uT υ) yA1 p) ≤ m then s_X4_witness_6 0 fu1 (nI b) (nI m) (nI (p + 1)) M else s_X4_witness_6 0 fu1 (nI p) (nI (ypop (yWd (uT υ) yA1 p))) (nI (p + 1)) M := by
      rw [s_X4_witness_6, j0 hJ, qrs, (jc hJ).1.1.2.1, qi_le rfl rfl (by omega) (by omega), if_neg (by omega), qrs, c_wout hJ.1 q1 (jw hJ) (jc hJ).1 (by omega) (jc hJ).2.1 (by omega), qb1, c_pop, qb1, if_neg (fun e => qm1 b (by omega) e.symm), qi_le rfl rfl (by omega) (by omega), nI_1]
    have er : s_X5_witness_20 49 (fu2 + 1) (nI b) (nI m) (nI p) M = if m < ypop (yWd (uT υ) yA1 p) then s_X5_witness_20 49 fu2 (nI p) (nI (ypop (yWd (uT υ) yA1 p))) (nI (p + 1)) M else s_X5_witness_20 49 fu2 (nI b) (nI m) (nI (p + 1)) M := by
      rw [s_X5_witness_20, (jr hJ).1.1.2.1, qi_le rfl rfl (by omega) (by omega), if_neg (by omega), r_worldsOf hJ.1 (jw hJ) (jr hJ).1 (b := p) (ch := yA1) (yset_all _ (by omega)) (fun p' hp' => nI_eq (by omega) (by omega)), qb1, r_count, qb1, qi_lt rfl rfl (by omega) (by omega), nI_1]
    by_cases e : ypop (yWd (uT υ) yA1 p) ≤ m
    · obtain ⟨r, r1, r2⟩ := ih (p + 1) fu1 fu2 b m (by omega) (by omega) (by omega) hb hm
      refine ⟨r, ?_, ?_⟩
      · rw [ec, if_pos e]; exact r1
      · rw [er, if_neg (by omega)]; exact r2
    · obtain ⟨r, r1, r2⟩ := ih (p + 1) fu1 fu2 p _ (by omega) (by omega) (by omega) (by omega) hle
      refine ⟨r, ?_, ?_⟩
      · rw [ec, if_neg e]; exact r1
      · rw [er, if_pos (by omega)]; exact r2
theorem p_witness : hs_witness Inv := by
  intro M ⟨υ, hJ, hRe⟩
  have hP := (jw hJ).1.2.1
  have hS := jS hJ
  by_cases h0 : yP (uT υ) = 0
  · refine ⟨-5, bC 5 M, bR 5 (bC 5 M), ?_, ?_, Inv_ref0 hJ hRe⟩
    · have : s_X4_witness_6 0 (1999 + 1) (-1) 0 (nI 0) M = some (-5, bC 5 M) := by
        rw [s_X4_witness_6, j0 hJ, qrs, (jc hJ).1.1.2.1, qi_le rfl rfl (by omega) (by omega), if_pos (by omega), if_pos rfl, c_ref hJ.1 (j := 5) rfl (by decide) (by decide), qb1]
      exact this
    · unfold s_X5_witness
      rw [(jr (Jv_bC hJ)).1.1.2.1, h0, if_pos (show nI 0 = 0 from rfl), r_no (M := bC _ M) hJ.1 (j := 5) rfl (by decide), qb1]
  · have hle := ypop_le (yWd (uT υ) yA1 0)
    obtain ⟨r, r1, r2⟩ := wit_loop hJ (yP (uT υ) - 1) 1 1999 1999 0 _ (by omega) (by omega) (by omega) (by omega) hle
    refine ⟨r, M, M, ?_, ?_, υ, hJ, hRe⟩
    · have : s_X4_witness_6 0 (1999 + 1) (-1) 0 (nI 0) M = some (r, M) := by
        rw [s_X4_witness_6, j0 hJ, qrs, (jc hJ).1.1.2.1, qi_le rfl rfl (by omega) (by omega), if_neg (by omega), qrs, c_wout hJ.1 q1 (jw hJ) (jc hJ).1 (by omega) (jc hJ).2.1 (by omega), qb1, c_pop, qb1, if_pos rfl, nI_1]
        exact r1
      exact this
    · have : s_X5_witness_20 49 (1999 + 1) 0 (-1) (nI 0) M = some (r, M) := by
        rw [s_X5_witness_20, (jr hJ).1.1.2.1, qi_le rfl rfl (by omega) (by omega), if_neg (by omega), r_worldsOf hJ.1 (jw hJ) (jr hJ).1 (b := 0) (ch := yA1) (yset_all _ (by omega)) (fun p' hp' => nI_eq (by omega) (by omega)), qb1, r_count, qb1, if_pos (Int32.lt_of_lt_of_le (show (-1 : Int32) < 0 by decide) (nI_pos' (by omega))), nI_1]
        exact r2
      unfold s_X5_witness
      rw [(jr hJ).1.1.2.1, if_neg (nI_ne0 (by omega) (by omega))]
      exact this
