theorem q10 : ¬ (1 : Int32) = 0 := by decide
theorem c_has {M : hf_M} {q n : Nat} (t2 : s_X2_isRow q M = some (1, M)) (h2 : M.1 q 2 = nI n) (a : Int32) : s_X2_has q a M = some (qbI (yin a n), M) := by
  unfold s_X2_has
  rw [t2, qb1, if_neg q10, h2, q_if0n]
theorem c_has0 {M : hf_M} {q : Nat} (t2 : s_X2_isRow q M = some (0, M)) (a : Int32) : s_X2_has q a M = some (0, M) := by
  unfold s_X2_has
  rw [t2, qb1, if_pos rfl]
def svl (o : Nat) (v : Int64) : Int64 := if o = 0 then (hn_i2b v.toInt32).toInt64 else if o = 1 then (hn_i2s v.toInt32).toInt64 else if o = 2 then v.toInt32.toInt64 else v
theorem c_putv {M : hf_M} (hR : yRf M) {s o i : Nat} (hs : s < 8) (ho : o < 4) (hi : i < 160) (h1 : M.1 (33 + 2 * s) 1 = nI (100 + o)) (v : Int64) : s_X2_put (33 + 2 * s) (nI i) v M = some ((), hf_sL M (34 + 2 * s) i (svl o v)) := by
  have l : i < hf_len (34 + 2 * s) := by rw [sh_len hs]; exact hi
  have h4 : o = 0 ∨ o = 1 ∨ o = 2 ∨ o = 3 := by omega
  unfold s_X2_put
  rw [sh_r0 hR hs, h1, qrs, qrs, qrs, qrs, qsL M _ l, qsL M _ l, qsL M _ l, qsL M _ l]
  rcases h4 with rfl | rfl | rfl | rfl <;> rfl
theorem p_set : hs_set Inv := by
  intro M ⟨υ, hJ, hRe⟩ a1 a2 a3
  have hR := hJ.1
  have h3 : M.2.2 0 3 = some 28 := yr0 hR rfl
  have hC : ∀ (j : Nat) (k i : Nat), k ≠ 32 → (bC j M).1 k i = M.1 k i := fun j k i hk => by unfold bC; rw [gI (by omega)]
  have hN := noRow_ hJ a1
  have r17 : ∀ j, (bC j M).2.2 49 17 = some 57 := fun j => yrf_49 hR rfl
  have r19 : ∀ j, (bC j M).2.2 49 19 = some 59 := fun j => yrf_49 hR rfl
  cases hb : yin a1 8
  · refine ⟨-1, bC 1 M, bR 1 (bC 1 M), ?_, ?_, Inv_ref0 hJ hRe⟩
    · have e : s_X4_noRow 0 a1 M = some (-1, M) := by
        unfold s_X4_noRow
        rw [c_shelf, qb1, hb, qb_ifF]
      unfold s_X4_set
      rw [e, qb1, if_neg (by decide), c_ref hR (j := 1) rfl (by decide) (by decide), qb1]
    · unfold s_X5_set
      rw [r_shelf, qb1, hb, qb_ifF, r_no (M := bC _ M) hR (j := 1) rfl (by decide), qb1]
  · obtain ⟨s, hs, rfl⟩ := yin_T hb (by decide)
    have l57 : s < hf_len 57 := hs
    have l58 : s < hf_len 58 := hs
    have l59 : s < hf_len 59 := hs
    rcases sh_tag hJ.2.2.2.2.1 hJ.2.1.1.1.2.1 hs with ⟨t1, t2, t3, t4⟩ | ⟨t1, t2, t3, t4⟩ | ⟨t1, t2, t3, o, n, ho, hn, u1, u2, u3, u4, u5⟩
    · refine ⟨-3, bC 3 M, bR 3 (bC 3 M), ?_, ?_, Inv_ref0 hJ hRe⟩
      · have e : s_X4_noRow 0 (nI s) M = some (-3, M) := by
          simp only [s_X4_noRow, c_shelf, hb, qb_ifT, t2, t3, qb1, qrs, h3, sh_ld hR hs]
          rfl
        unfold s_X4_set
        rw [e, qb1, if_neg (by decide), c_ref hR (j := 3) rfl (by decide) (by decide), qb1]
      · unfold s_X5_set
        rw [r_shelf, qb1, hb, qb_ifT, r17, qrs, qlI _ l57, hC 3 57 s (by decide), t1, if_neg (by decide), qrs, qlI _ l57, hC 3 57 s (by decide), t1, if_pos rfl, r_no (M := bC _ M) hR (j := 3) rfl (by decide), qb1]
    · refine ⟨-2, bC 2 M, bR 2 (bC 2 M), ?_, ?_, Inv_ref0 hJ hRe⟩
      · have e : s_X4_noRow 0 (nI s) M = some (-2, M) := by
          simp only [s_X4_noRow, c_shelf, hb, qb_ifT, t2, t3, qb1, qrs, h3, sh_ld hR hs]
          rfl
        unfold s_X4_set
        rw [e, qb1, if_neg (by decide), c_ref hR (j := 2) rfl (by decide) (by decide), qb1]
      · unfold s_X5_set
        rw [r_shelf, qb1, hb, qb_ifT, r17, qrs, qlI _ l57, hC 2 57 s (by decide), t1, if_pos rfl, r_no (M := bC _ M) hR (j := 2) rfl (by decide), qb1]
    · have e : s_X4_noRow 0 (nI s) M = some (0, M) := by
        simp only [s_X4_noRow, c_shelf, hb, qb_ifT, t2, t3, qb1, qrs, h3, sh_ld hR hs]
        rfl
      cases hb2 : yin a2 n
      · refine ⟨-5, bC 5 M, bR 5 (bC 5 M), ?_, ?_, Inv_ref0 hJ hRe⟩
        · unfold s_X4_set
          rw [e, qb1, if_pos rfl, h3, qrs, sh_ld hR hs, c_has t2 u2, qb1, hb2, qb_ifF, c_ref hR (j := 5) rfl (by decide) (by decide), qb1]
        · unfold s_X5_set
          rw [r_shelf, qb1, hb, qb_ifT, r17, qrs, qlI _ l57, hC 5 57 s (by decide), t1, if_neg (by decide), qrs, qlI _ l57, hC 5 57 s (by decide), t1, if_neg (by decide), r19, qrs, qlI _ l59, hC 5 59 s (by decide), u4, r_no (M := bC _ M) hR (j := 5) rfl (by decide), qb1]
          unfold yin at hb2
          by_cases g1 : a2 < 0
          · rw [if_pos g1]
          · rw [if_neg g1]
            rw [decide_eq_false g1, Bool.not_false, Bool.true_and, Bool.not_eq_false', decide_eq_true_eq] at hb2
            rw [if_neg (fun g2 => Int32.not_lt.mpr hb2 g2)]
      · obtain ⟨i, hi, rfl⟩ := yin_T hb2 (by omega)
        have ea : (160 : Int32) * nI s + nI i = nI (160 * s + i) := by
          rw [show (160 : Int32) = nI 160 from rfl, pk_mul, nI_add]
        have lc : 160 * s + i < hf_len 61 := by show 160 * s + i < 1280; omega
        have lt : nI i < nI n := nI_lt hi (by omega)
        have hRN : yRf (hf_sL M (34 + 2 * s) i (svl o a3)) := hR
        have q17 : (hf_sL M (34 + 2 * s) i (svl o a3)).2.2 49 17 = some 57 := yrf_49 hR rfl
        have q18 : (hf_sL M (34 + 2 * s) i (svl o a3)).2.2 49 18 = some 58 := yrf_49 hR rfl
        have q19 : (hf_sL M (34 + 2 * s) i (svl o a3)).2.2 49 19 = some 59 := yrf_49 hR rfl
        have q21 : (hf_sL M (34 + 2 * s) i (svl o a3)).2.2 49 21 = some 61 := yrf_49 hR rfl
        refine ⟨1, hf_sL M (34 + 2 * s) i (svl o a3), hf_sL (hf_sL M (34 + 2 * s) i (svl o a3)) 61 (160 * s + i) (svl o a3), ?_, ?_, Jv_shelf hJ hRe hs rfl (fun k j hk => ⟨rfl, ?_⟩) (Or.inr (Or.inr ⟨o, n, ho, hn, u1, u2, t1, u3, u4, fun x hx => ?_⟩))⟩
        · unfold s_X4_set
          rw [e, qb1, if_pos rfl, h3, qrs, sh_ld hR hs, c_has t2 u2, qb1, hb2, qb_ifT, h3, qrs, sh_ld hR hs, c_putv hR hs ho (by omega) u1, qb1]
        · unfold s_X5_set
          rw [r_shelf, qb1, hb, qb_ifT, q17, qrs, qlI _ l57, gLI, t1, if_neg (by decide), qrs, qlI _ l57, gLI, t1, if_neg (by decide), if_neg (nI_pos (by omega)), q19, qrs, qlI _ l59, gLI, u4, if_pos lt, q21, qrs, q18, qrs, qlI _ l58, gLI, u3]
          have h4 : o = 0 ∨ o = 1 ∨ o = 2 ∨ o = 3 := by omega
          rcases h4 with rfl | rfl | rfl | rfl
          · rw [if_pos (by decide), ea, qsL _ _ lc]; rfl
          · rw [if_neg (by decide), qrs, qlI _ l58, gLI, u3, if_pos (by decide), ea, qsL _ _ lc]; rfl
          · rw [if_neg (by decide), qrs, qlI _ l58, gLI, u3, if_neg (by decide), qrs, qlI _ l58, gLI, u3, if_pos (by decide), ea, qsL _ _ lc]; rfl
          · rw [if_neg (by decide), qrs, qlI _ l58, gLI, u3, if_neg (by decide), qrs, qlI _ l58, gLI, u3, if_neg (by decide), ea, qsL _ _ lc]; rfl
        · rw [gL (by omega), gL (by omega)]
        · by_cases ex : x = i
          · subst ex
            rw [gL (by omega), gL0, gL0]
          · rw [gL (by omega), gL (by omega), gL (by omega), gL (by omega)]
            exact u5 x hx
theorem p_element : hs_element Inv := by
  intro M ⟨υ, hJ, hRe⟩ a1 a2
  have hR := hJ.1
  have h3 : M.2.2 0 3 = some 28 := yr0 hR rfl
  have r17 : M.2.2 49 17 = some 57 := yrf_49 hR rfl
  have r19 : M.2.2 49 19 = some 59 := yrf_49 hR rfl
  have r21 : M.2.2 49 21 = some 61 := yrf_49 hR rfl
  cases hb : yin a1 8
  · refine ⟨0, M, M, ?_, ?_, υ, hJ, hRe⟩
    · unfold s_X4_element
      rw [c_shelf, qb1, hb, qb_ifF]
    · unfold s_X5_element
      rw [r_shelf, qb1, hb, qb_ifF]
  · obtain ⟨s, hs, rfl⟩ := yin_T hb (by decide)
    have l57 : s < hf_len 57 := hs
    have l59 : s < hf_len 59 := hs
    rcases sh_tag hJ.2.2.2.2.1 hJ.2.1.1.1.2.1 hs with ⟨t1, t2, t3, t4⟩ | ⟨t1, t2, t3, t4⟩ | ⟨t1, t2, t3, o, n, ho, hn, u1, u2, u3, u4, u5⟩
    · refine ⟨0, M, M, ?_, ?_, υ, hJ, hRe⟩
      · unfold s_X4_element
        rw [c_shelf, qb1, hb, qb_ifT, h3, qrs, sh_ld hR hs, c_has0 t2, qb1, if_pos rfl]
      · unfold s_X5_element
        rw [r_shelf, qb1, hb, qb_ifT, r17, qrs, qlI _ l57, t1, if_neg (by decide)]
    · refine ⟨0, M, M, ?_, ?_, υ, hJ, hRe⟩
      · unfold s_X4_element
        rw [c_shelf, qb1, hb, qb_ifT, h3, qrs, sh_ld hR hs, c_has0 t2, qb1, if_pos rfl]
      · unfold s_X5_element
        rw [r_shelf, qb1, hb, qb_ifT, r17, qrs, qlI _ l57, t1, if_neg (by decide)]
    · cases hb2 : yin a2 n
      · refine ⟨0, M, M, ?_, ?_, υ, hJ, hRe⟩
        · unfold s_X4_element
          rw [c_shelf, qb1, hb, qb_ifT, h3, qrs, sh_ld hR hs, c_has t2 u2, qb1, hb2, qb_ifF]
        · unfold s_X5_element
          rw [r_shelf, qb1, hb, qb_ifT, r17, qrs, qlI _ l57, t1, if_pos rfl, r19, qrs, qlI _ l59, u4]
          unfold yin at hb2
          by_cases g1 : a2 < 0
          · rw [if_pos g1]
          · rw [if_neg g1]
            rw [decide_eq_false g1, Bool.not_false, Bool.true_and, Bool.not_eq_false', decide_eq_true_eq] at hb2
            rw [if_pos hb2]
      · obtain ⟨i, hi, rfl⟩ := yin_T hb2 (by omega)
        have ea : (160 : Int32) * nI s + nI i = nI (160 * s + i) := by
          rw [show (160 : Int32) = nI 160 from rfl, pk_mul, nI_add]
        have lc : 160 * s + i < hf_len 61 := by show 160 * s + i < 1280; omega
        have le : i < hf_len (34 + 2 * s) := by rw [sh_len hs]; omega
        refine ⟨M.2.1 61 (160 * s + i), M, M, ?_, ?_, υ, hJ, hRe⟩
        · unfold s_X4_element
          rw [c_shelf, qb1, hb, qb_ifT, h3, qrs, sh_ld hR hs, c_has t2 u2, qb1, hb2, qb_ifT, h3, qrs, sh_ld hR hs, sh_r0 hR hs, qrs, qlL _ le, u5 i hi]
        · unfold s_X5_element
          rw [r_shelf, qb1, hb, qb_ifT, r17, qrs, qlI _ l57, t1, if_pos rfl, if_neg (nI_pos (by omega)), r19, qrs, qlI _ l59, u4, if_neg (nI_ge hi (by omega)), r21, qrs, ea, qlL _ lc]
theorem p_show : hs_show Inv := by
  intro M ⟨υ, hJ, hRe⟩ a1 a2
  have hR := hJ.1
  have h3 : M.2.2 0 3 = some 28 := yr0 hR rfl
  have h0 : M.2.2 0 0 = some 1 := yr0 hR rfl
  have hB := hJ.2.2.1.1
  have hr := hJ.2.2.2.1.1
  have hP6 := hJ.2.1.1.1.2.1
  cases hb : yin a1 8
  · refine ⟨-1, bC 1 M, bR 1 (bC 1 M), ?_, ?_, Inv_ref0 hJ hRe⟩
    · unfold s_X4_show
      rw [c_shelf, qb1, hb, qb_ifF, c_ref hR (j := 1) rfl (by decide) (by decide), qb1]
    · unfold s_X5_show
      rw [r_shelf, qb1, hb, qb_ifF, r_no (M := bC _ M) hR (j := 1) rfl (by decide), qb1]
  · obtain ⟨s, hs, rfl⟩ := yin_T hb (by decide)
    have l57 : s < hf_len 57 := hs
    have l60 : s < hf_len 60 := hs
    have hset : ∀ v w : Int32, (v = -1 ∧ w = 0) ∨ (∃ p, p < yP (uT υ) ∧ v = nI p ∧ w = 2) → Inv (hf_sI (hf_sI (hf_sI M (33 + 2 * s) 1 v) 57 s w) 60 s v) := by
      intro v w hvw
      refine Jv_shelf hJ hRe hs rfl (fun k j hk => ⟨?_, rfl⟩) ?_
      · rw [gI (by omega), gI (by omega), gI (by omega)]
      · rcases hvw with ⟨rfl, rfl⟩ | ⟨p, hp, rfl, rfl⟩
        · left
          rw [gI (by omega), gI (by omega), gI0, gI (by omega), gI0]
          exact ⟨rfl, rfl⟩
        · right; left
          refine ⟨p, hp, ?_, ?_, ?_⟩
          · rw [gI (by omega), gI (by omega), gI0]
          · rw [gI (by omega), gI0]
          · rw [gI0]
    by_cases hm : a2 = -1
    · subst hm
      refine ⟨0, hf_sI M (33 + 2 * s) 1 (-1), _, ?_, ?_, hset (-1) 0 (Or.inl ⟨rfl, rfl⟩)⟩
      · unfold s_X4_show
        rw [c_shelf, qb1, hb, qb_ifT, if_pos rfl, h3, qrs, sh_ld hR hs, qpt, if_pos rfl]
      · unfold s_X5_show
        rw [r_shelf, qb1, hb, qb_ifT, if_pos rfl, yrf_49 (yrf_I hR) (j := 17) rfl, qrs, if_pos rfl, qsI _ _ l57, yrf_49 (yrf_I (yrf_I hR)) (j := 20) rfl, qrs, qsI _ _ l60, if_pos rfl]
    · cases hp : yin a2 (yP (uT υ))
      · refine ⟨-1, bC 1 M, bR 1 (bC 1 M), ?_, ?_, Inv_ref0 hJ hRe⟩
        · unfold s_X4_show
          rw [c_shelf, qb1, hb, qb_ifT, if_neg hm, h0, qrs, c_isSp hB.1.2.1, qb1, hp, qb_ifF, c_ref hR (j := 1) rfl (by decide) (by decide), qb1]
        · unfold s_X5_show
          have e1 : (bC 1 M).1 49 1 = nI (yP (uT υ)) := by unfold bC; rw [gI (by omega)]; exact hr.1.2.1
          rw [r_shelf, qb1, hb, qb_ifT, if_neg hm, r_isSp e1, qb1, hp, qb_ifF, r_no (M := bC _ M) hR (j := 1) rfl (by decide), qb1]
      · obtain ⟨p, hpp, rfl⟩ := yin_T hp (by omega)
        refine ⟨1, hf_sI M (33 + 2 * s) 1 (nI p), _, ?_, ?_, hset (nI p) 2 (Or.inr ⟨p, hpp, rfl, rfl⟩)⟩
        · unfold s_X4_show
          rw [c_shelf, qb1, hb, qb_ifT, if_neg hm, h0, qrs, c_isSp hB.1.2.1, qb1, hp, qb_ifT, h3, qrs, sh_ld hR hs, qpt, if_neg hm]
        · unfold s_X5_show
          have e1 : (hf_sI M (33 + 2 * s) 1 (nI p)).1 49 1 = nI (yP (uT υ)) := by rw [gI (by omega)]; exact hr.1.2.1
          rw [r_shelf, qb1, hb, qb_ifT, if_neg hm, r_isSp e1, qb1, hp, qb_ifT, yrf_49 (yrf_I hR) (j := 17) rfl, qrs, if_neg hm, qsI _ _ l57, yrf_49 (yrf_I (yrf_I hR)) (j := 20) rfl, qrs, qsI _ _ l60, if_neg hm]
theorem p_holds : hs_holds Inv := by
  intro M ⟨υ, hJ, hRe⟩ a1
  have hR := hJ.1
  have h3 : M.2.2 0 3 = some 28 := yr0 hR rfl
  have r17 : M.2.2 49 17 = some 57 := yrf_49 hR rfl
  have r18 : M.2.2 49 18 = some 58 := yrf_49 hR rfl
  have r20 : M.2.2 49 20 = some 60 := yrf_49 hR rfl
  cases hb : yin a1 8
  · refine ⟨-1, M, M, ?_, ?_, υ, hJ, hRe⟩
    · unfold s_X4_holds
      rw [c_shelf, qb1, hb, qb_ifF]
    · unfold s_X5_holds
      rw [r_shelf, qb1, hb, qb_ifF]
  · obtain ⟨s, hs, rfl⟩ := yin_T hb (by decide)
    have l57 : s < hf_len 57 := hs
    have l58 : s < hf_len 58 := hs
    have l60 : s < hf_len 60 := hs
    refine ⟨M.1 (33 + 2 * s) 1, M, M, ?_, ?_, υ, hJ, hRe⟩
    · unfold s_X4_holds
      rw [c_shelf, qb1, hb, qb_ifT, h3, qrs, sh_ld hR hs]
    · unfold s_X5_holds
      rw [r_shelf, qb1, hb, qb_ifT, r17, qrs, qlI _ l57]
      rcases sh_tag hJ.2.2.2.2.1 hJ.2.1.1.1.2.1 hs with ⟨t1, t2, t3, t4⟩ | ⟨t1, t2, t3, p, t4, t5, t6⟩ | ⟨t1, t2, t3, o, n, ho, hn, u1, u2, u3, u4, u5⟩
      · rw [t1, if_pos rfl, t4]
      · rw [t1, if_neg (by decide), qrs, qlI _ l57, t1, if_neg (by decide), r20, qrs, qlI _ l60, t5, t6]
      · rw [t1, if_neg (by decide), qrs, qlI _ l57, t1, if_pos rfl, r18, qrs, qlI _ l58, u3, u1, ← nI_add]; rfl
