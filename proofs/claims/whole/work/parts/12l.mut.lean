theorem rU_K {υ : hU} {M K : hf_M} (g : gG (Gq 1) M K) (h : rU υ M) : rU υ K := rU_ag (ag_g g (fun k j hk hn => by unfold Zr at hk; unfold Gq at hn; omega)) h
theorem cU_N {υ : hU} {M K : hf_M} (g : gG GrT M K) (h : cU 1 υ M) : cU 1 υ K := cU_ag (ag_g g (fun k j hk hn => by unfold Zc at hk; unfold GrT at hn; omega)) h
/-- a call that changed the town alike in both -/
theorem Inv_step {υ υ' : hU} {M K N : hf_M} (hJ : Jv υ M) (hRe : iRe M) (g1 : gG (Gq 1) M K) (hc : cU 1 υ' K) (g2 : gG GrT K N) (hr : rU υ' N) (hu : uWF υ') (hP : yP (uT υ) ≤ yP (uT υ')) : Inv N := by
  refine Jv_u hJ hRe 0 ⟨g2.1.trans g1.1, fun k j hk => ?_⟩ hu (cU_N g2 hc) hr hP
  have e1 := g1.2 k j (fun h => hk (by unfold Gq at h; omega))
  have e2 := g2.2 k j (fun h => hk (by unfold GrT at h; omega))
  exact ⟨e2.1.trans e1.1, e2.2.trans e1.2⟩
theorem p_fact : hs_fact Inv := by
  intro M ⟨υ, hJ, hRe⟩ a1
  have hF := (jw hJ).1.1
  by_cases hv : a1 < 0 ∨ 99 < a1
  · refine ⟨-6, bC 6 M, bR 6 (bC 6 M), ?_, ?_, Inv_ref0 hJ hRe⟩
    · unfold s_X4_fact s_X4_within
      by_cases h1 : a1 < 0
      · rw [if_pos h1, qb1, if_pos rfl, c_ref hJ.1 (j := 6) rfl (by decide) (by decide), qb1]
      · rw [if_neg h1, if_pos (hv.resolve_left h1), qb1, if_pos rfl, c_ref hJ.1 (j := 6) rfl (by decide) (by decide), qb1]
    · unfold s_X5_fact
      rw [r_no (M := bC _ M) hJ.1 (j := 6) rfl (by decide), qb1]
      by_cases h1 : a1 < 0
      · rw [if_pos h1]
      · rw [if_neg h1, if_neg (Int32.not_le.mpr (hv.resolve_left h1))]
  · have h1 : ¬ a1 < 0 := fun e => hv (Or.inl e)
    have h2 : ¬ 99 < a1 := fun e => hv (Or.inr e)
    by_cases h6 : yF (uT υ) < 6
    · obtain ⟨K, k1, k2, k3, k4⟩ := c_addF hJ.1 q1 (jc hJ) h6 a1
      obtain ⟨N, n1, n2, n3⟩ := r_addF (gG_rf k3 hJ.1) (rU_K k3 (jr hJ)) h6 a1
      have e0 : (rU_K k3 (jr hJ)).1.1.1 = (rU_K k3 (jr hJ)).1.1.1 := rfl
      refine ⟨nI (yF (uT υ)), K, N, ?_, ?_, Inv_step hJ hRe k3 k2 n3 n2 (uWF_F hJ.2.1 h6 a1) (Nat.le_refl _)⟩
      · unfold s_X4_fact s_X4_within
        rw [if_neg h1, if_neg h2, qb1, if_neg q10, j0 hJ, qrs, (jc hJ).1.1.1, qi_lt rfl (show (6 : Int32) = nI 6 from rfl) (by omega) (by omega), if_pos h6, qrs, k1, qb1, yr0 (gG_rf k3 hJ.1) (j := 0) rfl, qrs, k4, nI_pred]
      · unfold s_X5_fact
        rw [if_neg h1, if_pos (Int32.not_lt.mp h2), (rU_K k3 (jr hJ)).1.1.1, qi_eq rfl (show (6 : Int32) = nI 6 from rfl) (by omega) (by omega), if_neg (by omega), n1, qb1]
    · refine ⟨-7, bC 7 M, bR 7 (bC 7 M), ?_, ?_, Inv_ref0 hJ hRe⟩
      · unfold s_X4_fact s_X4_within
        rw [if_neg h1, if_neg h2, qb1, if_neg q10, j0 hJ, qrs, (jc hJ).1.1.1, qi_lt rfl (show (6 : Int32) = nI 6 from rfl) (by omega) (by omega), if_neg h6, c_ref hJ.1 (j := 7) rfl (by decide) (by decide), qb1]
      · unfold s_X5_fact
        rw [if_neg h1, if_pos (Int32.not_lt.mp h2), (jr (Jv_bC hJ)).1.1.1, qi_eq rfl (show (6 : Int32) = nI 6 from rfl) (by omega) (by omega), if_pos (by omega), r_no (M := bC _ M) hJ.1 (j := 7) rfl (by decide), qb1]
theorem p_speaker : hs_speaker Inv := by
  intro M ⟨υ, hJ, hRe⟩ a1 a2
  have hP := (jw hJ).1.2.1
  by_cases hv : a1 < 0 ∨ 6 < a1
  · refine ⟨-1, bC 1 M, bR 1 (bC 1 M), ?_, ?_, Inv_ref0 hJ hRe⟩
    · unfold s_X4_speaker s_X4_isKind
      by_cases h1 : a1 < 0
      · rw [if_pos h1, qb1, if_pos rfl, c_ref hJ.1 (j := 1) rfl (by decide) (by decide), qb1]
      · rw [if_neg h1, if_pos (hv.resolve_left h1), qb1, if_pos rfl, c_ref hJ.1 (j := 1) rfl (by decide) (by decide), qb1]
    · unfold s_X5_speaker
      rw [r_no (M := bC _ M) hJ.1 (j := 1) rfl (by decide), qb1]
      by_cases h1 : a1 < 0
      · rw [if_pos h1]
      · rw [if_neg h1, if_neg (Int32.not_le.mpr (hv.resolve_left h1))]
  · have h1 : ¬ a1 < 0 := fun e => hv (Or.inl e)
    have h2 : ¬ 6 < a1 := fun e => hv (Or.inr e)
    obtain ⟨k, hk, rfl⟩ := nI_of2 (M := 6) (n := 6) (by decide) h1 (Int32.not_lt.mp h2)
    by_cases hv2 : a2 < 0 ∨ 1023 < a2
    · refine ⟨-6, bC 6 M, bR 6 (bC 6 M), ?_, ?_, Inv_ref0 hJ hRe⟩
      · unfold s_X4_speaker s_X4_isKind s_X4_within
        rw [if_neg h1, if_neg h2, qb1, if_neg q10]
        by_cases g1 : a2 < 0
        · rw [if_pos g1, qb1, if_pos rfl, c_ref hJ.1 (j := 6) rfl (by decide) (by decide), qb1]
        · rw [if_neg g1, if_pos (hv2.resolve_left g1), qb1, if_pos rfl, c_ref hJ.1 (j := 6) rfl (by decide) (by decide), qb1]
      · unfold s_X5_speaker
        rw [if_neg h1, if_pos (Int32.not_lt.mp h2), r_no (M := bC _ M) hJ.1 (j := 6) rfl (by decide), qb1]
        by_cases g1 : a2 < 0
        · rw [if_pos g1]
        · rw [if_neg g1, if_neg (Int32.not_le.mpr (hv2.resolve_left g1))]
    · have g1 : ¬ a2 < 0 := fun e => hv2 (Or.inl e)
      have g2 : ¬ 1023 < a2 := fun e => hv2 (Or.inr e)
      obtain ⟨c, hc, rfl⟩ := nI_of2 (M := 1023) (n := 1023) (by decide) g1 (Int32.not_lt.mp g2)
      by_cases h6 : yP (uT υ) < 6
      · obtain ⟨K, k1, k2, k3, k4⟩ := c_addP hJ.1 q1 (jw hJ) (jc hJ) h6 k c
        obtain ⟨N, n1, n2, n3⟩ := r_addP (gG_rf k3 hJ.1) (rU_K k3 (jr hJ)) h6 k c
        refine ⟨nI (yP (uT υ)), K, N, ?_, ?_, Inv_step hJ hRe k3 k2 n3 n2 (uWF_P hJ.2.1 h6 hk hc) (Nat.le_succ _)⟩
        · unfold s_X4_speaker s_X4_isKind s_X4_within
          rw [if_neg h1, if_neg h2, qb1, if_neg q10, if_neg g1, if_neg g2, qb1, if_neg q10, j0 hJ, qrs, (jc hJ).1.1.2.1, qi_lt rfl (show (6 : Int32) = nI 6 from rfl) (by omega) (by omega), if_pos h6, qrs, k1, qb1, yr0 (gG_rf k3 hJ.1) (j := 0) rfl, qrs, k4, nI_pred]
        · unfold s_X5_speaker
          rw [if_neg h1, if_pos (Int32.not_lt.mp h2), if_neg g1, if_pos (Int32.not_lt.mp g2), (rU_K k3 (jr hJ)).1.1.2.1, qi_eq rfl (show (6 : Int32) = nI 6 from rfl) (by omega) (by omega), if_neg (by omega), n1, qb1]
      · refine ⟨-7, bC 7 M, bR 7 (bC 7 M), ?_, ?_, Inv_ref0 hJ hRe⟩
        · unfold s_X4_speaker s_X4_isKind s_X4_within
          rw [if_neg h1, if_neg h2, qb1, if_neg q10, if_neg g1, if_neg g2, qb1, if_neg q10, j0 hJ, qrs, (jc hJ).1.1.2.1, qi_lt rfl (show (6 : Int32) = nI 6 from rfl) (by omega) (by omega), if_neg h6, c_ref hJ.1 (j := 7) rfl (by decide) (by decide), qb1]
        · unfold s_X5_speaker
          rw [if_neg h1, if_pos (Int32.not_lt.mp h2), if_neg g1, if_pos (Int32.not_lt.mp g2), (jr (Jv_bC hJ)).1.1.2.1, qi_eq rfl (show (6 : Int32) = nI 6 from rfl) (by omega) (by omega), if_pos (by omega), r_no (M := bC _ M) hJ.1 (j := 7) rfl (by decide), qb1]
theorem p_law : hs_law Inv := by
  intro M ⟨υ, hJ, hRe⟩ a1 a2
  have hS := jS hJ
  have hn := (jw hJ).1.2.2.2.2.1
  have hno : (a1 < 2 ∨ 10 < a1 ∨ a2 < 0 ∨ a1 < a2 ∨ yS (uT υ) ≠ 0) → ∃ r M1 M2, s_X4_law 0 a1 a2 M = some (r, M1) ∧ s_X5_law 49 a1 a2 M1 = some (r, M2) ∧ Inv M2 := by
    intro hv
    refine ⟨-6, bC 6 M, bR 6 (bC 6 M), ?_, ?_, Inv_ref0 hJ hRe⟩
    · unfold s_X4_law s_X4_within
      by_cases h1 : a1 < 2
      · rw [if_pos h1, qb1, if_pos rfl, c_ref hJ.1 (j := 6) rfl (by decide) (by decide), qb1]
      · by_cases h2 : 10 < a1
        · rw [if_neg h1, if_pos h2, qb1, if_pos rfl, c_ref hJ.1 (j := 6) rfl (by decide) (by decide), qb1]
        · by_cases h3 : a2 < 0
          · rw [if_neg h1, if_neg h2, qb1, if_neg q10, if_pos h3, qb1, if_pos rfl, c_ref hJ.1 (j := 6) rfl (by decide) (by decide), qb1]
          · by_cases h4 : a1 < a2
            · rw [if_neg h1, if_neg h2, qb1, if_neg q10, if_neg h3, if_pos h4, qb1, if_pos rfl, c_ref hJ.1 (j := 6) rfl (by decide) (by decide), qb1]
            · have h5 : yS (uT υ) ≠ 0 := by
                rcases hv with h | h | h | h | h
                · exact absurd h h1
                · exact absurd h h2
                · exact absurd h h3
                · exact absurd h h4
                · exact h
              rw [if_neg h1, if_neg h2, qb1, if_neg q10, if_neg h3, if_neg h4, qb1, if_neg q10, j0 hJ, qrs, (jc hJ).1.1.2.2.1, qi_le rfl (show (0 : Int32) = nI 0 from rfl) (by omega) (by omega), if_neg (by omega), c_ref hJ.1 (j := 6) rfl (by decide) (by decide), qb1]
    · unfold s_X5_law
      rw [r_no (M := bC _ M) hJ.1 (j := 6) rfl (by decide), qb1, (jr (Jv_bC hJ)).1.1.2.2.1, qi_le rfl (show (0 : Int32) = nI 0 from rfl) (by omega) (by omega)]
      by_cases h1 : a1 < 2
      · rw [if_pos h1]
      · by_cases h2 : 10 < a1
        · rw [if_neg h1, if_pos h2]
        · by_cases h3 : a2 < 0
          · rw [if_neg h1, if_neg h2, if_pos h3]
          · by_cases h4 : a1 < a2
            · rw [if_neg h1, if_neg h2, if_neg h3, if_pos h4]
            · have h5 : yS (uT υ) ≠ 0 := by
                rcases hv with h | h | h | h | h
                · exact absurd h h1
                · exact absurd h h2
                · exact absurd h h3
                · exact absurd h h4
                · exact h
              rw [if_neg h1, if_neg h2, if_neg h3, if_neg h4, if_neg (by omega)]
  by_cases h1 : a1 < 2
  · exact hno (Or.inl h1)
  by_cases h2 : 10 < a1
  · exact hno (Or.inr (Or.inl h2))
  by_cases h3 : a2 < 0
  · exact hno (Or.inr (Or.inr (Or.inl h3)))
  by_cases h4 : a1 < a2
  · exact hno (Or.inr (Or.inr (Or.inr (Or.inl h4))))
  by_cases h5 : yS (uT υ) ≠ 0
  · exact hno (Or.inr (Or.inr (Or.inr (Or.inr h5))))
  have h5' : yS (uT υ) = 0 := Classical.not_not.mp h5
  obtain ⟨n, hn10, rfl⟩ := nI_of2 (x := a1) (M := 10) (n := 10) (by decide) (fun e => h1 (Int32.lt_trans e (by decide))) (Int32.not_lt.mp h2)
  obtain ⟨t, ht, rfl⟩ := nI_of2 (x := a2) (M := nI n) (n := n) (nI_toInt (by omega)) h3 (Int32.not_lt.mp h4)
  have hn2 : 2 ≤ n := by
    rcases Nat.lt_or_ge n 2 with h | h
    · exact absurd (nI_lt (b := 2) h (by decide)) h1
    · exact h
  obtain ⟨k2, k3⟩ := c_setL (jc hJ) n t
  obtain ⟨n2, n3⟩ := r_setL (rU_K k3 (jr hJ)) n t
  have hK := rU_K k3 (jr hJ)
  refine ⟨nI (100 * yn (uT υ) + yt (uT υ)), hf_sI (hf_sI M 1 12 (nI n)) 1 13 (nI t), hf_sI (hf_sI (hf_sI (hf_sI M 1 12 (nI n)) 1 13 (nI t)) 49 3 (nI n)) 49 4 (nI t), ?_, ?_, Inv_step hJ hRe k3 k2 n3 n2 (uWF_L hJ.2.1 h5' hn2 hn10 ht) (Nat.le_refl _)⟩
  · unfold s_X4_law s_X4_within
    rw [if_neg h1, if_neg h2, qb1, if_neg q10, if_neg h3, if_neg h4, qb1, if_neg q10, j0 hJ, qrs, (jc hJ).1.1.2.2.1, qi_le rfl (show (0 : Int32) = nI 0 from rfl) (by omega) (by omega), if_pos (by omega), qrs, qrs, qrs, qpt, yr0 (yrf_I hJ.1) (j := 0) rfl, qrs, qpt, (jc hJ).1.1.2.2.2.1, (jc hJ).1.1.2.2.2.2.1, show (100 : Int32) = nI 100 from rfl, pk_mul, nI_add]
  · unfold s_X5_law
    rw [if_neg h1, if_neg h2, if_neg h3, if_neg h4, hK.1.1.2.2.1, qi_le rfl (show (0 : Int32) = nI 0 from rfl) (by omega) (by omega), if_pos (by omega), qpt, qpt, hK.1.1.2.2.2.1, hK.1.1.2.2.2.2.1, show (100 : Int32) = nI 100 from rfl, pk_mul, nI_add]
theorem put_b {q : Nat} {p f a : Int32} {M : hf_M} : s_X3_put q p f a M = s_X3_put q p f (qbI (!decide (a = 0))) M := by
  by_cases h : a = 0
  · subst h; rfl
  · rw [decide_eq_false h]
    unfold s_X3_put s_X4_truthOf
    rw [if_neg h, if_neg h, if_neg (show ¬ qbI (!false) = 0 by decide), if_neg (show ¬ qbI (!false) = 0 by decide)]
theorem after_b {q : Nat} {p f a : Int32} {ws : Int64} {M : hf_M} : s_X3_after q p f a ws M = s_X3_after q p f (qbI (!decide (a = 0))) ws M := by
  unfold s_X3_after
  rw [put_b]
theorem p_say : hs_say Inv := by
  intro M ⟨υ, hJ, hRe⟩ a1 a2 a3
  have hF := (jw hJ).1.1
  have hP := (jw hJ).1.2.1
  have hS := jS hJ
  cases hb : yin a1 (yP (uT υ))
  · refine ⟨-1, bC 1 M, bR 1 (bC 1 M), ?_, ?_, Inv_ref0 hJ hRe⟩
    · unfold s_X4_say
      rw [j0 hJ, qrs, j_cS hJ, qb1, hb, qb_ifF, c_ref hJ.1 (j := 1) rfl (by decide) (by decide), qb1]
    · unfold s_X5_say
      rw [j_rS (Jv_bC hJ), qb1, hb, qb_ifF, r_no (M := bC _ M) hJ.1 (j := 1) rfl (by decide), qb1]
  · obtain ⟨p, hp, rfl⟩ := yin_T hb (by omega)
    cases hb2 : yin a2 (yF (uT υ))
    · refine ⟨-1, bC 1 M, bR 1 (bC 1 M), ?_, ?_, Inv_ref0 hJ hRe⟩
      · unfold s_X4_say
        rw [j0 hJ, qrs, j_cS hJ, qb1, hb, qb_ifT, j0 hJ, qrs, j_cF hJ, qb1, hb2, qb_ifF, c_ref hJ.1 (j := 1) rfl (by decide) (by decide), qb1]
      · unfold s_X5_say
        rw [j_rS (Jv_bC hJ), qb1, hb, qb_ifT, j_rF (Jv_bC hJ), qb1, hb2, qb_ifF, r_no (M := bC _ M) hJ.1 (j := 1) rfl (by decide), qb1]
    · obtain ⟨f, hf, rfl⟩ := yin_T hb2 (by omega)
      cases hu : yFu (uT υ) p
      · generalize hbb : (!decide (a3 = 0)) = b
        have hr3 : ∀ {α : Type} (x y : α), (if a3 = 0 then x else y) = if b = true then y else x := by
          intro α x y
          subst hbb
          by_cases h : a3 = 0
          · rw [if_pos h, decide_eq_true h]; rfl
          · rw [if_neg h, decide_eq_false h]; rfl
        obtain ⟨K, k1, k2⟩ := j_after hJ hp hf hu b
        have hK := Jv_GG hJ k2
        have k1' : s_X3_after 1 (nI p) (nI f) a3 (yWd (uT υ) yA1 99) M = some (yWa (uT υ) p f b, K) := by
          rw [after_b, hbb]; exact k1
        have ecls : ∀ {r}, (if lg_cmp (yWa (uT υ) p f b) 0 = 0 then hf_bd (s_X4_refuse 0 (-6) K) (fun r26 M27 => some (r26, M27)) else hf_rf (K.2.2 0 0) (fun q18 => if (K.1 q18 10) < 24 then hf_rf (K.2.2 0 0) (fun q19 => hf_bd (s_X3_put q19 (nI p) (nI f) a3 K) (fun _ M21 => hf_bd (s_J13_bitCount_95d88 (yWa (uT υ) p f b) M21) (fun r22 M23 => some (r22, M23)))) else hf_bd (s_X4_refuse 0 (-7) K) (fun r24 M25 => some (r24, M25)))) = r → s_X4_say 0 (nI p) (nI f) a3 M = r := by
          intro r h
          rw [← h]
          unfold s_X4_say
          rw [j0 hJ, qrs, j_cS hJ, qb1, hb, qb_ifT, j0 hJ, qrs, j_cF hJ, qb1, hb2, qb_ifT, j0 hJ, qrs, j_cU hJ hp, qb1, hu, qb_ifF, j0 hJ, qrs, qrs, j_poss hJ, qb1, k1', qb1]
        -- the reference, wherever it stands
        have eref : ∀ {L : hf_M}, Jv υ L → ∃ L2, gG (GG (yS (uT υ))) L L2 ∧ s_X5_say 49 (nI p) (nI f) a3 L = (if nI (ypop (yWa (uT υ) p f b)) = 0 then hf_bd (s_X5_no 49 (-6) L2) (fun r M => some (r, M)) else if L2.1 49 2 = 24 then hf_bd (s_X5_no 49 (-7) L2) (fun r M => some (r, M)) else hf_bd (s_X5_adds 49 (nI p) (nI f) (qbI b) L2) (fun _ M14 => hf_bd (s_X5_worldsNow 49 M14) (fun r15 M16 => hf_bd (s_X5_count 49 r15 M16) (fun r17 M18 => some (r17, M18))))) := by
          intro L hL
          obtain ⟨L2, l1, l2⟩ := j_leaves hL hp hf hu b
          refine ⟨L2, l2, ?_⟩
          unfold s_X5_say
          rw [j_rS hL, qb1, hb, qb_ifT, j_rF hL, qb1, hb2, qb_ifT, j_rU hL hp, qb1, hu, qb_ifF]
          simp only [hr3]
          cases b
          · have l1' : s_X5_leaves 49 (nI p) (nI f) 0 L = some (nI (ypop (yWa (uT υ) p f false)), L2) := l1
            rw [if_neg (by decide), l1', qb1, if_neg (show ¬ false = true by decide)]; rfl
          · have l1' : s_X5_leaves 49 (nI p) (nI f) 1 L = some (nI (ypop (yWa (uT υ) p f true)), L2) := l1
            rw [if_pos rfl, l1', qb1, if_pos (show true = true from rfl)]; rfl
        by_cases h0 : yWa (uT υ) p f b = 0
        · obtain ⟨L2, g2, e2⟩ := eref (Jv_bC (j := 6) hK)
          refine ⟨-6, bC 6 K, bR 6 L2, ecls ?_, ?_, Inv_ref hJ hRe k2 g2⟩
          · rw [if_pos ((qcmp0 _).mpr h0), c_ref hK.1 (j := 6) rfl (by decide) (by decide), qb1]
          · rw [e2, if_pos (nI_ne0'.mpr h0), r_no (gG_rf g2 (Jv_bC hK).1) (j := 6) rfl (by decide), qb1]
        · by_cases h24 : yS (uT υ) < 24
          · obtain ⟨K2, k3, k4, k5⟩ := c_putU hK.1 q1 (jw hK) (jc hK) (by omega) hp (show f < 6 by omega) b
            have k3' : s_X3_put 1 (nI p) (nI f) a3 K = some ((), K2) := by rw [put_b, hbb]; exact k3
            have gk : gG (Gq 1) M K2 := gG_tr (by
              obtain ⟨K', k1', k2'⟩ := c_after (b := b) hJ.1 q1 (jw hJ) (jc hJ).1 (by have := jS hJ; omega) (jc hJ).2.1 hp (show f < 6 by omega) (yFu_f hu) (yWd (uT υ) yA1 99)
              rw [k1] at k1'
              have : K = K' := congrArg Prod.snd (Option.some.inj k1')
              subst this
              exact gG_mono k2' (fun _ _ h => by unfold Gc at h; unfold Gq; omega)) k5
            have hr2 := rU_K gk (jr hJ)
            -- the reference on K2, whose class's side is already further
            obtain ⟨L2, l1, l2⟩ := r_leaves (b := b) (gG_rf gk hJ.1) (jw hJ) hr2.1 hp (show f < 6 by omega) (yFu_f hu) (by omega)
            have hr3' : rU υ L2 := rU_ag (ag_g l2 (fun k j hk hn => by unfold Zr at hk; unfold Gr at hn; omega)) hr2
            have hRL : yRf L2 := gG_rf l2 (gG_rf gk hJ.1)
            obtain ⟨N, n1, n2, n3⟩ := r_addU hRL hr3' (by omega) p f b
            have l2' : gG GrT K2 L2 := gG_mono l2 (fun _ _ h => by unfold Gr at h; unfold GrT; omega)
            have hwa := yad_WF (f := f) (b := b) (jw hJ) hp (by omega) (yFu_f hu) (by omega)
            refine ⟨nI (ypop (yWa (uT υ) p f b)), K2, N, ecls ?_, ?_, Inv_step hJ hRe gk k4 (gG_tr l2' n3) n2 (uWF_S hJ.2.1 hp hf hu h24 h0) (Nat.le_refl _)⟩
            · rw [if_neg (fun e => h0 ((qcmp0 _).mp e)), j0 hK, qrs, (jc hK).1.1.2.2.1, qi_lt rfl (show (24 : Int32) = nI 24 from rfl) (by omega) (by omega), if_pos h24, qrs, k3', qb1, c_pop, qb1]
            · unfold s_X5_say
              rw [r_isSp hr2.1.1.2.1, qb1, hb, qb_ifT, r_isFa hr2.1.1.1, qb1, hb2, qb_ifT]
              have ef : s_X5_isFull 49 (nI p) K2 = some (qbI (yFu (uT υ) p), K2) := r_full (gG_rf gk hJ.1) (jw hJ) hr2.1 hp
              rw [ef, qb1, hu, qb_ifF]
              simp only [hr3]
              have en := r_worldsNow (gG_rf n3 hRL) hwa n2.1
              have en' : s_X5_worldsNow 49 N = some (yWa (uT υ) p f b, N) := en
              have hne : ¬ nI (ypop (yWd (yad (uT υ) p f b) yA1 99)) = 0 := fun e => h0 (nI_ne0'.mp e)
              have h2 : L2.1 49 2 = nI (yS (uT υ)) := hr3'.1.1.2.2.1
              cases b
              · have l1' : s_X5_leaves 49 (nI p) (nI f) 0 K2 = some (nI (ypop (yWd (yad (uT υ) p f false) yA1 99)), L2) := l1
                have n1' : s_X5_adds 49 (nI p) (nI f) 0 L2 = some ((), N) := n1
                rw [if_neg (by decide), l1', qb1, if_neg hne, h2, qi_eq rfl (show (24 : Int32) = nI 24 from rfl) (by omega) (by omega), if_neg (by omega), if_neg (by decide), n1', qb1, en', qb1, r_count, qb1]
              · have l1' : s_X5_leaves 49 (nI p) (nI f) 1 K2 = some (nI (ypop (yWd (yad (uT υ) p f true) yA1 99)), L2) := l1
                have n1' : s_X5_adds 49 (nI p) (nI f) 1 L2 = some ((), N) := n1
                rw [if_pos rfl, l1', qb1, if_neg hne, h2, qi_eq rfl (show (24 : Int32) = nI 24 from rfl) (by omega) (by omega), if_neg (by omega), if_pos rfl, n1', qb1, en', qb1, r_count, qb1]
          · obtain ⟨L2, g2, e2⟩ := eref (Jv_bC (j := 7) hK)
            have hL2 := Jv_GG (Jv_bC (j := 7) hK) g2
            refine ⟨-7, bC 7 K, bR 7 L2, ecls ?_, ?_, Inv_ref hJ hRe k2 g2⟩
            · rw [if_neg (fun e => h0 ((qcmp0 _).mp e)), j0 hK, qrs, (jc hK).1.1.2.2.1, qi_lt rfl (show (24 : Int32) = nI 24 from rfl) (by omega) (by omega), if_neg h24, c_ref hK.1 (j := 7) rfl (by decide) (by decide), qb1]
            · rw [e2, if_neg (fun e => h0 (nI_ne0'.mp e)), (jr hL2).1.1.2.2.1, qi_eq rfl (show (24 : Int32) = nI 24 from rfl) (by omega) (by omega), if_pos (by omega), r_no hL2.1 (j := 7) rfl (by decide), qb1]
      · refine ⟨-6, bC 6 M, bR 6 (bC 6 M), ?_, ?_, Inv_ref0 hJ hRe⟩
        · unfold s_X4_say
          rw [j0 hJ, qrs, j_cS hJ, qb1, hb, qb_ifT, j0 hJ, qrs, j_cF hJ, qb1, hb2, qb_ifT, j0 hJ, qrs, j_cU hJ hp, qb1, hu, qb_ifT, c_ref hJ.1 (j := 6) rfl (by decide) (by decide), qb1]
        · unfold s_X5_say
          rw [j_rS (Jv_bC hJ), qb1, hb, qb_ifT, j_rF (Jv_bC hJ), qb1, hb2, qb_ifT, j_rU (Jv_bC hJ) hp, qb1, hu, qb_ifT, r_no (M := bC _ M) hJ.1 (j := 6) rfl (by decide), qb1]
