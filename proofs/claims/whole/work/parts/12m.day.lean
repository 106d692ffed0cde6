/-! a saying fewer, a thing known, a day gone by -/
def ydr (τ : hT) : hT := ((yF τ, yP τ, yS τ - 1, yn τ, yt τ), yk τ, yc τ, yw τ, yf τ, yb τ, yl τ)
theorem ydr_ad {τ : hT} (h : 0 < yS τ) : yad (ydr τ) (yw τ (yS τ - 1)) (yf τ (yS τ - 1)) (yb τ (yS τ - 1)) = τ := by
  have e1 : (fun i => if i = yS τ - 1 then yw τ (yS τ - 1) else yw τ i) = yw τ := by
    funext i
    by_cases e : i = yS τ - 1
    · rw [if_pos e, e]
    · rw [if_neg e]
  have e2 : (fun i => if i = yS τ - 1 then yf τ (yS τ - 1) else yf τ i) = yf τ := by
    funext i
    by_cases e : i = yS τ - 1
    · rw [if_pos e, e]
    · rw [if_neg e]
  have e3 : (fun i => if i = yS τ - 1 then yb τ (yS τ - 1) else yb τ i) = yb τ := by
    funext i
    by_cases e : i = yS τ - 1
    · rw [if_pos e, e]
    · rw [if_neg e]
  show ((yF τ, yP τ, yS τ - 1 + 1, yn τ, yt τ), yk τ, yc τ, (fun i => if i = yS τ - 1 then yw τ (yS τ - 1) else yw τ i), (fun i => if i = yS τ - 1 then yf τ (yS τ - 1) else yf τ i), (fun i => if i = yS τ - 1 then yb τ (yS τ - 1) else yb τ i), yl τ) = τ
  rw [e1, e2, e3, Nat.sub_add_cancel h]
theorem p_unsay : hs_unsay Inv := by
  intro M ⟨υ, hJ, hRe⟩
  have hS := jS hJ
  have hw := jw hJ
  have hP := hw.1.2.1
  by_cases h0 : yS (uT υ) = 0
  · refine ⟨-6, bC 6 M, bR 6 (bC 6 M), ?_, ?_, Inv_ref0 hJ hRe⟩
    · unfold s_X4_unsay
      rw [j0 hJ, qrs, (jc hJ).1.1.2.2.1, h0, if_pos (show nI 0 = 0 from rfl), c_ref hJ.1 (j := 6) rfl (by decide) (by decide), qb1]
    · unfold s_X5_unsay
      rw [(jr (Jv_bC hJ)).1.1.2.2.1, h0, if_pos (show nI 0 = 0 from rfl), r_no (M := bC _ M) hJ.1 (j := 6) rfl (by decide), qb1]
  · obtain ⟨⟨⟨b8, b9, b10, b12, b13, b11⟩, hk, hs⟩, hv, hw2, hh, h14, h15, h16⟩ := jc hJ
    have hlast := hw.2.2.1 (yS (uT υ) - 1) (by omega)
    have hp := hlast.1
    have hS1 : yS (uT υ) - 1 + 1 = yS (uT υ) := by omega
    have ecn : ∀ r, ycn (yw (uT υ)) r (yS (uT υ)) = ycn (yw (uT υ)) r (yS (uT υ) - 1) + (if yw (uT υ) (yS (uT υ) - 1) = r then 1 else 0) := fun r => by
      have : ycn (yw (uT υ)) r (yS (uT υ) - 1 + 1) = ycn (yw (uT υ)) r (yS (uT υ) - 1) + (if yw (uT υ) (yS (uT υ) - 1) = r then 1 else 0) := rfl
      rw [hS1] at this
      exact this
    have eb := c_back (N := M) hJ.1 q1 (S := yS (uT υ) - 1) (c := ycn (yw (uT υ)) (yw (uT υ) (yS (uT υ) - 1)) (yS (uT υ) - 1)) (by rw [hS1]; exact b10) (hs _ (by omega)).1 (by rw [(hk _ hp).2.2, ecn, if_pos rfl]) (by omega) (by omega)
    have hd := ydr_ad (τ := uT υ) (by omega)
    refine ⟨nI (yS (uT υ) - 1), hf_sI (hf_sI M 1 10 (nI (yS (uT υ) - 1))) (1 + 4) (yw (uT υ) (yS (uT υ) - 1)) (nI (ycn (yw (uT υ)) (yw (uT υ) (yS (uT υ) - 1)) (yS (uT υ) - 1))), hf_sI (hf_sI (hf_sI M 1 10 (nI (yS (uT υ) - 1))) (1 + 4) (yw (uT υ) (yS (uT υ) - 1)) (nI (ycn (yw (uT υ)) (yw (uT υ) (yS (uT υ) - 1)) (yS (uT υ) - 1)))) 49 2 (nI (yS (uT υ) - 1)), ?_, ?_, Inv_step (υ' := (ydr (uT υ), uh υ, ud υ, us υ, uw υ)) hJ hRe (K := hf_sI (hf_sI M 1 10 (nI (yS (uT υ) - 1))) (1 + 4) (yw (uT υ) (yS (uT υ) - 1)) (nI (ycn (yw (uT υ)) (yw (uT υ) (yS (uT υ) - 1)) (yS (uT υ) - 1)))) (gG_tr (gG_I (by unfold Gq; omega)) (gG_I (by unfold Gq; omega))) ?_ (gG_I (by unfold GrT; omega)) ?_ ?_ (Nat.le_refl _)⟩
    · unfold s_X4_unsay
      rw [j0 hJ, qrs, b10, if_neg (nI_ne0 (by omega) (by omega)), qrs, eb, qb1, yr0 (yrf_I (yrf_I hJ.1)) (j := 0) rfl, qrs, gI (by omega), gI0]
    · unfold s_X5_unsay
      have e2 : (hf_sI (hf_sI M 1 10 (nI (yS (uT υ) - 1))) (1 + 4) (yw (uT υ) (yS (uT υ) - 1)) (nI (ycn (yw (uT υ)) (yw (uT υ) (yS (uT υ) - 1)) (yS (uT υ) - 1)))).1 49 2 = nI (yS (uT υ)) := by
        rw [gI (by omega), gI (by omega)]; exact (jr hJ).1.1.2.2.1
      have e5 : nI (yS (uT υ)) - 1 = nI (yS (uT υ) - 1) := pk_sub (a := yS (uT υ)) (b := 1) (by omega)
      rw [e2, if_neg (nI_ne0 (by omega) (by omega)), e5, qpt, gI0]
    · refine ⟨⟨⟨?_, ?_, ?_, ?_, ?_, b11⟩, fun r hr => ⟨?_, ?_, ?_⟩, fun i hi => ⟨?_, ?_⟩⟩, fun w hww i hi => hv w hww i ?_, fun i hi => ?_, fun j hj => ?_, ?_, ?_, ?_⟩
      · rw [gI (by omega), gI (by omega)]; exact b8
      · rw [gI (by omega), gI (by omega)]; exact b9
      · rw [gI (by omega), gI0]; rfl
      · rw [gI (by omega), gI (by omega)]; exact b12
      · rw [gI (by omega), gI (by omega)]; exact b13
      · rw [gI (by omega), gI (by omega)]; exact (hk r hr).1
      · rw [gI (by omega), gI (by omega)]; exact (hk r hr).2.1
      · show _ = nI (ycn (yw (uT υ)) r (yS (uT υ) - 1))
        by_cases e : r = yw (uT υ) (yS (uT υ) - 1)
        · subst e; rw [gI0]
        · rw [gI (by omega), gI (by omega), (hk r hr).2.2, ecn, if_neg (fun q => e q.symm), Nat.add_zero]
      · have hi' : i < yS (uT υ) - 1 := hi
        rw [gI (by omega), gI (by omega)]; exact (hs i (by omega)).1
      · have hi' : i < yS (uT υ) - 1 := hi
        rw [gI (by omega), gI (by omega)]; exact (hs i (by omega)).2
      · have hi' : i < yS (uT υ) - 1 := hi
        show i < yS (uT υ)
        omega
      · have hi' : i < yS (uT υ) - 1 := hi
        rw [gI (by omega), gI (by omega)]; exact hw2 i (by omega)
      · rw [gI (by omega), gI (by omega)]; exact hh j hj
      · rw [gI (by omega), gI (by omega)]; exact h14
      · rw [gI (by omega), gI (by omega)]; exact h15
      · rw [gI (by omega), gI (by omega)]; exact h16
    · have hK := rU_K (K := hf_sI (hf_sI M 1 10 (nI (yS (uT υ) - 1))) (1 + 4) (yw (uT υ) (yS (uT υ) - 1)) (nI (ycn (yw (uT υ)) (yw (uT υ) (yS (uT υ) - 1)) (yS (uT υ) - 1)))) (gG_tr (gG_I (by unfold Gq; omega)) (gG_I (by unfold Gq; omega))) (jr hJ)
      obtain ⟨⟨⟨c0, c1, c2, c3, c4, c9⟩, ck, cs⟩, ch, c5, c6, c7⟩ := hK
      refine ⟨⟨⟨?_, ?_, ?_, ?_, ?_, c9⟩, fun r hr => ⟨?_, ?_⟩, fun i hi => ⟨?_, ?_, ?_⟩⟩, fun j hj => ?_, ?_, ?_, ?_⟩
      · rw [gI (by omega)]; exact c0
      · rw [gI (by omega)]; exact c1
      · rw [gI0]; rfl
      · rw [gI (by omega)]; exact c3
      · rw [gI (by omega)]; exact c4
      · rw [gI (by omega)]; exact (ck r hr).1
      · rw [gI (by omega)]; exact (ck r hr).2
      · have hi' : i < yS (uT υ) - 1 := hi
        rw [gI (by omega)]; exact (cs i (by omega)).1
      · have hi' : i < yS (uT υ) - 1 := hi
        rw [gI (by omega)]; exact (cs i (by omega)).2.1
      · have hi' : i < yS (uT υ) - 1 := hi
        rw [gI (by omega)]; exact (cs i (by omega)).2.2
      · rw [gI (by omega)]; exact ch j hj
      · rw [gI (by omega)]; exact c5
      · rw [gI (by omega)]; exact c6
      · rw [gI (by omega)]; exact c7
    · obtain ⟨⟨⟨w1, w2, w3, w4, w5, w6⟩, wk, ws, wc, wl⟩, u2, u3, u4, u5⟩ := hJ.2.1
      refine ⟨⟨⟨w1, w2, by show yS (uT υ) - 1 ≤ 50; omega, w4, w5, w6⟩, wk, fun i hi => ws i ?_, fun r => ?_, wl⟩, by show yS (uT υ) - 1 ≤ 24; omega, ?_, fun i hi => u4 i ?_, u5⟩
      · have hi' : i < yS (uT υ) - 1 := hi
        show i < yS (uT υ)
        omega
      · show ycn (yw (uT υ)) r (yS (uT υ) - 1) ≤ yn (uT υ)
        exact Nat.le_trans (ycn_mono _ _ (by omega)) (wc r)
      · intro e
        apply u3
        have := yWd_add (τ := ydr (uT υ)) (p := yw (uT υ) (yS (uT υ) - 1)) (f := yf (uT υ) (yS (uT υ) - 1)) (b := yb (uT υ) (yS (uT υ) - 1)) hp w2
        rw [hd] at this
        rw [this]
        have e' : yWd (ydr (uT υ)) yA1 99 = 0 := e
        rw [e']
        apply qlb_zero
        intro w hww
        rw [qlb_and, qlb_0]; rfl
      · have hi' : i < yS (uT υ) - 1 := hi
        show i < yS (uT υ)
        omega
theorem truth_b {f a : Int32} {M : hf_M} : s_X4_truthOf f a M = s_X4_truthOf f (qbI (!decide (a = 0))) M := by
  by_cases h : a = 0
  · subst h; rfl
  · rw [decide_eq_false h]
    unfold s_X4_truthOf
    rw [if_neg h, if_neg (show ¬ qbI (!false) = 0 by decide)]
theorem learn_b {q : Nat} {f a : Int32} {M : hf_M} : s_X3_learn q f a M = s_X3_learn q f (qbI (!decide (a = 0))) M := by
  unfold s_X3_learn
  rw [truth_b]
theorem p_known : hs_known Inv := by
  intro M ⟨υ, hJ, hRe⟩ a1 a2
  have hF := (jw hJ).1.1
  cases hb : yin a1 (yF (uT υ))
  · refine ⟨-1, bC 1 M, bR 1 (bC 1 M), ?_, ?_, Inv_ref0 hJ hRe⟩
    · unfold s_X4_known
      rw [j0 hJ, qrs, j_cF hJ, qb1, hb, qb_ifF, c_ref hJ.1 (j := 1) rfl (by decide) (by decide), qb1]
    · unfold s_X5_known
      rw [j_rF (Jv_bC hJ), qb1, hb, qb_ifF, r_no (M := bC _ M) hJ.1 (j := 1) rfl (by decide), qb1]
  · obtain ⟨f, hf, rfl⟩ := yin_T hb (by omega)
    generalize hbb : (!decide (a2 = 0)) = b
    have hr3 : ∀ {α : Type} (x y : α), (if a2 = 0 then x else y) = if b = true then y else x := by
      intro α x y
      subst hbb
      by_cases h : a2 = 0
      · rw [if_pos h, decide_eq_true h]; rfl
      · rw [if_neg h, decide_eq_false h]; rfl
    have et : ∀ N : hf_M, s_X4_truthOf (nI f) a2 N = some (yTr f b, N) := fun N => by rw [truth_b, hbb]; exact c_truth (by omega) b N
    have el : ∀ {N : hf_M}, cU 1 υ N → s_X3_learn 1 (nI f) a2 N = some ((), hf_sL N 1 11 (yl (uT υ) &&& yTr f b)) := fun {N} hN => by rw [learn_b, hbb]; exact c_learn hN (by omega) b
    by_cases h0 : yWd (uT υ) yA1 99 &&& yTr f b = 0
    · obtain ⟨L, l1, l2, l3⟩ := (r_isLeft (Jv_bC (j := 6) hJ).1 (jw hJ) (jr (Jv_bC (j := 6) hJ)) (f := f) (by omega) b).2 h0
      have hL : Jv υ L := Jv_town (Jv_bC (j := 6) hJ) 0 (gG_mono l3 (fun k j hk => by unfold GrT at hk; unfold GT; omega)) hJ.2.1 (cU_N l3 (jc (Jv_bC hJ))) l2 (Nat.le_refl _)
      refine ⟨-6, bC 6 M, bR 6 L, ?_, ?_, υ, ?_, ?_⟩
      · unfold s_X4_known
        rw [j0 hJ, qrs, j_cF hJ, qb1, hb, qb_ifT, j0 hJ, qrs, j_poss hJ, qb1, et, qb1, if_pos ((qcmp0 _).mpr h0), c_ref hJ.1 (j := 6) rfl (by decide) (by decide), qb1]
      · unfold s_X5_known
        rw [j_rF (Jv_bC hJ), qb1, hb, qb_ifT, hr3]
        cases b
        · have l1' : s_X5_isLeft 49 (nI f) 0 (bC 6 M) = some (0, L) := l1
          rw [if_neg (by decide), l1', qb1, if_pos rfl, r_no hL.1 (j := 6) rfl (by decide), qb1]
        · have l1' : s_X5_isLeft 49 (nI f) 1 (bC 6 M) = some (0, L) := l1
          rw [if_pos rfl, l1', qb1, if_pos rfl, r_no hL.1 (j := 6) rfl (by decide), qb1]
      · exact Jv_g hL bR_g
      · intro i i1 i2
        have e32 : L.1 32 i = (bC 6 M).1 32 i := (l3.2 32 i (by unfold GrT; omega)).1
        have e50 : ∀ i, L.1 50 i = (bC 6 M).1 50 i := fun i => (l3.2 50 i (by unfold GrT; omega)).1
        unfold bR
        rw [gI (by omega), e32, e50]
        by_cases e : i = 6
        · subst e
          rw [gI0]
          unfold bC
          rw [gI0, gI (by omega), hRe 6 i1 i2]
        · rw [gI (by omega), e50]
          unfold bC
          rw [gI (by omega), gI (by omega)]
          exact hRe i i1 i2
    · obtain ⟨k2, k3⟩ := c_left (jc hJ) (yl (uT υ) &&& yTr f b)
      have hK := rU_K k3 (jr hJ)
      obtain ⟨L, l1, l2, l3⟩ := (r_isLeft (gG_rf k3 hJ.1) (jw hJ) hK (f := f) (by omega) b).1 h0
      refine ⟨nI (ypop (yl (uT υ) &&& yTr f b)), hf_sL M 1 11 (yl (uT υ) &&& yTr f b), L, ?_, ?_, Inv_step hJ hRe k3 k2 l3 l2 (uWF_K hJ.2.1 h0) (Nat.le_refl _)⟩
      · unfold s_X4_known
        rw [j0 hJ, qrs, j_cF hJ, qb1, hb, qb_ifT, j0 hJ, qrs, j_poss hJ, qb1, et, qb1, if_neg (fun e => h0 ((qcmp0 _).mp e)), j0 hJ, qrs, el (jc hJ), qb1, yr0 (yrf_L hJ.1) (j := 0) rfl, qrs, gL0, c_pop, qb1]
      · have h9 : L.2.1 49 9 = yl (uT υ) &&& yTr f b := l2.1.1.2.2.2.2.2
        unfold s_X5_known
        rw [r_isFa hK.1.1.1, qb1, hb, qb_ifT, hr3]
        cases b
        · have l1' : s_X5_isLeft 49 (nI f) 0 (hf_sL M 1 11 (yl (uT υ) &&& yTr f false)) = some (1, L) := l1
          rw [if_neg (by decide), l1', qb1, if_neg q10, h9, r_count, qb1]
        · have l1' : s_X5_isLeft 49 (nI f) 1 (hf_sL M 1 11 (yl (uT υ) &&& yTr f true)) = some (1, L) := l1
          rw [if_pos rfl, l1', qb1, if_neg q10, h9, r_count, qb1]
theorem c_fg_loop {q P : Nat} (hq : cq q) (hP : P ≤ 6) : ∀ (k v fu : Nat) (N : hf_M), P = v + k → k < fu → yRf N → N.1 q 9 = nI P → ∃ K, s_X3_forgetSayings_7 q fu (nI v) N = some ((), K) ∧ K.2 = N.2 ∧ (∀ c j, (c ≠ q + 4 ∨ j < v) → K.1 c j = N.1 c j) ∧ ∀ j, v ≤ j → j < P → K.1 (q + 4) j = 0 := by
  intro k
  induction k with
  | zero =>
    intro v fu N hv hf hR h9
    obtain ⟨fu, rfl⟩ : ∃ u, fu = u + 1 := ⟨fu - 1, by omega⟩
    refine ⟨N, ?_, rfl, fun _ _ _ => rfl, fun j h1 h3 => by omega⟩
    rw [s_X3_forgetSayings_7, h9, qi_le rfl rfl (by omega) (by omega), if_pos (by omega)]
  | succ k ih =>
    intro v fu N hv hf hR h9
    obtain ⟨fu, rfl⟩ : ∃ u, fu = u + 1 := ⟨fu - 1, by omega⟩
    obtain ⟨K, k1, k2, k4, k5⟩ := ih (v + 1) fu (hf_sI N (q + 4) v 0) (by omega) (by omega) (yrf_I hR) (by rw [gI (by omega)]; exact h9)
    refine ⟨K, ?_, k2, fun c j hc => ?_, fun j h1 h3 => ?_⟩
    · rw [s_X3_forgetSayings_7, h9, qi_le rfl rfl (by omega) (by omega), if_neg (by omega), cr3 hR hq, qrs, qsI N _ (cl6 hq (by decide) (by decide) (by omega)), nI_1]
      exact k1
    · rw [k4 c j (by omega), gI (by omega)]
    · by_cases e : j = v
      · subst e
        rw [k4 (q + 4) j (by omega), gI0]
      · exact k5 j (by omega) h3
def uN (υ : hU) (x : Int64) : hU := (((yF (uT υ), yP (uT υ), 0, yn (uT υ), yt (uT υ)), yk (uT υ), yc (uT υ), yw (uT υ), yf (uT υ), yb (uT υ), x), uh υ, ud υ + 1, us υ, uw υ)
theorem p_sunset : hs_sunset Inv := by
  intro M ⟨υ, hJ, hRe⟩
  have hS := jS hJ
  have hw := jw hJ
  have hP := hw.1.2.1
  obtain ⟨⟨⟨b8, b9, b10, b12, b13, b11⟩, hk, hs⟩, hv, hw2, hh, h14, h15, h16⟩ := jc hJ
  obtain ⟨K, k1, k2, k4, k5⟩ := c_fg_loop q1 hP (yP (uT υ)) 0 2000 (hf_sI (hf_sL M 1 11 (yWd (uT υ) yA1 99)) 1 10 0) (by omega) (by omega) hJ.1 (by rw [gI (by omega)]; exact b9)
  have hRK : yRf K := fun k j hk => by rw [k2]; exact hJ.1 k j hk
  have kk : ∀ c j, c ≠ 1 + 4 → ¬ (c = 1 ∧ j = 10) → K.1 c j = M.1 c j := fun c j h1 h2 => by
    rw [k4 c j (Or.inl h1), gI (by omega), gLI]
  have k11 : K.2.1 1 11 = yWd (uT υ) yA1 99 := by rw [k2, gIL, gL0]
  have kL : ∀ c j, ¬ (c = 1 ∧ j = 11) → K.2.1 c j = M.2.1 c j := fun c j h => by rw [k2, gIL, gL (by omega)]
  have g1 : gG (Gq 1) M (hf_sI K 1 14 (ud υ + 1)) := ⟨by rw [gIR, k2]; rfl, fun c j hc => ⟨by
    unfold Gq at hc
    rw [gI (by omega), kk c j (by omega) (by omega)], by
    unfold Gq at hc
    rw [gIL, kL c j (by omega)]⟩⟩
  have hrK := rU_K g1 (jr hJ)
  refine ⟨nI (ypop (yWd (uT υ) yA1 99)), hf_sI K 1 14 (ud υ + 1), hf_sI (hf_sI (hf_sL (hf_sI K 1 14 (ud υ + 1)) 49 9 (yWd (uT υ) yA1 99)) 49 2 0) 49 5 (ud υ + 1), ?_, ?_, Inv_step (υ' := uN υ (yWd (uT υ) yA1 99)) hJ hRe g1 ?_ (gG_tr (gG_L (by unfold GrT; omega)) (gG_tr (gG_I (by unfold GrT; omega)) (gG_I (by unfold GrT; omega)))) ?_ ?_ (Nat.le_refl _)⟩
  · have k1' : s_X3_forgetSayings_7 1 2000 0 (hf_sI (hf_sL M 1 11 (yWd (uT υ) yA1 99)) 1 10 0) = some ((), K) := k1
    unfold s_X4_sunset s_X3_forgetSayings
    rw [j0 hJ, qrs, qrs, j_poss hJ, qb1, qpt, yr0 (yrf_L hJ.1) (j := 0) rfl, qrs, qpt, k1', qb1, yr0 hRK (j := 0) rfl, qrs, qpt, kk 1 14 (by omega) (by omega), h14, yr0 (yrf_I hRK) (j := 0) rfl, qrs, gIL, k11, c_pop, qb1]
  · unfold s_X5_sunset
    rw [r_worldsNow (gG_rf g1 hJ.1) hw hrK.1, qb1, qpt, qpt, qpt, gI (by omega), gLI, hrK.2.2.1, gIL, gIL, gL0, r_count, qb1]
  · refine ⟨⟨⟨?_, ?_, ?_, ?_, ?_, ?_⟩, fun r hr => ⟨?_, ?_, ?_⟩, fun i hi => absurd hi (Nat.not_lt_zero i)⟩, fun w hww i hi => absurd hi (Nat.not_lt_zero i), fun i hi => absurd hi (Nat.not_lt_zero i), fun j hj => ?_, gI0, ?_, ?_⟩
    · rw [gI (by omega), kk _ _ (by omega) (by omega)]; exact b8
    · rw [gI (by omega), kk _ _ (by omega) (by omega)]; exact b9
    · rw [gI (by omega), k4 1 10 (by omega), gI0]; rfl
    · rw [gI (by omega), kk _ _ (by omega) (by omega)]; exact b12
    · rw [gI (by omega), kk _ _ (by omega) (by omega)]; exact b13
    · rw [gIL]; exact k11
    · rw [gI (by omega), kk _ _ (by omega) (by omega)]; exact (hk r hr).1
    · rw [gI (by omega), kk _ _ (by omega) (by omega)]; exact (hk r hr).2.1
    · rw [gI (by omega), k5 r (by omega) hr]; rfl
    · rw [gI (by omega), kk _ _ (by omega) (by omega)]; exact hh j hj
    · rw [gI (by omega), kk _ _ (by omega) (by omega)]; exact h15
    · rw [gI (by omega), kk _ _ (by omega) (by omega)]; exact h16
  · obtain ⟨⟨⟨c0, c1, c2, c3, c4, c9⟩, ck, cs⟩, ch, c5, c6, c7⟩ := hrK
    refine ⟨⟨⟨?_, ?_, ?_, ?_, ?_, ?_⟩, fun r hr => ⟨?_, ?_⟩, fun i hi => absurd hi (Nat.not_lt_zero i)⟩, fun j hj => ?_, gI0, ?_, ?_⟩
    · rw [gI (by omega), gI (by omega), gLI]; exact c0
    · rw [gI (by omega), gI (by omega), gLI]; exact c1
    · rw [gI (by omega), gI0]; rfl
    · rw [gI (by omega), gI (by omega), gLI]; exact c3
    · rw [gI (by omega), gI (by omega), gLI]; exact c4
    · rw [gIL, gIL, gL0]; rfl
    · rw [gI (by omega), gI (by omega), gLI]; exact (ck r hr).1
    · rw [gI (by omega), gI (by omega), gLI]; exact (ck r hr).2
    · rw [gI (by omega), gI (by omega), gLI]; exact ch j hj
    · rw [gI (by omega), gI (by omega), gLI]; exact c6
    · rw [gI (by omega), gI (by omega), gLI]; exact c7
  · obtain ⟨⟨⟨w1, w2, w3, w4, w5, w6⟩, wk, ws, wc, wl⟩, u2, u3, u4, u5⟩ := hJ.2.1
    refine ⟨⟨⟨w1, w2, Nat.zero_le _, w4, w5, w6⟩, wk, fun i hi => absurd hi (Nat.not_lt_zero i), fun r => Nat.zero_le _, fun w hww => ?_⟩, Nat.zero_le _, ?_, fun i hi => absurd hi (Nat.not_lt_zero i), u5⟩
    · have hww' : qlb (yWd (uT υ) yA1 99) w = true := hww
      by_cases h64 : w < 64
      · exact yWd_lt hw h64 hww'
      · rw [qlb_ge (by omega)] at hww'; cases hww'
    · rw [yWd_0 (τ := uT (uN υ (yWd (uT υ) yA1 99))) rfl]
      exact u3
