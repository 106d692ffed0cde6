theorem yok_same {τ σ : hT} {r w : Nat} {ch : Nat → Bool} (h1 : yk σ r = yk τ r) (h2 : yc σ r = yc τ r) (h3 : yn σ = yn τ) (h4 : yt σ = yt τ) (h5 : yS σ = yS τ) (h : ∀ j, j < yS τ → yw σ j = yw τ j ∧ ytr σ w j = ytr τ w j) : yok σ r ch w = yok τ r ch w := by
  obtain ⟨a1, a2, a3, a4, a5⟩ := y_cong r h1 h2 h3 h4 (w := w) (ch := ch) (yS τ) h
  unfold yok
  rw [h1, h3, h4, h5, a2, a3, a5]
theorem yok_none {τ : hT} {r w : Nat} {ch : Nat → Bool} (h : ∀ j, j < yS τ → yw τ j ≠ r) : yok τ r ch w = true := by
  have key : ∀ i, i ≤ yS τ → ygd τ r ch w i = true ∧ yts τ r ch w i = 0 ∧ yfs τ r ch w i = 0 := by
    intro i
    induction i with
    | zero => intro _; exact ⟨rfl, rfl, rfl⟩
    | succ i ih =>
      intro hi
      obtain ⟨a1, a2, a3⟩ := ih (by omega)
      have hs : (decide (yw τ i = r) && ch i) = false := by rw [decide_eq_false (h i (by omega))]; rfl
      obtain ⟨b1, b2⟩ := yts_skip (w := w) hs
      rw [ygd_skip hs, b1, b2]
      exact ⟨a1, a2, a3⟩
  obtain ⟨a1, a2, a3⟩ := key _ (Nat.le_refl _)
  unfold yok
  rw [a1, a2, a3, decide_eq_true (Nat.zero_le _), decide_eq_true (Nat.zero_le _)]; simp
theorem yWd_bit {τ : hT} {ch : Nat → Bool} {b w : Nat} (hw : w < 64) : qlb (yWd τ ch b) w = true ↔ qlb (yl τ) w = true ∧ ∀ p, p < yP τ → p ≠ b → yok τ p ch w = true := by
  unfold yWd
  rw [qof_b _ hw, Bool.and_eq_true, yal_iff]
theorem y_ne0 {x : Int64} {w : Nat} (h : qlb x w = true) : x ≠ 0 := fun e => by
  rw [e, qlb_0] at h; cases h
theorem yWd_0 {τ : hT} (h0 : yS τ = 0) : yWd τ yA1 99 = yl τ := by
  apply qlb_ext
  intro w hw
  rw [Bool.eq_iff_iff, yWd_bit hw]
  exact ⟨fun h => h.1, fun h => ⟨h, fun p _ _ => yok_none (fun j hj => by omega)⟩⟩
theorem ycn_0 {w : Nat → Nat} {p : Nat} : ∀ {i : Nat}, (∀ j, j < i → w j ≠ p) → ycn w p i = 0
  | 0, _ => rfl
  | i + 1, h => by
    rw [ycn_skip (h i (by omega)), ycn_0 (fun j hj => h j (by omega))]
/-! small calls -/
theorem p_fault : hs_fault Inv := by
  intro M ⟨υ, hJ, hRe⟩
  refine ⟨M.1 0 8, M, M, rfl, ?_, υ, hJ, hRe⟩
  unfold s_X5_fault
  rw [show M.1 0 8 = M.1 49 8 from hJ.2.2.2.2.2.2.1]
theorem Jv_u {υ υ' : hU} {M N : hf_M} (hJ : Jv υ M) (hRe : iRe M) (S : Nat) (hg : gG (fun k j => GG S k j ∨ (1 ≤ k ∧ k ≤ 9) ∨ (k = 49 ∧ (j ≤ 7 ∨ j = 9)) ∨ (51 ≤ k ∧ k ≤ 56)) M N) (h1 : uWF υ') (h2 : cU 1 υ' N) (h3 : rU υ' N) (h4 : yP (uT υ) ≤ yP (uT υ')) : Inv N := by
  refine ⟨υ', Jv_town hJ S (gG_mono hg (fun k j hk => ?_)) h1 h2 h3 h4, fun j a b => ?_⟩
  · unfold GT
    rcases hk with a | a | a | a
    · exact Or.inl a
    · exact Or.inr (Or.inl a)
    · exact Or.inr (Or.inr (Or.inl a))
    · exact Or.inr (Or.inr (Or.inr (Or.inl a)))
  · rw [(hg.2 32 j (by unfold GG; omega)).1, (hg.2 50 j (by unfold GG; omega)).1]; exact hRe j a b
/-! single writes -/
section W1
variable {υ : hU} {M : hf_M} {q : Nat}
theorem cU_seed (h : cU q υ M) (x : Int32) : cU q (uT υ, uh υ, ud υ, x, uw υ) (hf_sI M q 15 x) := by
  obtain ⟨h1, h2, h3, h4, h5, h6, h7⟩ := h
  refine ⟨cB_ag (fun k j hk => ⟨gI (by unfold Zb at hk; omega), rfl⟩) h1, h2, cW_ag (fun j hj => gI (by omega)) h3, fun j hj => ?_, ?_, gI0, ?_⟩
  · rw [gI (by omega)]; exact h4 j hj
  · rw [gI (by omega)]; exact h5
  · rw [gI (by omega)]; exact h7
theorem cU_days (h : cU q υ M) (x : Int32) : cU q (uT υ, uh υ, x, us υ, uw υ) (hf_sI M q 14 x) := by
  obtain ⟨h1, h2, h3, h4, h5, h6, h7⟩ := h
  refine ⟨cB_ag (fun k j hk => ⟨gI (by unfold Zb at hk; omega), rfl⟩) h1, h2, cW_ag (fun j hj => gI (by omega)) h3, fun j hj => ?_, gI0, ?_, ?_⟩
  · rw [gI (by omega)]; exact h4 j hj
  · rw [gI (by omega)]; exact h6
  · rw [gI (by omega)]; exact h7
theorem cU_drawn (h : cU q υ M) (x : Int32) : cU q (uT υ, uh υ, ud υ, us υ, x) (hf_sI M q 16 x) := by
  obtain ⟨h1, h2, h3, h4, h5, h6, h7⟩ := h
  refine ⟨cB_ag (fun k j hk => ⟨gI (by unfold Zb at hk; omega), rfl⟩) h1, h2, cW_ag (fun j hj => gI (by omega)) h3, fun j hj => ?_, ?_, ?_, gI0⟩
  · rw [gI (by omega)]; exact h4 j hj
  · rw [gI (by omega)]; exact h5
  · rw [gI (by omega)]; exact h6
theorem cU_harm (h : cU q υ M) (f : Nat) (x : Int32) : cU q (uT υ, (fun i => if i = f then x else uh υ i), ud υ, us υ, uw υ) (hf_sI M (q + 1) f x) := by
  obtain ⟨h1, h2, h3, h4, h5, h6, h7⟩ := h
  refine ⟨cB_ag (fun k j hk => ⟨gI (by unfold Zb at hk; omega), rfl⟩) h1, h2, cW_ag (fun j hj => gI (by omega)) h3, fun j hj => ?_, ?_, ?_, ?_⟩
  · show _ = if j = f then x else uh υ j
    by_cases e : j = f
    · subst e; rw [gI0, if_pos rfl]
    · rw [gI (by omega), if_neg e]; exact h4 j hj
  · rw [gI (by omega)]; exact h5
  · rw [gI (by omega)]; exact h6
  · rw [gI (by omega)]; exact h7
/-- another town, all else the same -/
theorem cU_of {N : hf_M} {τ : hT} (h : cU q υ M) (hB : cB q τ N) (hV : ∀ w, w < 64 → cV q τ w N) (hW : cW q τ N) (hh : ∀ j, N.1 (q + 1) j = M.1 (q + 1) j) (h4 : N.1 q 14 = M.1 q 14) (h5 : N.1 q 15 = M.1 q 15) (h6 : N.1 q 16 = M.1 q 16) : cU q (τ, uh υ, ud υ, us υ, uw υ) N := by
  obtain ⟨g1, g2, g3, g4, g5, g6, g7⟩ := h
  exact ⟨hB, hV, hW, fun j hj => (hh j).trans (g4 j hj), h4.trans g5, h5.trans g6, h6.trans g7⟩
theorem rU_seed (h : rU υ M) (x : Int32) : rU (uT υ, uh υ, ud υ, x, uw υ) (hf_sI M 49 6 x) := by
  obtain ⟨h1, h4, h5, h6, h7⟩ := h
  refine ⟨yR_ag (fun k j hk => ⟨gI (by unfold Zy at hk; omega), rfl⟩) h1, fun j hj => ?_, ?_, gI0, ?_⟩
  · rw [gI (by omega)]; exact h4 j hj
  · rw [gI (by omega)]; exact h5
  · rw [gI (by omega)]; exact h7
theorem rU_days (h : rU υ M) (x : Int32) : rU (uT υ, uh υ, x, us υ, uw υ) (hf_sI M 49 5 x) := by
  obtain ⟨h1, h4, h5, h6, h7⟩ := h
  refine ⟨yR_ag (fun k j hk => ⟨gI (by unfold Zy at hk; omega), rfl⟩) h1, fun j hj => ?_, gI0, ?_, ?_⟩
  · rw [gI (by omega)]; exact h4 j hj
  · rw [gI (by omega)]; exact h6
  · rw [gI (by omega)]; exact h7
theorem rU_drawn (h : rU υ M) (x : Int32) : rU (uT υ, uh υ, ud υ, us υ, x) (hf_sI M 49 7 x) := by
  obtain ⟨h1, h4, h5, h6, h7⟩ := h
  refine ⟨yR_ag (fun k j hk => ⟨gI (by unfold Zy at hk; omega), rfl⟩) h1, fun j hj => ?_, ?_, ?_, gI0⟩
  · rw [gI (by omega)]; exact h4 j hj
  · rw [gI (by omega)]; exact h5
  · rw [gI (by omega)]; exact h6
theorem rU_harm (h : rU υ M) (f : Nat) (x : Int32) : rU (uT υ, (fun i => if i = f then x else uh υ i), ud υ, us υ, uw υ) (hf_sI M 51 f x) := by
  obtain ⟨h1, h4, h5, h6, h7⟩ := h
  refine ⟨yR_ag (fun k j hk => ⟨gI (by unfold Zy at hk; omega), rfl⟩) h1, fun j hj => ?_, ?_, ?_, ?_⟩
  · show _ = if j = f then x else uh υ j
    by_cases e : j = f
    · subst e; rw [gI0, if_pos rfl]
    · rw [gI (by omega), if_neg e]; exact h4 j hj
  · rw [gI (by omega)]; exact h5
  · rw [gI (by omega)]; exact h6
  · rw [gI (by omega)]; exact h7
theorem rU_of {N : hf_M} {τ : hT} (h : rU υ M) (hB : yR τ N) (hh : ∀ j, N.1 51 j = M.1 51 j) (h4 : N.1 49 5 = M.1 49 5) (h5 : N.1 49 6 = M.1 49 6) (h6 : N.1 49 7 = M.1 49 7) : rU (τ, uh υ, ud υ, us υ, uw υ) N := by
  obtain ⟨g1, g4, g5, g6, g7⟩ := h
  exact ⟨hB, fun j hj => (hh j).trans (g4 j hj), h4.trans g5, h5.trans g6, h6.trans g7⟩
end W1
/-- cells of the class alone were changed: the reference's are as they were -/
theorem rU_lo {υ : hU} {M N : hf_M} (h : ∀ k j, 49 ≤ k → N.1 k j = M.1 k j ∧ N.2.1 k j = M.2.1 k j) (hr : rU υ M) : rU υ N := rU_ag (fun k j hk => h k j (by unfold Zr at hk; omega)) hr
theorem cU_hi {υ : hU} {M N : hf_M} (h : ∀ k j, k < 49 → N.1 k j = M.1 k j ∧ N.2.1 k j = M.2.1 k j) (hr : cU 1 υ M) : cU 1 υ N := cU_ag (fun k j hk => h k j (by unfold Zc at hk; omega)) hr
theorem p_seed : hs_seed Inv := by
  intro M ⟨υ, hJ, hRe⟩ a1
  have hR := hJ.1
  have h0 : M.2.2 0 0 = some 1 := yr0 hR rfl
  have hc := hJ.2.2.1
  have hr := hJ.2.2.2.1
  refine ⟨us υ, hf_sI M 1 15 a1, hf_sI (hf_sI M 1 15 a1) 49 6 a1, ?_, ?_, ?_⟩
  · unfold s_X4_seed
    rw [h0, qrs, qrs, qpt, hc.2.2.2.2.2.1]
  · unfold s_X5_seed
    rw [qpt, gI (by omega), hr.2.2.2.1]
  · refine Jv_u (υ' := (uT υ, uh υ, ud υ, a1, uw υ)) hJ hRe 0 ⟨rfl, fun k j hk => ⟨?_, rfl⟩⟩ hJ.2.1 (cU_hi (fun k j hk => ⟨gI (by omega), rfl⟩) (cU_seed hc a1)) (rU_seed (rU_lo (fun k j hk => ⟨gI (by omega), rfl⟩) hr) a1) (Nat.le_refl _)
    rw [gI (by omega), gI (by omega)]
theorem p_harm : hs_harm Inv := by
  intro M ⟨υ, hJ, hRe⟩ a1 a2
  have hR := hJ.1
  have h0 : M.2.2 0 0 = some 1 := yr0 hR rfl
  have hc := hJ.2.2.1
  have hr := hJ.2.2.2.1
  have hF := hJ.2.1.1.1.1
  have e1 : ∀ j, (bC j M).1 49 0 = nI (yF (uT υ)) := fun j => by unfold bC; rw [gI (by omega)]; exact hr.1.1.1
  cases hb : yin a1 (yF (uT υ))
  · refine ⟨-1, bC 1 M, bR 1 (bC 1 M), ?_, ?_, Inv_ref0 hJ hRe⟩
    · unfold s_X4_harm
      rw [h0, qrs, c_isFa hc.1.1.1, qb1, hb, qb_ifF, c_ref hR (j := 1) rfl (by decide) (by decide), qb1]
    · unfold s_X5_harm
      rw [r_isFa (e1 1), qb1, hb, qb_ifF, r_no (M := bC _ M) hR (j := 1) rfl (by decide), qb1]
  · obtain ⟨f, hf, rfl⟩ := yin_T hb (by omega)
    by_cases hv : a2 < 0 ∨ 99 < a2
    · refine ⟨-6, bC 6 M, bR 6 (bC 6 M), ?_, ?_, Inv_ref0 hJ hRe⟩
      · unfold s_X4_harm s_X4_within
        rw [h0, qrs, c_isFa hc.1.1.1, qb1, hb, qb_ifT]
        by_cases h1 : a2 < 0
        · rw [if_pos h1, qb1, if_pos rfl, c_ref hR (j := 6) rfl (by decide) (by decide), qb1]
        · rw [if_neg h1, if_pos (hv.resolve_left h1), qb1, if_pos rfl, c_ref hR (j := 6) rfl (by decide) (by decide), qb1]
      · unfold s_X5_harm
        rw [r_isFa (e1 6), qb1, hb, qb_ifT]
        by_cases h1 : a2 < 0
        · rw [if_pos h1, r_no (M := bC _ M) hR (j := 6) rfl (by decide), qb1]
        · rw [if_neg h1, if_neg (Int32.not_le.mpr (hv.resolve_left h1)), r_no (M := bC _ M) hR (j := 6) rfl (by decide), qb1]
    · have h1 : ¬ a2 < 0 := fun e => hv (Or.inl e)
      have h2 : ¬ 99 < a2 := fun e => hv (Or.inr e)
      have r11 : (hf_sI M 2 f a2).2.2 49 11 = some 51 := yrf_49 hR rfl
      refine ⟨uh υ f, hf_sI M 2 f a2, hf_sI (hf_sI M 2 f a2) 51 f a2, ?_, ?_, ?_⟩
      · unfold s_X4_harm s_X4_within
        rw [h0, qrs, c_isFa hc.1.1.1, qb1, hb, qb_ifT, if_neg h1, if_neg h2, qb1, if_neg q10, h0, qrs, cr0 hR (q := 1) (Or.inl rfl), qrs, qlI M (by show f < 6; omega), qrs, cr0 hR (q := 1) (Or.inl rfl), qrs, qsI M _ (by show f < 6; omega), hc.2.2.2.1 f (by omega)]
      · unfold s_X5_harm
        rw [r_isFa (by rw [gI (by omega)]; exact hr.1.1.1), qb1, hb, qb_ifT, if_neg h1, if_pos (Int32.not_lt.mp h2), r11, qrs, qlI _ (by show f < 6; omega), qrs, qsI _ _ (by show f < 6; omega), gI (by omega), hr.2.1 f (by omega)]
      · refine Jv_u (υ' := (uT υ, (fun i => if i = f then a2 else uh υ i), ud υ, us υ, uw υ)) hJ hRe 0 ⟨rfl, fun k j hk => ⟨?_, rfl⟩⟩ hJ.2.1 (cU_hi (fun k j hk => ⟨gI (by omega), rfl⟩) (cU_harm hc f a2)) (rU_harm (rU_lo (fun k j hk => ⟨gI (by omega), rfl⟩) hr) f a2) (Nat.le_refl _)
        rw [gI (by omega), gI (by omega)]
theorem p_sayingOf : hs_sayingOf Inv := by
  intro M ⟨υ, hJ, hRe⟩ a1
  have hR := hJ.1
  have h0 : M.2.2 0 0 = some 1 := yr0 hR rfl
  have hc := hJ.2.2.1
  have hr := hJ.2.2.2.1
  have hS := hJ.2.1.2.1
  have r14 : M.2.2 49 14 = some 54 := yrf_49 hR rfl
  have r15 : M.2.2 49 15 = some 55 := yrf_49 hR rfl
  have r16 : M.2.2 49 16 = some 56 := yrf_49 hR rfl
  by_cases h1 : a1 < 0
  · refine ⟨-1, M, M, ?_, ?_, υ, hJ, hRe⟩
    · unfold s_X4_sayingOf
      rw [if_pos h1]
    · unfold s_X5_sayingOf
      rw [if_pos h1]
  · by_cases h2 : nI (yS (uT υ)) ≤ a1
    · refine ⟨-1, M, M, ?_, ?_, υ, hJ, hRe⟩
      · unfold s_X4_sayingOf
        rw [if_neg h1, h0, qrs, hc.1.1.2.2.1, if_pos h2]
      · unfold s_X5_sayingOf
        rw [if_neg h1, hr.1.1.2.2.1, if_pos h2]
    · obtain ⟨i, hi, rfl⟩ := ((pk_ix a1 (n := yS (uT υ)) (by omega)).resolve_left h1).resolve_left h2
      refine ⟨nI (100 * yw (uT υ) i + 10 * yf (uT υ) i + (yb (uT υ) i).toNat), M, M, ?_, ?_, υ, hJ, hRe⟩
      · unfold s_X4_sayingOf
        rw [if_neg h1, h0, qrs, hc.1.1.2.2.1, if_neg h2, qrs, cr6 hR (q := 1) (Or.inl rfl), qrs, qlI M (by show i < 48; omega), hc.2.2.1 i hi]
      · obtain ⟨g1, g2, g3⟩ := hr.1.2.2 i hi
        unfold s_X5_sayingOf
        rw [if_neg h1, hr.1.1.2.2.1, if_neg h2, r14, qrs, qlI M (by show i < 52; omega), r15, qrs, qlI M (by show i < 52; omega), r16, qrs, qlI M (by show i < 52; omega), g1, g2, g3, qbI_nI, show (100 : Int32) = nI 100 from rfl, show (10 : Int32) = nI 10 from rfl, pk_mul, pk_mul, nI_add, nI_add]
theorem p_speakerOf : hs_speakerOf Inv := by
  intro M ⟨υ, hJ, hRe⟩ a1 a2
  have hR := hJ.1
  have h0 : M.2.2 0 0 = some 1 := yr0 hR rfl
  have hc := hJ.2.2.1
  have hr := hJ.2.2.2.1
  have hP := hJ.2.1.1.1.2.1
  have e1 : ∀ j, (bC j M).1 49 1 = nI (yP (uT υ)) := fun j => by unfold bC; rw [gI (by omega)]; exact hr.1.1.2.1
  cases hb : yin a1 (yP (uT υ))
  · refine ⟨-5, bC 5 M, bR 5 (bC 5 M), ?_, ?_, Inv_ref0 hJ hRe⟩
    · unfold s_X4_speakerOf
      rw [h0, qrs, c_isSp hc.1.1.2.1, qb1, hb, qb_ifF, c_ref hR (j := 5) rfl (by decide) (by decide), qb1]
    · unfold s_X5_speakerOf
      rw [r_isSp (e1 5), qb1, hb, qb_ifF, r_no (M := bC _ M) hR (j := 5) rfl (by decide), qb1]
  · obtain ⟨p, hp, rfl⟩ := yin_T hb (by omega)
    obtain ⟨k1, k2, k3⟩ := hc.1.2.1 p hp
    obtain ⟨l1, l2⟩ := hr.1.2.1 p hp
    have hq : cq 1 := Or.inl rfl
    rcases pk_ix a2 (n := 3) (by decide) with h2 | h2 | ⟨z, hz, rfl⟩
    · refine ⟨-5, bC 5 M, bR 5 (bC 5 M), ?_, ?_, Inv_ref0 hJ hRe⟩
      · unfold s_X4_speakerOf
        rw [h0, qrs, c_isSp hc.1.1.2.1, qb1, hb, qb_ifT, if_neg (fun e => by subst e; revert h2; decide), if_neg (fun e => by subst e; revert h2; decide), if_neg (fun e => by subst e; revert h2; decide), c_ref hR (j := 5) rfl (by decide) (by decide), qb1]
      · unfold s_X5_speakerOf
        rw [r_isSp (e1 5), qb1, hb, qb_ifT, if_pos h2, r_no (M := bC _ M) hR (j := 5) rfl (by decide), qb1]
    · have h3 : ¬ a2 < 0 := fun e => absurd (Int32.lt_of_le_of_lt h2 e) (by decide)
      have h4 : ¬ a2 ≤ 2 := fun e => absurd (Int32.le_trans h2 e) (by decide)
      refine ⟨-5, bC 5 M, bR 5 (bC 5 M), ?_, ?_, Inv_ref0 hJ hRe⟩
      · unfold s_X4_speakerOf
        rw [h0, qrs, c_isSp hc.1.1.2.1, qb1, hb, qb_ifT, if_neg (fun e => by subst e; revert h2; decide), if_neg (fun e => by subst e; revert h2; decide), if_neg (fun e => by subst e; revert h2; decide), c_ref hR (j := 5) rfl (by decide) (by decide), qb1]
      · unfold s_X5_speakerOf
        rw [r_isSp (e1 5), qb1, hb, qb_ifT, if_neg h3, if_neg h4, r_no (M := bC _ M) hR (j := 5) rfl (by decide), qb1]
    · have hz3 : z = 0 ∨ z = 1 ∨ z = 2 := by omega
      rcases hz3 with rfl | rfl | rfl
      · refine ⟨nI (yk (uT υ) p), M, M, ?_, ?_, υ, hJ, hRe⟩
        · unfold s_X4_speakerOf
          rw [h0, qrs, c_isSp hc.1.1.2.1, qb1, hb, qb_ifT, if_pos (by decide), h0, qrs, cr1 hR hq, qrs, qlI M (by show p < 6; omega), k1]
        · unfold s_X5_speakerOf
          rw [r_isSp hr.1.1.2.1, qb1, hb, qb_ifT, if_neg (by decide), if_pos (by decide), if_pos (by decide), yrf_49 hR (j := 12) rfl, qrs, qlI M (by show p < 6; omega), l1]
      · refine ⟨nI (yc (uT υ) p), M, M, ?_, ?_, υ, hJ, hRe⟩
        · unfold s_X4_speakerOf
          rw [h0, qrs, c_isSp hc.1.1.2.1, qb1, hb, qb_ifT, if_neg (by decide), if_pos (by decide), h0, qrs, cr2 hR hq, qrs, qlI M (by show p < 6; omega), k2]
        · unfold s_X5_speakerOf
          rw [r_isSp hr.1.1.2.1, qb1, hb, qb_ifT, if_neg (by decide), if_pos (by decide), if_neg (by decide), if_pos (by decide), yrf_49 hR (j := 13) rfl, qrs, qlI M (by show p < 6; omega), l2]
      · refine ⟨nI (ycn (yw (uT υ)) p (yS (uT υ))), M, M, ?_, ?_, υ, hJ, hRe⟩
        · unfold s_X4_speakerOf
          rw [h0, qrs, c_isSp hc.1.1.2.1, qb1, hb, qb_ifT, if_neg (by decide), if_neg (by decide), if_pos (by decide), h0, qrs, cr3 hR hq, qrs, qlI M (by show p < 6; omega), k3]
        · unfold s_X5_speakerOf
          rw [r_isSp hr.1.1.2.1, qb1, hb, qb_ifT, if_neg (by decide), if_pos (by decide), if_neg (by decide), if_neg (by decide), r_saidBy hR hJ.2.1.1 hr.1 hp, qb1]
