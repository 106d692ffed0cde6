def uDr (υ : hU) (z d : Int32) : hU := (uT υ, uh υ, ud υ, z, d)
theorem cU_dr {υ : hU} {M : hf_M} {q : Nat} (h : cU q υ M) (z d : Int32) : cU q (uDr υ z d) (hf_sI (hf_sI M q 15 z) q 16 d) := by
  obtain ⟨h1, h2, h3, h4, h5, h6, h7⟩ := h
  have e : ∀ k j, ¬ (k = q ∧ (j = 15 ∨ j = 16)) → (hf_sI (hf_sI M q 15 z) q 16 d).1 k j = M.1 k j := fun k j hk => by
    rw [gI (by omega), gI (by omega)]
  have g1 : cB q (uT υ) (hf_sI (hf_sI M q 15 z) q 16 d) := cB_ag (fun k j hk => ⟨e k j (by unfold Zb at hk; omega), rfl⟩) h1
  have g3 : cW q (uT υ) (hf_sI (hf_sI M q 15 z) q 16 d) := cW_ag (fun j hj => e _ _ (by omega)) h3
  refine ⟨g1, h2, g3, fun j hj => ?_, ?_, ?_, ?_⟩
  · rw [e _ _ (by omega)]; exact h4 j hj
  · rw [e _ _ (by omega)]; exact h5
  · rw [gI (by omega), gI0]; rfl
  · rw [gI0]; rfl
theorem rU_dr {υ : hU} {M : hf_M} (h : rU υ M) (z d : Int32) : rU (uDr υ z d) (hf_sI (hf_sI M 49 6 z) 49 7 d) := by
  obtain ⟨h1, h4, h5, h6, h7⟩ := h
  have e : ∀ k j, ¬ (k = 49 ∧ (j = 6 ∨ j = 7)) → (hf_sI (hf_sI M 49 6 z) 49 7 d).1 k j = M.1 k j := fun k j hk => by
    rw [gI (by omega), gI (by omega)]
  have g1 : yR (uT υ) (hf_sI (hf_sI M 49 6 z) 49 7 d) := yR_ag (fun k j hk => ⟨e k j (by unfold Zy at hk; omega), rfl⟩) h1
  refine ⟨g1, fun j hj => ?_, ?_, ?_, ?_⟩
  · rw [e _ _ (by omega)]; exact h4 j hj
  · rw [e _ _ (by omega)]; exact h5
  · rw [gI (by omega), gI0]; rfl
  · rw [gI0]; rfl
theorem uDr_P (υ : hU) (z d : Int32) : yP (uT υ) ≤ yP (uT (uDr υ z d)) := Nat.le_refl _
theorem uWF_dr {υ : hU} (h : uWF υ) (z : Int32) {d : Nat} (hd : d < 2 ^ yF (uT υ)) : uWF (uDr υ z (nI d)) := by
  obtain ⟨h1, h2, h3, h4, -⟩ := h
  obtain ⟨τ, hh, dd, ss, ww⟩ := υ
  unfold uDr
  refine ⟨h1, h2, h3, h4, ?_⟩
  right
  exact ⟨d, hd, Eq.refl (nI d)⟩
theorem p_draw : hs_draw Inv := by
  intro M ⟨υ, hJ, hRe⟩
  have hF := (jw hJ).1.1
  have h64 := q_pow64 hF
  have hW := hJ.2.1.2.2.1
  have hpos : 0 < ypop (yWd (uT υ) yA1 99) := by
    rcases Nat.eq_zero_or_pos (ypop (yWd (uT υ) yA1 99)) with h | h
    · exact absurd ((ypop_0 _).mp h) hW
    · exact h
  have hle := ypop_le (yWd (uT υ) yA1 99)
  have ecl := c_lot (jc hJ).2.2.2.2.2.1 hpos (show ypop (yWd (uT υ) yA1 99) < 2 ^ 31 by omega)
  have erl : ∀ {N : hf_M}, N.1 49 6 = us υ → s_X5_lot 49 (nI (ypop (yWd (uT υ) yA1 99))) N = some (nI (ylo (us υ) (ypop (yWd (uT υ) yA1 99))), hf_sI N 49 6 (ylt (us υ))) := fun {N} h => r_lot h hpos (by omega)
  have hlo : ylo (us υ) (ypop (yWd (uT υ) yA1 99)) < ypop (yWd (uT υ) yA1 99) := Nat.mod_lt _ hpos
  generalize hz : ylt (us υ) = z at *
  generalize hy : ylo (us υ) (ypop (yWd (uT υ) yA1 99)) = y at *
  unfold ypop at hlo
  obtain ⟨d, d1, d2, d3⟩ := ypc_nth (f := qlb (yWd (uT υ) yA1 99)) (k := y) 64 hlo
  have hdF := yWd_lt (jw hJ) d1 d2
  have hlc := fun (N : hf_M) (hN : yRf N) => c_dr_loop (yWd (uT υ) yA1 99) (nI (ypop (yWd (uT υ) yA1 99))) d1 d2 d3 64 0 2000 N (Nat.zero_add 64).symm (by decide) hN
  have hlr := fun (N : hf_M) => r_dr_loop (yWd (uT υ) yA1 99) (nI (ypop (yWd (uT υ) yA1 99))) d1 d2 d3 N d 0 2000 y (Nat.zero_add d).symm (Nat.lt_trans d1 (by decide)) (Nat.add_zero y)
  have e0 : nI y - nI (ypc (qlb (yWd (uT υ) yA1 99)) 0) = nI y := by
    show nI y - nI 0 = nI y
    rw [pk_sub (Nat.zero_le y), Nat.sub_zero]
  rw [e0, nI_0] at hlc
  rw [nI_0] at hlr
  clear d3 hlo e0 hy
  have hc : cU 1 (uDr υ z (nI d)) (hf_sI (hf_sI M 1 15 z) 1 16 (nI d)) := cU_dr (jc hJ) z (nI d)
  have g1 : gG (Gq 1) M (hf_sI (hf_sI M 1 15 z) 1 16 (nI d)) := gG_tr (gG_I (by unfold Gq; omega)) (gG_I (by unfold Gq; omega))
  have hrK := rU_K g1 (jr hJ)
  have hr : rU (uDr υ z (nI d)) (hf_sI (hf_sI (hf_sI (hf_sI M 1 15 z) 1 16 (nI d)) 49 6 z) 49 7 (nI d)) := rU_dr hrK z (nI d)
  have hu := uWF_dr hJ.2.1 z hdF
  have g2 : gG GrT (hf_sI (hf_sI M 1 15 z) 1 16 (nI d)) (hf_sI (hf_sI (hf_sI (hf_sI M 1 15 z) 1 16 (nI d)) 49 6 z) 49 7 (nI d)) := gG_tr (gG_I (by unfold GrT; omega)) (gG_I (by unfold GrT; omega))
  have hi := Inv_step hJ hRe g1 hc g2 hr hu (uDr_P υ z (nI d))
  refine ⟨nI (ypop (yWd (uT υ) yA1 99)), hf_sI (hf_sI M 1 15 z) 1 16 (nI d), hf_sI (hf_sI (hf_sI (hf_sI M 1 15 z) 1 16 (nI d)) 49 6 z) 49 7 (nI d), ?_, ?_, hi⟩
  · have hl := hlc (hf_sI M 1 15 z) (yrf_I hJ.1)
    rw [if_neg (Nat.not_lt_zero d)] at hl
    unfold s_X4_draw
    rw [j0 hJ, qrs, j_poss hJ, qb1, c_pop, qb1, j0 hJ, qrs, ecl, qb1]
    exact hl
  · have hl := hlr (hf_sI (hf_sI (hf_sI M 1 15 z) 1 16 (nI d)) 49 6 z)
    unfold s_X5_draw
    rw [r_worldsNow (gG_rf g1 hJ.1) (jw hJ) hrK.1, qb1, r_count, qb1, if_neg (nI_ne0 hpos (by omega)), erl hrK.2.2.2.1, qb1]
    exact hl
