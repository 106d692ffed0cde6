/-! says -/
def yUn (k z : Nat) : Bool := decide (z = k) || decide (z = 0) || (decide (k = 3) && decide (z = 1)) || (decide (k = 5) && decide (z = 4))
theorem und_kind {k : Nat} (hk : k ≤ 6) (M : hf_M) : s_X4_isKind (nI k) M = some (1, M) := by
  unfold s_X4_isKind
  rw [if_neg (nI_pos (by omega)), qi_lt (show (6 : Int32) = nI 6 from rfl) rfl (by omega) (by omega), if_neg (by omega)]
theorem und_step {k z v n : Nat} (hk : k ≤ 6) (hz : z ≤ 6) (hv : v < 7) (M : hf_M) : s_X4_isUnder_4 (nI z) (n + 1) (nI k) (nI v) M = if k = z then some (1, M) else s_X4_isUnder_4 (nI z) n (hf_AB k) (nI (v + 1)) M := by
  rw [s_X4_isUnder_4, qi_le (show (7 : Int32) = nI 7 from rfl) rfl (by omega) (by omega), if_neg (by omega), und_kind hk, qb1, if_neg q10, qi_eq rfl rfl (by omega) (by omega), qAB (by omega), nI_1]
theorem und_end {z v n : Nat} (hv : v < 7) (M : hf_M) : s_X4_isUnder_4 (nI z) (n + 1) (-1) (nI v) M = some (0, M) := by
  have e : s_X4_isKind (-1) M = some (0, M) := by
    unfold s_X4_isKind
    rw [if_pos (by decide)]
  rw [s_X4_isUnder_4, qi_le (show (7 : Int32) = nI 7 from rfl) rfl (by omega) (by omega), if_neg (by omega), e, qb1, if_pos rfl]
theorem und_0 {z v n : Nat} (hz : z ≤ 6) (hv : v < 6) (M : hf_M) : s_X4_isUnder_4 (nI z) (n + 2) (nI 0) (nI v) M = some (qbI (decide (z = 0)), M) := by
  rw [und_step (by omega) hz (by omega), show hf_AB 0 = -1 from rfl, und_end (by omega)]
  by_cases h : 0 = z
  · rw [if_pos h, decide_eq_true h.symm]; rfl
  · rw [if_neg h, decide_eq_false (fun e => h e.symm)]; rfl
theorem c_under {k z : Nat} (hk : k ≤ 6) (hz : z ≤ 6) (M : hf_M) : s_X4_isUnder (nI k) (nI z) M = some (qbI (yUn k z), M) := by
  have h7 : k = 0 ∨ k = 1 ∨ k = 2 ∨ k = 3 ∨ k = 4 ∨ k = 5 ∨ k = 6 := by omega
  have hz7 : z = 0 ∨ z = 1 ∨ z = 2 ∨ z = 3 ∨ z = 4 ∨ z = 5 ∨ z = 6 := by omega
  show s_X4_isUnder_4 (nI z) (1996 + 4) (nI k) (nI 0) M = _
  rcases h7 with rfl | rfl | rfl | rfl | rfl | rfl | rfl
  · rw [und_0 hz (by omega)]
    rcases hz7 with rfl | rfl | rfl | rfl | rfl | rfl | rfl <;> rfl
  · rw [und_step (by omega) hz (by omega), show hf_AB 1 = nI 0 from rfl, und_0 hz (by omega)]
    rcases hz7 with rfl | rfl | rfl | rfl | rfl | rfl | rfl <;> rfl
  · rw [und_step (by omega) hz (by omega), show hf_AB 2 = nI 0 from rfl, und_0 hz (by omega)]
    rcases hz7 with rfl | rfl | rfl | rfl | rfl | rfl | rfl <;> rfl
  · rw [und_step (by omega) hz (by omega), show hf_AB 3 = nI 1 from rfl, und_step (by omega) hz (by omega), show hf_AB 1 = nI 0 from rfl, und_0 hz (by omega)]
    rcases hz7 with rfl | rfl | rfl | rfl | rfl | rfl | rfl <;> rfl
  · rw [und_step (by omega) hz (by omega), show hf_AB 4 = nI 0 from rfl, und_0 hz (by omega)]
    rcases hz7 with rfl | rfl | rfl | rfl | rfl | rfl | rfl <;> rfl
  · rw [und_step (by omega) hz (by omega), show hf_AB 5 = nI 4 from rfl, und_step (by omega) hz (by omega), show hf_AB 4 = nI 0 from rfl, und_0 hz (by omega)]
    rcases hz7 with rfl | rfl | rfl | rfl | rfl | rfl | rfl <;> rfl
  · rw [und_step (by omega) hz (by omega), show hf_AB 6 = nI 0 from rfl, und_0 hz (by omega)]
    rcases hz7 with rfl | rfl | rfl | rfl | rfl | rfl | rfl <;> rfl
theorem p_says : hs_says Inv := by
  intro M ⟨υ, hJ, hRe⟩ a1 a2
  have hR := hJ.1
  have hw := jw hJ
  have hP := hw.1.2.1
  have h3 : M.2.2 0 3 = some 28 := yr0 hR rfl
  have r17 : ∀ j, (bC j M).2.2 49 17 = some 57 := fun j => yrf_49 hR rfl
  have r20 : ∀ j, (bC j M).2.2 49 20 = some 60 := fun j => yrf_49 hR rfl
  have r12 : ∀ j, (bC j M).2.2 49 12 = some 52 := fun j => yrf_49 hR rfl
  have hC : ∀ (j : Nat) (k i : Nat), k ≠ 32 → (bC j M).1 k i = M.1 k i := fun j k i hk => by unfold bC; rw [gI (by omega)]
  cases hb : yin a1 8
  · refine ⟨-1, bC 1 M, bR 1 (bC 1 M), ?_, ?_, Inv_ref0 hJ hRe⟩
    · unfold s_X4_says
      rw [c_shelf, qb1, hb, qb_ifF, c_ref hR (j := 1) rfl (by decide) (by decide), qb1]
    · unfold s_X5_says
      rw [r_shelf, qb1, hb, qb_ifF, r_no (M := bC _ M) hR (j := 1) rfl (by decide), qb1]
  · obtain ⟨s, hs, rfl⟩ := yin_T hb (by decide)
    have l57 : s < hf_len 57 := hs
    have l60 : s < hf_len 60 := hs
    by_cases hv : a2 < 0 ∨ 6 < a2
    · refine ⟨-1, bC 1 M, bR 1 (bC 1 M), ?_, ?_, Inv_ref0 hJ hRe⟩
      · unfold s_X4_says s_X4_isKind
        rw [c_shelf, qb1, hb, qb_ifT]
        by_cases g1 : a2 < 0
        · rw [if_pos g1, qb1, if_pos rfl, c_ref hR (j := 1) rfl (by decide) (by decide), qb1]
        · rw [if_neg g1, if_pos (hv.resolve_left g1), qb1, if_pos rfl, c_ref hR (j := 1) rfl (by decide) (by decide), qb1]
      · unfold s_X5_says
        rw [r_shelf, qb1, hb, qb_ifT, r_no (M := bC _ M) hR (j := 1) rfl (by decide), qb1]
        by_cases g1 : a2 < 0
        · rw [if_pos g1]
        · rw [if_neg g1, if_neg (Int32.not_le.mpr (hv.resolve_left g1))]
    · have g1 : ¬ a2 < 0 := fun e => hv (Or.inl e)
      have g2 : ¬ 6 < a2 := fun e => hv (Or.inr e)
      obtain ⟨z, hz, rfl⟩ := nI_of2 (M := 6) (n := 6) (by decide) g1 (Int32.not_lt.mp g2)
      have ek := und_kind hz M
      rcases sh_tag hJ.2.2.2.2.1 hP hs with ⟨t1, t2, t3, t4⟩ | ⟨t1, t2, t3, p, hp, t5, t6⟩ | ⟨t1, t2, t3, t4⟩
      · refine ⟨-3, bC 3 M, bR 3 (bC 3 M), ?_, ?_, Inv_ref0 hJ hRe⟩
        · have es : s_X3_isSpeaker 1 (-1) M = some (0, M) := by
            unfold s_X3_isSpeaker
            rw [if_pos (by decide)]
          unfold s_X4_says
          rw [c_shelf, qb1, hb, qb_ifT, ek, qb1, if_neg q10, h3, qrs, sh_ld hR hs, t2, qb1, if_pos rfl, h3, qrs, sh_ld hR hs, j0 hJ, qrs, t4, es, qb1, if_pos rfl, c_ref hR (j := 3) rfl (by decide) (by decide), qb1]
        · unfold s_X5_says
          rw [r_shelf, qb1, hb, qb_ifT, if_neg g1, if_pos (Int32.not_lt.mp g2), r17, qrs, qlI _ l57, hC 3 57 s (by decide), t1, if_neg (by decide), qrs, qlI _ l57, hC 3 57 s (by decide), t1, if_pos rfl, r_no (M := bC _ M) hR (j := 3) rfl (by decide), qb1]
      · have hyp : yin (nI p) (yP (uT υ)) = true := by
          rw [yin_nI (by omega) (by omega), decide_eq_true hp]
        have hk6 := (hw.2.1 p hp).1
        have l52 : p < hf_len 52 := by show p < 6; omega
        have l3 : p < hf_len (1 + 2) := by show p < 6; omega
        have l5 : p < hf_len (1 + 4) := by show p < 6; omega
        obtain ⟨k1, k2, k3⟩ := (jc hJ).1.2.1 p hp
        have ecl : ∀ {x}, (if qbI (yUn (yk (uT υ) p) z) = 0 then hf_bd (s_X4_refuse 0 (-2) M) (fun r27 M28 => some (r27, M28)) else if nI z = 0 then some (nI (ycn (yw (uT υ)) p (yS (uT υ))), M) else if nI z = 6 then some (nI (ycn (yw (uT υ)) p (yS (uT υ))) / 2, M) else hf_bd (s_X3_mustBeTrue 1 (nI p) (nI (ycn (yw (uT υ)) p (yS (uT υ)))) M) (fun r25 M26 => if r25 = 0 then some (0, M26) else some (1, M26))) = x → s_X4_says 0 (nI s) (nI z) M = x := by
          intro x hx
          rw [← hx]
          unfold s_X4_says
          rw [c_shelf, qb1, hb, qb_ifT, ek, qb1, if_neg q10, h3, qrs, sh_ld hR hs, t2, qb1, if_pos rfl, h3, qrs, sh_ld hR hs, j0 hJ, qrs, t5, j_cS hJ, qb1, hyp, qb_ifT, j0 hJ, qrs, cr1 hR q1, qrs, qlI M l3, k1, c_under hk6 hz, qb1, j0 hJ, qrs, cr3 hR q1, qrs, qlI M l5, k3, qrs]
        have erf : ∀ {N : hf_M} {x}, Jv υ N → N.1 57 s = 2 → N.1 60 s = nI p → (if yUn (yk (uT υ) p) z = true then (if nI z = 0 then some (nI (ycn (yw (uT υ)) p (yS (uT υ))), N) else if nI z = 6 then some (nI (ycn (yw (uT υ)) p (yS (uT υ))) / 2, N) else hf_bd (s_X5_isTrue 49 (nI p) (nI (ycn (yw (uT υ)) p (yS (uT υ)))) N) (fun r17 M18 => if r17 = 0 then some (0, M18) else some (1, M18))) else hf_bd (s_X5_no 49 (-2) N) (fun r M => some (r, M))) = x → s_X5_says 49 (nI s) (nI z) N = x := by
          intro N x hN n1 n2 hx
          rw [← hx]
          unfold s_X5_says
          rw [r_shelf, qb1, hb, qb_ifT, if_neg g1, if_pos (Int32.not_lt.mp g2), yrf_49 hN.1 (j := 17) rfl, qrs, qlI _ l57, n1, if_neg (by decide), qrs, qlI _ l57, n1, if_neg (by decide), yrf_49 hN.1 (j := 20) rfl, qrs, qlI _ l60, n2, yrf_49 hN.1 (j := 12) rfl, qrs, qlI _ l52, ((jr hN).1.2.1 p hp).1]
          rw [r_saidBy hN.1 (jw hN) (jr hN).1 hp]
          simp only [qb1]
          rw [qi_eq rfl rfl (show z < 2 ^ 31 by omega) (show yk (uT υ) p < 2 ^ 31 by omega)]
          generalize yk (uT υ) p = k at *
          have hz7 : z = 0 ∨ z = 1 ∨ z = 2 ∨ z = 3 ∨ z = 4 ∨ z = 5 ∨ z = 6 := by omega
          have h7 : k = 0 ∨ k = 1 ∨ k = 2 ∨ k = 3 ∨ k = 4 ∨ k = 5 ∨ k = 6 := by omega
          rcases hz7 with rfl | rfl | rfl | rfl | rfl | rfl | rfl <;> rcases h7 with rfl | rfl | rfl | rfl | rfl | rfl | rfl <;> rfl
        cases hun : yUn (yk (uT υ) p) z
        · refine ⟨-2, bC 2 M, bR 2 (bC 2 M), ecl ?_, erf (Jv_bC hJ) ?_ ?_ ?_, Inv_ref0 hJ hRe⟩
          · rw [hun, qb_ifF, c_ref hR (j := 2) rfl (by decide) (by decide), qb1]
          · rw [hC 2 57 s (by decide)]; exact t1
          · rw [hC 2 60 s (by decide)]; exact t6
          · rw [hun, if_neg (by decide), r_no (M := bC _ M) hR (j := 2) rfl (by decide), qb1]
        · by_cases hz0 : z = 0
          · refine ⟨nI (ycn (yw (uT υ)) p (yS (uT υ))), M, M, ecl ?_, erf hJ t1 t6 ?_, υ, hJ, hRe⟩
            · rw [hun, qb_ifT, hz0, if_pos (by decide)]
            · rw [hun, if_pos rfl, hz0, if_pos (by decide)]
          · have ez0 : ¬ nI z = 0 := nI_ne0 (by omega) (by omega)
            by_cases hz6 : z = 6
            · refine ⟨nI (ycn (yw (uT υ)) p (yS (uT υ))) / 2, M, M, ecl ?_, erf hJ t1 t6 ?_, υ, hJ, hRe⟩
              · rw [hun, qb_ifT, if_neg ez0, hz6, if_pos (by decide)]
              · rw [hun, if_pos rfl, if_neg ez0, hz6, if_pos (by decide)]
            · have ez6 : ¬ nI z = 6 := fun e => hz6 ((nI_eq (b := 6) (by omega) (by omega)).mp e)
              have hfr : yfr (uT υ) p = false := by
                unfold yfr
                refine decide_eq_false (fun e => ?_)
                unfold yUn at hun
                rcases e with e | e
                · rw [e] at hun
                  simp [hz0] at hun
                · rw [e] at hun
                  simp [hz0, hz6] at hun
              refine ⟨qbI (ymu (uT υ) p (ycn (yw (uT υ)) p (yS (uT υ)))), M, M, ecl ?_, erf hJ t1 t6 ?_, υ, hJ, hRe⟩
              · rw [hun, qb_ifT, if_neg ez0, if_neg ez6, c_mustN hJ hp hfr, qb1]
                cases ymu (uT υ) p (ycn (yw (uT υ)) p (yS (uT υ))) <;> rfl
              · rw [hun, if_pos rfl, if_neg ez0, if_neg ez6, r_mustN hJ hp, qb1]
                cases ymu (uT υ) p (ycn (yw (uT υ)) p (yS (uT υ))) <;> rfl
      · refine ⟨-2, bC 2 M, bR 2 (bC 2 M), ?_, ?_, Inv_ref0 hJ hRe⟩
        · unfold s_X4_says
          rw [c_shelf, qb1, hb, qb_ifT, ek, qb1, if_neg q10, h3, qrs, sh_ld hR hs, t2, qb1, if_neg q10, c_ref hR (j := 2) rfl (by decide) (by decide), qb1]
        · unfold s_X5_says
          rw [r_shelf, qb1, hb, qb_ifT, if_neg g1, if_pos (Int32.not_lt.mp g2), r17, qrs, qlI _ l57, hC 2 57 s (by decide), t1, if_pos rfl, r_no (M := bC _ M) hR (j := 2) rfl (by decide), qb1]
