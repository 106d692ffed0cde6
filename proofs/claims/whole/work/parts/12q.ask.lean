theorem qb_eqb {α : Type} (x t : Bool) (s u : α) : (if qbI x = qbI t then s else u) = if (x == t) = true then s else u := by cases x <;> cases t <;> rfl
theorem qb_m1 (t : Bool) : ¬ qbI t = -1 := by cases t <;> decide
theorem gc15_se {υ : hU} {M K : hf_M} (hJ : Jv υ M) (g : gG (Gc15 (yS (uT υ))) M K) (hl : K.2.1 1 15 = M.2.1 1 15) : gG (GG (yS (uT υ))) M (hf_sI K 1 15 (us υ)) := ⟨g.1, fun k j hk => by
  by_cases e : k = 1 ∧ j = 15
  · obtain ⟨rfl, rfl⟩ := e
    rw [gI0]
    exact ⟨(jc hJ).2.2.2.2.2.1.symm, hl⟩
  · rw [gI (by omega), gIL]
    exact g.2 k j (fun h => h.elim (fun h => hk (Gc_GG h (Nat.le_refl _))) e)⟩
theorem gr6_se {υ : hU} {N L : hf_M} {x : Int32} (hx : N.1 49 6 = x) (g : gG (Gr6 (yS (uT υ))) N L) (hl : L.2.1 49 6 = N.2.1 49 6) : gG (GG (yS (uT υ))) N (hf_sI L 49 6 x) := ⟨g.1, fun k j hk => by
  by_cases e : k = 49 ∧ j = 6
  · obtain ⟨rfl, rfl⟩ := e
    rw [gI0]
    exact ⟨hx.symm, hl⟩
  · rw [gI (by omega), gIL]
    exact g.2 k j (fun h => h.elim (fun h => hk (Gr_GG h (Nat.le_refl _))) e)⟩
theorem uWF_se {υ : hU} (h : uWF υ) (z : Int32) : uWF (uSe υ z) := by
  obtain ⟨h1, h2, h3, h4, h5⟩ := h
  exact ⟨h1, h2, h3, h4, h5⟩
theorem p_ask : hs_ask Inv := by
  intro M ⟨υ, hJ, hRe⟩ a1 a2
  have hF := (jw hJ).1.1
  have hP := (jw hJ).1.2.1
  have hS := jS hJ
  have h64 := q_pow64 hF
  cases hb : yin a1 (yP (uT υ))
  · refine ⟨-1, bC 1 M, bR 1 (bC 1 M), ?_, ?_, Inv_ref0 hJ hRe⟩
    · unfold s_X4_ask
      rw [j0 hJ, qrs, j_cS hJ, qb1, hb, qb_ifF, c_ref hJ.1 (j := 1) rfl (by decide) (by decide), qb1]
    · unfold s_X5_ask
      rw [j_rS (Jv_bC hJ), qb1, hb, qb_ifF, r_no (M := bC _ M) hJ.1 (j := 1) rfl (by decide), qb1]
  · obtain ⟨p, hp, rfl⟩ := yin_T hb (by omega)
    cases hb2 : yin a2 (yF (uT υ))
    · refine ⟨-1, bC 1 M, bR 1 (bC 1 M), ?_, ?_, Inv_ref0 hJ hRe⟩
      · unfold s_X4_ask
        rw [j0 hJ, qrs, j_cS hJ, qb1, hb, qb_ifT, j0 hJ, qrs, j_cF hJ, qb1, hb2, qb_ifF, c_ref hJ.1 (j := 1) rfl (by decide) (by decide), qb1]
      · unfold s_X5_ask
        rw [j_rS (Jv_bC hJ), qb1, hb, qb_ifT, j_rF (Jv_bC hJ), qb1, hb2, qb_ifF, r_no (M := bC _ M) hJ.1 (j := 1) rfl (by decide), qb1]
    · obtain ⟨f, hf, rfl⟩ := yin_T hb2 (by omega)
      cases hu : yFu (uT υ) p
      · by_cases hm : uw υ = -1
        · refine ⟨-6, bC 6 M, bR 6 (bC 6 M), ?_, ?_, Inv_ref0 hJ hRe⟩
          · unfold s_X4_ask
            rw [j0 hJ, qrs, j_cS hJ, qb1, hb, qb_ifT, j0 hJ, qrs, j_cF hJ, qb1, hb2, qb_ifT, j0 hJ, qrs, j_cU hJ hp, qb1, hu, qb_ifF, j0 hJ, qrs, (jc hJ).2.2.2.2.2.2, if_pos hm, c_ref hJ.1 (j := 6) rfl (by decide) (by decide), qb1]
          · unfold s_X5_ask
            rw [j_rS (Jv_bC hJ), qb1, hb, qb_ifT, j_rF (Jv_bC hJ), qb1, hb2, qb_ifT, j_rU (Jv_bC hJ) hp, qb1, hu, qb_ifF, (jr (Jv_bC hJ)).2.2.2.2, if_pos hm, r_no (M := bC _ M) hJ.1 (j := 6) rfl (by decide), qb1]
        · obtain ⟨d, hdF, hdw⟩ : ∃ d, d < 2 ^ yF (uT υ) ∧ uw υ = nI d := hJ.2.1.2.2.2.2.resolve_left hm
          have hd : d < 64 := by omega
          obtain ⟨K, k1, k2, k3, k4⟩ := c_tit hJ hp hu hd hdw
          have hRK := gG_rf k2 hJ.1
          have kd : K.1 1 16 = nI d := ((k2.2 1 16 (by unfold Gc15 Gc; omega)).1.trans (jc hJ).2.2.2.2.2.2).trans hdw
          have hcK := cU_se (jc hJ) k2 k3
          have k0 : K.2.2 0 0 = some 1 := yr0 hRK rfl
          have ksd : M.1 1 15 = us υ := (jc hJ).2.2.2.2.2.1
          have eSO : qlb (hf_SO f) d = d.testBit f := qSOb (by omega) hd
          have eps : s_X3_possible 1 (-1) K = some (yWd (uT υ) yA1 99, K) := c_poss (τ := uT υ) hRK q1 (jw hJ) hcK.1 (by omega) hcK.2.1 (fun i hi => qlb_m1 (by omega))
          -- the class, up to the two ways on
          have ecl : ∀ {x}, (if qbI (d.testBit f) = yA1v (yAs υ p d) then (if yA1v (yAs υ p d) = -1 then hf_bd (s_X4_refuse 0 (-6) (hf_sI K 1 15 (us υ))) (fun r M => some (r, M)) else hf_bd (s_X3_after 1 (nI p) (nI f) 1 (yWd (uT υ) yA1 99) K) (fun r52 M53 => if lg_cmp r52 0 = 0 then hf_rf (M53.2.2 0 0) (fun q62 => hf_pt (hf_sI M53 q62 15 (us υ)) (fun M63 => hf_bd (s_X4_refuse 0 (-6) M63) (fun r64 M65 => some (r64, M65)))) else hf_rf (M53.2.2 0 0) (fun q54 => if (M53.1 q54 10) < 24 then hf_rf (M53.2.2 0 0) (fun q55 => hf_bd (s_X3_put q55 (nI p) (nI f) 1 M53) (fun _ M57 => some (1, M57))) else hf_rf (M53.2.2 0 0) (fun q58 => hf_pt (hf_sI M53 q58 15 (us υ)) (fun M59 => hf_bd (s_X4_refuse 0 (-7) M59) (fun r60 M61 => some (r60, M61))))))) else (if yA1v (yAs υ p d) = -1 then hf_bd (s_X4_refuse 0 (-6) (hf_sI K 1 15 (us υ))) (fun r M => some (r, M)) else hf_bd (s_X3_after 1 (nI p) (nI f) 0 (yWd (uT υ) yA1 99) K) (fun r52 M53 => if lg_cmp r52 0 = 0 then hf_rf (M53.2.2 0 0) (fun q62 => hf_pt (hf_sI M53 q62 15 (us υ)) (fun M63 => hf_bd (s_X4_refuse 0 (-6) M63) (fun r64 M65 => some (r64, M65)))) else hf_rf (M53.2.2 0 0) (fun q54 => if (M53.1 q54 10) < 24 then hf_rf (M53.2.2 0 0) (fun q55 => hf_bd (s_X3_put q55 (nI p) (nI f) 0 M53) (fun _ M57 => some (0, M57))) else hf_rf (M53.2.2 0 0) (fun q58 => hf_pt (hf_sI M53 q58 15 (us υ)) (fun M59 => hf_bd (s_X4_refuse 0 (-7) M59) (fun r60 M61 => some (r60, M61)))))))) = x → s_X4_ask 0 (nI p) (nI f) M = x := by
            intro x hx
            rw [← hx]
            unfold s_X4_ask
            rw [j0 hJ, qrs, j_cS hJ, qb1, hb, qb_ifT, j0 hJ, qrs, j_cF hJ, qb1, hb2, qb_ifT, j0 hJ, qrs, j_cU hJ hp, qb1, hu, qb_ifF, j0 hJ, qrs, (jc hJ).2.2.2.2.2.2, if_neg hm, qrs, ksd, k1, qb1, qSO (by omega), k0, qrs, kd, c_bit _ hd, qb1, eSO]
            simp only [k0, qrs, qpt, eps, qb1]
          have jw0 : yWF (uT υ) := jw hJ
          cases ho : yAs υ p d with
          | none =>
            rw [ho] at ecl k3
            have k3' : K.1 1 15 = us υ := k3
            have g1 := gc15_se hJ k2 k4
            have hN := Jv_bC (j := 6) (Jv_GG hJ g1)
            obtain ⟨L, l1, l2, l3, l4⟩ := r_askto hN.1 (jw hJ) hS hp hf hu hd hdw (jr hN)
            rw [ho] at l2 l4
            have l2' : L.1 49 6 = us υ := l2
            have g2 : gG (GG (yS (uT υ))) (bC 6 (hf_sI K 1 15 (us υ))) L := ⟨l1.1, fun k j hk => by
              by_cases e : k = 49 ∧ j = 6
              · obtain ⟨rfl, rfl⟩ := e
                exact ⟨l2'.trans (jr hN).2.2.2.1.symm, l3⟩
              · exact l1.2 k j (fun h => h.elim (fun h => hk (Gr_GG h (Nat.le_refl _))) e)⟩
            refine ⟨-6, bC 6 (hf_sI K 1 15 (us υ)), bR 6 L, ecl ?_, ?_, Inv_ref hJ hRe g1 g2⟩
            · have ev : yA1v none = -1 := rfl
              rw [ev, if_neg (qb_m1 _), if_pos rfl, c_ref (yrf_I hRK) (j := 6) rfl (by decide) (by decide), qb1]
            · rw [l4]
              show hf_bd (s_X5_no 49 (-6) L) _ = _
              rw [r_no (gG_rf l1 hN.1) (j := 6) rfl (by decide), qb1]
          | some q =>
            obtain ⟨t, z⟩ := q
            rw [ho] at ecl k3
            have ev : yA1v (some (t, z)) = qbI t := rfl
            have ez : yA2v (us υ) (some (t, z)) = z := rfl
            rw [ev] at ecl
            rw [ez] at k3
            rw [ho, ez] at hcK
            generalize hbb : (d.testBit f == t) = b
            obtain ⟨K2, m1, m2⟩ := c_after (τ := uT υ) (b := b) hRK q1 (jw hJ) hcK.1 (by omega) hcK.2.1 hp (show f < 6 by omega) (yFu_f hu) (yWd (uT υ) yA1 99)
            have m1' : s_X3_after 1 (nI p) (nI f) (qbI b) (yWd (uT υ) yA1 99) K = some (yWa (uT υ) p f b, K2) := by
              rw [m1]
              unfold yWa
              rw [yWd_add hp hP]
            have gK2 : gG (Gc15 (yS (uT υ))) M K2 := gG_tr k2 (gG_mono m2 (fun _ _ h => Or.inl h))
            have hRK2 := gG_rf gK2 hJ.1
            have k20 : K2.2.2 0 0 = some 1 := yr0 hRK2 rfl
            have hl2 : K2.2.1 1 15 = M.2.1 1 15 := (m2.2 1 15 (by unfold Gc; omega)).2.trans k4
            have g1 := gc15_se hJ gK2 hl2
            have hcK2 := cU_se (jc hJ) gK2 ((m2.2 1 15 (by unfold Gc; omega)).1.trans k3)
            have h210 : K2.1 1 10 = nI (yS (uT υ)) := hcK2.1.1.2.2.1
            have ecl2 : ∀ {x}, (if lg_cmp (yWa (uT υ) p f b) 0 = 0 then hf_bd (s_X4_refuse 0 (-6) (hf_sI K2 1 15 (us υ))) (fun r M => some (r, M)) else if nI (yS (uT υ)) < 24 then hf_bd (s_X3_put 1 (nI p) (nI f) (qbI b) K2) (fun _ M57 => some (qbI b, M57)) else hf_bd (s_X4_refuse 0 (-7) (hf_sI K2 1 15 (us υ))) (fun r M => some (r, M))) = x → s_X4_ask 0 (nI p) (nI f) M = x := by
              intro x hx
              refine ecl ?_
              rw [← hx, qb_eqb, hbb]
              cases b
              · have m1'' : s_X3_after 1 (nI p) (nI f) 0 (yWd (uT υ) yA1 99) K = some (yWa (uT υ) p f false, K2) := m1'
                rw [if_neg (by decide), if_neg (qb_m1 t), m1'', qb1, k20, qrs, qpt, qrs, h210, qrs, qrs, qpt]; rfl
              · have m1'' : s_X3_after 1 (nI p) (nI f) 1 (yWd (uT υ) yA1 99) K = some (yWa (uT υ) p f true, K2) := m1'
                rw [if_pos rfl, if_neg (qb_m1 t), m1'', qb1, k20, qrs, qpt, qrs, h210, qrs, qrs, qpt]; rfl
            have erf : ∀ {N : hf_M}, yRf N → rU υ N → ∃ L, gG (Gr6 (yS (uT υ))) N L ∧ L.2.1 49 6 = N.2.1 49 6 ∧ rU (uSe υ z) L ∧ s_X5_ask 49 (nI p) (nI f) N = s_X5_ask_169 49 (nI p) (nI f) (us υ) (qbI b) L := by
              intro N hRN hrN
              obtain ⟨L, l1, l2, l3, l4⟩ := r_askto hRN (jw hJ) hS hp hf hu hd hdw hrN
              rw [ho] at l2 l4
              rw [ez] at l2
              have l4' : s_X5_ask 49 (nI p) (nI f) N = s_X5_ask_169 49 (nI p) (nI f) (us υ) (qbI (d.testBit f == t)) L := l4
              rw [hbb] at l4'
              exact ⟨L, l1, l3, rU_se hrN l1 l2, l4'⟩
            have eno : ∀ (c : Int32) (j : Nat), -c = nI j → 0 < j → j < 8 → s_X4_ask 0 (nI p) (nI f) M = hf_bd (s_X4_refuse 0 c (hf_sI K2 1 15 (us υ))) (fun r M => some (r, M)) → (∀ {L : hf_M}, yRf L → rU (uSe υ z) L → ∃ L2, s_X5_ask_169 49 (nI p) (nI f) (us υ) (qbI b) L = hf_bd (s_X5_no 49 c (hf_sI L2 49 6 (us υ))) (fun r M => some (r, M)) ∧ gG (Gr (yS (uT υ))) L L2) → ∃ r M1 M2, s_X4_ask 0 (nI p) (nI f) M = some (r, M1) ∧ s_X5_ask 49 (nI p) (nI f) M1 = some (r, M2) ∧ Inv M2 := by
              intro c j hc h0 h8 e1 e2
              have hN := Jv_bC (j := j) (Jv_GG hJ g1)
              obtain ⟨L, l1, l2, l3, l4⟩ := erf hN.1 (jr hN)
              obtain ⟨L2, o1, o2⟩ := e2 (gG_rf l1 hN.1) l3
              have hl : L2.2.1 49 6 = (bC j (hf_sI K2 1 15 (us υ))).2.1 49 6 := (o2.2 49 6 (by unfold Gr; omega)).2.trans l2
              have g2 := gr6_se (υ := υ) (jr hN).2.2.2.1 (gG_tr l1 (gG_mono o2 (fun _ _ h => Or.inl h))) hl
              refine ⟨c, bC j (hf_sI K2 1 15 (us υ)), bR j (hf_sI L2 49 6 (us υ)), ?_, ?_, Inv_ref hJ hRe g1 g2⟩
              · rw [e1, c_ref (yrf_I hRK2) hc h0 h8, qb1]
              · rw [l4, o1, r_no (yrf_I (gG_rf o2 (gG_rf l1 hN.1))) hc h8, qb1]
            by_cases h0 : yWa (uT υ) p f b = 0
            · exact eno (-6) 6 rfl (by decide) (by decide) (ecl2 (if_pos ((qcmp0 _).mpr h0))) (fun hRL hL => (r_169 hRL (jw hJ) hS hp hf hu hL (us υ) b).1 h0)
            · by_cases h24 : yS (uT υ) < 24
              · obtain ⟨K3, n1, n2, n3⟩ := c_putU (υ := uSe υ z) hRK2 q1 jw0 hcK2 (by show yS (uT υ) < 48; omega) hp (show f < 6 by omega) b
                have gq : gG (Gq 1) M K3 := gG_tr (gG_mono gK2 (fun _ _ h => by unfold Gc15 Gc at h; unfold Gq; omega)) n3
                obtain ⟨L, l1, l2, l3, l4⟩ := erf (gG_rf gq hJ.1) (rU_K gq (jr hJ))
                obtain ⟨L2, o1, o2, o3⟩ := (r_169 (gG_rf l1 (gG_rf gq hJ.1)) (jw hJ) hS hp hf hu l3 (us υ) b).2.2 h0 h24
                have g2 : gG GrT K3 L2 := gG_tr (gG_mono l1 (fun _ _ h => by unfold Gr6 Gr at h; unfold GrT; omega)) o3
                have hwf : uWF (uS (uSe υ z) p f b) := uWF_S (υ := uSe υ z) (uWF_se hJ.2.1 z) hp hf hu h24 h0
                have hi := Inv_step hJ hRe gq n2 g2 o2 hwf (Nat.le_refl _)
                refine ⟨qbI b, K3, L2, ecl2 ?_, ?_, hi⟩
                · rw [if_neg (fun e => h0 ((qcmp0 _).mp e)), qi_lt rfl (show (24 : Int32) = nI 24 from rfl) (by omega) (by omega), if_pos h24, n1, qb1]
                · rw [l4, o1]
              · refine eno (-7) 7 rfl (by decide) (by decide) (ecl2 ?_) (fun hRL hL => (r_169 hRL (jw hJ) hS hp hf hu hL (us υ) b).2.1 h0 (by omega))
                rw [if_neg (fun e => h0 ((qcmp0 _).mp e)), qi_lt rfl (show (24 : Int32) = nI 24 from rfl) (by omega) (by omega), if_neg h24]
      · refine ⟨-6, bC 6 M, bR 6 (bC 6 M), ?_, ?_, Inv_ref0 hJ hRe⟩
        · unfold s_X4_ask
          rw [j0 hJ, qrs, j_cS hJ, qb1, hb, qb_ifT, j0 hJ, qrs, j_cF hJ, qb1, hb2, qb_ifT, j0 hJ, qrs, j_cU hJ hp, qb1, hu, qb_ifT, c_ref hJ.1 (j := 6) rfl (by decide) (by decide), qb1]
        · unfold s_X5_ask
          rw [j_rS (Jv_bC hJ), qb1, hb, qb_ifT, j_rF (Jv_bC hJ), qb1, hb2, qb_ifT, j_rU (Jv_bC hJ) hp, qb1, hu, qb_ifT, r_no (M := bC _ M) hJ.1 (j := 6) rfl (by decide), qb1]
