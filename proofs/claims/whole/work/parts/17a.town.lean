theorem p_town : hs_town Inv := by
  intro M ⟨υ, hJ, hRe⟩ a1
  have hS := jS hJ
  have hP := (jw hJ).1.2.1
  have kb : ∀ (j : Nat) k i, k ≠ 32 → (bC j M).1 k i = M.1 k i := fun j k i hk => by unfold bC; rw [gI (by omega)]
  have hno : ∀ (c : Int32) (j : Nat), -c = nI j → 0 < j → j < 8 → c ≠ 0 → s_X4_noRow 0 a1 M = some (c, M) → (∀ {N : hf_M}, Jv υ N → (∀ k i, k ≠ 32 → N.1 k i = M.1 k i) → s_X5_wants 49 a1 N = some (c, N)) → ∃ r M1 M2, s_X4_town 0 a1 M = some (r, M1) ∧ s_X5_town 49 a1 M1 = some (r, M2) ∧ Inv M2 := by
    intro c j c1 c2 c3 c4 e1 e2
    refine ⟨c, bC j M, bR j (bC j M), ?_, ?_, Inv_ref0 hJ hRe⟩
    · unfold s_X4_town
      rw [e1, qb1, if_neg c4, c_ref hJ.1 c1 c2 c3, qb1]
    · unfold s_X5_town
      rw [e2 (Jv_bC hJ) (kb j), qb1, if_neg c4, r_no (M := bC _ M) hJ.1 c1 c3, qb1]
  have want : ∀ {N : hf_M}, Jv υ N → (∀ k i, k ≠ 32 → N.1 k i = M.1 k i) → ∀ c, s_X5_wants 49 a1 M = some (c, M) → s_X5_wants 49 a1 N = some (c, N) := by
    intro N hN hk c hc
    unfold s_X5_wants at hc ⊢
    rw [r_shelf, qb1] at hc ⊢
    cases hb : yin a1 8
    · rw [hb, qb_ifF] at hc
      rw [qb_ifF]
      have : (-1 : Int32) = c := congrArg Prod.fst (Option.some.inj hc)
      rw [this]
    · obtain ⟨s, hs, rfl⟩ := yin_T hb (by decide)
      have l57 : s < hf_len 57 := hs
      rw [hb, qb_ifT, yrf_49 hJ.1 (j := 17) rfl, qrs, qlI M l57, qrs, qlI M l57] at hc
      rw [qb_ifT, yrf_49 hN.1 (j := 17) rfl, qrs, qlI N l57, qrs, qlI N l57, hk 57 s (by decide)]
      by_cases h2 : M.1 57 s = 2
      · rw [if_pos h2] at hc ⊢
        have : (-2 : Int32) = c := congrArg Prod.fst (Option.some.inj hc)
        rw [this]
      · rw [if_neg h2] at hc ⊢
        by_cases h0 : M.1 57 s = 0
        · rw [if_pos h0] at hc ⊢
          have : (-3 : Int32) = c := congrArg Prod.fst (Option.some.inj hc)
          rw [this]
        · rw [if_neg h0] at hc ⊢
          have : (0 : Int32) = c := congrArg Prod.fst (Option.some.inj hc)
          rw [this]
  rcases noRow_ hJ a1 with ⟨e1, e2⟩ | ⟨e1, e2⟩ | ⟨e1, e2⟩ | ⟨e1, e2, s, hs, rfl, o, z, ho, hz160, u1, u2, u3, u4, u5⟩
  · exact hno (-1) 1 rfl (by decide) (by decide) (by decide) e1 (fun hN hk => want hN hk _ e2)
  · exact hno (-2) 2 rfl (by decide) (by decide) (by decide) e1 (fun hN hk => want hN hk _ e2)
  · exact hno (-3) 3 rfl (by decide) (by decide) (by decide) e1 (fun hN hk => want hN hk _ e2)
  · obtain ⟨K, k1, k2, k3⟩ := c_take (p := 19) (q := 1) hJ.1 q19 q1 (by omega) (by omega) (jc hJ) hP
    have hRK := gG_rf k3 hJ.1
    have cr := c_read (T := fun i => (M.2.1 61 (160 * s + i)).toInt32) hRK hs hz160 (by rw [(k3.2 (33 + 2 * s) 2 (by unfold Gq; omega)).1]; exact u2) (fun i hi => by rw [(k3.2 (34 + 2 * s) i (by unfold Gq; omega)).2, u5 i hi]) k2 hJ.2.1
    have ecl : ∀ {y}, hf_bd (s_X1_read 29 (33 + 2 * s) 19 K) (fun r11 M12 => hf_pt (hf_sI M12 0 8 r11) (fun M13 => if (M13.1 0 8) = (-1) then hf_rf (M13.2.2 0 0) (fun q14 => hf_rf (M13.2.2 0 2) (fun q15 => hf_bd (s_X3_takeOver q14 q15 M13) (fun _ M17 => hf_rf (M17.2.2 0 4) (fun q18 => some (M17.1 q18 4, M17))))) else hf_bd (s_X4_refuse 0 (-6) M13) (fun r19 M20 => some (r19, M20)))) = y → s_X4_town 0 (nI s) M = y := by
      intro y hy
      unfold s_X4_town
      rw [e1, qb1, if_pos rfl, yr0 hJ.1 (j := 2) rfl, qrs, j0 hJ, qrs, k1, qb1, yr0 hRK (j := 4) rfl, qrs, yr0 hRK (j := 3) rfl, qrs, sh_ld hRK hs, yr0 hRK (j := 2) rfl, qrs]
      exact hy
    have hRB : yRf (hf_sR (hf_sR K 29 0 (some (33 + 2 * s))) 29 1 (some 19)) := fun k j hk => by
      show (if k = 29 ∧ j = 1 then _ else if k = 29 ∧ j = 0 then _ else K.2.2 k j) = _
      rw [if_neg (by omega), if_neg (by omega)]
      exact hRK k j hk
    have oth : ∀ {L : hf_M}, gG Gt (hf_sR (hf_sR K 29 0 (some (33 + 2 * s))) 29 1 (some 19)) L → ∀ k j, ¬ ((19 ≤ k ∧ k ≤ 27) ∨ k = 29) → L.1 k j = M.1 k j ∧ L.2.1 k j = M.2.1 k j := fun g k j hk => ⟨((g.2 k j (by unfold Gt; omega)).1).trans (k3.2 k j (by unfold Gq; omega)).1, ((g.2 k j (by unfold Gt; omega)).2).trans (k3.2 k j (by unfold Gq; omega)).2⟩
    have wN : ∀ N : hf_M, yRf N → N.1 57 s = M.1 57 s → s_X5_wants 49 (nI s) N = some (0, N) := by
      intro N hN hk
      have hc := e2
      have l57 : s < hf_len 57 := hs
      have hb : yin (nI s) 8 = true := by rw [yin_nI (by omega) (by decide), decide_eq_true hs]
      unfold s_X5_wants at hc ⊢
      rw [r_shelf, qb1, hb, qb_ifT, yrf_49 hJ.1 (j := 17) rfl, qrs, qlI M l57, qrs, qlI M l57] at hc
      rw [r_shelf, qb1, hb, qb_ifT, yrf_49 hN (j := 17) rfl, qrs, qlI N l57, qrs, qlI N l57, hk]
      by_cases h2 : M.1 57 s = 2
      · rw [if_pos h2] at hc
        have e3 : (-2 : Int32) = 0 := congrArg Prod.fst (Option.some.inj hc)
        exact absurd e3 (by decide)
      · rw [if_neg h2] at hc ⊢
        by_cases h0 : M.1 57 s = 0
        · rw [if_pos h0] at hc
          have e3 : (-3 : Int32) = 0 := congrArg Prod.fst (Option.some.inj hc)
          exact absurd e3 (by decide)
        · rw [if_neg h0]
    cases hd : yRd (fun i => (M.2.1 61 (160 * s + i)).toInt32) z υ with
    | inl e =>
      rw [hd] at cr
      obtain ⟨L, l1, l2⟩ := cr
      have he := yRd_e hd
      have hRL : yRf (hf_sI L 0 8 (nI e)) := fun k j hk => (gG_rf l2 hRB) k j hk
      have o := oth l2
      have p1 : ∀ k j, ¬ ((19 ≤ k ∧ k ≤ 27) ∨ k = 29 ∨ (k = 0 ∧ j = 8) ∨ (k = 32 ∧ j = 6)) → (bC 6 (hf_sI L 0 8 (nI e))).1 k j = M.1 k j ∧ (bC 6 (hf_sI L 0 8 (nI e))).2.1 k j = M.2.1 k j := fun k j hk => ⟨by
        unfold bC
        rw [gI (by omega), gI (by omega)]
        exact (o k j (by omega)).1, (o k j (by omega)).2⟩
      have rt := r_town (N := bC 6 (hf_sI L 0 8 (nI e))) (T := fun i => (M.2.1 61 (160 * s + i)).toInt32) hRL (rU_ag (fun k j hk => p1 k j (by unfold Zr at hk; omega)) (jr hJ)) hJ.2.1 hs hz160 (wN _ hRL (p1 57 s (by omega)).1) (by rw [(p1 59 s (by omega)).1]; exact u4) (fun i hi => by rw [(p1 61 _ (by omega)).2]) (fun j => by rw [(p1 63 j (by omega)).1]; exact hJ.2.2.2.2.2.2.2.2 j)
      rw [hd] at rt
      obtain ⟨F, f1, f2, f3, f4⟩ := rt
      refine ⟨-6, bC 6 (hf_sI L 0 8 (nI e)), bR 6 F, ecl ?_, f1, ?_⟩
      · rw [l1, qb1, qpt, gI0, if_neg (show ¬ nI e = -1 from fun q => qm1 e (by omega) q.symm), c_ref hRL (j := 6) rfl (by decide) (by decide), qb1]
      · have p2 : ∀ k j, ¬ GF k j → (bR 6 F).1 k j = M.1 k j ∧ (bR 6 F).2.1 k j = M.2.1 k j := fun k j hk => by
          have hz : ¬ GZ k j := fun g => hk (Or.inr (Or.inr (Or.inr (Or.inr (Or.inr (Or.inr g))))))
          have h1 := p1 k j (fun g => hk (by unfold GF; omega))
          have h2 := f2.2 k j hz
          refine ⟨?_, h2.2.trans h1.2⟩
          unfold bR
          rw [gI (by unfold GF at hk; omega)]
          exact h2.1.trans h1.1
        refine Inv_town hJ (fun k j hk => (gG_rf f2 hRL) k j hk) p2 hJ.2.1 (cU_ag (M := M) (fun k j hk => ?_) (jc hJ)) (rU_ag (M := F) (fun k j hk => ⟨by unfold Zr at hk; unfold bR; rw [gI (by omega)], rfl⟩) f3) (Nat.le_refl _) ?_ (fun j h1 h2 => ?_)
        · have hz : ¬ GZ k j := by unfold Zc at hk; unfold GZ Gv GrT; omega
          have h1 := p1 k j (by unfold Zc at hk; omega)
          have h2 := f2.2 k j hz
          refine ⟨?_, h2.2.trans h1.2⟩
          unfold bR
          rw [gI (by unfold Zc at hk; omega)]
          exact h2.1.trans h1.1
        · unfold bR
          rw [gI (by omega), gI (by omega), f4, (f2.2 0 8 (by unfold GZ Gv GrT; omega)).1]
          unfold bC
          rw [gI (by omega), gI0]
        · unfold bR
          rw [gI (by omega), (f2.2 32 j (by unfold GZ Gv GrT; omega)).1]
          have h50 : ∀ i, F.1 50 i = M.1 50 i := fun i => by rw [(f2.2 50 i (by unfold GZ Gv GrT; omega)).1, (p1 50 i (by omega)).1]
          have h32 : ∀ i, L.1 32 i = M.1 32 i := fun i => (o 32 i (by omega)).1
          by_cases g : j = 6
          · subst g
            unfold bC
            rw [gI0, gI0, gI (by omega), h32, h50, hRe 6 (by omega) (by omega)]
          · rw [gI (by omega), h50]
            unfold bC
            rw [gI (by omega), gI (by omega), h32, hRe j h1 h2]
    | inr q =>
      rw [hd] at cr
      obtain ⟨L, l1, l2, l3, l4, l5⟩ := cr
      have o := oth l2
      have hRL : yRf (hf_sI L 0 8 (-1)) := fun k j hk => (gG_rf l2 hRB) k j hk
      obtain ⟨G, g1, g2, g3⟩ := c_take (p := 1) (q := 19) hRL q1 q19 (by omega) (show yS (uT q.1) ≤ 48 by have := l5.2.1; omega) (cU_ag (M := L) (fun k j hk => ⟨by unfold Zc at hk; rw [gI (by omega)], rfl⟩) l3) l5.1.1.2.1
      have hRG := gG_rf g3 hRL
      have p1 : ∀ k j, ¬ ((1 ≤ k ∧ k ≤ 9) ∨ (19 ≤ k ∧ k ≤ 27) ∨ k = 29 ∨ (k = 0 ∧ j = 8)) → G.1 k j = M.1 k j ∧ G.2.1 k j = M.2.1 k j := fun k j hk => by
        have h1 := g3.2 k j (by unfold Gq; omega)
        have h2 := o k j (by omega)
        refine ⟨h1.1.trans ?_, h1.2.trans h2.2⟩
        rw [gI (by omega)]; exact h2.1
      have rt := r_town (N := G) (T := fun i => (M.2.1 61 (160 * s + i)).toInt32) hRG (rU_ag (fun k j hk => p1 k j (by unfold Zr at hk; omega)) (jr hJ)) hJ.2.1 hs hz160 (wN _ hRG (p1 57 s (by omega)).1) (by rw [(p1 59 s (by omega)).1]; exact u4) (fun i hi => by rw [(p1 61 _ (by omega)).2]) (fun j => by rw [(p1 63 j (by omega)).1]; exact hJ.2.2.2.2.2.2.2.2 j)
      rw [hd] at rt
      obtain ⟨F, f1, f2, f3, f4, f5⟩ := rt
      refine ⟨nI q.2, G, F, ecl ?_, f1, ?_⟩
      · rw [l1, qb1, qpt, gI0, if_pos rfl, yr0 hRL (j := 0) rfl, qrs, yr0 hRL (j := 2) rfl, qrs, g1, qb1, yr0 hRG (j := 4) rfl, qrs, (g3.2 29 4 (by unfold Gq; omega)).1, gI (by omega), l4]
      · refine Inv_town hJ (gG_rf f2 hRG) (fun k j hk => ?_) f5 (cU_ag (M := G) (fun k j hk => f2.2 k j (by unfold Zc at hk; unfold GZ Gv GrT; omega)) g2) f3 (yRd_P hd) ?_ (fun j h1 h2 => ?_)
        · have h1 := p1 k j (fun g => hk (by unfold GF; omega))
          have h2 := f2.2 k j (fun g => hk (Or.inr (Or.inr (Or.inr (Or.inr (Or.inr (Or.inr g)))))))
          exact ⟨h2.1.trans h1.1, h2.2.trans h1.2⟩
        · rw [f4, (f2.2 0 8 (by unfold GZ Gv GrT; omega)).1, (g3.2 0 8 (by unfold Gq; omega)).1, gI0]
        · rw [(f2.2 32 j (by unfold GZ Gv GrT; omega)).1, (f2.2 50 j (by unfold GZ Gv GrT; omega)).1, (p1 32 j (by omega)).1, (p1 50 j (by omega)).1]
          exact hRe j h1 h2
