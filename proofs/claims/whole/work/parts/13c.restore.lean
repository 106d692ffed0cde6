/-! restore -/
def fixv (P : Nat) (x : Int32) : Int32 := if x = -1 then x else if 100 ≤ x then x else if yin x P = true then x else -1
theorem c_rs_loop {P : Nat} : ∀ (k v fu : Nat) (N : hf_M), 8 = v + k → k < fu → yRf N → N.1 1 9 = nI P → ∃ K, s_X4_restore_27 0 fu (nI v) N = some (N.1 1 10, K) ∧ K.2 = N.2 ∧ (∀ c j, (∀ s, v ≤ s → s < 8 → ¬ (c = 33 + 2 * s ∧ j = 1)) → K.1 c j = N.1 c j) ∧ ∀ s, v ≤ s → s < 8 → K.1 (33 + 2 * s) 1 = fixv P (N.1 (33 + 2 * s) 1) := by
  intro k
  induction k with
  | zero =>
    intro v fu N hv hf hR h9
    obtain ⟨fu, rfl⟩ : ∃ u, fu = u + 1 := ⟨fu - 1, by omega⟩
    refine ⟨N, ?_, rfl, fun _ _ _ => rfl, fun s h1 h2 => by omega⟩
    rw [s_X4_restore_27, qi_le (show (8 : Int32) = nI 8 from rfl) rfl (by omega) (by omega), if_pos (by omega), yr0 hR (j := 0) rfl, qrs]
  | succ k ih =>
    intro v fu N hv hf hR h9
    obtain ⟨fu, rfl⟩ : ∃ u, fu = u + 1 := ⟨fu - 1, by omega⟩
    have hv8 : v < 8 := by omega
    have e0 : N.2.2 0 0 = some 1 := yr0 hR rfl
    have e3 : N.2.2 0 3 = some 28 := yr0 hR rfl
    -- the shelf stays, or is emptied
    have stay : fixv P (N.1 (33 + 2 * v) 1) = N.1 (33 + 2 * v) 1 → s_X4_restore_27 0 (fu + 1) (nI v) N = s_X4_restore_27 0 fu (nI (v + 1)) N → ∃ K, s_X4_restore_27 0 (fu + 1) (nI v) N = some (N.1 1 10, K) ∧ K.2 = N.2 ∧ (∀ c j, (∀ s, v ≤ s → s < 8 → ¬ (c = 33 + 2 * s ∧ j = 1)) → K.1 c j = N.1 c j) ∧ ∀ s, v ≤ s → s < 8 → K.1 (33 + 2 * s) 1 = fixv P (N.1 (33 + 2 * s) 1) := by
      intro h1 h2
      obtain ⟨K, k1, k2, k3, k4⟩ := ih (v + 1) fu N (by omega) (by omega) hR h9
      refine ⟨K, h2.trans k1, k2, fun c j h => k3 c j (fun s a b => h s (by omega) b), fun s a b => ?_⟩
      by_cases e : s = v
      · subst e
        rw [k3 _ _ (fun s' a' b' => by omega), h1]
      · exact k4 s (by omega) b
    have base : ∀ {x}, (hf_bd (s_X2_isSpeaker (33 + 2 * v) N) (fun r4 M5 => if r4 = 0 then s_X4_restore_27 0 fu (nI (v + 1)) M5 else hf_rf (M5.2.2 0 0) (fun q6 => hf_rf (M5.2.2 0 3) (fun q7 => hf_ldR M5 q7 (nI v) (fun q8 => hf_bd (s_X3_isSpeaker q6 (M5.1 q8 1) M5) (fun r9 M10 => if r9 = 0 then hf_rf (M10.2.2 0 3) (fun q11 => hf_ldR M10 q11 (nI v) (fun q12 => hf_pt (hf_sI M10 q12 1 (-1)) (fun M13 => s_X4_restore_27 0 fu (nI (v + 1)) M13))) else s_X4_restore_27 0 fu (nI (v + 1)) M10)))))) = x → s_X4_restore_27 0 (fu + 1) (nI v) N = x := by
      intro x hx
      rw [← hx, s_X4_restore_27, qi_le (show (8 : Int32) = nI 8 from rfl) rfl (by omega) (by omega), if_neg (by omega), e3, qrs, sh_ld hR hv8, nI_1]
    by_cases h1 : N.1 (33 + 2 * v) 1 = -1
    · refine stay (by unfold fixv; rw [if_pos h1]) (base ?_)
      unfold s_X2_isSpeaker
      rw [if_pos h1, qb1, if_pos rfl]
    · by_cases h2 : 100 ≤ N.1 (33 + 2 * v) 1
      · refine stay (by unfold fixv; rw [if_neg h1, if_pos h2]) (base ?_)
        unfold s_X2_isSpeaker
        rw [if_neg h1, if_pos h2, qb1, if_pos rfl]
      · cases hy : yin (N.1 (33 + 2 * v) 1) P
        · obtain ⟨K, k1, k2, k3, k4⟩ := ih (v + 1) fu (hf_sI N (33 + 2 * v) 1 (-1)) (by omega) (by omega) (yrf_I hR) (by rw [gI (by omega)]; exact h9)
          refine ⟨K, base ?_, k2, fun c j h => ?_, fun s a b => ?_⟩
          · unfold s_X2_isSpeaker
            rw [if_neg h1, if_neg h2, qb1, if_neg q10, e0, qrs, e3, qrs, sh_ld hR hv8, c_isSp h9, qb1, hy, qb_ifF, e3, qrs, sh_ld hR hv8, qpt, k1, gI (by omega)]
          · have := h v (Nat.le_refl _) hv8
            rw [k3 c j (fun s a b => h s (by omega) b), gI (by omega)]
          · by_cases e : s = v
            · subst e
              rw [k3 _ _ (fun s' a' b' => by omega), gI0]
              unfold fixv
              rw [if_neg h1, if_neg h2, hy, if_neg (by decide)]
            · rw [k4 s (by omega) b, gI (by omega)]
        · refine stay (by unfold fixv; rw [if_neg h1, if_neg h2, hy, if_pos rfl]) (base ?_)
          unfold s_X2_isSpeaker
          rw [if_neg h1, if_neg h2, qb1, if_neg q10, e0, qrs, e3, qrs, sh_ld hR hv8, c_isSp h9, qb1, hy, qb_ifT]
theorem r_rs_loop {P : Nat} : ∀ (k v fu : Nat) (N : hf_M), 8 = v + k → k < fu → yRf N → N.1 49 1 = nI P → ∃ K, s_X5_restore_26 49 fu (nI v) N = some (N.1 49 2, K) ∧ K.2 = N.2 ∧ (∀ c j, (c ≠ 57 ∨ j < v ∨ 8 ≤ j) → K.1 c j = N.1 c j) ∧ ∀ s, v ≤ s → s < 8 → K.1 57 s = if N.1 57 s = 2 ∧ ¬ N.1 60 s < nI P then 0 else N.1 57 s := by
  intro k
  induction k with
  | zero =>
    intro v fu N hv hf hR h9
    obtain ⟨fu, rfl⟩ : ∃ u, fu = u + 1 := ⟨fu - 1, by omega⟩
    refine ⟨N, ?_, rfl, fun _ _ _ => rfl, fun s h1 h2 => by omega⟩
    rw [s_X5_restore_26, qi_le (show (8 : Int32) = nI 8 from rfl) rfl (by omega) (by omega), if_pos (by omega)]
  | succ k ih =>
    intro v fu N hv hf hR h9
    obtain ⟨fu, rfl⟩ : ∃ u, fu = u + 1 := ⟨fu - 1, by omega⟩
    have hv8 : v < 8 := by omega
    have l57 : v < hf_len 57 := hv8
    have l60 : v < hf_len 60 := hv8
    have e17 : N.2.2 49 17 = some 57 := yrf_49 hR rfl
    have e20 : N.2.2 49 20 = some 60 := yrf_49 hR rfl
    by_cases h1 : N.1 57 v = 2 ∧ ¬ N.1 60 v < nI P
    · obtain ⟨K, k1, k2, k3, k4⟩ := ih (v + 1) fu (hf_sI N 57 v 0) (by omega) (by omega) (yrf_I hR) (by rw [gI (by omega)]; exact h9)
      refine ⟨K, ?_, k2, fun c j h => ?_, fun s a b => ?_⟩
      · rw [s_X5_restore_26, qi_le (show (8 : Int32) = nI 8 from rfl) rfl (by omega) (by omega), if_neg (by omega), e17, qrs, qlI N l57, if_pos h1.1, e20, qrs, qlI N l60, h9, if_neg h1.2, qrs, qsI N _ l57, nI_1, k1, gI (by omega)]
      · rw [k3 c j (by omega), gI (by omega)]
      · by_cases e : s = v
        · subst e
          rw [k3 _ _ (by omega), gI0, if_pos h1]
        · rw [k4 s (by omega) b, gI (by omega), gI (by omega)]
    · obtain ⟨K, k1, k2, k3, k4⟩ := ih (v + 1) fu N (by omega) (by omega) hR h9
      refine ⟨K, ?_, k2, fun c j h => k3 c j (by omega), fun s a b => ?_⟩
      · rw [s_X5_restore_26, qi_le (show (8 : Int32) = nI 8 from rfl) rfl (by omega) (by omega), if_neg (by omega), e17, qrs, qlI N l57, e20, qrs, qlI N l60, h9, nI_1]
        by_cases h2 : N.1 57 v = 2
        · have h3 : N.1 60 v < nI P := Classical.byContradiction (fun h => h1 ⟨h2, h⟩)
          rw [if_pos h2, if_pos h3]; exact k1
        · rw [if_neg h2]; exact k1
      · by_cases e : s = v
        · subst e
          rw [k3 _ _ (by omega), if_neg h1]
        · exact k4 s (by omega) b
theorem p_restore : hs_restore Inv := by
  intro M ⟨υ, hJ, hRe⟩
  have hP := (jw hJ).1.2.1
  rcases hJ.2.2.2.2.2.1 with ⟨i1, i2⟩ | ⟨i1, i2, υi, w1, w2, w3⟩
  · refine ⟨-6, bC 6 M, bR 6 (bC 6 M), ?_, ?_, Inv_ref0 hJ hRe⟩
    · unfold s_X4_restore
      rw [i1, if_pos rfl, c_ref hJ.1 (j := 6) rfl (by decide) (by decide), qb1]
    · have e : (bC 6 M).1 49 37 = 0 := by unfold bC; rw [gI (by omega)]; exact i2
      unfold s_X5_restore
      rw [e, if_pos rfl, r_no (M := bC _ M) hJ.1 (j := 6) rfl (by decide), qb1]
  · have hPi := w1.1.1.2.1
    have hSi := w1.2.1
    obtain ⟨K, k1, k2, k3⟩ := c_take (p := 1) (q := 10) hJ.1 q1 (Or.inr (Or.inl rfl)) (by omega) (by omega) w2 hPi
    have hRK := gG_rf k3 hJ.1
    obtain ⟨K2, m1, m2, m3, m4⟩ := c_rs_loop 8 0 2000 K (by omega) (by omega) hRK k2.1.1.2.1
    have hRK2 : yRf K2 := fun k j hk => by rw [m2]; exact hRK k j hk
    have ko : ∀ c j, ¬ (1 ≤ c ∧ c ≤ 9) → ¬ ((33 ≤ c ∧ c ≤ 48) ∧ j = 1) → K2.1 c j = M.1 c j := fun c j h1 h2 => (m3 c j (fun s _ _ => by omega)).trans (k3.2 c j (by unfold Gq; omega)).1
    have koL : ∀ c j, ¬ (1 ≤ c ∧ c ≤ 9) → K2.2.1 c j = M.2.1 c j := fun c j h1 => by rw [m2]; exact (k3.2 c j (by unfold Gq; omega)).2
    obtain ⟨N, n1, n2, n3⟩ := r_back (υ := υi) (c := 66) (w := 1) hRK2 (by omega) hPi (Or.inr ⟨rfl, rfl⟩) (kU_ag (fun j => ko 66 j (by omega) (by omega)) (koL 67 1 (by omega)) w3)
    have hRN := gG_rf n3 hRK2
    obtain ⟨N2, o1, o2, o3, o4⟩ := r_rs_loop 8 0 2000 N (by omega) (by omega) hRN n2.1.1.2.1
    have no : ∀ c j, ¬ (1 ≤ c ∧ c ≤ 9) → ¬ ((33 ≤ c ∧ c ≤ 48) ∧ j = 1) → ¬ (c = 49 ∧ (j ≤ 7 ∨ j = 9)) → ¬ (51 ≤ c ∧ c ≤ 57) → N2.1 c j = M.1 c j ∧ N2.2.1 c j = M.2.1 c j := fun c j h1 h2 h3 h4 => by
      have a := n3.2 c j (by unfold GrT; omega)
      refine ⟨(o3 c j (by omega)).trans (a.1.trans (ko c j h1 h2)), ?_⟩
      rw [o2]
      exact a.2.trans (koL c j h1)
    have hc2 : cU 1 υi N2 := cU_ag (fun k j hk => by
      unfold Zc at hk
      have a := n3.2 k j (by unfold GrT; omega)
      refine ⟨(o3 k j (by omega)).trans (a.1.trans (m3 k j (fun s _ _ => by omega))), ?_⟩
      rw [o2]
      exact a.2.trans (by rw [m2])) k2
    have hr2 : rU υi N2 := rU_ag (fun k j hk => ⟨o3 k j (by unfold Zr at hk; omega), by rw [o2]⟩) n2
    obtain ⟨j1, j2, j3, j4, j5, j6, j7, j8, j9⟩ := hJ
    refine ⟨nI (yS (uT υi)), K2, N2, ?_, ?_, υi, ⟨?_, w1, hc2, hr2, ?_, iIm_ag (fun k j hk => no k j (by omega) (by omega) (by omega) (by omega)) j6, ?_, iTr_ag (fun k j hk => (no k j (by omega) (by omega) (by omega) (by omega)).1) j8, fun j => ?_⟩, fun j a b => ?_⟩
    · have m1' : s_X4_restore_27 0 2000 0 K = some (K.1 1 10, K2) := m1
      unfold s_X4_restore
      rw [i1, if_neg q10, yr0 j1 (j := 0) rfl, qrs, yr0 j1 (j := 1) rfl, qrs, k1, qb1, m1', k2.1.1.2.2.1]
    · have n1' : s_X5_all 49 66 1 1 K2 = some ((), N) := n1
      have o1' : s_X5_restore_26 49 2000 0 N = some (N.1 49 2, N2) := o1
      have e : K2.1 49 37 = 1 := (ko 49 37 (by omega) (by omega)).trans i2
      unfold s_X5_restore
      rw [e, if_neg q10, yrf_49 hRK2 (j := 31) rfl, qrs, n1', qb1, o1', n2.1.1.2.2.1]
    · intro k j hk
      rw [o2]
      exact hRN k j hk
    · intro s hs
      have e1 : N2.1 (33 + 2 * s) 1 = fixv (yP (uT υi)) (M.1 (33 + 2 * s) 1) := by
        rw [o3 _ _ (by omega), (n3.2 _ _ (by unfold GrT; omega)).1, m4 s (by omega) hs, (k3.2 (33 + 2 * s) 1 (by unfold Gq; omega)).1]
      have e2 : N2.1 (33 + 2 * s) 2 = M.1 (33 + 2 * s) 2 := (no _ _ (by omega) (by omega) (by omega) (by omega)).1
      have x57 : N.1 57 s = M.1 57 s := (n3.2 57 s (by unfold GrT; omega)).1.trans (ko 57 s (by omega) (by omega))
      have x60 : N.1 60 s = M.1 60 s := (n3.2 60 s (by unfold GrT; omega)).1.trans (ko 60 s (by omega) (by omega))
      have e57 : N2.1 57 s = if M.1 57 s = 2 ∧ ¬ M.1 60 s < nI (yP (uT υi)) then 0 else M.1 57 s := by
        rw [o4 s (by omega) hs, x57, x60]
      have e58 : N2.1 58 s = M.1 58 s := (no _ _ (by omega) (by omega) (by omega) (by omega)).1
      have e59 : N2.1 59 s = M.1 59 s := (no _ _ (by omega) (by omega) (by omega) (by omega)).1
      have e60 : N2.1 60 s = M.1 60 s := (no _ _ (by omega) (by omega) (by omega) (by omega)).1
      have e34 : ∀ i, N2.2.1 (34 + 2 * s) i = M.2.1 (34 + 2 * s) i := fun i => by
        rw [o2, (n3.2 _ _ (by unfold GrT; omega)).2, koL _ _ (by omega)]
      have e61 : ∀ i, N2.2.1 61 i = M.2.1 61 i := fun i => by
        rw [o2, (n3.2 _ _ (by unfold GrT; omega)).2, koL _ _ (by omega)]
      rw [e1, e57, e60]
      rcases j5 s hs with ⟨a, b⟩ | ⟨p, hp, a, b, c⟩ | ⟨o, n, ho, hn, a, b, c, d, e, f⟩
      · left
        rw [a, b, if_neg (fun h => absurd h.1 (by decide))]
        exact ⟨rfl, rfl⟩
      · have hne : ¬ nI p = -1 := fun h => qm1 p (by omega) h.symm
        have h100 : ¬ (100 : Int32) ≤ nI p := fun h => absurd ((nI_leI (a := 100) (by omega) (by omega)).mp h) (by omega)
        rw [a, b, c]
        unfold fixv
        rw [if_neg hne, if_neg h100, yin_nI (by omega) (by omega)]
        by_cases hpp : p < yP (uT υi)
        · right; left
          rw [decide_eq_true hpp, if_pos rfl, if_neg (fun h => h.2 (nI_lt hpp (by omega)))]
          exact ⟨p, hpp, rfl, rfl, rfl⟩
        · left
          rw [decide_eq_false hpp, if_neg (by decide), if_pos ⟨rfl, fun h => hpp ((nI_ltI (by omega) (by omega)).mp h)⟩]
          exact ⟨rfl, rfl⟩
      · right; right
        have hne : ¬ nI (100 + o) = -1 := fun h => qm1 (100 + o) (by omega) h.symm
        have h100 : (100 : Int32) ≤ nI (100 + o) := nI_le (a := 100) (by omega) (by omega)
        refine ⟨o, n, ho, hn, ?_, e2.trans b, ?_, e58.trans d, e59.trans e, fun i hi => ?_⟩
        · rw [a]
          unfold fixv
          rw [if_neg hne, if_pos h100]
        · rw [c, if_neg (fun h => absurd h.1 (by decide))]
        · rw [e34, e61]; exact f i hi
    · unfold iFa
      rw [(no 0 8 (by omega) (by omega) (by omega) (by omega)).1, (no 49 8 (by omega) (by omega) (by omega) (by omega)).1]; exact j7
    · rw [(no 63 j (by omega) (by omega) (by omega) (by omega)).1]; exact j9 j
    · rw [(no 32 j (by omega) (by omega) (by omega) (by omega)).1, (no 50 j (by omega) (by omega) (by omega) (by omega)).1]; exact hRe j a b
