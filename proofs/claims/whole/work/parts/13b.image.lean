theorem len_kc {c w : Nat} (hc : (c = 65 ∧ w = 0) ∨ (c = 66 ∧ w = 1)) : hf_len c = 120 := by
  rcases hc with ⟨rfl, rfl⟩ | ⟨rfl, rfl⟩ <;> rfl
theorem r_store {υ : hU} {M : hf_M} (hR : yRf M) (h : rU υ M) (hS : yS (uT υ) ≤ 28) (hP : yP (uT υ) ≤ 6) {c w : Nat} (hc : (c = 65 ∧ w = 0) ∨ (c = 66 ∧ w = 1)) : ∃ N, s_X5_all 49 c (nI w) 0 M = some ((), N) ∧ kU c w υ N ∧ gG (fun k j => k = c ∨ (k = 67 ∧ j = w)) M N := by
  have hlc := len_kc hc
  have hc2 : 64 < c ∧ c < 67 ∧ w < 2 := by omega
  obtain ⟨K1, a1, b1, d1, e1⟩ := r_keep0 (t := 51) (c := c) (f := 0) (n := 6) M (by omega) (by omega) (by decide) (by decide)
  obtain ⟨K2, a2, b2, d2, e2⟩ := r_keep0 (t := 52) (c := c) (f := 6) (n := 6) K1 (by omega) (by omega) (by decide) (by decide)
  obtain ⟨K3, a3, b3, d3, e3⟩ := r_keep0 (t := 53) (c := c) (f := 12) (n := 6) K2 (by omega) (by omega) (by decide) (by decide)
  obtain ⟨K4, a4, b4, d4, e4⟩ := r_keep0 (t := 54) (c := c) (f := 18) (n := 28) K3 (by omega) (by omega) (by decide) (by decide)
  obtain ⟨K5, a5, b5, d5, e5⟩ := r_keep0 (t := 55) (c := c) (f := 46) (n := 28) K4 (by omega) (by omega) (by decide) (by decide)
  obtain ⟨K6, a6, b6, d6, e6⟩ := r_keep0 (t := 56) (c := c) (f := 74) (n := 28) K5 (by omega) (by omega) (by decide) (by decide)
  have a1' : s_X5_keeps 49 51 6 c 0 0 M = some (nI 6, K1) := a1
  have a2' : s_X5_keeps 49 52 6 c (nI 6) 0 K1 = some (nI 12, K2) := a2
  have a3' : s_X5_keeps 49 53 6 c (nI 12) 0 K2 = some (nI 18, K3) := a3
  have a4' : s_X5_keeps 49 54 28 c (nI 18) 0 K3 = some (nI 46, K4) := a4
  have a5' : s_X5_keeps 49 55 28 c (nI 46) 0 K4 = some (nI 74, K5) := a5
  have a6' : s_X5_keeps 49 56 28 c (nI 74) 0 K5 = some (nI 102, K6) := a6
  have R1 : yRf K1 := fun k j hk => by rw [b1]; exact hR k j hk
  have R2 : yRf K2 := fun k j hk => by rw [b2]; exact R1 k j hk
  have R3 : yRf K3 := fun k j hk => by rw [b3]; exact R2 k j hk
  have R4 : yRf K4 := fun k j hk => by rw [b4]; exact R3 k j hk
  have R5 : yRf K5 := fun k j hk => by rw [b5]; exact R4 k j hk
  have R6 : yRf K6 := fun k j hk => by rw [b6]; exact R5 k j hk
  have o1 : ∀ a j, a ≠ c → K1.1 a j = M.1 a j := fun a j h => d1 a j (Or.inl h)
  have o2 : ∀ a j, a ≠ c → K2.1 a j = M.1 a j := fun a j h => (d2 a j (Or.inl h)).trans (o1 a j h)
  have o3 : ∀ a j, a ≠ c → K3.1 a j = M.1 a j := fun a j h => (d3 a j (Or.inl h)).trans (o2 a j h)
  have o4 : ∀ a j, a ≠ c → K4.1 a j = M.1 a j := fun a j h => (d4 a j (Or.inl h)).trans (o3 a j h)
  have o5 : ∀ a j, a ≠ c → K5.1 a j = M.1 a j := fun a j h => (d5 a j (Or.inl h)).trans (o4 a j h)
  have o6 : ∀ a j, a ≠ c → K6.1 a j = M.1 a j := fun a j h => (d6 a j (Or.inl h)).trans (o5 a j h)
  have oL : K6.2.1 = M.2.1 := by rw [b6, b5, b4, b3, b2, b1]
  have v6 : ∀ j, j < 28 → K6.1 c (74 + j) = M.1 56 j := fun j hj => (e6 j hj).trans (o5 56 j (by omega))
  have v5 : ∀ j, j < 28 → K6.1 c (46 + j) = M.1 55 j := fun j hj => (d6 c _ (by omega)).trans ((e5 j hj).trans (o4 55 j (by omega)))
  have v4 : ∀ j, j < 28 → K6.1 c (18 + j) = M.1 54 j := fun j hj => (d6 c _ (by omega)).trans ((d5 c _ (by omega)).trans ((e4 j hj).trans (o3 54 j (by omega))))
  have v3 : ∀ j, j < 6 → K6.1 c (12 + j) = M.1 53 j := fun j hj => (d6 c _ (by omega)).trans ((d5 c _ (by omega)).trans ((d4 c _ (by omega)).trans ((e3 j hj).trans (o2 53 j (by omega)))))
  have v2 : ∀ j, j < 6 → K6.1 c (6 + j) = M.1 52 j := fun j hj => (d6 c _ (by omega)).trans ((d5 c _ (by omega)).trans ((d4 c _ (by omega)).trans ((d3 c _ (by omega)).trans ((e2 j hj).trans (o1 52 j (by omega))))))
  have v1 : ∀ j, j < 6 → K6.1 c j = M.1 51 j := fun j hj => by
    have := e1 j hj
    rw [Nat.zero_add] at this
    exact (d6 c _ (by omega)).trans ((d5 c _ (by omega)).trans ((d4 c _ (by omega)).trans ((d3 c _ (by omega)).trans ((d2 c _ (by omega)).trans this))))
  obtain ⟨⟨⟨c0, c1, c2, c3, c4, c9⟩, ck, cs⟩, ch, c5, c6, c7⟩ := h
  have n1 : nI 102 + 1 = nI 103 := nI_1 _
  have n2 : nI 102 + 2 = nI 104 := nI_add 102 2
  have n3 : nI 102 + 3 = nI 105 := nI_add 102 3
  have n4 : nI 102 + 4 = nI 106 := nI_add 102 4
  have n5 : nI 102 + 5 = nI 107 := nI_add 102 5
  have n6 : nI 102 + 6 = nI 108 := nI_add 102 6
  have n7 : nI 102 + 7 = nI 109 := nI_add 102 7
  have f0 := (o6 49 0 (by omega)).trans c0
  have f1 := (o6 49 1 (by omega)).trans c1
  have f2 := (o6 49 2 (by omega)).trans c2
  have f3 := (o6 49 3 (by omega)).trans c3
  have f4 := (o6 49 4 (by omega)).trans c4
  have f5 := (o6 49 5 (by omega)).trans c5
  have f6 := (o6 49 6 (by omega)).trans c6
  have f7 := (o6 49 7 (by omega)).trans c7
  have f9 : K6.2.1 49 9 = yl (uT υ) := by rw [oL]; exact c9
  refine ⟨hf_sL (hf_sI (hf_sI (hf_sI (hf_sI (hf_sI (hf_sI (hf_sI (hf_sI K6 c 102 (nI (yF (uT υ)))) c 103 (nI (yP (uT υ)))) c 104 (nI (yS (uT υ)))) c 105 (nI (yn (uT υ)))) c 106 (nI (yt (uT υ)))) c 107 (ud υ)) c 108 (us υ)) c 109 (uw υ)) 67 w (yl (uT υ)), ?_, ⟨⟨?_, ?_, ?_, ?_, ?_, gL0⟩, fun p hp => ⟨?_, ?_⟩, fun i hi => ⟨?_, ?_, ?_⟩, fun j hj => ?_, ?_, ?_, ?_⟩, ?_, fun k j hk => ⟨?_, ?_⟩⟩
  · unfold s_X5_all
    rw [yrf_49 hR (j := 11) rfl, qrs, a1', qb1, yrf_49 R1 (j := 12) rfl, qrs, a2', qb1, yrf_49 R2 (j := 13) rfl, qrs, a3', qb1, yrf_49 R3 (j := 14) rfl, qrs, a4', qb1, yrf_49 R4 (j := 15) rfl, qrs, a5', qb1, yrf_49 R5 (j := 16) rfl, qrs, a6', qb1, if_pos rfl]
    rw [qsI _ _ (by omega), f0, n1, qsI _ _ (by omega), gI (by omega), f1, n2, qsI _ _ (by omega), gI (by omega), gI (by omega), f2, n3, qsI _ _ (by omega), gI (by omega), gI (by omega), gI (by omega), f3, n4, qsI _ _ (by omega), gI (by omega), gI (by omega), gI (by omega), gI (by omega), f4, n5, qsI _ _ (by omega), gI (by omega), gI (by omega), gI (by omega), gI (by omega), gI (by omega), f5, n6, qsI _ _ (by omega), gI (by omega), gI (by omega), gI (by omega), gI (by omega), gI (by omega), gI (by omega), f6, n7, qsI _ _ (by omega), gI (by omega), gI (by omega), gI (by omega), gI (by omega), gI (by omega), gI (by omega), gI (by omega), f7]
    simp only [gIR, gIL]
    rw [yrf_49 R6 (j := 32) rfl, qrs, f9, qsL _ _ (by show w < 2; omega)]
  · rw [gLI, gI (by omega), gI (by omega), gI (by omega), gI (by omega), gI (by omega), gI (by omega), gI (by omega), gI0]
  · rw [gLI, gI (by omega), gI (by omega), gI (by omega), gI (by omega), gI (by omega), gI (by omega), gI0]
  · rw [gLI, gI (by omega), gI (by omega), gI (by omega), gI (by omega), gI (by omega), gI0]
  · rw [gLI, gI (by omega), gI (by omega), gI (by omega), gI (by omega), gI0]
  · rw [gLI, gI (by omega), gI (by omega), gI (by omega), gI0]
  · rw [gLI, gI (by omega), gI (by omega), gI (by omega), gI (by omega), gI (by omega), gI (by omega), gI (by omega), gI (by omega), v2 p (by omega)]; exact (ck p hp).1
  · rw [gLI, gI (by omega), gI (by omega), gI (by omega), gI (by omega), gI (by omega), gI (by omega), gI (by omega), gI (by omega), v3 p (by omega)]; exact (ck p hp).2
  · rw [gLI, gI (by omega), gI (by omega), gI (by omega), gI (by omega), gI (by omega), gI (by omega), gI (by omega), gI (by omega), v4 i (by omega)]; exact (cs i hi).1
  · rw [gLI, gI (by omega), gI (by omega), gI (by omega), gI (by omega), gI (by omega), gI (by omega), gI (by omega), gI (by omega), v5 i (by omega)]; exact (cs i hi).2.1
  · rw [gLI, gI (by omega), gI (by omega), gI (by omega), gI (by omega), gI (by omega), gI (by omega), gI (by omega), gI (by omega), v6 i (by omega)]; exact (cs i hi).2.2
  · rw [gLI, gI (by omega), gI (by omega), gI (by omega), gI (by omega), gI (by omega), gI (by omega), gI (by omega), gI (by omega), v1 j hj]; exact ch j hj
  · rw [gLI, gI (by omega), gI (by omega), gI0]
  · rw [gLI, gI (by omega), gI0]
  · rw [gLI, gI0]
  · show K6.2.2 = M.2.2
    rw [b6, b5, b4, b3, b2, b1]
  · rw [gLI, gI (by omega), gI (by omega), gI (by omega), gI (by omega), gI (by omega), gI (by omega), gI (by omega), gI (by omega), o6 k j (by omega)]
  · rw [gL (by omega), gIL, gIL, gIL, gIL, gIL, gIL, gIL, gIL, oL]
theorem r_back {υ : hU} {M : hf_M} (hR : yRf M) (hS : yS (uT υ) ≤ 28) (hP : yP (uT υ) ≤ 6) {c w : Nat} (hc : (c = 65 ∧ w = 0) ∨ (c = 66 ∧ w = 1)) (h : kU c w υ M) : ∃ N, s_X5_all 49 c (nI w) 1 M = some ((), N) ∧ rU υ N ∧ gG GrT M N := by
  have hlc := len_kc hc
  have hc2 : 64 < c ∧ c < 67 ∧ w < 2 := by omega
  obtain ⟨K1, a1, b1, d1, e1⟩ := r_keep1 (t := 51) (c := c) (f := 0) (n := 6) M (by omega) (by omega) (by decide) (by decide)
  obtain ⟨K2, a2, b2, d2, e2⟩ := r_keep1 (t := 52) (c := c) (f := 6) (n := 6) K1 (by omega) (by omega) (by decide) (by decide)
  obtain ⟨K3, a3, b3, d3, e3⟩ := r_keep1 (t := 53) (c := c) (f := 12) (n := 6) K2 (by omega) (by omega) (by decide) (by decide)
  obtain ⟨K4, a4, b4, d4, e4⟩ := r_keep1 (t := 54) (c := c) (f := 18) (n := 28) K3 (by omega) (by omega) (by decide) (by decide)
  obtain ⟨K5, a5, b5, d5, e5⟩ := r_keep1 (t := 55) (c := c) (f := 46) (n := 28) K4 (by omega) (by omega) (by decide) (by decide)
  obtain ⟨K6, a6, b6, d6, e6⟩ := r_keep1 (t := 56) (c := c) (f := 74) (n := 28) K5 (by omega) (by omega) (by decide) (by decide)
  have a1' : s_X5_keeps 49 51 6 c 0 1 M = some (nI 6, K1) := a1
  have a2' : s_X5_keeps 49 52 6 c (nI 6) 1 K1 = some (nI 12, K2) := a2
  have a3' : s_X5_keeps 49 53 6 c (nI 12) 1 K2 = some (nI 18, K3) := a3
  have a4' : s_X5_keeps 49 54 28 c (nI 18) 1 K3 = some (nI 46, K4) := a4
  have a5' : s_X5_keeps 49 55 28 c (nI 46) 1 K4 = some (nI 74, K5) := a5
  have a6' : s_X5_keeps 49 56 28 c (nI 74) 1 K5 = some (nI 102, K6) := a6
  have R1 : yRf K1 := fun k j hk => by rw [b1]; exact hR k j hk
  have R2 : yRf K2 := fun k j hk => by rw [b2]; exact R1 k j hk
  have R3 : yRf K3 := fun k j hk => by rw [b3]; exact R2 k j hk
  have R4 : yRf K4 := fun k j hk => by rw [b4]; exact R3 k j hk
  have R5 : yRf K5 := fun k j hk => by rw [b5]; exact R4 k j hk
  have R6 : yRf K6 := fun k j hk => by rw [b6]; exact R5 k j hk
  have o1 : ∀ a j, ¬ (51 ≤ a ∧ a ≤ 56) → K1.1 a j = M.1 a j := fun a j h => d1 a j (by omega)
  have o2 : ∀ a j, ¬ (51 ≤ a ∧ a ≤ 56) → K2.1 a j = M.1 a j := fun a j h => (d2 a j (by omega)).trans (o1 a j h)
  have o3 : ∀ a j, ¬ (51 ≤ a ∧ a ≤ 56) → K3.1 a j = M.1 a j := fun a j h => (d3 a j (by omega)).trans (o2 a j h)
  have o4 : ∀ a j, ¬ (51 ≤ a ∧ a ≤ 56) → K4.1 a j = M.1 a j := fun a j h => (d4 a j (by omega)).trans (o3 a j h)
  have o5 : ∀ a j, ¬ (51 ≤ a ∧ a ≤ 56) → K5.1 a j = M.1 a j := fun a j h => (d5 a j (by omega)).trans (o4 a j h)
  have o6 : ∀ a j, ¬ (51 ≤ a ∧ a ≤ 56) → K6.1 a j = M.1 a j := fun a j h => (d6 a j (by omega)).trans (o5 a j h)
  have oL : K6.2.1 = M.2.1 := by rw [b6, b5, b4, b3, b2, b1]
  have v6 : ∀ j, j < 28 → K6.1 56 j = M.1 c (74 + j) := fun j hj => (e6 j hj).trans (o5 c _ (by omega))
  have v5 : ∀ j, j < 28 → K6.1 55 j = M.1 c (46 + j) := fun j hj => (d6 55 _ (by omega)).trans ((e5 j hj).trans (o4 c _ (by omega)))
  have v4 : ∀ j, j < 28 → K6.1 54 j = M.1 c (18 + j) := fun j hj => (d6 54 _ (by omega)).trans ((d5 54 _ (by omega)).trans ((e4 j hj).trans (o3 c _ (by omega))))
  have v3 : ∀ j, j < 6 → K6.1 53 j = M.1 c (12 + j) := fun j hj => (d6 53 _ (by omega)).trans ((d5 53 _ (by omega)).trans ((d4 53 _ (by omega)).trans ((e3 j hj).trans (o2 c _ (by omega)))))
  have v2 : ∀ j, j < 6 → K6.1 52 j = M.1 c (6 + j) := fun j hj => (d6 52 _ (by omega)).trans ((d5 52 _ (by omega)).trans ((d4 52 _ (by omega)).trans ((d3 52 _ (by omega)).trans ((e2 j hj).trans (o1 c _ (by omega))))))
  have v1 : ∀ j, j < 6 → K6.1 51 j = M.1 c j := fun j hj => by
    have := e1 j hj
    rw [Nat.zero_add] at this
    exact (d6 51 _ (by omega)).trans ((d5 51 _ (by omega)).trans ((d4 51 _ (by omega)).trans ((d3 51 _ (by omega)).trans ((d2 51 _ (by omega)).trans this))))
  obtain ⟨⟨c0, c1, c2, c3, c4, c9⟩, ck, cs, ch, c5, c6, c7⟩ := h
  have n1 : nI 102 + 1 = nI 103 := nI_1 _
  have n2 : nI 102 + 2 = nI 104 := nI_add 102 2
  have n3 : nI 102 + 3 = nI 105 := nI_add 102 3
  have n4 : nI 102 + 4 = nI 106 := nI_add 102 4
  have n5 : nI 102 + 5 = nI 107 := nI_add 102 5
  have n6 : nI 102 + 6 = nI 108 := nI_add 102 6
  have n7 : nI 102 + 7 = nI 109 := nI_add 102 7
  have f0 := (o6 c 102 (by omega)).trans c0
  have f1 := (o6 c 103 (by omega)).trans c1
  have f2 := (o6 c 104 (by omega)).trans c2
  have f3 := (o6 c 105 (by omega)).trans c3
  have f4 := (o6 c 106 (by omega)).trans c4
  have f5 := (o6 c 107 (by omega)).trans c5
  have f6 := (o6 c 108 (by omega)).trans c6
  have f7 := (o6 c 109 (by omega)).trans c7
  have f9 : K6.2.1 67 w = yl (uT υ) := by rw [oL]; exact c9
  refine ⟨hf_sL (hf_sI (hf_sI (hf_sI (hf_sI (hf_sI (hf_sI (hf_sI (hf_sI K6 49 0 (nI (yF (uT υ)))) 49 1 (nI (yP (uT υ)))) 49 2 (nI (yS (uT υ)))) 49 3 (nI (yn (uT υ)))) 49 4 (nI (yt (uT υ)))) 49 5 (ud υ)) 49 6 (us υ)) 49 7 (uw υ)) 49 9 (yl (uT υ)), ?_, ⟨⟨⟨?_, ?_, ?_, ?_, ?_, gL0⟩, fun p hp => ⟨?_, ?_⟩, fun i hi => ⟨?_, ?_, ?_⟩⟩, fun j hj => ?_, ?_, ?_, ?_⟩, ?_, fun k j hk => ⟨?_, ?_⟩⟩
  · unfold s_X5_all
    rw [yrf_49 hR (j := 11) rfl, qrs, a1', qb1, yrf_49 R1 (j := 12) rfl, qrs, a2', qb1, yrf_49 R2 (j := 13) rfl, qrs, a3', qb1, yrf_49 R3 (j := 14) rfl, qrs, a4', qb1, yrf_49 R4 (j := 15) rfl, qrs, a5', qb1, yrf_49 R5 (j := 16) rfl, qrs, a6', qb1, if_neg q10]
    rw [qlI _ (by omega), f0, qpt, n1, qlI _ (by omega), gI (by omega), f1, qpt, n2, qlI _ (by omega), gI (by omega), gI (by omega), f2, qpt, n3, qlI _ (by omega), gI (by omega), gI (by omega), gI (by omega), f3, qpt, n4, qlI _ (by omega), gI (by omega), gI (by omega), gI (by omega), gI (by omega), f4, qpt, n5, qlI _ (by omega), gI (by omega), gI (by omega), gI (by omega), gI (by omega), gI (by omega), f5, qpt, n6, qlI _ (by omega), gI (by omega), gI (by omega), gI (by omega), gI (by omega), gI (by omega), gI (by omega), f6, qpt, n7, qlI _ (by omega), gI (by omega), gI (by omega), gI (by omega), gI (by omega), gI (by omega), gI (by omega), gI (by omega), f7, qpt]
    simp only [gIR]
    rw [yrf_49 R6 (j := 32) rfl, qrs, qlL _ (by show w < 2; omega)]
    simp only [gIL]
    rw [f9, qpt]
  · rw [gLI, gI (by omega), gI (by omega), gI (by omega), gI (by omega), gI (by omega), gI (by omega), gI (by omega), gI0]
  · rw [gLI, gI (by omega), gI (by omega), gI (by omega), gI (by omega), gI (by omega), gI (by omega), gI0]
  · rw [gLI, gI (by omega), gI (by omega), gI (by omega), gI (by omega), gI (by omega), gI0]
  · rw [gLI, gI (by omega), gI (by omega), gI (by omega), gI (by omega), gI0]
  · rw [gLI, gI (by omega), gI (by omega), gI (by omega), gI0]
  · rw [gLI, gI (by omega), gI (by omega), gI (by omega), gI (by omega), gI (by omega), gI (by omega), gI (by omega), gI (by omega), v2 p (by omega)]; exact (ck p hp).1
  · rw [gLI, gI (by omega), gI (by omega), gI (by omega), gI (by omega), gI (by omega), gI (by omega), gI (by omega), gI (by omega), v3 p (by omega)]; exact (ck p hp).2
  · rw [gLI, gI (by omega), gI (by omega), gI (by omega), gI (by omega), gI (by omega), gI (by omega), gI (by omega), gI (by omega), v4 i (by omega)]; exact (cs i hi).1
  · rw [gLI, gI (by omega), gI (by omega), gI (by omega), gI (by omega), gI (by omega), gI (by omega), gI (by omega), gI (by omega), v5 i (by omega)]; exact (cs i hi).2.1
  · rw [gLI, gI (by omega), gI (by omega), gI (by omega), gI (by omega), gI (by omega), gI (by omega), gI (by omega), gI (by omega), v6 i (by omega)]; exact (cs i hi).2.2
  · rw [gLI, gI (by omega), gI (by omega), gI (by omega), gI (by omega), gI (by omega), gI (by omega), gI (by omega), gI (by omega), v1 j hj]; exact ch j hj
  · rw [gLI, gI (by omega), gI (by omega), gI0]
  · rw [gLI, gI (by omega), gI0]
  · rw [gLI, gI0]
  · show K6.2.2 = M.2.2
    rw [b6, b5, b4, b3, b2, b1]
  · unfold GrT at hk
    rw [gLI, gI (by omega), gI (by omega), gI (by omega), gI (by omega), gI (by omega), gI (by omega), gI (by omega), gI (by omega), o6 k j (by omega)]
  · unfold GrT at hk
    rw [gL (by omega), gIL, gIL, gIL, gIL, gIL, gIL, gIL, gIL, oL]
theorem p_image : hs_image Inv := by
  intro M ⟨υ, hJ, hRe⟩
  have hS := jS hJ
  have hP := (jw hJ).1.2.1
  obtain ⟨K, k1, k2, k3⟩ := c_take (p := 10) (q := 1) hJ.1 (Or.inr (Or.inl rfl)) q1 (by omega) (by omega) (jc hJ) hP
  have hRK := gG_rf k3 hJ.1
  have ko : ∀ c j, ¬ (10 ≤ c ∧ c ≤ 18) → K.1 c j = M.1 c j ∧ K.2.1 c j = M.2.1 c j := fun c j h => k3.2 c j (by unfold Gq; omega)
  have hrK : rU υ (hf_sI (hf_sI K 0 7 1) 49 37 1) := rU_ag (fun k j hk => by
    unfold Zr at hk
    rw [gI (by omega), gI (by omega), gIL, gIL]
    exact ko k j (by omega)) (jr hJ)
  obtain ⟨N, n1, n2, n3⟩ := r_store (c := 66) (w := 1) (M := hf_sI (hf_sI K 0 7 1) 49 37 1) hRK hrK (by omega) hP (Or.inr ⟨rfl, rfl⟩)
  have no : ∀ c j, ¬ (c = 66 ∨ (c = 67 ∧ j = 1)) → ¬ (10 ≤ c ∧ c ≤ 18) → ¬ (c = 0 ∧ j = 7) → ¬ (c = 49 ∧ j = 37) → N.1 c j = M.1 c j ∧ N.2.1 c j = M.2.1 c j := fun c j h1 h2 h3 h4 => by
    have a := n3.2 c j h1
    rw [gI (by omega), gI (by omega), gIL, gIL] at a
    exact ⟨a.1.trans (ko c j h2).1, a.2.trans (ko c j h2).2⟩
  obtain ⟨j1, j2, j3, j4, j5, j6, j7, j8, j9⟩ := hJ
  refine ⟨nI (yS (uT υ)), hf_sI K 0 7 1, N, ?_, ?_, υ, ⟨?_, j2, cU_ag (fun k j hk => no k j ?_ ?_ ?_ ?_) j3, rU_ag (fun k j hk => no k j ?_ ?_ ?_ ?_) j4, iSh_ag (fun k j hk => no k j ?_ ?_ ?_ ?_) j5, Or.inr ⟨?_, ?_, υ, j2, ?_, n2⟩, ?_, iTr_ag (fun k j hk => (no k j ?_ ?_ ?_ ?_).1) j8, fun j => ?_⟩, fun j a b => ?_⟩
  · unfold s_X4_image
    rw [yr0 j1 (j := 1) rfl, qrs, yr0 j1 (j := 0) rfl, qrs, k1, qb1, qpt, yr0 (yrf_I hRK) (j := 0) rfl, qrs, gI (by omega), (ko 1 10 (by omega)).1, j3.1.1.2.2.1]
  · have n1' : s_X5_all 49 66 1 0 (hf_sI (hf_sI K 0 7 1) 49 37 1) = some ((), N) := n1
    have e2 : N.1 49 2 = nI (yS (uT υ)) := (no 49 2 (by omega) (by omega) (by omega) (by omega)).1.trans j4.1.1.2.2.1
    unfold s_X5_image
    rw [qpt, yrf_49 (yrf_I (yrf_I hRK)) (j := 31) rfl, qrs, n1', qb1, e2]
  · exact gG_rf n3 hRK
  all_goals try (unfold Zc at hk; omega)
  all_goals try (unfold Zr at hk; omega)
  all_goals try omega
  · rw [(n3.2 0 7 (by omega)).1, gI (by omega), gI0]
  · rw [(n3.2 49 37 (by omega)).1, gI0]
  · refine cU_ag (fun k j hk => ?_) k2
    unfold Zc at hk
    have a := n3.2 k j (by omega)
    rw [gI (by omega), gI (by omega), gIL, gIL] at a
    exact a
  · unfold iFa
    rw [(no 0 8 (by omega) (by omega) (by omega) (by omega)).1, (no 49 8 (by omega) (by omega) (by omega) (by omega)).1]; exact j7
  · rw [(no 63 j (by omega) (by omega) (by omega) (by omega)).1]; exact j9 j
  · rw [(no 32 j (by omega) (by omega) (by omega) (by omega)).1, (no 50 j (by omega) (by omega) (by omega) (by omega)).1]; exact hRe j a b
