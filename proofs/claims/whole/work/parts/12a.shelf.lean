/-! arguments -/
def yin (a : Int32) (n : Nat) : Bool := !decide (a < 0) && !decide (nI n ≤ a)
theorem yin_T {a : Int32} {n : Nat} (h : yin a n = true) (hn : n < 2 ^ 31) : ∃ j, j < n ∧ a = nI j := by
  unfold yin at h
  rcases pk_ix a hn with h1 | h1 | h1
  · rw [decide_eq_true h1] at h; cases h
  · rw [decide_eq_true h1, Bool.not_true, Bool.and_false] at h; cases h
  · exact h1
theorem yin_nI {j n : Nat} (hj : j < 2 ^ 31) (hn : n < 2 ^ 31) : yin (nI j) n = decide (j < n) := by
  unfold yin
  rw [decide_eq_false (nI_pos hj)]
  simp only [nI_leI hn hj, Bool.not_false, Bool.true_and]
  by_cases h : j < n
  · rw [decide_eq_true h, decide_eq_false (by omega)]; rfl
  · rw [decide_eq_false h, decide_eq_true (by omega)]; rfl
theorem q_if0n {a : Int32} {n : Nat} (M : hf_M) : (if a < 0 then some ((0 : Int32), M) else if nI n ≤ a then some (0, M) else some (1, M)) = some (qbI (yin a n), M) := by
  unfold yin
  by_cases h1 : a < 0
  · rw [if_pos h1, decide_eq_true h1]; rfl
  · by_cases h2 : nI n ≤ a
    · rw [if_neg h1, if_pos h2, decide_eq_false h1, decide_eq_true h2]; rfl
    · rw [if_neg h1, if_neg h2, decide_eq_false h1, decide_eq_false h2]; rfl
theorem qb_if {α : Type} (b : Bool) (s t : α) : (if qbI b = 0 then s else t) = if b = true then t else s := by cases b <;> rfl
theorem qb_ifF {α : Type} (s t : α) : (if qbI false = 0 then s else t) = s := rfl
theorem qb_ifT {α : Type} (s t : α) : (if qbI true = 0 then s else t) = t := rfl
theorem c_isSp {M : hf_M} {q P : Nat} (h : M.1 q 9 = nI P) (a : Int32) : s_X3_isSpeaker q a M = some (qbI (yin a P), M) := by
  unfold s_X3_isSpeaker
  rw [h, q_if0n]
theorem c_isFa {M : hf_M} {q P : Nat} (h : M.1 q 8 = nI P) (a : Int32) : s_X3_isFact q a M = some (qbI (yin a P), M) := by
  unfold s_X3_isFact
  rw [h, q_if0n]
theorem r_isSp {M : hf_M} {P : Nat} (h : M.1 49 1 = nI P) (a : Int32) : s_X5_isSpeaker 49 a M = some (qbI (yin a P), M) := by
  unfold s_X5_isSpeaker
  rw [h, q_if0n]
theorem r_isFa {M : hf_M} {P : Nat} (h : M.1 49 0 = nI P) (a : Int32) : s_X5_isFact 49 a M = some (qbI (yin a P), M) := by
  unfold s_X5_isFact
  rw [h, q_if0n]
theorem c_shelf (a : Int32) (M : hf_M) : s_X4_isShelf a M = some (qbI (yin a 8), M) := q_if0n (n := 8) M
theorem r_shelf (a : Int32) (M : hf_M) : s_X5_isShelf 49 a M = some (qbI (yin a 8), M) := q_if0n (n := 8) M
set_option maxRecDepth 100000 in
theorem sh_r28 {M : hf_M} (hR : yRf M) {s : Nat} (hs : s < 8) : M.2.2 28 s = some (33 + 2 * s) := by
  rw [hR 28 s (by decide)]
  have h8 : s = 0 ∨ s = 1 ∨ s = 2 ∨ s = 3 ∨ s = 4 ∨ s = 5 ∨ s = 6 ∨ s = 7 := by omega
  rcases h8 with rfl | rfl | rfl | rfl | rfl | rfl | rfl | rfl <;> rfl
set_option maxRecDepth 100000 in
theorem sh_r0 {M : hf_M} (hR : yRf M) {s : Nat} (hs : s < 8) : M.2.2 (33 + 2 * s) 0 = some (34 + 2 * s) := by
  rw [hR (33 + 2 * s) 0 (by omega)]
  have h8 : s = 0 ∨ s = 1 ∨ s = 2 ∨ s = 3 ∨ s = 4 ∨ s = 5 ∨ s = 6 ∨ s = 7 := by omega
  rcases h8 with rfl | rfl | rfl | rfl | rfl | rfl | rfl | rfl <;> rfl
theorem sh_len {s : Nat} (hs : s < 8) : hf_len (34 + 2 * s) = 160 := by
  have h8 : s = 0 ∨ s = 1 ∨ s = 2 ∨ s = 3 ∨ s = 4 ∨ s = 5 ∨ s = 6 ∨ s = 7 := by omega
  rcases h8 with rfl | rfl | rfl | rfl | rfl | rfl | rfl | rfl <;> rfl
theorem sh_ld {β : Type} {M : hf_M} (hR : yRf M) {s : Nat} (hs : s < 8) (k : Nat → Option β) : hf_ldR M 28 (nI s) k = k (33 + 2 * s) := by
  unfold hf_ldR
  rw [qix (show s < hf_len 28 from hs) (by decide), sh_r28 hR hs, qrs]
/-- what a shelf holds: 0 nothing, 1 a row, 2 a speaker -/
theorem sh_tag {P : Nat} {M : hf_M} (h : iSh P M) (hP : P ≤ 6) {s : Nat} (hs : s < 8) : (M.1 57 s = 0 ∧ s_X2_isRow (33 + 2 * s) M = some (0, M) ∧ s_X2_isSpeaker (33 + 2 * s) M = some (0, M) ∧ M.1 (33 + 2 * s) 1 = -1) ∨ (M.1 57 s = 2 ∧ s_X2_isRow (33 + 2 * s) M = some (0, M) ∧ s_X2_isSpeaker (33 + 2 * s) M = some (1, M) ∧ ∃ p, p < P ∧ M.1 (33 + 2 * s) 1 = nI p ∧ M.1 60 s = nI p) ∨ (M.1 57 s = 1 ∧ s_X2_isRow (33 + 2 * s) M = some (1, M) ∧ s_X2_isSpeaker (33 + 2 * s) M = some (0, M) ∧ ∃ o n, o < 4 ∧ n ≤ 160 ∧ M.1 (33 + 2 * s) 1 = nI (100 + o) ∧ M.1 (33 + 2 * s) 2 = nI n ∧ M.1 58 s = nI o ∧ M.1 59 s = nI n ∧ ∀ i, i < n → M.2.1 (34 + 2 * s) i = M.2.1 61 (160 * s + i)) := by
  rcases h s hs with ⟨a, b⟩ | ⟨p, hp, a, b, c⟩ | ⟨o, n, ho, hn, a, b, c, d⟩
  · refine Or.inl ⟨b, ?_, ?_, a⟩
    · unfold s_X2_isRow
      rw [a, if_pos (by decide)]
    · unfold s_X2_isSpeaker
      rw [a, if_pos rfl]
  · refine Or.inr (Or.inl ⟨b, ?_, ?_, p, hp, a, c⟩)
    · unfold s_X2_isRow
      rw [a, qi_lt rfl (show (100 : Int32) = nI 100 from rfl) (by omega) (by omega), if_pos (by omega)]
    · unfold s_X2_isSpeaker
      rw [a, if_neg (fun e => qm1 p (by omega) e.symm), qi_le (show (100 : Int32) = nI 100 from rfl) rfl (by omega) (by omega), if_neg (by omega)]
  · refine Or.inr (Or.inr ⟨c, ?_, ?_, o, n, ho, hn, a, b, d⟩)
    · unfold s_X2_isRow
      rw [a, qi_lt rfl (show (100 : Int32) = nI 100 from rfl) (by omega) (by omega), if_neg (by omega)]
    · unfold s_X2_isSpeaker
      rw [a, if_neg (fun e => qm1 (100 + o) (by omega) e.symm), qi_le (show (100 : Int32) = nI 100 from rfl) rfl (by omega) (by omega), if_pos (by omega)]
theorem noRow_ {υ : hU} {M : hf_M} (hJ : Jv υ M) (a : Int32) : (s_X4_noRow 0 a M = some (-1, M) ∧ s_X5_wants 49 a M = some (-1, M)) ∨ (s_X4_noRow 0 a M = some (-2, M) ∧ s_X5_wants 49 a M = some (-2, M)) ∨ (s_X4_noRow 0 a M = some (-3, M) ∧ s_X5_wants 49 a M = some (-3, M)) ∨ (s_X4_noRow 0 a M = some (0, M) ∧ s_X5_wants 49 a M = some (0, M) ∧ ∃ s, s < 8 ∧ a = nI s ∧ ∃ o n, o < 4 ∧ n ≤ 160 ∧ M.1 (33 + 2 * s) 1 = nI (100 + o) ∧ M.1 (33 + 2 * s) 2 = nI n ∧ M.1 58 s = nI o ∧ M.1 59 s = nI n ∧ ∀ i, i < n → M.2.1 (34 + 2 * s) i = M.2.1 61 (160 * s + i)) := by
  have hR := hJ.1
  unfold s_X4_noRow s_X5_wants
  rw [c_shelf, r_shelf, qb1, qb1]
  cases hb : yin a 8
  · left
    exact ⟨rfl, rfl⟩
  · obtain ⟨s, hs, rfl⟩ := yin_T hb (by decide)
    have h3 : M.2.2 0 3 = some 28 := yr0 hR rfl
    have h17 : M.2.2 49 17 = some 57 := yrf_49 hR rfl
    have l57 : s < hf_len 57 := hs
    right
    rcases sh_tag hJ.2.2.2.2.1 hJ.2.1.1.1.2.1 hs with ⟨t1, t2, t3, t4⟩ | ⟨t1, t2, t3, t4⟩ | ⟨t1, t2, t3, t4⟩
    · right; left
      simp only [qb_ifT, t1, t2, t3, qb1, qrs, h3, h17, sh_ld hR hs, qlI M l57]
      exact ⟨rfl, rfl⟩
    · left
      simp only [qb_ifT, t1, t2, t3, qb1, qrs, h3, h17, sh_ld hR hs, qlI M l57]
      exact ⟨rfl, rfl⟩
    · right; right
      simp only [qb_ifT, t1, t2, t3, qb1, qrs, h3, h17, sh_ld hR hs, qlI M l57]
      exact ⟨rfl, rfl, s, hs, rfl, t4⟩
/-! row -/
theorem c_mk_loop {q n : Nat} (hl : hf_len (q + 1) = 160) (hn : n ≤ 160) : ∀ (k v fuel : Nat) (N : hf_M), n = v + k → k < fuel → N.1 q 2 = nI n → N.2.2 q 0 = some (q + 1) → ∃ K, s_X2_makeRow_21 q fuel (nI v) N = some ((), K) ∧ K.1 = N.1 ∧ K.2.2 = N.2.2 ∧ (∀ c j, (c ≠ q + 1 ∨ j < v) → K.2.1 c j = N.2.1 c j) ∧ ∀ j, v ≤ j → j < n → K.2.1 (q + 1) j = 0 := by
  intro k
  induction k with
  | zero =>
    intro v fuel N hv hf h2 h0
    obtain ⟨fuel, rfl⟩ : ∃ u, fuel = u + 1 := ⟨fuel - 1, by omega⟩
    refine ⟨N, ?_, rfl, rfl, fun _ _ _ => rfl, fun j h1 h3 => by omega⟩
    rw [s_X2_makeRow_21, h2, qi_le rfl rfl (by omega) (by omega), if_pos (by omega)]
  | succ k ih =>
    intro v fuel N hv hf h2 h0
    obtain ⟨fuel, rfl⟩ : ∃ u, fuel = u + 1 := ⟨fuel - 1, by omega⟩
    rw [s_X2_makeRow_21, h2, qi_le rfl rfl (by omega) (by omega), if_neg (by omega), h0, qrs, qsL N _ (by rw [hl]; omega), nI_1]
    obtain ⟨K, k1, k2, k3, k4, k5⟩ := ih (v + 1) fuel (hf_sL N (q + 1) v 0) (by omega) (by omega) h2 h0
    refine ⟨K, k1, k2, k3, fun c j hc => ?_, fun j h1 h3 => ?_⟩
    · rw [k4 c j (by omega), gL (by omega)]
    · by_cases e : j = v
      · subst e
        rw [k4 (q + 1) j (by omega), gL0]
      · exact k5 j (by omega) h3
theorem r_mk_loop {s : Nat} (hs : s < 8) : ∀ (k v fuel : Nat) (N : hf_M), 160 = v + k → k < fuel → yRf N → ∃ K, s_X5_row_79 49 (nI s) fuel (nI v) N = some (1, K) ∧ K.1 = N.1 ∧ K.2.2 = N.2.2 ∧ (∀ c j, (c ≠ 61 ∨ j < 160 * s + v ∨ 160 * s + 160 ≤ j) → K.2.1 c j = N.2.1 c j) ∧ ∀ j, v ≤ j → j < 160 → K.2.1 61 (160 * s + j) = 0 := by
  intro k
  induction k with
  | zero =>
    intro v fuel N hv hf hR
    obtain ⟨fuel, rfl⟩ : ∃ u, fuel = u + 1 := ⟨fuel - 1, by omega⟩
    refine ⟨N, ?_, rfl, rfl, fun _ _ _ => rfl, fun j h1 h3 => by omega⟩
    rw [s_X5_row_79, qi_le (show (160 : Int32) = nI 160 from rfl) rfl (by omega) (by omega), if_pos (by omega)]
  | succ k ih =>
    intro v fuel N hv hf hR
    obtain ⟨fuel, rfl⟩ : ∃ u, fuel = u + 1 := ⟨fuel - 1, by omega⟩
    rw [s_X5_row_79, qi_le (show (160 : Int32) = nI 160 from rfl) rfl (by omega) (by omega), if_neg (by omega), yrf_49 hR (j := 21) rfl, qrs, show (160 : Int32) = nI 160 from rfl, pk_mul, nI_add, qsL N _ (by show 160 * s + v < 1280; omega), nI_1]
    obtain ⟨K, k1, k2, k3, k4, k5⟩ := ih (v + 1) fuel (hf_sL N 61 (160 * s + v) 0) (by omega) (by omega) hR
    refine ⟨K, k1, k2, k3, fun c j hc => ?_, fun j h1 h3 => ?_⟩
    · rw [k4 c j (by omega), gL (by omega)]
    · by_cases e : j = v
      · subst e
        rw [k4 61 (160 * s + j) (by omega), gL0]
      · exact k5 j (by omega) h3
/-- a call that changed one shelf -/
theorem Jv_shelf {υ : hU} {M N : hf_M} (hJ : Jv υ M) (hR : iRe M) {s : Nat} (hs : s < 8) (hr : N.2.2 = M.2.2) (hg : ∀ k j, ¬ ((k = 33 + 2 * s ∨ k = 34 + 2 * s) ∨ ((57 ≤ k ∧ k ≤ 60) ∧ j = s) ∨ (k = 61 ∧ 160 * s ≤ j ∧ j < 160 * s + 160) ∨ k = 62) → N.1 k j = M.1 k j ∧ N.2.1 k j = M.2.1 k j) (hn : (N.1 (33 + 2 * s) 1 = -1 ∧ N.1 57 s = 0) ∨ (∃ p, p < yP (uT υ) ∧ N.1 (33 + 2 * s) 1 = nI p ∧ N.1 57 s = 2 ∧ N.1 60 s = nI p) ∨ (∃ o n, o < 4 ∧ n ≤ 160 ∧ N.1 (33 + 2 * s) 1 = nI (100 + o) ∧ N.1 (33 + 2 * s) 2 = nI n ∧ N.1 57 s = 1 ∧ N.1 58 s = nI o ∧ N.1 59 s = nI n ∧ ∀ i, i < n → N.2.1 (34 + 2 * s) i = N.2.1 61 (160 * s + i))) : Inv N := by
  obtain ⟨j1, j2, j3, j4, j5, j6, j7, j8, j9⟩ := hJ
  refine ⟨υ, ⟨fun k j hk => by rw [hr]; exact j1 k j hk, j2, cU_ag (fun k j hk => hg k j (by unfold Zc at hk; omega)) j3, rU_ag (fun k j hk => hg k j (by unfold Zr at hk; omega)) j4, ?_, iIm_ag (fun k j hk => hg k j (by omega)) j6, ?_, iTr_ag (fun k j hk => (hg k j (by omega)).1) j8, fun j => ?_⟩, fun j h1 h2 => ?_⟩
  · intro z hz
    by_cases e : z = s
    · subst e; exact hn
    · have e1 := fun j => (hg (33 + 2 * z) j (by omega)).1
      have e2 := (hg 57 z (by omega)).1
      have e3 := (hg 58 z (by omega)).1
      have e4 := (hg 59 z (by omega)).1
      have e5 := (hg 60 z (by omega)).1
      have e7 := fun j => (hg (34 + 2 * z) j (by omega)).2
      rw [e1, e2, e5]
      rcases j5 z hz with a | a | ⟨o, n, a1, a2, a3, a4, a5, a6, a7, a8⟩
      · exact Or.inl a
      · exact Or.inr (Or.inl a)
      · refine Or.inr (Or.inr ⟨o, n, a1, a2, a3, ?_, a5, ?_, ?_, fun i hi => ?_⟩)
        · rw [e1]; exact a4
        · rw [e3]; exact a6
        · rw [e4]; exact a7
        · rw [e7, (hg 61 (160 * z + i) (by omega)).2]; exact a8 i hi
  · unfold iFa
    rw [(hg 0 8 (by omega)).1, (hg 49 8 (by omega)).1]; exact j7
  · rw [(hg 63 j (by omega)).1]; exact j9 j
  · rw [(hg 32 j (by omega)).1, (hg 50 j (by omega)).1]; exact hR j h1 h2
theorem p_row : hs_row Inv := by
  intro M ⟨υ, hJ, hRe⟩ a1 a2 a3
  have hR := hJ.1
  have hRC : ∀ j, yRf (bC j M) := fun j => hR
  cases hb : yin a1 8
  · refine ⟨-1, bC 1 M, bR 1 (bC 1 M), ?_, ?_, Inv_ref0 hJ hRe⟩
    · unfold s_X4_row
      rw [c_shelf, qb1, hb, qb_ifF, c_ref hR (j := 1) rfl (by decide) (by decide), qb1]
    · unfold s_X5_row
      rw [r_shelf, qb1, hb, qb_ifF, r_no (hRC 1) (j := 1) rfl (by decide), qb1]
  · obtain ⟨s, hs, rfl⟩ := yin_T hb (by decide)
    by_cases h3 : 0 ≤ a3
    · by_cases h2 : a2 < 0 ∨ 3 < a2
      · refine ⟨-6, bC 6 M, bR 6 (bC 6 M), ?_, ?_, Inv_ref0 hJ hRe⟩
        · unfold s_X4_row s_X4_within
          rw [c_shelf, qb1, hb, qb_ifT, if_pos h3]
          rcases h2 with h2 | h2
          · rw [if_pos h2, qb1, if_pos rfl, c_ref hR (j := 6) rfl (by decide) (by decide), qb1]
          · by_cases h2' : a2 < 0
            · rw [if_pos h2', qb1, if_pos rfl, c_ref hR (j := 6) rfl (by decide) (by decide), qb1]
            · rw [if_neg h2', if_pos h2, qb1, if_pos rfl, c_ref hR (j := 6) rfl (by decide) (by decide), qb1]
        · unfold s_X5_row
          rw [r_shelf, qb1, hb, qb_ifT, if_pos h3]
          rcases h2 with h2 | h2
          · rw [if_pos h2, r_no (hRC 6) (j := 6) rfl (by decide), qb1]
          · by_cases h2' : a2 < 0
            · rw [if_pos h2', r_no (hRC 6) (j := 6) rfl (by decide), qb1]
            · rw [if_neg h2', if_neg (Int32.not_le.mpr h2), r_no (hRC 6) (j := 6) rfl (by decide), qb1]
      · have h20 : ¬ a2 < 0 := fun e => h2 (Or.inl e)
        have h23 : ¬ 3 < a2 := fun e => h2 (Or.inr e)
        obtain ⟨o, ho, rfl⟩ := nI_of2 (M := 3) (n := 3) (by decide) h20 (Int32.not_lt.mp h23)
        by_cases h4 : a3 ≤ 160
        · obtain ⟨n, hn, rfl⟩ := nI_of2 (M := 160) (n := 160) (by decide) (Int32.not_lt.mpr h3) h4
          have hlen := sh_len hs
          have e100 : (100 : Int32) + nI o = nI (100 + o) := nI_add 100 o
          have emin : hn_min (nI n) 160 = nI n := by
            have := q_min (a := n) (b := 160) (by omega) (by omega)
            rw [Nat.min_eq_left hn] at this
            exact this
          obtain ⟨K, k1, k2, k3, k4, k5⟩ := c_mk_loop (q := 33 + 2 * s) (n := n) (by rw [show 33 + 2 * s + 1 = 34 + 2 * s by omega]; exact hlen) hn n 0 2000 (hf_sI (hf_sI M (33 + 2 * s) 1 (nI (100 + o))) (33 + 2 * s) 2 (nI n)) (by omega) (by omega) gI0 (by
            show M.2.2 (33 + 2 * s) 0 = _
            rw [sh_r0 hR hs, show 34 + 2 * s = 33 + 2 * s + 1 by omega])
          have hK : yRf K := fun k j hk => by rw [k3]; exact hR k j hk
          obtain ⟨L, l1, l2, l3, l4, l5⟩ := r_mk_loop hs 160 0 2000 (hf_sI (hf_sI (hf_sI K 57 s 1) 58 s (nI o)) 59 s (nI n)) (by omega) (by omega) hK
          have eK : ∀ k j, K.1 k j = (hf_sI (hf_sI M (33 + 2 * s) 1 (nI (100 + o))) (33 + 2 * s) 2 (nI n)).1 k j := fun k j => by rw [k2]
          have eL : ∀ k j, L.1 k j = (hf_sI (hf_sI (hf_sI K 57 s 1) 58 s (nI o)) 59 s (nI n)).1 k j := fun k j => by rw [l2]
          refine ⟨1, K, L, ?_, ?_, Jv_shelf hJ hRe hs (l3.trans k3) (fun k j hk => ⟨?_, ?_⟩) (Or.inr (Or.inr ⟨o, n, by omega, hn, ?_, ?_, ?_, ?_, ?_, fun i hi => ?_⟩))⟩
          · unfold s_X4_row s_X4_within
            rw [c_shelf, qb1, hb, qb_ifT, if_pos h3, if_neg h20, if_neg h23, qb1, if_neg (by decide), if_pos h4, yr0 hR (j := 3) rfl, qrs, sh_ld hR hs]
            unfold s_X2_makeRow
            rw [qpt, e100, qpt, emin]
            have k1' : s_X2_makeRow_21 (33 + 2 * s) 2000 0 (hf_sI (hf_sI M (33 + 2 * s) 1 (nI (100 + o))) (33 + 2 * s) 2 (nI n)) = some ((), K) := k1
            rw [k1', qb1]
          · unfold s_X5_row
            rw [r_shelf, qb1, hb, qb_ifT, if_pos h3, if_neg h20, if_pos (Int32.not_lt.mp h23), if_pos h4, yrf_49 hK (j := 17) rfl, qrs, qsI K _ (by show s < 8; omega)]
            rw [yrf_49 (yrf_I hK) (j := 18) rfl, qrs, qsI _ _ (by show s < 8; omega)]
            rw [yrf_49 (yrf_I (yrf_I hK)) (j := 19) rfl, qrs, qsI _ _ (by show s < 8; omega)]
            exact l1
          · rw [eL, gI (by omega), gI (by omega), gI (by omega), eK, gI (by omega), gI (by omega)]
          · rw [l4 k j (by omega), gIL, gIL, gIL, k4 k j (by omega)]; rfl
          · rw [eL, gI (by omega), gI (by omega), gI (by omega), eK, gI (by omega), gI0]
          · rw [eL, gI (by omega), gI (by omega), gI (by omega), eK, gI0]
          · rw [eL, gI (by omega), gI (by omega), gI0]
          · rw [eL, gI (by omega), gI0]
          · rw [eL, gI0]
          · rw [l5 i (by omega) (by omega), l4 (34 + 2 * s) i (by omega), gIL, gIL, gIL, show 34 + 2 * s = 33 + 2 * s + 1 by omega]
            exact k5 i (by omega) hi
        · refine ⟨-7, bC 7 M, bR 7 (bC 7 M), ?_, ?_, Inv_ref0 hJ hRe⟩
          · unfold s_X4_row s_X4_within
            rw [c_shelf, qb1, hb, qb_ifT, if_pos h3, if_neg h20, if_neg h23, qb1, if_neg (by decide), if_neg h4, c_ref hR (j := 7) rfl (by decide) (by decide), qb1]
          · unfold s_X5_row
            rw [r_shelf, qb1, hb, qb_ifT, if_pos h3, if_neg h20, if_pos (Int32.not_lt.mp h23), if_neg h4, r_no (hRC 7) (j := 7) rfl (by decide), qb1]
    · refine ⟨-4, bC 4 M, bR 4 (bC 4 M), ?_, ?_, Inv_ref0 hJ hRe⟩
      · unfold s_X4_row
        rw [c_shelf, qb1, hb, qb_ifT, if_neg h3, c_ref hR (j := 4) rfl (by decide) (by decide), qb1]
      · unfold s_X5_row
        rw [r_shelf, qb1, hb, qb_ifT, if_neg h3, r_no (hRC 4) (j := 4) rfl (by decide), qb1]
