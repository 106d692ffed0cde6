/-! questions -/
def yWo (τ : hT) (p f : Nat) : Int32 := nI (max (ypop (yWa τ p f true)) (ypop (yWa τ p f false)))
theorem c_worst {υ : hU} {M : hf_M} (hJ : Jv υ M) {p f : Nat} (hp : p < yP (uT υ)) (hf : f < yF (uT υ)) (hu : yFu (uT υ) p = false) : ∃ K, s_X4_worstOf 0 (nI p) (nI f) (yWd (uT υ) yA1 99) M = some (yWo (uT υ) p f, K) ∧ gG (GG (yS (uT υ))) M K := by
  obtain ⟨K, k1, k2⟩ := j_after hJ hp hf hu true
  have hK := Jv_GG hJ k2
  obtain ⟨L, l1, l2⟩ := j_after hK hp hf hu false
  refine ⟨L, ?_, gG_tr k2 l2⟩
  have k1' : s_X3_after 1 (nI p) (nI f) 1 (yWd (uT υ) yA1 99) M = some (yWa (uT υ) p f true, K) := k1
  have l1' : s_X3_after 1 (nI p) (nI f) 0 (yWd (uT υ) yA1 99) K = some (yWa (uT υ) p f false, L) := l1
  have a1 := ypop_le (yWa (uT υ) p f true)
  have a2 := ypop_le (yWa (uT υ) p f false)
  unfold s_X4_worstOf
  rw [j0 hJ, qrs, k1', qb1, c_pop, qb1, j0 hK, qrs, l1', qb1, c_pop, qb1, q_max (by omega) (by omega)]
  rfl
theorem r_worst {υ : hU} {M : hf_M} (hJ : Jv υ M) {p f : Nat} (hp : p < yP (uT υ)) (hf : f < yF (uT υ)) (hu : yFu (uT υ) p = false) : ∃ K, s_X5_worstOf 49 (nI p) (nI f) M = some (yWo (uT υ) p f, K) ∧ gG (GG (yS (uT υ))) M K := by
  obtain ⟨K, k1, k2⟩ := j_leaves hJ hp hf hu true
  have hK := Jv_GG hJ k2
  obtain ⟨L, l1, l2⟩ := j_leaves hK hp hf hu false
  refine ⟨L, ?_, gG_tr k2 l2⟩
  have k1' : s_X5_leaves 49 (nI p) (nI f) 1 M = some (nI (ypop (yWa (uT υ) p f true)), K) := k1
  have l1' : s_X5_leaves 49 (nI p) (nI f) 0 K = some (nI (ypop (yWa (uT υ) p f false)), L) := l1
  have a1 := ypop_le (yWa (uT υ) p f true)
  have a2 := ypop_le (yWa (uT υ) p f false)
  unfold s_X5_worstOf yWo
  rw [k1', qb1, l1', qb1, qi_le rfl rfl (by omega) (by omega)]
  by_cases h : ypop (yWa (uT υ) p f true) ≤ ypop (yWa (uT υ) p f false)
  · rw [if_pos h, Nat.max_eq_right h]
  · rw [if_neg h, Nat.max_eq_left (by omega)]
theorem p_worst : hs_worst Inv := by
  intro M ⟨υ, hJ, hRe⟩ a1 a2
  have hF := (jw hJ).1.1
  have hP := (jw hJ).1.2.1
  cases hb : yin a1 (yP (uT υ))
  · refine ⟨-1, bC 1 M, bR 1 (bC 1 M), ?_, ?_, Inv_ref0 hJ hRe⟩
    · unfold s_X4_worst
      rw [j0 hJ, qrs, j_cS hJ, qb1, hb, qb_ifF, c_ref hJ.1 (j := 1) rfl (by decide) (by decide), qb1]
    · unfold s_X5_worst
      rw [j_rS (Jv_bC hJ), qb1, hb, qb_ifF, r_no (M := bC _ M) hJ.1 (j := 1) rfl (by decide), qb1]
  · obtain ⟨p, hp, rfl⟩ := yin_T hb (by omega)
    cases hb2 : yin a2 (yF (uT υ))
    · refine ⟨-1, bC 1 M, bR 1 (bC 1 M), ?_, ?_, Inv_ref0 hJ hRe⟩
      · unfold s_X4_worst
        rw [j0 hJ, qrs, j_cS hJ, qb1, hb, qb_ifT, j0 hJ, qrs, j_cF hJ, qb1, hb2, qb_ifF, c_ref hJ.1 (j := 1) rfl (by decide) (by decide), qb1]
      · unfold s_X5_worst
        rw [j_rS (Jv_bC hJ), qb1, hb, qb_ifT, j_rF (Jv_bC hJ), qb1, hb2, qb_ifF, r_no (M := bC _ M) hJ.1 (j := 1) rfl (by decide), qb1]
    · obtain ⟨f, hf, rfl⟩ := yin_T hb2 (by omega)
      cases hu : yFu (uT υ) p
      · obtain ⟨K, k1, k2⟩ := c_worst hJ hp hf hu
        have hK := Jv_GG hJ k2
        obtain ⟨L, l1, l2⟩ := r_worst hK hp hf hu
        refine ⟨yWo (uT υ) p f, K, L, ?_, ?_, Inv_GG hJ hRe (gG_tr k2 l2)⟩
        · unfold s_X4_worst
          rw [j0 hJ, qrs, j_cS hJ, qb1, hb, qb_ifT, j0 hJ, qrs, j_cF hJ, qb1, hb2, qb_ifT, j0 hJ, qrs, j_cU hJ hp, qb1, hu, qb_ifF, j0 hJ, qrs, j_poss hJ, qb1, k1, qb1]
        · unfold s_X5_worst
          rw [j_rS hK, qb1, hb, qb_ifT, j_rF hK, qb1, hb2, qb_ifT, j_rU hK hp, qb1, hu, qb_ifF, l1, qb1]
      · refine ⟨-6, bC 6 M, bR 6 (bC 6 M), ?_, ?_, Inv_ref0 hJ hRe⟩
        · unfold s_X4_worst
          rw [j0 hJ, qrs, j_cS hJ, qb1, hb, qb_ifT, j0 hJ, qrs, j_cF hJ, qb1, hb2, qb_ifT, j0 hJ, qrs, j_cU hJ hp, qb1, hu, qb_ifT, c_ref hJ.1 (j := 6) rfl (by decide) (by decide), qb1]
        · unfold s_X5_worst
          rw [j_rS (Jv_bC hJ), qb1, hb, qb_ifT, j_rF (Jv_bC hJ), qb1, hb2, qb_ifT, j_rU (Jv_bC hJ) hp, qb1, hu, qb_ifT, r_no (M := bC _ M) hJ.1 (j := 6) rfl (by decide), qb1]
/-! next -/
def yni (τ : hT) (p f : Nat) (x : Int32 × Int32) : Int32 × Int32 := if x.1 = -1 then (nI (10 * p + f), yWo τ p f) else if yWo τ p f < x.2 then (nI (10 * p + f), yWo τ p f) else x
def ynl (τ : hT) (p : Nat) : Nat → Nat → Int32 × Int32 → Int32 × Int32
  | 0, _, x => x
  | k + 1, f, x => if yFu τ p = true then x else ynl τ p k (f + 1) (yni τ p f x)
theorem q10pf (p f : Nat) : (10 : Int32) * nI p + nI f = nI (10 * p + f) := by
  rw [show (10 : Int32) = nI 10 from rfl, pk_mul, nI_add]
theorem c_nx_in {υ : hU} {p : Nat} (hp : p < yP (uT υ)) (k19 : Int32 → Int32 → Int32 → hf_M → Option (Int32 × hf_M)) : ∀ (k f fu : Nat) (x : Int32 × Int32) (M : hf_M), Jv υ M → yF (uT υ) = f + k → k < fu → ∃ K, s_X4_next_34 k19 0 (yWd (uT υ) yA1 99) (nI p) fu x.1 x.2 (nI f) M = k19 (ynl (uT υ) p k f x).1 (ynl (uT υ) p k f x).2 (nI (p + 1)) K ∧ gG (GG (yS (uT υ))) M K := by
  intro k
  induction k with
  | zero =>
    intro f fu x M hJ hk h1
    have hF := (jw hJ).1.1
    obtain ⟨fu, rfl⟩ : ∃ u, fu = u + 1 := ⟨fu - 1, by omega⟩
    refine ⟨M, ?_, gG_refl _ _⟩
    rw [s_X4_next_34, j0 hJ, qrs, (jc hJ).1.1.1, qi_le rfl rfl (by omega) (by omega), if_pos (by omega), nI_1]; rfl
  | succ k ih =>
    intro f fu x M hJ hk h1
    have hF := (jw hJ).1.1
    obtain ⟨fu, rfl⟩ : ∃ u, fu = u + 1 := ⟨fu - 1, by omega⟩
    cases hu : yFu (uT υ) p
    · obtain ⟨K, k1, k2⟩ := c_worst hJ hp (f := f) (by omega) hu
      obtain ⟨L, l1, l2⟩ := ih (f + 1) fu (yni (uT υ) p f x) K (Jv_GG hJ k2) (by omega) (by omega)
      refine ⟨L, ?_, gG_tr k2 l2⟩
      rw [s_X4_next_34, j0 hJ, qrs, (jc hJ).1.1.1, qi_le rfl rfl (by omega) (by omega), if_neg (by omega), qrs, j_cU hJ hp, qb1, hu, qb_ifF, k1, qb1, nI_1, q10pf]
      have e : ynl (uT υ) p (k + 1) f x = ynl (uT υ) p k (f + 1) (yni (uT υ) p f x) := by
        show (if yFu (uT υ) p = true then x else _) = _
        rw [if_neg (by rw [hu]; decide)]
      rw [e, ← l1]
      unfold yni
      by_cases h : x.1 = -1
      · rw [if_pos h, if_pos h]
      · rw [if_neg h, if_neg h]
        by_cases h2 : x.2 ≤ yWo (uT υ) p f
        · rw [if_pos h2, if_neg (Int32.not_lt.mpr h2)]
        · rw [if_neg h2, if_pos (Int32.not_le.mp h2)]
    · refine ⟨M, ?_, gG_refl _ _⟩
      rw [s_X4_next_34, j0 hJ, qrs, (jc hJ).1.1.1, qi_le rfl rfl (by omega) (by omega), if_neg (by omega), qrs, j_cU hJ hp, qb1, hu, qb_ifT, nI_1]
      have e : ynl (uT υ) p (k + 1) f x = x := by
        show (if yFu (uT υ) p = true then x else _) = _
        rw [if_pos hu]
      rw [e]
theorem r_nx_in {υ : hU} {p : Nat} (hp : p < yP (uT υ)) (k19 : Int32 → Int32 → Int32 → hf_M → Option (Int32 × hf_M)) : ∀ (k f fu : Nat) (x : Int32 × Int32) (M : hf_M), Jv υ M → yF (uT υ) = f + k → k < fu → ∃ K, s_X5_next_17 k19 49 (nI p) fu x.1 x.2 (nI f) M = k19 (ynl (uT υ) p k f x).1 (ynl (uT υ) p k f x).2 (nI (p + 1)) K ∧ gG (GG (yS (uT υ))) M K := by
  intro k
  induction k with
  | zero =>
    intro f fu x M hJ hk h1
    have hF := (jw hJ).1.1
    obtain ⟨fu, rfl⟩ : ∃ u, fu = u + 1 := ⟨fu - 1, by omega⟩
    refine ⟨M, ?_, gG_refl _ _⟩
    rw [s_X5_next_17, (jr hJ).1.1.1, qi_le rfl rfl (by omega) (by omega), if_pos (by omega), nI_1]; rfl
  | succ k ih =>
    intro f fu x M hJ hk h1
    have hF := (jw hJ).1.1
    obtain ⟨fu, rfl⟩ : ∃ u, fu = u + 1 := ⟨fu - 1, by omega⟩
    cases hu : yFu (uT υ) p
    · obtain ⟨K, k1, k2⟩ := r_worst hJ hp (f := f) (by omega) hu
      obtain ⟨L, l1, l2⟩ := ih (f + 1) fu (yni (uT υ) p f x) K (Jv_GG hJ k2) (by omega) (by omega)
      refine ⟨L, ?_, gG_tr k2 l2⟩
      rw [s_X5_next_17, (jr hJ).1.1.1, qi_le rfl rfl (by omega) (by omega), if_neg (by omega), j_rU hJ hp, qb1, hu, qb_ifF, k1, qb1, nI_1, q10pf]
      have e : ynl (uT υ) p (k + 1) f x = ynl (uT υ) p k (f + 1) (yni (uT υ) p f x) := by
        show (if yFu (uT υ) p = true then x else _) = _
        rw [if_neg (by rw [hu]; decide)]
      rw [e, ← l1]
      unfold yni
      by_cases h : x.1 = -1
      · rw [if_pos h, if_pos h]
      · rw [if_neg h, if_neg h]
        by_cases h2 : yWo (uT υ) p f < x.2
        · rw [if_pos h2, if_pos h2]
        · rw [if_neg h2, if_neg h2]
    · refine ⟨M, ?_, gG_refl _ _⟩
      rw [s_X5_next_17, (jr hJ).1.1.1, qi_le rfl rfl (by omega) (by omega), if_neg (by omega), j_rU hJ hp, qb1, hu, qb_ifT, nI_1]
      have e : ynl (uT υ) p (k + 1) f x = x := by
        show (if yFu (uT υ) p = true then x else _) = _
        rw [if_pos hu]
      rw [e]
def ynx (τ : hT) : Nat → Nat → Int32 × Int32 → Int32 × Int32
  | 0, _, x => x
  | k + 1, p, x => ynx τ k (p + 1) (ynl τ p (yF τ) 0 x)
theorem c_nx_out {υ : hU} : ∀ (k p fu : Nat) (x : Int32 × Int32) (M : hf_M), Jv υ M → yP (uT υ) = p + k → k < fu → ∃ K, s_X4_next_19 0 (yWd (uT υ) yA1 99) fu x.1 x.2 (nI p) M = (if (ynx (uT υ) k p x).1 = -1 then some (-5, bC 5 K) else some ((ynx (uT υ) k p x).1, K)) ∧ gG (GG (yS (uT υ))) M K := by
  intro k
  induction k with
  | zero =>
    intro p fu x M hJ hk h1
    have hP := (jw hJ).1.2.1
    obtain ⟨fu, rfl⟩ : ∃ u, fu = u + 1 := ⟨fu - 1, by omega⟩
    refine ⟨M, ?_, gG_refl _ _⟩
    rw [s_X4_next_19, j0 hJ, qrs, (jc hJ).1.1.2.1, qi_le rfl rfl (by omega) (by omega), if_pos (by omega), c_ref hJ.1 (j := 5) rfl (by decide) (by decide), qb1]; rfl
  | succ k ih =>
    intro p fu x M hJ hk h1
    have hP := (jw hJ).1.2.1
    have hF := (jw hJ).1.1
    obtain ⟨fu, rfl⟩ : ∃ u, fu = u + 1 := ⟨fu - 1, by omega⟩
    obtain ⟨K, k1, k2⟩ := c_nx_in (υ := υ) (p := p) (by omega) (s_X4_next_19 0 (yWd (uT υ) yA1 99) fu) (yF (uT υ)) 0 2000 x M hJ (by omega) (by omega)
    obtain ⟨L, l1, l2⟩ := ih (p + 1) fu (ynl (uT υ) p (yF (uT υ)) 0 x) K (Jv_GG hJ k2) (by omega) (by omega)
    refine ⟨L, ?_, gG_tr k2 l2⟩
    rw [s_X4_next_19, j0 hJ, qrs, (jc hJ).1.1.2.1, qi_le rfl rfl (by omega) (by omega), if_neg (by omega)]
    exact k1.trans l1
theorem r_nx_out {υ : hU} : ∀ (k p fu : Nat) (x : Int32 × Int32) (M : hf_M), Jv υ M → yP (uT υ) = p + k → k < fu → ∃ K, s_X5_next_6 49 fu x.1 x.2 (nI p) M = (if (ynx (uT υ) k p x).1 = -1 then some (-5, bR 5 K) else some ((ynx (uT υ) k p x).1, K)) ∧ gG (GG (yS (uT υ))) M K := by
  intro k
  induction k with
  | zero =>
    intro p fu x M hJ hk h1
    have hP := (jw hJ).1.2.1
    obtain ⟨fu, rfl⟩ : ∃ u, fu = u + 1 := ⟨fu - 1, by omega⟩
    refine ⟨M, ?_, gG_refl _ _⟩
    rw [s_X5_next_6, (jr hJ).1.1.2.1, qi_le rfl rfl (by omega) (by omega), if_pos (by omega), r_no hJ.1 (j := 5) rfl (by decide), qb1]; rfl
  | succ k ih =>
    intro p fu x M hJ hk h1
    have hP := (jw hJ).1.2.1
    have hF := (jw hJ).1.1
    obtain ⟨fu, rfl⟩ : ∃ u, fu = u + 1 := ⟨fu - 1, by omega⟩
    obtain ⟨K, k1, k2⟩ := r_nx_in (υ := υ) (p := p) (by omega) (s_X5_next_6 49 fu) (yF (uT υ)) 0 2000 x M hJ (by omega) (by omega)
    obtain ⟨L, l1, l2⟩ := ih (p + 1) fu (ynl (uT υ) p (yF (uT υ)) 0 x) K (Jv_GG hJ k2) (by omega) (by omega)
    refine ⟨L, ?_, gG_tr k2 l2⟩
    rw [s_X5_next_6, (jr hJ).1.1.2.1, qi_le rfl rfl (by omega) (by omega), if_neg (by omega)]
    exact k1.trans l1
theorem p_next : hs_next Inv := by
  intro M ⟨υ, hJ, hRe⟩
  have hP := (jw hJ).1.2.1
  obtain ⟨K, k1, k2⟩ := c_nx_out (yP (uT υ)) 0 2000 (-1, 0) M hJ (by omega) (by omega)
  have hc : s_X4_next 0 M = s_X4_next_19 0 (yWd (uT υ) yA1 99) 2000 (-1) 0 0 M := by
    unfold s_X4_next
    rw [j0 hJ, qrs, j_poss hJ, qb1]
  by_cases h : (ynx (uT υ) (yP (uT υ)) 0 (-1, 0)).1 = -1
  · obtain ⟨L, l1, l2⟩ := r_nx_out (yP (uT υ)) 0 2000 (-1, 0) (bC 5 K) (Jv_bC (Jv_GG hJ k2)) (by omega) (by omega)
    rw [if_pos h] at k1 l1
    exact ⟨-5, bC 5 K, bR 5 L, hc.trans k1, l1, Inv_ref hJ hRe k2 l2⟩
  · obtain ⟨L, l1, l2⟩ := r_nx_out (yP (uT υ)) 0 2000 (-1, 0) K (Jv_GG hJ k2) (by omega) (by omega)
    rw [if_neg h] at k1 l1
    exact ⟨_, K, L, hc.trans k1, l1, Inv_GG hJ hRe (gG_tr k2 l2)⟩
