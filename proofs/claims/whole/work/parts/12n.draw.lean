/-! draws -/
theorem q_lot (s : Int32) : ∃ x, x < 65536 ∧ hn_iushr s 16 = nI x := by
  refine ⟨s.toBitVec.toNat / 65536, ?_, ?_⟩
  · have := s.toBitVec.isLt
    omega
  · unfold hn_iushr
    apply Int32.toBitVec_inj.mp
    apply BitVec.eq_of_toNat_eq
    rw [pk_ushr s 16 16 (by decide), pk_tn (by have := s.toBitVec.isLt; omega)]
def ylt (s : Int32) : Int32 := s * 1103515245 + 12345
def ylo (s : Int32) (n : Nat) : Nat := (hn_iushr (ylt s) 16).toNatClampNeg % n
theorem q_lotn (s : Int32) {n : Nat} (h0 : 0 < n) (hn : n < 2 ^ 31) : hn_irem (hn_iushr (ylt s) 16) (nI n) = nI (ylo s n) := by
  obtain ⟨x, hx, e⟩ := q_lot (ylt s)
  unfold ylo
  rw [e, nI_clamp (by omega), qrem (by omega) h0 hn]
theorem c_lot {q : Nat} {M : hf_M} {s : Int32} (h : M.1 q 15 = s) {n : Nat} (h0 : 0 < n) (hn : n < 2 ^ 31) : s_X3_drawBelow q (nI n) M = some (nI (ylo s n), hf_sI M q 15 (ylt s)) := by
  unfold s_X3_drawBelow
  rw [h, qpt, if_neg (nI_nle h0 hn), gI0]
  unfold hf_nz
  rw [if_neg (nI_ne0 h0 hn)]
  exact congrArg (fun x => some (x, hf_sI M q 15 (ylt s))) (q_lotn s h0 hn)
theorem r_lot {M : hf_M} {s : Int32} (h : M.1 49 6 = s) {n : Nat} (h0 : 0 < n) (hn : n < 2 ^ 31) : s_X5_lot 49 (nI n) M = some (nI (ylo s n), hf_sI M 49 6 (ylt s)) := by
  unfold s_X5_lot
  rw [h, qpt, gI0]
  unfold hf_nz
  rw [if_neg (nI_ne0 h0 hn)]
  exact congrArg (fun x => some (x, hf_sI M 49 6 (ylt s))) (q_lotn s h0 hn)
theorem ypc_nth {f : Nat → Bool} {k : Nat} : ∀ n, k < ypc f n → ∃ d, d < n ∧ f d = true ∧ ypc f d = k
  | 0, h => by
    have : ypc f 0 = 0 := rfl
    omega
  | n + 1, h => by
    have e : ypc f (n + 1) = ypc f n + (if f n = true then 1 else 0) := rfl
    by_cases h2 : k < ypc f n
    · obtain ⟨d, d1, d2, d3⟩ := ypc_nth n h2
      exact ⟨d, by omega, d2, d3⟩
    · cases hf : f n
      · rw [hf, if_neg (by decide)] at e
        omega
      · rw [hf, if_pos rfl] at e
        exact ⟨n, by omega, hf, by omega⟩
theorem ypc_mono (f : Nat → Bool) {a b : Nat} (h : a ≤ b) : ypc f a ≤ ypc f b := by
  rw [show b = a + (b - a) by omega, ypc_split]
  omega
theorem ypc_uniq {f : Nat → Bool} {a b : Nat} (ha : f a = true) (hb : f b = true) (h : ypc f a = ypc f b) : a = b := by
  have e : ∀ n, f n = true → ypc f (n + 1) = ypc f n + 1 := fun n hn => by
    show ypc f n + (if f n = true then 1 else 0) = _
    rw [if_pos hn]
  rcases Nat.lt_trichotomy a b with h1 | h1 | h1
  · have := ypc_mono f (show a + 1 ≤ b from h1)
    have := e a ha
    omega
  · exact h1
  · have := ypc_mono f (show b + 1 ≤ a from h1)
    have := e b hb
    omega
theorem c_dr_loop (x : Int64) (c : Int32) {d k0 : Nat} (hd : d < 64) (hx : qlb x d = true) (hk : ypc (qlb x) d = k0) : ∀ (k v fu : Nat) (M : hf_M), 64 = v + k → k < fu → yRf M → s_X4_draw_29 0 x c fu (nI k0 - nI (ypc (qlb x) v)) (nI v) M = some (c, if d < v then M else hf_sI M 1 16 (nI d)) := by
  have hk64 : k0 ≤ 64 := by rw [← hk]; exact Nat.le_trans (ypc_le _ _) (by omega)
  intro k
  induction k with
  | zero =>
    intro v fu M hv hf hR
    obtain ⟨fu, rfl⟩ : ∃ u, fu = u + 1 := ⟨fu - 1, by omega⟩
    rw [s_X4_draw_29, qi_le (show (64 : Int32) = nI 64 from rfl) rfl (by omega) (by omega), if_pos (by omega), if_pos (by omega)]
  | succ k ih =>
    intro v fu M hv hf hR
    obtain ⟨fu, rfl⟩ : ∃ u, fu = u + 1 := ⟨fu - 1, by omega⟩
    have hle := ypc_le (qlb x) v
    have e : ypc (qlb x) (v + 1) = ypc (qlb x) v + (if qlb x v = true then 1 else 0) := rfl
    rw [s_X4_draw_29, qi_le (show (64 : Int32) = nI 64 from rfl) rfl (by omega) (by omega), if_neg (by omega), c_bit x (by omega), qb1, nI_1]
    cases hb : qlb x v
    · have i1 := ih (v + 1) fu M (by omega) (by omega) hR
      rw [e, hb, if_neg (by decide)] at i1
      have hne : d ≠ v := fun e => by rw [e, hb] at hx; cases hx
      have ed : (if d < v then M else hf_sI M 1 16 (nI d)) = if d < v + 1 then M else hf_sI M 1 16 (nI d) := by
        by_cases h : d < v
        · rw [if_pos h, if_pos (by omega)]
        · rw [if_neg h, if_neg (by omega)]
      rw [if_neg (by decide), ed]
      exact i1
    · have e2 : (nI k0 - nI (ypc (qlb x) v)) + -1 = nI k0 - nI (ypc (qlb x) (v + 1)) := by
        rw [e, hb, if_pos rfl, ← nI_1]
        simp only [Int32.sub_eq_add_neg, Int32.neg_add, Int32.add_assoc]
      rw [if_pos (by decide), e2]
      by_cases hz : ypc (qlb x) v = k0
      · have hvd : v = d := ypc_uniq hb hx (hz.trans hk.symm)
        subst hvd
        have h0 : nI k0 - nI (ypc (qlb x) v) = 0 := by rw [hz]; exact Int32.sub_self _
        have i1 := ih (v + 1) fu (hf_sI M 1 16 (nI v)) (by omega) (by omega) (yrf_I hR)
        rw [if_pos h0, yr0 hR (j := 0) rfl, qrs, qpt, i1, if_pos (by omega), if_neg (by omega)]
      · have h0 : ¬ nI k0 - nI (ypc (qlb x) v) = 0 := by
          intro h
          have h1 := congrArg Int32.toInt h
          rw [pk_sub_toInt (by omega) (by omega)] at h1
          have h2 : (0 : Int32).toInt = 0 := by decide
          omega
        have hne : d ≠ v := fun e => hz (by rw [← e]; exact hk)
        have i1 := ih (v + 1) fu M (by omega) (by omega) hR
        have ed : (if d < v then M else hf_sI M 1 16 (nI d)) = if d < v + 1 then M else hf_sI M 1 16 (nI d) := by
          by_cases h : d < v
          · rw [if_pos h, if_pos (by omega)]
          · rw [if_neg h, if_neg (by omega)]
        rw [if_neg h0, ed]
        exact i1
theorem r_dr_loop (x : Int64) (c : Int32) {d k0 : Nat} (hd : d < 64) (hx : qlb x d = true) (hk : ypc (qlb x) d = k0) (M : hf_M) : ∀ (k v fu kk : Nat), d = v + k → k < fu → kk + ypc (qlb x) v = k0 → s_X5_draw_27 49 x c fu (nI kk) (nI v) M = some (c, hf_sI M 49 7 (nI d)) := by
  have hk64 : k0 ≤ 64 := by rw [← hk]; exact Nat.le_trans (ypc_le _ _) (by omega)
  intro k
  induction k with
  | zero =>
    intro v fu kk hv hf hkk
    obtain ⟨fu, rfl⟩ : ∃ u, fu = u + 1 := ⟨fu - 1, by omega⟩
    have hvd : v = d := by omega
    subst hvd
    rw [s_X5_draw_27, qlshr1 x hd, q_if_lg, hx, if_neg (show ¬ 0 < nI kk by rw [show kk = 0 by omega]; decide), if_pos rfl, qpt]
  | succ k ih =>
    intro v fu kk hv hf hkk
    obtain ⟨fu, rfl⟩ : ∃ u, fu = u + 1 := ⟨fu - 1, by omega⟩
    have e : ypc (qlb x) (v + 1) = ypc (qlb x) v + (if qlb x v = true then 1 else 0) := rfl
    rw [s_X5_draw_27, qlshr1 x (by omega), q_if_lg, q_if_lg1, nI_1]
    cases hb : qlb x v
    · rw [hb, if_neg (by decide)] at e
      have i1 := ih (v + 1) fu kk (by omega) (by omega) (by omega)
      rw [if_neg (show ¬ false = true by decide), if_neg (show ¬ false = true by decide), i1]
      by_cases h : 0 < nI kk
      · rw [if_pos h]
      · rw [if_neg h]
    · rw [hb, if_pos rfl] at e
      have h1 : ypc (qlb x) (v + 1) ≤ ypc (qlb x) d := ypc_mono _ (by omega)
      obtain ⟨k', rfl⟩ : ∃ u, kk = u + 1 := ⟨kk - 1, by omega⟩
      have i1 := ih (v + 1) fu k' (by omega) (by omega) (by omega)
      rw [if_pos (show 0 < nI (k' + 1) from nI_lt (a := 0) (by omega) (by omega)), if_pos rfl, pk_m1]
      exact i1
theorem p_truly : hs_truly Inv := by
  intro M ⟨υ, hJ, hRe⟩ a1
  have hF := (jw hJ).1.1
  have h64 := q_pow64 hF
  cases hb : yin a1 (2 ^ yF (uT υ))
  · refine ⟨-1, bC 1 M, bR 1 (bC 1 M), ?_, ?_, Inv_ref0 hJ hRe⟩
    · unfold s_X4_truly
      rw [j0 hJ, qrs, c_isWo hJ, qb1, hb, qb_ifF, c_ref hJ.1 (j := 1) rfl (by decide) (by decide), qb1]
    · unfold s_X5_truly
      rw [(jr (Jv_bC hJ)).1.1.1, q_pow hF, r_no (M := bC _ M) hJ.1 (j := 1) rfl (by decide), qb1]
      by_cases h1 : a1 < 0
      · rw [if_pos h1]
      · rw [if_neg h1, if_neg (yin_F hb h1)]
  · obtain ⟨w, hw, rfl⟩ := yin_T hb (by omega)
    have hlt : nI w < nI (2 ^ yF (uT υ)) := nI_lt hw (by omega)
    by_cases hm : uw υ = -1
    · refine ⟨-6, bC 6 M, bR 6 (bC 6 M), ?_, ?_, Inv_ref0 hJ hRe⟩
      · unfold s_X4_truly
        rw [j0 hJ, qrs, c_isWo hJ, qb1, hb, qb_ifT, j0 hJ, qrs, (jc hJ).2.2.2.2.2.2, if_pos hm, c_ref hJ.1 (j := 6) rfl (by decide) (by decide), qb1]
      · unfold s_X5_truly
        rw [if_neg (nI_pos (by omega)), (jr (Jv_bC hJ)).1.1.1, q_pow hF, if_pos hlt, (jr (Jv_bC hJ)).2.2.2.2, if_pos hm, r_no (M := bC _ M) hJ.1 (j := 6) rfl (by decide), qb1]
    · refine ⟨if uw υ = nI w then 1 else 0, M, M, ?_, ?_, υ, hJ, hRe⟩
      · unfold s_X4_truly
        rw [j0 hJ, qrs, c_isWo hJ, qb1, hb, qb_ifT, j0 hJ, qrs, (jc hJ).2.2.2.2.2.2, if_neg hm, qrs, (jc hJ).2.2.2.2.2.2]
        by_cases h : uw υ = nI w
        · rw [if_pos h, if_pos h]
        · rw [if_neg h, if_neg h]
      · unfold s_X5_truly
        rw [if_neg (nI_pos (by omega)), (jr hJ).1.1.1, q_pow hF, if_pos hlt, (jr hJ).2.2.2.2, if_neg hm]
        by_cases h : uw υ = nI w
        · rw [if_pos h, if_pos h.symm]
        · rw [if_neg h, if_neg (fun e => h e.symm)]
theorem p_trace : hs_trace Inv := by
  intro M ⟨υ, hJ, hRe⟩ a1
  obtain ⟨n, hn, t1, t2, t3⟩ := hJ.2.2.2.2.2.2.2.1
  have h5 : M.2.2 0 5 = some 30 := yr0 hJ.1 rfl
  have h300 : M.2.2 30 0 = some 31 := (hJ.1 30 0 (by decide)).trans rfl
  have h35 : M.2.2 49 35 = some 68 := yrf_49 hJ.1 rfl
  have hno : (a1 < 0 ∨ 20 ≤ a1 ∨ nI n ≤ a1) → ∃ r M1 M2, s_X4_trace 0 a1 M = some (r, M1) ∧ s_X5_trace 49 a1 M1 = some (r, M2) ∧ Inv M2 := by
    intro hv
    refine ⟨-1, M, M, ?_, ?_, υ, hJ, hRe⟩
    · unfold s_X4_trace
      by_cases g1 : a1 < 0
      · rw [if_pos g1]
      · by_cases g2 : 20 ≤ a1
        · rw [if_neg g1, if_pos g2]
        · rw [if_neg g1, if_neg g2, h5, qrs, t1, if_pos ((hv.resolve_left g1).resolve_left g2)]
    · unfold s_X5_trace
      by_cases g1 : a1 < 0
      · rw [if_pos g1]
      · by_cases g2 : 20 ≤ a1
        · rw [if_neg g1, if_pos g2]
        · rw [if_neg g1, if_neg g2, t2, if_pos ((hv.resolve_left g1).resolve_left g2)]
  by_cases g1 : a1 < 0
  · exact hno (Or.inl g1)
  by_cases g2 : 20 ≤ a1
  · exact hno (Or.inr (Or.inl g2))
  by_cases g3 : nI n ≤ a1
  · exact hno (Or.inr (Or.inr g3))
  obtain ⟨i, hi, rfl⟩ := ((pk_ix a1 (n := 20) (by decide)).resolve_left g1).resolve_left g2
  have hin : i < n := by
    rcases Nat.lt_or_ge i n with h | h
    · exact h
    · exact absurd (nI_le h (by omega)) g3
  refine ⟨M.1 31 i, M, M, ?_, ?_, υ, hJ, hRe⟩
  · unfold s_X4_trace
    rw [if_neg g1, if_neg g2, h5, qrs, t1, if_neg g3, qrs, h300, qrs, qlI M (by show i < 20; omega)]
  · unfold s_X5_trace
    rw [if_neg g1, if_neg g2, t2, if_neg g3, h35, qrs, qlI M (by show i < 20; omega), t3 i hin hi]
theorem p_status : hs_status Inv := by
  intro M ⟨υ, hJ, hRe⟩ a1
  obtain ⟨n, hn, t1, t2, t3⟩ := hJ.2.2.2.2.2.2.2.1
  have h0 := j0 hJ
  have h5 : M.2.2 0 5 = some 30 := yr0 hJ.1 rfl
  have h6 : M.2.2 0 6 = some 32 := yr0 hJ.1 rfl
  have h10 : M.2.2 49 10 = some 50 := yrf_49 hJ.1 rfl
  obtain ⟨⟨⟨b8, b9, b10, b12, b13, b11⟩, hk, hs⟩, hv, hw2, hh, h14, h15, h16⟩ := jc hJ
  obtain ⟨⟨⟨c0, c1, c2, c3, c4, c9⟩, ck, cs⟩, ch, c5, c6, c7⟩ := jr hJ
  by_cases hv : 11 ≤ a1 ∧ a1 ≤ 17
  · have ha : ¬ a1 < 11 := Int32.not_lt.mpr hv.1
    have hb : ¬ 17 < a1 := Int32.not_lt.mpr hv.2
    obtain ⟨z, hz, rfl⟩ := nI_of2 (x := a1) (M := 17) (n := 17) (by decide) (fun e => ha (Int32.lt_trans e (by decide))) hv.2
    have hz2 : 11 ≤ z := by
      rcases Nat.lt_or_ge z 11 with h | h
      · exact absurd (nI_lt (b := 11) h (by decide)) ha
      · exact h
    have e10 : nI z - 10 = nI (z - 10) := pk_sub (a := z) (b := 10) (by omega)
    refine ⟨M.1 32 (z - 10), M, M, ?_, ?_, υ, hJ, hRe⟩
    · unfold s_X4_status s_X4_within
      rw [if_neg ha, if_neg hb, qb1, if_neg q10, h6, qrs, e10, qlI M (by show z - 10 < 8; omega)]
    · unfold s_X5_status
      rw [if_neg ha, if_neg hb, h10, qrs, e10, qlI M (by show z - 10 < 8; omega), hRe (z - 10) (by omega) (by omega)]
  · have ew : s_X4_within a1 11 17 M = some (0, M) := by
      unfold s_X4_within
      by_cases h1 : a1 < 11
      · rw [if_pos h1]
      · rw [if_neg h1, if_pos (Int32.not_le.mp (fun e => hv ⟨Int32.not_lt.mp h1, e⟩))]
    refine ⟨if a1 = 0 then nI (yF (uT υ)) else if a1 = 1 then nI (yP (uT υ)) else if a1 = 2 then nI (yS (uT υ)) else if a1 = 3 then nI (ypop (yl (uT υ))) else if a1 = 4 then nI (yn (uT υ)) else if a1 = 5 then nI (yt (uT υ)) else if a1 = 6 then ud υ else if a1 = 7 then us υ else if a1 = 8 then nI n else -1, M, M, ?_, ?_, υ, hJ, hRe⟩
    · unfold s_X4_status
      rw [ew, qb1, if_pos rfl, h0, h5]
      simp only [qrs, b8, b9, b10, b12, b13, b11, h14, h15, t1, c_pop, qb1]
      split <;> first | rfl | (split <;> first | rfl | (split <;> first | rfl | (split <;> first | rfl | (split <;> first | rfl | (split <;> first | rfl | (split <;> first | rfl | (split <;> first | rfl | (split <;> rfl))))))))
    · have e2 : s_X5_status 49 a1 M = (if a1 = 0 then some (nI (yF (uT υ)), M) else if a1 = 1 then some (nI (yP (uT υ)), M) else if a1 = 2 then some (nI (yS (uT υ)), M) else if a1 = 3 then some (nI (ypop (yl (uT υ))), M) else if a1 = 4 then some (nI (yn (uT υ)), M) else if a1 = 5 then some (nI (yt (uT υ)), M) else if a1 = 6 then some (ud υ, M) else if a1 = 7 then some (us υ, M) else if a1 = 8 then some (nI n, M) else some (-1, M)) := by
        unfold s_X5_status
        by_cases h1 : a1 < 11
        · rw [if_pos h1]
          simp only [c0, c1, c2, c3, c4, c9, c5, c6, t2, r_count, qb1]
        · rw [if_neg h1, if_pos (Int32.not_le.mp (fun e => hv ⟨Int32.not_lt.mp h1, e⟩))]
          simp only [c0, c1, c2, c3, c4, c9, c5, c6, t2, r_count, qb1]
      rw [e2]
      split <;> first | rfl | (split <;> first | rfl | (split <;> first | rfl | (split <;> first | rfl | (split <;> first | rfl | (split <;> first | rfl | (split <;> first | rfl | (split <;> first | rfl | (split <;> rfl))))))))
