/-! what can be -/
theorem c_bit (x : Int64) {w : Nat} (hw : w < 64) (M : hf_M) : s_X4_bit x (nI w) M = some (qbI (qlb x w), M) := by
  unfold s_X4_bit
  rw [qlushr1 x hw]
  cases qlb x w <;> rfl
theorem c_isWo {υ : hU} {M : hf_M} (hJ : Jv υ M) (a : Int32) : s_X3_isWorld 1 a M = some (qbI (yin a (2 ^ yF (uT υ))), M) := by
  unfold s_X3_isWorld
  rw [(jc hJ).1.1.1, q_pow (jw hJ).1.1, q_if0n]
theorem yin_F {a : Int32} {n : Nat} (h : yin a n = false) (h0 : ¬ a < 0) : ¬ a < nI n := by
  unfold yin at h
  rw [decide_eq_false h0, Bool.not_false, Bool.true_and, Bool.not_eq_false', decide_eq_true_eq] at h
  exact Int32.not_lt.mpr h
theorem p_canBe : hs_canBe Inv := by
  intro M ⟨υ, hJ, hRe⟩ a1 a2
  have hF := (jw hJ).1.1
  have hP := (jw hJ).1.2.1
  have hS := jS hJ
  have h64 := q_pow64 hF
  cases hb : yin a1 (yP (uT υ))
  · refine ⟨-1, bC 1 M, bR 1 (bC 1 M), ?_, ?_, Inv_ref0 hJ hRe⟩
    · unfold s_X4_canBe
      rw [j0 hJ, qrs, j_cS hJ, qb1, hb, qb_ifF, c_ref hJ.1 (j := 1) rfl (by decide) (by decide), qb1]
    · unfold s_X5_canBe
      rw [j_rS (Jv_bC hJ), qb1, hb, qb_ifF, r_no (M := bC _ M) hJ.1 (j := 1) rfl (by decide), qb1]
  · obtain ⟨p, hp, rfl⟩ := yin_T hb (by omega)
    cases hb2 : yin a2 (2 ^ yF (uT υ))
    · refine ⟨-1, bC 1 M, bR 1 (bC 1 M), ?_, ?_, Inv_ref0 hJ hRe⟩
      · unfold s_X4_canBe
        rw [j0 hJ, qrs, j_cS hJ, qb1, hb, qb_ifT, j0 hJ, qrs, c_isWo hJ, qb1, hb2, qb_ifF, c_ref hJ.1 (j := 1) rfl (by decide) (by decide), qb1]
      · unfold s_X5_canBe
        rw [j_rS (Jv_bC hJ), qb1, hb, qb_ifT, (jr (Jv_bC hJ)).1.1.1, q_pow hF, r_no (M := bC _ M) hJ.1 (j := 1) rfl (by decide), qb1]
        by_cases h1 : a2 < 0
        · rw [if_pos h1]
        · rw [if_neg h1, if_neg (yin_F hb2 h1)]
    · obtain ⟨w, hw, rfl⟩ := yin_T hb2 (by omega)
      refine ⟨qbI (yok (uT υ) p yA1 w), M, M, ?_, ?_, υ, hJ, hRe⟩
      · unfold s_X4_canBe
        rw [j0 hJ, qrs, j_cS hJ, qb1, hb, qb_ifT, j0 hJ, qrs, c_isWo hJ, qb1, hb2, qb_ifT, j0 hJ, qrs, c_allowed hJ.1 q1 (jw hJ) (jc hJ).1 (by omega) hp (jc hJ).2.1 (x := -1) (ch := yA1) (fun i hi => qlb_m1 (by omega)), qb1, c_bit _ (by omega), qb1]
        unfold yAl
        rw [qof_b _ (by omega)]
      · unfold s_X5_canBe
        rw [j_rS hJ, qb1, hb, qb_ifT, if_neg (nI_pos (by omega)), (jr hJ).1.1.1, q_pow hF, if_pos (nI_lt hw (by omega)), r_canBeOf hJ.1 (jw hJ) (jr hJ).1 hp (by omega) (ch := yA1) (yset_all _ (by omega)), qb1]
        cases yok (uT υ) p yA1 w <;> rfl
theorem yok_tr {τ : hT} {p f f' r w : Nat} {b b' : Bool} {ch : Nat → Bool} (h : (w.testBit f == b) = (w.testBit f' == b')) : yok (yad τ p f b) r ch w = yok (yad τ p f' b') r ch w := by
  refine yok_same (τ := yad τ p f' b') (σ := yad τ p f b) rfl rfl rfl rfl rfl (fun j hj => ⟨rfl, ?_⟩)
  have hj' : j < yS τ + 1 := hj
  by_cases e : j = yS τ
  · subst e
    rw [yad_tr0, yad_tr0]; exact h
  · rw [yad_tr (by omega), yad_tr (by omega)]
def yex (g : Nat → Bool) : Nat → Nat → Bool
  | 0, _ => false
  | k + 1, v => g v || yex g k (v + 1)
theorem yex_iff {g : Nat → Bool} : ∀ (k v : Nat), yex g k v = true ↔ ∃ w, v ≤ w ∧ w < v + k ∧ g w = true
  | 0, v => by
    constructor
    · intro h; cases h
    · rintro ⟨w, h1, h2, -⟩; omega
  | k + 1, v => by
    show (_ || _) = true ↔ _
    rw [Bool.or_eq_true, yex_iff k (v + 1)]
    constructor
    · rintro (h | ⟨w, h1, h2, h3⟩)
      · exact ⟨v, Nat.le_refl _, by omega, h⟩
      · exact ⟨w, by omega, by omega, h3⟩
    · rintro ⟨w, h1, h2, h3⟩
      by_cases e : w = v
      · subst e; exact Or.inl h3
      · exact Or.inr ⟨w, by omega, by omega, h3⟩
/-- whether a next saying, true or not as t says, can be in a world of W -/
def ycg (τ : hT) (p : Nat) (t : Bool) (w : Nat) : Bool := qlb (yWd τ yA1 99) w && yok (yad τ p 0 (w.testBit 0 == t)) p yA1 w
theorem j_lets {υ : hU} {M : hf_M} (hJ : Jv υ M) {p : Nat} (hp : p < yP (uT υ)) (hu : yFu (uT υ) p = false) (b : Bool) {w : Nat} (hw : w < 64) : ∃ K, s_X5_lets 49 (nI p) (nI w) (qbI b) M = some (qbI (yok (yad (uT υ) p 0 (w.testBit 0 == b)) p yA1 w), K) ∧ gG (GG (yS (uT υ))) M K := by
  have hS := jS hJ
  obtain ⟨K, k1, k2⟩ := r_lets (b := b) hJ.1 (jw hJ) (jr hJ).1 hp (yFu_f hu) (by omega) hw
  exact ⟨K, k1, gr_GG k2 (Nat.le_refl _)⟩
theorem j_nx {υ : hU} {M : hf_M} (hJ : Jv υ M) {p : Nat} (hp : p < yP (uT υ)) (hu : yFu (uT υ) p = false) (b : Bool) : ∃ K, s_X3_allowedNext 1 (nI p) (qbI b) M = some (yNx (uT υ) p b, K) ∧ gG (GG (yS (uT υ))) M K := by
  have hS := jS hJ
  obtain ⟨K, k1, k2⟩ := c_next (b := b) hJ.1 q1 (jw hJ) (jc hJ).1 (by omega) (jc hJ).2.1 hp (yFu_f hu)
  exact ⟨K, k1, gc_GG k2 (Nat.le_refl _)⟩
theorem r_can_loop {υ : hU} {p : Nat} (hp : p < yP (uT υ)) (hu : yFu (uT υ) p = false) (t : Bool) : ∀ (k v fu : Nat) (M : hf_M), Jv υ M → 2 ^ yF (uT υ) = v + k → k < fu → ∃ K, s_X5_can_87 49 (nI p) (qbI t) (yWd (uT υ) yA1 99) fu (nI v) M = some (qbI (yex (ycg (uT υ) p t) k v), K) ∧ gG (GG (yS (uT υ))) M K := by
  intro k
  induction k with
  | zero =>
    intro v fu M hJ hk hfu
    have hF := (jw hJ).1.1
    have h64 := q_pow64 hF
    obtain ⟨fu, rfl⟩ : ∃ u, fu = u + 1 := ⟨fu - 1, by omega⟩
    refine ⟨M, ?_, gG_refl _ _⟩
    rw [s_X5_can_87, (jr hJ).1.1.1, q_pow hF, qi_le rfl rfl (by omega) (by omega), if_pos (by omega)]; rfl
  | succ k ih =>
    intro v fu M hJ hk hfu
    have hF := (jw hJ).1.1
    have h64 := q_pow64 hF
    obtain ⟨fu, rfl⟩ : ∃ u, fu = u + 1 := ⟨fu - 1, by omega⟩
    rw [s_X5_can_87, (jr hJ).1.1.1, q_pow hF, qi_le rfl rfl (by omega) (by omega), if_neg (by omega), qlshr1 _ (by omega), q_if_lg1, nI_1]
    have e : yex (ycg (uT υ) p t) (k + 1) v = (ycg (uT υ) p t v || yex (ycg (uT υ) p t) k (v + 1)) := rfl
    rw [e]
    unfold ycg
    cases hW : qlb (yWd (uT υ) yA1 99) v
    · obtain ⟨K, k1, k2⟩ := ih (v + 1) fu M hJ (by omega) (by omega)
      refine ⟨K, ?_, k2⟩
      rw [if_neg (by decide)]
      exact k1
    · obtain ⟨K, k1, k2⟩ := j_lets hJ hp hu t (w := v) (by omega)
      obtain ⟨L, l1, l2⟩ := ih (v + 1) fu K (Jv_GG hJ k2) (by omega) (by omega)
      rw [if_pos rfl, Bool.true_and]
      cases t
      · have k1' : s_X5_lets 49 (nI p) (nI v) 0 M = some (qbI (yok (yad (uT υ) p 0 (v.testBit 0 == false)) p yA1 v), K) := k1
        rw [if_neg (by decide), k1', qb1]
        cases hb : yok (yad (uT υ) p 0 (v.testBit 0 == false)) p yA1 v
        · exact ⟨L, l1, gG_tr k2 l2⟩
        · exact ⟨K, rfl, k2⟩
      · have k1' : s_X5_lets 49 (nI p) (nI v) 1 M = some (qbI (yok (yad (uT υ) p 0 (v.testBit 0 == true)) p yA1 v), K) := k1
        rw [if_pos (by decide), k1', qb1]
        cases hb : yok (yad (uT υ) p 0 (v.testBit 0 == true)) p yA1 v
        · exact ⟨L, l1, gG_tr k2 l2⟩
        · exact ⟨K, rfl, k2⟩
theorem c_any (x : Int64) (M : hf_M) : s_X4_isAny x M = some (qbI (!decide (x = 0)), M) := by
  unfold s_X4_isAny
  by_cases h : x = 0
  · rw [if_pos ((qcmp0 x).mpr h), decide_eq_true h]; rfl
  · rw [if_neg (fun e => h ((qcmp0 x).mp e)), decide_eq_false h]; rfl
theorem can_any {τ : hT} (hw : yWF τ) {p f : Nat} (hp : p < yP τ) (hf : f < 6) (t : Bool) {x : Int64} (hx : ∀ w, w < 64 → qlb x w = if w.testBit f = t then qlb (yWa τ p f true) w else qlb (yWa τ p f false) w) : (!decide (x = 0)) = yex (ycg τ p t) (2 ^ yF τ) 0 := by
  have key : ∀ w, w < 64 → qlb x w = ycg τ p t w := by
    intro w hww
    rw [hx w hww]
    unfold yWa ycg
    rw [yWd_add hp hw.1.2.1, yWd_add hp hw.1.2.1, qlb_and, qlb_and]
    unfold yAl
    rw [qof_b _ hww, qof_b _ hww]
    by_cases h : w.testBit f = t
    · rw [if_pos h]
      congr 1
      refine yok_tr ?_
      rw [h]
      cases t <;> cases w.testBit 0 <;> rfl
    · rw [if_neg h]
      congr 1
      refine yok_tr ?_
      revert h
      cases t <;> cases w.testBit 0 <;> cases w.testBit f <;> decide
  rw [Bool.eq_iff_iff, yex_iff]
  constructor
  · intro h
    have hx0 : x ≠ 0 := by
      intro e
      rw [decide_eq_true e] at h; cases h
    obtain ⟨w, hww, hb⟩ := qlb_ne hx0
    rw [key w hww] at hb
    have hb2 := hb
    unfold ycg at hb
    rw [Bool.and_eq_true] at hb
    have := yWd_lt hw hww hb.1
    exact ⟨w, Nat.zero_le _, by omega, hb2⟩
  · rintro ⟨w, -, h2, h3⟩
    have h64 := q_pow64 hw.1.1
    rw [← key w (by omega)] at h3
    rw [decide_eq_false (y_ne0 h3)]; rfl
theorem p_can : hs_can Inv := by
  intro M ⟨υ, hJ, hRe⟩ a1 a2 a3
  have hF := (jw hJ).1.1
  have hP := (jw hJ).1.2.1
  have h64 := q_pow64 hF
  cases hb : yin a1 (yP (uT υ))
  · refine ⟨-1, bC 1 M, bR 1 (bC 1 M), ?_, ?_, Inv_ref0 hJ hRe⟩
    · unfold s_X4_can
      rw [j0 hJ, qrs, j_cS hJ, qb1, hb, qb_ifF, c_ref hJ.1 (j := 1) rfl (by decide) (by decide), qb1]
    · unfold s_X5_can
      rw [j_rS (Jv_bC hJ), qb1, hb, qb_ifF, r_no (M := bC _ M) hJ.1 (j := 1) rfl (by decide), qb1]
  · obtain ⟨p, hp, rfl⟩ := yin_T hb (by omega)
    cases hb2 : yin a2 (yF (uT υ))
    · refine ⟨-1, bC 1 M, bR 1 (bC 1 M), ?_, ?_, Inv_ref0 hJ hRe⟩
      · unfold s_X4_can
        rw [j0 hJ, qrs, j_cS hJ, qb1, hb, qb_ifT, j0 hJ, qrs, j_cF hJ, qb1, hb2, qb_ifF, c_ref hJ.1 (j := 1) rfl (by decide) (by decide), qb1]
      · unfold s_X5_can
        rw [j_rS (Jv_bC hJ), qb1, hb, qb_ifT, j_rF (Jv_bC hJ), qb1, hb2, qb_ifF, r_no (M := bC _ M) hJ.1 (j := 1) rfl (by decide), qb1]
    · obtain ⟨f, hf, rfl⟩ := yin_T hb2 (by omega)
      by_cases hv : a3 < 0 ∨ 3 < a3
      · refine ⟨-5, bC 5 M, bR 5 (bC 5 M), ?_, ?_, Inv_ref0 hJ hRe⟩
        · unfold s_X4_can s_X4_within
          rw [j0 hJ, qrs, j_cS hJ, qb1, hb, qb_ifT, j0 hJ, qrs, j_cF hJ, qb1, hb2, qb_ifT]
          by_cases h1 : a3 < 0
          · rw [if_pos h1, qb1, if_pos rfl, c_ref hJ.1 (j := 5) rfl (by decide) (by decide), qb1]
          · rw [if_neg h1, if_pos (hv.resolve_left h1), qb1, if_pos rfl, c_ref hJ.1 (j := 5) rfl (by decide) (by decide), qb1]
        · unfold s_X5_can
          rw [j_rS (Jv_bC hJ), qb1, hb, qb_ifT, j_rF (Jv_bC hJ), qb1, hb2, qb_ifT, r_no (M := bC _ M) hJ.1 (j := 5) rfl (by decide), qb1]
          by_cases h1 : a3 < 0
          · rw [if_pos h1]
          · rw [if_neg h1, if_neg (Int32.not_le.mpr (hv.resolve_left h1))]
      · have h1 : ¬ a3 < 0 := fun e => hv (Or.inl e)
        have h2 : ¬ 3 < a3 := fun e => hv (Or.inr e)
        obtain ⟨z, hz, rfl⟩ := nI_of2 (M := 3) (n := 3) (by decide) h1 (Int32.not_lt.mp h2)
        cases hu : yFu (uT υ) p
        · obtain ⟨K, k1, k2⟩ := j_after hJ hp hf hu true
          have hK := Jv_GG hJ k2
          obtain ⟨L, l1, l2⟩ := j_after hK hp hf hu false
          have hL := Jv_GG hK l2
          have k1' : s_X3_after 1 (nI p) (nI f) 1 (yWd (uT υ) yA1 99) M = some (yWa (uT υ) p f true, K) := k1
          have l1' : s_X3_after 1 (nI p) (nI f) 0 (yWd (uT υ) yA1 99) K = some (yWa (uT υ) p f false, L) := l1
          have hz4 : z = 0 ∨ z = 1 ∨ z = 2 ∨ z = 3 := by omega
          have ecls : s_X4_can 0 (nI p) (nI f) (nI z) M = (if nI z = 0 then some (qbI (!decide (((yWa (uT υ) p f true &&& (hf_SO f ^^^ (-1))) ||| (yWa (uT υ) p f false &&& hf_SO f)) = 0)), L) else if nI z = 1 then some (qbI (!decide (((yWa (uT υ) p f true &&& hf_SO f) ||| (yWa (uT υ) p f false &&& (hf_SO f ^^^ (-1)))) = 0)), L) else if nI z = 2 then some (qbI (!decide (yWa (uT υ) p f true = 0)), L) else some (qbI (!decide (yWa (uT υ) p f false = 0)), L)) := by
            unfold s_X4_can s_X4_within
            rw [j0 hJ, qrs, j_cS hJ, qb1, hb, qb_ifT, j0 hJ, qrs, j_cF hJ, qb1, hb2, qb_ifT, if_neg h1, if_neg h2, qb1, if_neg q10, j0 hJ, qrs, j_cU hJ hp, qb1, hu, qb_ifF, j0 hJ, qrs, j_poss hJ, qb1, j0 hJ, qrs, k1', qb1, j0 hK, qrs, l1', qb1]
            simp only [qSO (show f < 6 by omega), c_any, qb1]
          rcases hz4 with rfl | rfl | rfl | rfl
          · obtain ⟨N, n1, n2⟩ := r_can_loop hp hu false (2 ^ yF (uT υ)) 0 2000 L hL (by omega) (by omega)
            have n1' : s_X5_can_87 49 (nI p) (nI 0) (yWd (uT υ) yA1 99) 2000 0 L = some (qbI (yex (ycg (uT υ) p false) (2 ^ yF (uT υ)) 0), N) := n1
            refine ⟨qbI (yex (ycg (uT υ) p false) (2 ^ yF (uT υ)) 0), L, N, ?_, ?_, Inv_GG hJ hRe (gG_tr (gG_tr k2 l2) n2)⟩
            · rw [ecls, if_pos (by decide), can_any (jw hJ) hp (show f < 6 by omega) false (fun w hw => ?_)]
              rw [qlb_or, qlb_and, qlb_and, qlb_not _ hw, qSOb (by omega) hw]
              cases w.testBit f
              · rw [if_pos rfl]; simp
              · rw [if_neg (by decide)]; simp
            · unfold s_X5_can
              rw [j_rS hL, qb1, hb, qb_ifT, j_rF hL, qb1, hb2, qb_ifT, if_neg h1, if_pos (by decide), j_rU hL hp, qb1, hu, qb_ifF, if_pos (by decide), j_now hL, qb1]
              exact n1'
          · obtain ⟨N, n1, n2⟩ := r_can_loop hp hu true (2 ^ yF (uT υ)) 0 2000 L hL (by omega) (by omega)
            have n1' : s_X5_can_87 49 (nI p) (nI 1) (yWd (uT υ) yA1 99) 2000 0 L = some (qbI (yex (ycg (uT υ) p true) (2 ^ yF (uT υ)) 0), N) := n1
            refine ⟨qbI (yex (ycg (uT υ) p true) (2 ^ yF (uT υ)) 0), L, N, ?_, ?_, Inv_GG hJ hRe (gG_tr (gG_tr k2 l2) n2)⟩
            · rw [ecls, if_neg (by decide), if_pos (by decide), can_any (jw hJ) hp (show f < 6 by omega) true (fun w hw => ?_)]
              rw [qlb_or, qlb_and, qlb_and, qlb_not _ hw, qSOb (by omega) hw]
              cases w.testBit f
              · rw [if_neg (by decide)]; simp
              · rw [if_pos rfl]; simp
            · unfold s_X5_can
              rw [j_rS hL, qb1, hb, qb_ifT, j_rF hL, qb1, hb2, qb_ifT, if_neg h1, if_pos (by decide), j_rU hL hp, qb1, hu, qb_ifF, if_pos (by decide), j_now hL, qb1]
              exact n1'
          · obtain ⟨N, n1, n2⟩ := j_leaves hL hp hf hu true
            have n1' : s_X5_leaves 49 (nI p) (nI f) 1 L = some (nI (ypop (yWa (uT υ) p f true)), N) := n1
            have hle := ypop_le (yWa (uT υ) p f true)
            refine ⟨qbI (!decide (yWa (uT υ) p f true = 0)), L, N, ?_, ?_, Inv_GG hJ hRe (gG_tr (gG_tr k2 l2) n2)⟩
            · rw [ecls, if_neg (by decide), if_neg (by decide), if_pos (by decide)]
            · unfold s_X5_can
              rw [j_rS hL, qb1, hb, qb_ifT, j_rF hL, qb1, hb2, qb_ifT, if_neg h1, if_pos (by decide), j_rU hL hp, qb1, hu, qb_ifF, if_neg (by decide), if_pos (by decide), n1', qb1, qi_le rfl (show (0 : Int32) = nI 0 from rfl) (by omega) (by omega)]
              by_cases e : yWa (uT υ) p f true = 0
              · rw [if_pos (by rw [(ypop_0 _).mpr e]; omega), decide_eq_true e]; rfl
              · rw [if_neg (fun g => e ((ypop_0 _).mp (by omega))), decide_eq_false e]; rfl
          · obtain ⟨N, n1, n2⟩ := j_leaves hL hp hf hu false
            have n1' : s_X5_leaves 49 (nI p) (nI f) 0 L = some (nI (ypop (yWa (uT υ) p f false)), N) := n1
            have hle := ypop_le (yWa (uT υ) p f false)
            refine ⟨qbI (!decide (yWa (uT υ) p f false = 0)), L, N, ?_, ?_, Inv_GG hJ hRe (gG_tr (gG_tr k2 l2) n2)⟩
            · rw [ecls, if_neg (by decide), if_neg (by decide), if_neg (by decide)]
            · unfold s_X5_can
              rw [j_rS hL, qb1, hb, qb_ifT, j_rF hL, qb1, hb2, qb_ifT, if_neg h1, if_pos (by decide), j_rU hL hp, qb1, hu, qb_ifF, if_neg (by decide), if_neg (by decide), n1', qb1, qi_le rfl (show (0 : Int32) = nI 0 from rfl) (by omega) (by omega)]
              by_cases e : yWa (uT υ) p f false = 0
              · rw [if_pos (by rw [(ypop_0 _).mpr e]; omega), decide_eq_true e]; rfl
              · rw [if_neg (fun g => e ((ypop_0 _).mp (by omega))), decide_eq_false e]; rfl
        · refine ⟨0, M, M, ?_, ?_, υ, hJ, hRe⟩
          · unfold s_X4_can s_X4_within
            rw [j0 hJ, qrs, j_cS hJ, qb1, hb, qb_ifT, j0 hJ, qrs, j_cF hJ, qb1, hb2, qb_ifT, if_neg h1, if_neg h2, qb1, if_neg q10, j0 hJ, qrs, j_cU hJ hp, qb1, hu, qb_ifT]
          · unfold s_X5_can
            rw [j_rS hJ, qb1, hb, qb_ifT, j_rF hJ, qb1, hb2, qb_ifT, if_neg h1, if_pos (Int32.not_lt.mp h2), j_rU hJ hp, qb1, hu, qb_ifT]
