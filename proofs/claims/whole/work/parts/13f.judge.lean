/-! a told day -/
def ydc (τ : hT) (x : Int32) : Option (Nat × Nat × Bool) := if x < 0 then none else if x.toNatClampNeg / 100 < yP τ ∧ x.toNatClampNeg / 10 % 10 < yF τ ∧ x.toNatClampNeg % 10 < 2 ∧ yFu τ (x.toNatClampNeg / 100) = false then some (x.toNatClampNeg / 100, x.toNatClampNeg / 10 % 10, decide (x.toNatClampNeg % 10 = 1)) else none
def yjd (v : Nat → Int32) : Nat → Nat → hT → Int32
  | 0, _, _ => -1
  | k + 1, i, τ => match ydc τ (v i) with
    | none => nI i
    | some q => if yWd (yad τ q.1 q.2.1 q.2.2) yA1 99 = 0 then nI i else yjd v k (i + 1) (yad τ q.1 q.2.1 q.2.2)
theorem lt2 {y : Nat} (h : y < 2) : nI y = qbI (decide (y = 1)) := by
  have h2 : y = 0 ∨ y = 1 := by omega
  rcases h2 with rfl | rfl <;> rfl
theorem d100 {m : Nat} (h : m < 2 ^ 31) : nI m / 100 = nI (m / 100) ∧ hn_irem (nI m / 10) 10 = nI (m / 10 % 10) ∧ hn_irem (nI m) 10 = nI (m % 10) := by
  have e1 : nI m / 100 = nI (m / 100) := pk_div (d := 100) h (by decide) (by decide)
  have e2 : nI m / 10 = nI (m / 10) := pk_div (d := 10) h (by decide) (by decide)
  refine ⟨e1, ?_, qrem (d := 10) h (by decide) (by decide)⟩
  rw [e2]
  exact qrem (d := 10) (Nat.lt_of_le_of_lt (Nat.div_le_self _ _) h) (by decide) (by decide)
def cB19 (τ : hT) (M : hf_M) : Prop := yRf M ∧ cB 19 τ M ∧ ∀ w, w < 64 → cV 19 τ w M
theorem q19 : cq 19 := Or.inr (Or.inr rfl)
theorem c_told {τ : hT} {M : hf_M} (h : cB19 τ M) (hw : yWF τ) (hS : yS τ < 48) (x : Int32) (ws : Int64) : match ydc τ x with
    | none => s_X4_toldAfter 0 x ws M = some (0, M)
    | some q => (q.1 < yP τ ∧ q.2.1 < yF τ ∧ yFu τ q.1 = false) ∧ ∃ K, s_X4_toldAfter 0 x ws M = some (ws &&& yAl (yad τ q.1 q.2.1 q.2.2) q.1 yA1, K) ∧ cB19 (yad τ q.1 q.2.1 q.2.2) K ∧ gG (Gq 19) M K := by
  have hF := hw.1.1
  have hP := hw.1.2.1
  have h02 : ∀ {N : hf_M}, yRf N → N.2.2 0 2 = some 19 := fun hN => yr0 hN rfl
  by_cases h0 : x < 0
  · have e : ydc τ x = none := by unfold ydc; rw [if_pos h0]
    rw [e]
    show s_X4_toldAfter 0 x ws M = some (0, M)
    unfold s_X4_toldAfter
    rw [if_pos h0]
  · obtain ⟨m, hm, rfl⟩ := nI_of h0
    obtain ⟨d1, d2, d3⟩ := d100 hm
    have ec : (nI m).toNatClampNeg = m := nI_clamp hm
    have hp31 : m / 100 < 2 ^ 31 := Nat.lt_of_le_of_lt (Nat.div_le_self _ _) hm
    have hf10 : m / 10 % 10 < 10 := Nat.mod_lt _ (by decide)
    have hb10 : m % 10 < 10 := Nat.mod_lt _ (by decide)
    have eb : ∀ {y}, (if nI (m % 10) > 1 then some (0, M) else hf_bd (s_X3_isFact 19 (nI (m / 10 % 10)) M) (fun r2 M3 => if r2 = 0 then some (0, M3) else hf_rf (M3.2.2 0 2) (fun q4 => hf_bd (s_X3_isSpeaker q4 (nI (m / 100)) M3) (fun r5 M6 => if r5 = 0 then some (0, M6) else hf_rf (M6.2.2 0 2) (fun q7 => hf_bd (s_X3_isFull q7 (nI (m / 100)) M6) (fun r8 M9 => if r8 = 0 then hf_rf (M9.2.2 0 2) (fun q10 => if nI (m % 10) = 1 then hf_bd (s_X3_put q10 (nI (m / 100)) (nI (m / 10 % 10)) 1 M9) (fun _ M17 => hf_rf (M17.2.2 0 2) (fun q18 => hf_bd (s_X3_allowed q18 (nI (m / 100)) (-1) M17) (fun r19 M20 => some (ws &&& r19, M20)))) else hf_bd (s_X3_put q10 (nI (m / 100)) (nI (m / 10 % 10)) 0 M9) (fun _ M12 => hf_rf (M12.2.2 0 2) (fun q13 => hf_bd (s_X3_allowed q13 (nI (m / 100)) (-1) M12) (fun r14 M15 => some (ws &&& r14, M15))))) else some (0, M9))))))) = y → s_X4_toldAfter 0 (nI m) ws M = y := by
      intro y hy
      rw [← hy]
      unfold s_X4_toldAfter
      rw [if_neg h0, d1, d2, d3, h02 h.1, qrs]
    have e1b : (nI (m % 10) > 1) ↔ 1 < m % 10 := nI_ltI (a := 1) (by decide) (by omega)
    have eF := c_isFa h.2.1.1.1 (nI (m / 10 % 10))
    have eP := c_isSp h.2.1.1.2.1 (nI (m / 100))
    rw [yin_nI (by omega) (by omega)] at eF
    rw [yin_nI hp31 (by omega)] at eP
    unfold ydc
    rw [if_neg h0, ec]
    by_cases hc : m / 100 < yP τ ∧ m / 10 % 10 < yF τ ∧ m % 10 < 2 ∧ yFu τ (m / 100) = false
    · obtain ⟨c1, c2, c3, c4⟩ := hc
      rw [if_pos ⟨c1, c2, c3, c4⟩]
      refine ⟨⟨c1, c2, c4⟩, ?_⟩
      show ∃ K, s_X4_toldAfter 0 (nI m) ws M = some (ws &&& yAl (yad τ (m / 100) (m / 10 % 10) (decide (m % 10 = 1))) (m / 100) yA1, K) ∧ cB19 (yad τ (m / 100) (m / 10 % 10) (decide (m % 10 = 1))) K ∧ gG (Gq 19) M K
      generalize hbb : decide (m % 10 = 1) = b
      have hw1 : yWF (yad τ (m / 100) (m / 10 % 10) b) := yad_WF hw c1 (by omega) (yFu_f c4) (by omega)
      have hB1 := cPu_B (f := m / 10 % 10) (b := b) h.2.1 hS c1 (nI (100 * (m / 100) + 10 * (m / 10 % 10) + b.toNat)) (yTr (m / 10 % 10) b)
      have hV1 : ∀ w, w < 64 → cV 19 (yad τ (m / 100) (m / 10 % 10) b) w (cPu 19 (m / 100) (yS τ) (nI (ycn (yw τ) (m / 100) (yS τ))) (nI (100 * (m / 100) + 10 * (m / 10 % 10) + b.toNat)) (yTr (m / 10 % 10) b) M) := fun w hww => cPu_V (h.2.2 w hww) (yTr_b b (by omega) hww)
      have hR1 : yRf (cPu 19 (m / 100) (yS τ) (nI (ycn (yw τ) (m / 100) (yS τ))) (nI (100 * (m / 100) + 10 * (m / 10 % 10) + b.toNat)) (yTr (m / 10 % 10) b) M) := h.1
      have ea := c_allowed hR1 q19 hw1 hB1 (by show yS τ + 1 ≤ 48; omega) c1 hV1 (x := -1) (ch := yA1) (fun i hi => qlb_m1 (by have hi' : i < yS τ + 1 := hi; omega))
      have ep := c_put (b := b) h.1 q19 h.2.1 hS c1 hP (show m / 10 % 10 < 6 by omega)
      have eu : s_X3_isFull 19 (nI (m / 100)) M = some (qbI (yFu τ (m / 100)), M) := c_full h.1 q19 hw h.2.1 c1
      refine ⟨_, eb ?_, ⟨hR1, hB1, hV1⟩, rfl, fun k j hk => ⟨?_, ?_⟩⟩
      · rw [if_neg (fun e => absurd (e1b.mp e) (by omega)), eF, qb1, decide_eq_true c2, qb_ifT, h02 h.1, qrs, eP, qb1, decide_eq_true c1, qb_ifT, h02 h.1, qrs, eu, qb1, c4, qb_ifF, h02 h.1, qrs]
        cases b
        · have hne : ¬ nI (m % 10) = 1 := fun e => by
            have := (nI_eq (b := 1) (by omega) (by decide)).mp e
            rw [this] at hbb
            cases hbb
          have ep' : s_X3_put 19 (nI (m / 100)) (nI (m / 10 % 10)) 0 M = _ := ep
          rw [if_neg hne, ep', qb1, h02 hR1, qrs, ea, qb1]
        · have heq : nI (m % 10) = 1 := by rw [of_decide_eq_true hbb]; rfl
          have ep' : s_X3_put 19 (nI (m / 100)) (nI (m / 10 % 10)) 1 M = _ := ep
          rw [if_pos heq, ep', qb1, h02 hR1, qrs, ea, qb1]
      · unfold Gq at hk
        rw [cPu_1 (by omega) (by omega) (by omega)]
      · unfold Gq at hk
        rw [cPu_L (by omega)]
    · rw [if_neg hc]
      show s_X4_toldAfter 0 (nI m) ws M = some (0, M)
      refine eb ?_
      by_cases g1 : 1 < m % 10
      · rw [if_pos (e1b.mpr g1)]
      · rw [if_neg (fun e => g1 (e1b.mp e)), eF, qb1]
        by_cases g2 : m / 10 % 10 < yF τ
        · rw [decide_eq_true g2, qb_ifT, h02 h.1, qrs, eP, qb1]
          by_cases g3 : m / 100 < yP τ
          · have eu : s_X3_isFull 19 (nI (m / 100)) M = some (qbI (yFu τ (m / 100)), M) := c_full h.1 q19 hw h.2.1 g3
            have g4 : yFu τ (m / 100) = true := by
              cases hh : yFu τ (m / 100)
              · exact absurd ⟨g3, g2, by omega, hh⟩ hc
              · rfl
            rw [decide_eq_true g3, qb_ifT, h02 h.1, qrs, eu, qb1, g4, qb_ifT]
          · rw [decide_eq_false g3, qb_ifF]
        · rw [decide_eq_false g2, qb_ifF]
theorem c_jd_loop {υ : hU} {M : hf_M} (hJ : Jv υ M) {s n : Nat} (hs : s < 8) (hn : n ≤ 24) {v : Nat → Int32} (hv : ∀ i, i < n → (M.2.1 (34 + 2 * s) i).toInt32 = v i) : ∀ (k i fu : Nat) (τ : hT) (K : hf_M), n = i + k → k < fu → yWF τ → yS τ + k ≤ 48 → cB19 τ K → gG (Gq 19) M K → ∃ L, s_X4_judge_86 0 (nI s) (nI n) fu (yWd τ yA1 99) (nI i) K = some (yjd v k i τ, L) ∧ gG (Gq 19) M L := by
  intro k
  induction k with
  | zero =>
    intro i fu τ K hi hf hw hS h hg
    obtain ⟨fu, rfl⟩ : ∃ u, fu = u + 1 := ⟨fu - 1, by omega⟩
    refine ⟨K, ?_, hg⟩
    rw [s_X4_judge_86, qi_le rfl rfl (by omega) (by omega), if_pos (by omega)]; rfl
  | succ k ih =>
    intro i fu τ K hi hf hw hS h hg
    obtain ⟨fu, rfl⟩ : ∃ u, fu = u + 1 := ⟨fu - 1, by omega⟩
    have hR := h.1
    have h3 : K.2.2 0 3 = some 28 := yr0 hR rfl
    have le : i < hf_len (34 + 2 * s) := by rw [sh_len hs]; omega
    have ea : s_X2_asInt (33 + 2 * s) (nI i) K = some (v i, K) := by
      unfold s_X2_asInt
      rw [sh_r0 hR hs, qrs, qlL K le, (hg.2 (34 + 2 * s) i (by unfold Gq; omega)).2, hv i (by omega)]
    have et := c_told h hw (by omega) (v i) (yWd τ yA1 99)
    have ej : yjd v (k + 1) i τ = match ydc τ (v i) with | none => nI i | some q => if yWd (yad τ q.1 q.2.1 q.2.2) yA1 99 = 0 then nI i else yjd v k (i + 1) (yad τ q.1 q.2.1 q.2.2) := rfl
    rw [s_X4_judge_86, qi_le rfl rfl (by omega) (by omega), if_neg (by omega), h3, qrs, sh_ld hR hs, ea, qb1, ej]
    cases hd : ydc τ (v i) with
    | none =>
      rw [hd] at et
      have et' : s_X4_toldAfter 0 (v i) (yWd τ yA1 99) K = some (0, K) := et
      refine ⟨K, ?_, hg⟩
      rw [et', qb1, if_pos ((qcmp0 _).mpr rfl)]
    | some q =>
      rw [hd] at et
      obtain ⟨⟨c1, c2, c4⟩, L, l1, l2, l3⟩ := et
      have hF := hw.1.1
      rw [← yWd_add c1 hw.1.2.1] at l1
      have hw1 : yWF (yad τ q.1 q.2.1 q.2.2) := yad_WF hw c1 (by omega) (yFu_f c4) (by omega)
      rw [l1, qb1, nI_1]
      show ∃ L', _ = some (if yWd (yad τ q.1 q.2.1 q.2.2) yA1 99 = 0 then nI i else yjd v k (i + 1) (yad τ q.1 q.2.1 q.2.2), L') ∧ _
      by_cases h0 : yWd (yad τ q.1 q.2.1 q.2.2) yA1 99 = 0
      · refine ⟨L, ?_, gG_tr hg l3⟩
        rw [if_pos ((qcmp0 _).mpr h0), if_pos h0]
      · obtain ⟨L', m1, m2⟩ := ih (i + 1) fu (yad τ q.1 q.2.1 q.2.2) L (by omega) (by omega) hw1 (by show yS τ + 1 + k ≤ 48; omega) l2 (gG_tr hg l3)
        refine ⟨L', ?_, m2⟩
        rw [if_neg (fun e => h0 ((qcmp0 _).mp e)), if_neg h0]
        exact m1
def Gr2 (S k j : Nat) : Prop := Gr S k j ∨ (k = 49 ∧ j = 2)
theorem r_jd_exit {s n S0 i fu : Nat} (hi : i < 24) (hn : n ≤ 24) (N : hf_M) : s_X5_judge_69 49 (nI s) (nI n) (nI S0) (fu + 1) (nI i) (nI (i + 1)) N = some (nI i, hf_sI N 49 2 (nI S0)) := by
  rw [s_X5_judge_69, qi_le rfl rfl (by omega) (by omega), if_neg (show ¬ nI i = -1 from fun e => qm1 i (by omega) e.symm), qpt]
  by_cases h : n ≤ i + 1
  · rw [if_pos h]
  · rw [if_neg h]
theorem r_jd_loop {M : hf_M} {s n S0 : Nat} (hs : s < 8) (hn : n ≤ 24) {v : Nat → Int32} (hv : ∀ i, i < n → (M.2.1 61 (160 * s + i)).toInt32 = v i) : ∀ (k i fu : Nat) (τ : hT) (K : hf_M), n = i + k → k + 1 < fu → yWF τ → yS τ + k ≤ 48 → S0 ≤ yS τ → yRf K → yR τ K → gG (Gr2 S0) M K → K.2.1 49 2 = M.2.1 49 2 → ∃ L, s_X5_judge_69 49 (nI s) (nI n) (nI S0) fu (-1) (nI i) K = some (yjd v k i τ, hf_sI L 49 2 (nI S0)) ∧ gG (Gr2 S0) M L ∧ L.2.1 49 2 = M.2.1 49 2 := by
  intro k
  induction k with
  | zero =>
    intro i fu τ K hi hf hw hS hS0 hR h hg hl
    obtain ⟨fu, rfl⟩ : ∃ u, fu = u + 1 := ⟨fu - 1, by omega⟩
    refine ⟨K, ?_, hg, hl⟩
    rw [s_X5_judge_69, qi_le rfl rfl (by omega) (by omega), if_pos (by omega), qpt]; rfl
  | succ k ih =>
    intro i fu τ K hi hf hw hS hS0 hR h hg hl
    obtain ⟨fu, rfl⟩ : ∃ u, fu = u + 2 := ⟨fu - 2, by omega⟩
    have hF := hw.1.1
    have hP := hw.1.2.1
    have ea : s_X5_intAt 49 (nI s) (nI i) K = some (v i, K) := by
      unfold s_X5_intAt
      rw [yrf_49 hR (j := 21) rfl, qrs, show (160 : Int32) = nI 160 from rfl, pk_mul, nI_add, qlL K (by show 160 * s + i < 1280; omega), (hg.2 61 (160 * s + i) (by unfold Gr2 Gr; omega)).2, hv i (by omega)]
    have ej : yjd v (k + 1) i τ = match ydc τ (v i) with | none => nI i | some q => if yWd (yad τ q.1 q.2.1 q.2.2) yA1 99 = 0 then nI i else yjd v k (i + 1) (yad τ q.1 q.2.1 q.2.2) := rfl
    have e156 : ∀ a b c d e f g (N : hf_M), s_X5_judge_156 (s_X5_judge_69 49 (nI s) (nI n) (nI S0) (fu + 1)) 49 a b c d (nI i) e f g N = some (nI i, hf_sI N 49 2 (nI S0)) := fun a b c d e f g N => by
      unfold s_X5_judge_156 s_X5_judge_157
      rw [if_pos rfl, nI_1, r_jd_exit (by omega) hn]
    rw [s_X5_judge_69, qi_le rfl rfl (by omega) (by omega), if_neg (by omega), if_pos rfl, ea, qb1, ej]
    by_cases h0 : v i < 0
    · have e : ydc τ (v i) = none := by unfold ydc; rw [if_pos h0]
      refine ⟨K, ?_, hg, hl⟩
      rw [if_pos h0, e156, e]
    · obtain ⟨m, hm, em⟩ := nI_of h0
      obtain ⟨d1, d2, d3⟩ := d100 hm
      have ec : (nI m).toNatClampNeg = m := nI_clamp hm
      have hp31 : m / 100 < 2 ^ 31 := Nat.lt_of_le_of_lt (Nat.div_le_self _ _) hm
      have hf10 : m / 10 % 10 < 10 := Nat.mod_lt _ (by decide)
      have hb10 : m % 10 < 10 := Nat.mod_lt _ (by decide)
      rw [em] at h0
      rw [em, if_neg h0, d1, d2, d3]
      have eF := r_isFa h.1.1 (nI (m / 10 % 10))
      have eP := r_isSp h.1.2.1 (nI (m / 100))
      rw [yin_nI (by omega) (by omega)] at eF
      rw [yin_nI hp31 (by omega)] at eP
      have ed : ydc τ (nI m) = if m / 100 < yP τ ∧ m / 10 % 10 < yF τ ∧ m % 10 < 2 ∧ yFu τ (m / 100) = false then some (m / 100, m / 10 % 10, decide (m % 10 = 1)) else none := by
        unfold ydc
        rw [if_neg h0, ec]
      rw [ed, eP, qb1]
      by_cases g3 : m / 100 < yP τ
      · rw [decide_eq_true g3, qb_ifT, eF, qb1]
        by_cases g2 : m / 10 % 10 < yF τ
        · rw [decide_eq_true g2, qb_ifT]
          by_cases g1 : m % 10 < 2
          · have e2 : ¬ (2 : Int32) ≤ nI (m % 10) := fun e => absurd ((nI_leI (a := 2) (by decide) (by omega)).mp e) (by omega)
            have eu : s_X5_isFull 49 (nI (m / 100)) K = some (qbI (yFu τ (m / 100)), K) := r_full hR hw h g3
            rw [if_neg e2, eu, qb1]
            cases g4 : yFu τ (m / 100)
            · rw [qb_ifF, if_pos ⟨g3, g2, g1, rfl⟩]
              show ∃ L', _ = some (if yWd (yad τ (m / 100) (m / 10 % 10) (decide (m % 10 = 1))) yA1 99 = 0 then nI i else yjd v k (i + 1) (yad τ (m / 100) (m / 10 % 10) (decide (m % 10 = 1))), hf_sI L' 49 2 (nI S0)) ∧ _
              rw [lt2 g1]
              generalize decide (m % 10 = 1) = b
              obtain ⟨L, l1, l2⟩ := r_leaves (b := b) hR hw h g3 (show m / 10 % 10 < 6 by omega) (yFu_f g4) (by omega)
              have hRL := gG_rf l2 hR
              have hL := yR_g h l2
              have gL : gG (Gr2 S0) M L := gG_tr hg (gG_mono l2 (fun _ _ hh => by unfold Gr at hh; unfold Gr2 Gr; omega))
              have lL : L.2.1 49 2 = M.2.1 49 2 := (l2.2 49 2 (by unfold Gr; omega)).2.trans hl
              have hle := ypop_le (yWd (yad τ (m / 100) (m / 10 % 10) b) yA1 99)
              have ele : (nI (ypop (yWd (yad τ (m / 100) (m / 10 % 10) b) yA1 99)) ≤ 0) ↔ yWd (yad τ (m / 100) (m / 10 % 10) b) yA1 99 = 0 := by
                rw [← ypop_0]
                refine (nI_leI (b := 0) (by omega) (by decide)).trans ?_
                exact Nat.le_zero
              clear hle
              unfold s_X5_judge_157
              rw [if_neg q10, l1, qb1]
              by_cases hz : yWd (yad τ (m / 100) (m / 10 % 10) b) yA1 99 = 0
              · refine ⟨L, ?_, gL, lL⟩
                rw [if_pos (ele.mpr hz), if_pos hz, nI_1, r_jd_exit (by omega) hn]
              · have hw1 : yWF (yad τ (m / 100) (m / 10 % 10) b) := yad_WF hw g3 (by omega) (yFu_f g4) (by omega)
                have gA : gG (Gr2 S0) L (rPu (m / 100) (m / 10 % 10) (yS τ) (qbI b) L) := ⟨rfl, fun k j hk => ⟨by
                  unfold Gr2 Gr at hk
                  rw [rPu_1 (by omega) (by omega)], rfl⟩⟩
                obtain ⟨L', m1, m2, m3⟩ := ih (i + 1) (fu + 1) (yad τ (m / 100) (m / 10 % 10) b) (rPu (m / 100) (m / 10 % 10) (yS τ) (qbI b) L) (by omega) (by omega) hw1 (by show yS τ + 1 + k ≤ 48; omega) (by show S0 ≤ yS τ + 1; omega) (rPu_Rf hRL) (rPu_R hL) (gG_tr gL gA) lL
                refine ⟨L', ?_, m2, m3⟩
                rw [if_neg (fun e => hz (ele.mp e)), if_neg hz, r_adds hRL hL (by omega) _ _ _ (m / 100) (m / 10 % 10) rfl rfl, qb1, nI_1]
                exact m1
            · refine ⟨K, ?_, hg, hl⟩
              rw [qb_ifT, e156, if_neg (fun hh => by cases hh.2.2.2)]
          · have e2 : (2 : Int32) ≤ nI (m % 10) := nI_le (a := 2) (by omega) (by omega)
            refine ⟨K, ?_, hg, hl⟩
            rw [if_pos e2, e156, if_neg (fun hh => g1 hh.2.2.1)]
        · refine ⟨K, ?_, hg, hl⟩
          rw [decide_eq_false g2, qb_ifF, e156, if_neg (fun hh => g2 hh.2.1)]
      · refine ⟨K, ?_, hg, hl⟩
        rw [decide_eq_false g3, qb_ifF, e156, if_neg (fun hh => g3 hh.1)]
theorem p_judge : hs_judge Inv := by
  intro M ⟨υ, hJ, hRe⟩ a1 a2
  have hS := jS hJ
  have hP := (jw hJ).1.2.1
  have h3 : M.2.2 0 3 = some 28 := yr0 hJ.1 rfl
  have hno : ∀ (c : Int32) (j : Nat), -c = nI j → 0 < j → j < 8 → c ≠ 0 → s_X4_noRow 0 a1 M = some (c, M) → (∀ {N : hf_M}, Jv υ N → (∀ k i, k ≠ 32 → N.1 k i = M.1 k i) → s_X5_wants 49 a1 N = some (c, N)) → ∃ r M1 M2, s_X4_judge 0 a1 a2 M = some (r, M1) ∧ s_X5_judge 49 a1 a2 M1 = some (r, M2) ∧ Inv M2 := by
    intro c j c1 c2 c3 c4 e1 e2
    refine ⟨c, bC j M, bR j (bC j M), ?_, ?_, Inv_ref0 hJ hRe⟩
    · unfold s_X4_judge
      rw [e1, qb1, if_neg c4, c_ref hJ.1 c1 c2 c3, qb1]
    · unfold s_X5_judge
      rw [e2 (Jv_bC hJ) (fun k i hk => by unfold bC; rw [gI (by omega)]), qb1, if_neg c4, r_no (M := bC _ M) hJ.1 c1 c3, qb1]
  have want : ∀ {N : hf_M}, Jv υ N → (∀ k i, k ≠ 32 → N.1 k i = M.1 k i) → ∀ c, s_X5_wants 49 a1 M = some (c, M) → s_X5_wants 49 a1 N = some (c, N) := by
    intro N hN hk c hc
    unfold s_X5_wants at hc ⊢
    rw [r_shelf, qb1] at hc ⊢
    cases hb : yin a1 8
    · rw [hb, qb_ifF] at hc
      rw [qb_ifF]
      have : (-1 : Int32) = c := congrArg Prod.fst (Option.some.inj hc)
      rw [this]
    · obtain ⟨s, hs, rfl⟩ := yin_T hb (by decide)
      have l57 : s < hf_len 57 := hs
      rw [hb, qb_ifT, yrf_49 hJ.1 (j := 17) rfl, qrs, qlI M l57, qrs, qlI M l57] at hc
      rw [qb_ifT, yrf_49 hN.1 (j := 17) rfl, qrs, qlI N l57, qrs, qlI N l57, hk 57 s (by decide)]
      by_cases h2 : M.1 57 s = 2
      · rw [if_pos h2] at hc ⊢
        have : (-2 : Int32) = c := congrArg Prod.fst (Option.some.inj hc)
        rw [this]
      · rw [if_neg h2] at hc ⊢
        by_cases h0 : M.1 57 s = 0
        · rw [if_pos h0] at hc ⊢
          have : (-3 : Int32) = c := congrArg Prod.fst (Option.some.inj hc)
          rw [this]
        · rw [if_neg h0] at hc ⊢
          have : (0 : Int32) = c := congrArg Prod.fst (Option.some.inj hc)
          rw [this]
  rcases noRow_ hJ a1 with ⟨e1, e2⟩ | ⟨e1, e2⟩ | ⟨e1, e2⟩ | ⟨e1, e2, s, hs, rfl, o, z, ho, hz160, u1, u2, u3, u4, u5⟩
  · exact hno (-1) 1 rfl (by decide) (by decide) (by decide) e1 (fun hN hk => want hN hk _ e2)
  · exact hno (-2) 2 rfl (by decide) (by decide) (by decide) e1 (fun hN hk => want hN hk _ e2)
  · exact hno (-3) 3 rfl (by decide) (by decide) (by decide) e1 (fun hN hk => want hN hk _ e2)
  · have l59 : s < hf_len 59 := hs
    have kb : ∀ (j : Nat) k i, k ≠ 32 → (bC j M).1 k i = M.1 k i := fun j k i hk => by unfold bC; rw [gI (by omega)]
    by_cases h0 : 0 ≤ a2
    · by_cases h1 : a2 ≤ nI z
      · by_cases h24 : a2 ≤ 24
        · obtain ⟨n, hn24, rfl⟩ := nI_of2 (M := 24) (n := 24) (by decide) (Int32.not_lt.mpr h0) h24
          have hnz : n ≤ z := (nI_leI (by omega) (by omega)).mp h1
          obtain ⟨K, k1, k2, k3⟩ := c_take (p := 19) (q := 1) hJ.1 q19 q1 (by omega) (by omega) (jc hJ) hP
          have hRK := gG_rf k3 hJ.1
          have eps : s_X3_possible 19 (-1) K = some (yWd (uT υ) yA1 99, K) := c_poss hRK q19 (jw hJ) k2.1 (by omega) k2.2.1 (fun i hi => qlb_m1 (by omega))
          obtain ⟨L, l1, l2⟩ := c_jd_loop (v := fun i => (M.2.1 61 (160 * s + i)).toInt32) hJ hs hn24 (fun i hi => by rw [u5 i (by omega)]) n 0 2000 (uT υ) K (by omega) (by omega) (jw hJ) (by omega) ⟨hRK, k2.1, k2.2.1⟩ k3
          have g1 : gG (GG (yS (uT υ))) M L := gG_mono l2 (fun k j hk => by unfold Gq at hk; unfold GG; omega)
          have hL := Jv_GG hJ g1
          obtain ⟨N, n1, n2, n3⟩ := r_jd_loop (M := L) (S0 := yS (uT υ)) (v := fun i => (M.2.1 61 (160 * s + i)).toInt32) hs hn24 (fun i hi => by rw [(l2.2 61 (160 * s + i) (by unfold Gq; omega)).2]) n 0 2000 (uT υ) L (by omega) (by omega) (jw hJ) (by omega) (Nat.le_refl _) hL.1 (jr hL).1 (gG_refl _ _) rfl
          have g2 : gG (GG (yS (uT υ))) L (hf_sI N 49 2 (nI (yS (uT υ)))) := ⟨n2.1, fun k j hk => by
            by_cases e : k = 49 ∧ j = 2
            · obtain ⟨rfl, rfl⟩ := e
              rw [gI0]
              exact ⟨(jr hL).1.1.2.2.1.symm, n3⟩
            · rw [gI (by omega), gIL]
              exact n2.2 k j (fun h => h.elim (fun h => hk (Gr_GG h (Nat.le_refl _))) e)⟩
          refine ⟨yjd (fun i => (M.2.1 61 (160 * s + i)).toInt32) n 0 (uT υ), L, hf_sI N 49 2 (nI (yS (uT υ))), ?_, ?_, Inv_GG hJ hRe (gG_tr g1 g2)⟩
          · have l1' : s_X4_judge_86 0 (nI s) (nI n) 2000 (yWd (uT υ) yA1 99) 0 K = _ := l1
            unfold s_X4_judge
            rw [e1, qb1, if_pos rfl, if_pos h0, h3, qrs, sh_ld hJ.1 hs, u2, if_pos h1, if_pos h24, yr0 hJ.1 (j := 2) rfl, qrs, j0 hJ, qrs, k1, qb1, yr0 hRK (j := 2) rfl, qrs, eps, qb1, l1']
          · have n1' : s_X5_judge_69 49 (nI s) (nI n) (nI (yS (uT υ))) 2000 (-1) 0 L = _ := n1
            have ew : s_X5_wants 49 (nI s) L = some (0, L) := by
              have l57 : s < hf_len 57 := hs
              have x57 : L.1 57 s = M.1 57 s := (l2.2 57 s (by unfold Gq; omega)).1
              unfold s_X5_wants at e2 ⊢
              rw [r_shelf, qb1] at e2 ⊢
              have hb : yin (nI s) 8 = true := by rw [yin_nI (by omega) (by decide), decide_eq_true hs]
              rw [hb, qb_ifT, yrf_49 hJ.1 (j := 17) rfl, qrs, qlI M l57, qrs, qlI M l57] at e2
              rw [hb, qb_ifT, yrf_49 hL.1 (j := 17) rfl, qrs, qlI L l57, qrs, qlI L l57, x57]
              by_cases h2 : M.1 57 s = 2
              · rw [if_pos h2] at e2
                have e3 : (-2 : Int32) = 0 := congrArg Prod.fst (Option.some.inj e2)
                exact absurd e3 (by decide)
              · rw [if_neg h2] at e2 ⊢
                by_cases h0 : M.1 57 s = 0
                · rw [if_pos h0] at e2
                  have e3 : (-3 : Int32) = 0 := congrArg Prod.fst (Option.some.inj e2)
                  exact absurd e3 (by decide)
                · rw [if_neg h0]
            have x59 : L.1 59 s = nI z := ((l2.2 59 s (by unfold Gq; omega)).1).trans u4
            unfold s_X5_judge
            rw [ew, qb1, if_pos rfl, if_pos h0, yrf_49 hL.1 (j := 19) rfl, qrs, qlI L l59, x59, if_pos h1, if_pos h24, (jr hL).1.1.2.2.1, n1']
        · refine ⟨-6, bC 6 M, bR 6 (bC 6 M), ?_, ?_, Inv_ref0 hJ hRe⟩
          · unfold s_X4_judge
            rw [e1, qb1, if_pos rfl, if_pos h0, h3, qrs, sh_ld hJ.1 hs, u2, if_pos h1, if_neg h24, c_ref hJ.1 (j := 6) rfl (by decide) (by decide), qb1]
          · unfold s_X5_judge
            rw [want (Jv_bC hJ) (kb 6) _ e2, qb1, if_pos rfl, if_pos h0, yrf_49 (Jv_bC hJ).1 (j := 19) rfl, qrs, qlI _ l59, kb 6 59 s (by decide), u4, if_pos h1, if_neg h24, r_no (M := bC _ M) hJ.1 (j := 6) rfl (by decide), qb1]
      · refine ⟨-5, bC 5 M, bR 5 (bC 5 M), ?_, ?_, Inv_ref0 hJ hRe⟩
        · unfold s_X4_judge
          rw [e1, qb1, if_pos rfl, if_pos h0, h3, qrs, sh_ld hJ.1 hs, u2, if_neg h1, c_ref hJ.1 (j := 5) rfl (by decide) (by decide), qb1]
        · unfold s_X5_judge
          rw [want (Jv_bC hJ) (kb 5) _ e2, qb1, if_pos rfl, if_pos h0, yrf_49 (Jv_bC hJ).1 (j := 19) rfl, qrs, qlI _ l59, kb 5 59 s (by decide), u4, if_neg h1, r_no (M := bC _ M) hJ.1 (j := 5) rfl (by decide), qb1]
    · refine ⟨-4, bC 4 M, bR 4 (bC 4 M), ?_, ?_, Inv_ref0 hJ hRe⟩
      · unfold s_X4_judge
        rw [e1, qb1, if_pos rfl, if_neg h0, c_ref hJ.1 (j := 4) rfl (by decide) (by decide), qb1]
      · unfold s_X5_judge
        rw [want (Jv_bC hJ) (kb 4) _ e2, qb1, if_pos rfl, if_neg h0, r_no (M := bC _ M) hJ.1 (j := 4) rfl (by decide), qb1]
