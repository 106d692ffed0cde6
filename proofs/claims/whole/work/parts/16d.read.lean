section rd
variable {T : Nat → Int32} {n s : Nat} {M K : hf_M} {υ : hU} {c a : Nat} {W : Nat → Int32}
theorem d01 {v : Nat} (h : nI v ≤ (1 : Int32)) (hv : v < 10000) : nI v = qbI (decide (v = 1)) := by
  have h1 : v ≤ 1 := num_le (b := 1) h hv (by decide)
  exact lt2 (by omega)
theorem r_item4 (h : vX T n s M) (hu : uWF υ) (hK : rT M υ n a K) (v3 : Int32) : vO M n (yJ4 T n υ a) (s_X5_item_119 49 (nI 4) v3 K) := by
  have hF := hu.1.1.1
  have e0 : s_X5_item_119 49 (nI 4) v3 K = s_X5_item_142 49 (nI 4) (nI 2) 2000 v3 (nI 0) K := (if_neg (by decide)).trans (if_neg (by decide))
  rw [e0, r_142z (fu := 1999) (by omega) (by omega), r_204 hK (by omega) (by omega)]
  have x := r_225 (k142 := s_X5_item_142 49 (nI 4) (nI 2) 1999) (v4 := nI 2) (lo := 0) h hK (w := 4) (v5 := 0) (hi_4 hK).1 (by omega) (by omega) (by omega)
  unfold yJ4
  rw [if_neg (show ¬ (4 = 2 ∧ 0 = 0) by omega)]
  cases hx : yNm T n 0 (nI (yF (uT υ)) - 1) a with
  | inl e => rw [hx] at x; exact x
  | inr q =>
    rw [hx] at x
    obtain ⟨L, l1, l2, l3, l4⟩ := x
    have b1 := yNm_b hK.2.2.2 hx
    have hf : q.1 < yF (uT υ) := pm1 b1.2.2.2.2 b1.1 hF
    rw [l1]
    have y := r_142s h l2 (w := 4) (v4 := 2) (v5 := 1) (fu := 1998) (v3 := nI a) (by omega) (by omega) (by omega)
    show vO M n (sb (ySg T n q.2) _) _
    cases hy : ySg T n q.2 with
    | inl e => rw [hy] at y; exact y
    | inr r =>
      rw [hy] at y
      obtain ⟨y1, y2⟩ := y
      have z := r_225 (k142 := s_X5_item_142 49 (nI 4) (nI 2) 1998) (v4 := nI 2) (lo := 0) h y2 (w := 4) (v5 := 1) (hi_4 y2).2 (by omega) (by omega) (by omega)
      rw [y1, r_204 y2 (by omega) (by omega), if_neg (show ¬ (4 = 2 ∧ 1 = 0) by omega)]
      show vO M n (sb (yNm T n 0 1 r) _) _
      cases hz : yNm T n 0 1 r with
      | inl e => rw [hz] at z; exact z
      | inr t =>
        rw [hz] at z
        obtain ⟨B, d1, d2, d3, d4⟩ := z
        have b2 := yNm_b y2.2.2.2 hz
        have e64 : B.1 64 0 = nI q.1 := by rw [d4 0 (by decide), gI (by omega)]; exact l3
        rw [d01 b2.2.2.2.2 b2.1] at d3
        obtain ⟨k1, k2⟩ := r_isLeft (vR h d2.1) hu.1 d2.2.1 (show q.1 < 6 by omega) (decide (t.1 = 1))
        rw [d1, s_X5_item_142, if_pos (show nI 2 ≤ nI (1 + 1) by decide), if_neg (show ¬ nI 4 = (0 : Int32) by decide), if_neg (show ¬ nI 4 = (1 : Int32) by decide), if_neg (show ¬ nI 4 = (2 : Int32) by decide), if_neg (show ¬ nI 4 = (3 : Int32) by decide)]
        show vO M n (if yWd (uT υ) yA1 99 &&& yTr q.1 (decide (t.1 = 1)) = 0 then .inl r else .inr (uK υ (yl (uT υ) &&& yTr q.1 (decide (t.1 = 1))), t.2)) _
        have ee : ∀ F : Int32 → hf_M → Option (Int32 × hf_M), hf_rf (B.2.2 49 24) (fun q35 => hf_ldI B q35 0 (fun r36 => hf_rf (B.2.2 49 24) (fun q37 => hf_ldI B q37 1 (fun r38 => hf_bd (s_X5_isLeft 49 r36 r38 B) F)))) = hf_bd (s_X5_isLeft 49 (nI q.1) (qbI (decide (t.1 = 1))) B) F := fun F => by
          refine (r_64 h d2 (j := 0) (by decide) _).trans ?_
          refine (r_64 h d2 (j := 1) (by decide) _).trans ?_
          rw [e64, d3]
        rw [ee]
        by_cases g0 : yWd (uT υ) yA1 99 &&& yTr q.1 (decide (t.1 = 1)) = 0
        · obtain ⟨N, n1, n2, n3⟩ := k2 g0
          have d2' := rT_g d2 n3 n2
          rw [if_pos g0, n1, qb1, if_pos rfl]
          exact vE_b1 d2'.1
        · obtain ⟨N, n1, n2, n3⟩ := k1 g0
          rw [if_neg g0, n1, qb1, if_neg q10]
          exact ⟨N, rfl, rT_g d2 n3 n2, uWF_K hu g0⟩
theorem r_225s (h : vX T n s M) (hu : uWF υ) (hK : rT M υ n a K) {k142 : Int32 → Int32 → hf_M → Option (Int32 × hf_M)} {v4 : Int32} : match yNm T n 0 (nI (yP (uT υ)) - 1) a with
    | .inl e => vE M e (s_X5_item_225 k142 49 (nI 3) (nI a) v4 (nI 0) 49 0 K)
    | .inr q => if yFu (uT υ) q.1 = true then vE M a (s_X5_item_225 k142 49 (nI 3) (nI a) v4 (nI 0) 49 0 K) else ∃ L, s_X5_item_225 k142 49 (nI 3) (nI a) v4 (nI 0) 49 0 K = k142 (nI a) (nI 1) L ∧ rT M υ n q.2 L ∧ L.1 64 0 = nI q.1 := by
  have x := r_number (W := K.1 64) h hK (fun _ => rfl) 0 (nI (yP (uT υ)) - 1)
  unfold s_X5_item_225
  rw [(hi_3 hK).1, qb1]
  cases hx : yNm T n 0 (nI (yP (uT υ)) - 1) a with
  | inl e =>
    rw [hx] at x
    obtain ⟨L, l1, l2⟩ := x
    exact ⟨L, by rw [l1, qb1, if_pos rfl], l2⟩
  | inr q =>
    rw [hx] at x
    obtain ⟨L, l1, l2, l3, l4⟩ := x
    have b1 := yNm_b hK.2.2.2 hx
    have hp : q.1 < yP (uT υ) := pm1 b1.2.2.2.2 b1.1 hu.1.1.2.1
    have eu : s_X5_isFull 49 (nI q.1) L = some (qbI (yFu (uT υ) q.1), L) := r_full (vR h l2.1) hu.1 l2.2.1.1 hp
    have r24 : L.2.2 49 24 = some 64 := yrf_49 (vR h l2.1) (j := 24) rfl
    rw [l1, qb1, if_neg q10, if_pos (show nI 3 = (3 : Int32) from rfl), if_pos (show nI 0 = (0 : Int32) from rfl), l3, eu, qb1]
    show if yFu (uT υ) q.1 = true then _ else _
    cases hfu : yFu (uT υ) q.1
    · rw [if_neg (by decide), qb_ifF, r24, qrs, qsI _ _ (by show 0 < 3; decide), l3]
      exact ⟨hf_sI L 64 0 (nI q.1), rfl, ⟨Gv_64 l2.1, rU_64 l2.2.1, by rw [gI (by omega)]; exact l2.2.2.1, l2.2.2.2⟩, gI0⟩
    · rw [if_pos rfl, qb_ifT]
      exact vE_bz l2.1
theorem r_item3 (h : vX T n s M) (hu : uWF υ) (hK : rT M υ n a K) (hS24 : yS (uT υ) < 24) (v3 : Int32) : vO M n (yJ3 T n υ a) (s_X5_item_119 49 (nI 3) v3 K) := by
  have hF := hu.1.1.1
  have e0 : s_X5_item_119 49 (nI 3) v3 K = s_X5_item_142 49 (nI 3) (nI 3) 2000 v3 (nI 0) K := (if_neg (by decide)).trans (if_pos rfl)
  rw [e0, r_142z (fu := 1999) (by omega) (by omega), r_204 hK (by omega) (by omega)]
  have x := r_225s (k142 := s_X5_item_142 49 (nI 3) (nI 3) 1999) (v4 := nI 3) h hu hK
  unfold yJ3
  rw [if_neg (show ¬ (3 = 2 ∧ 0 = 0) by omega)]
  cases hx : yNm T n 0 (nI (yP (uT υ)) - 1) a with
  | inl e => rw [hx] at x; exact x
  | inr q =>
    rw [hx] at x
    have b1 := yNm_b hK.2.2.2 hx
    have hp : q.1 < yP (uT υ) := pm1 b1.2.2.2.2 b1.1 hu.1.1.2.1
    have x' : if yFu (uT υ) q.1 = true then vE M a _ else _ := x
    show vO M n (if yFu (uT υ) q.1 = true then .inl a else sb (ySg T n q.2) _) _
    cases hfu : yFu (uT υ) q.1
    · rw [hfu, if_neg (by decide)] at x'
      rw [if_neg (by decide)]
      obtain ⟨L, l1, l2, l3⟩ := x'
      rw [l1]
      have y := r_142s h l2 (w := 3) (v4 := 3) (v5 := 1) (fu := 1998) (v3 := nI a) (by omega) (by omega) (by omega)
      cases hy : ySg T n q.2 with
      | inl e => rw [hy] at y; exact y
      | inr r =>
        rw [hy] at y
        obtain ⟨y1, y2⟩ := y
        have z := r_225 (k142 := s_X5_item_142 49 (nI 3) (nI 3) 1998) (v4 := nI 3) (lo := 0) h y2 (w := 3) (v5 := 1) (hi_3 y2).2.1 (by omega) (by omega) (by omega)
        rw [y1, r_204 y2 (by omega) (by omega), if_neg (show ¬ (3 = 2 ∧ 1 = 0) by omega)]
        show vO M n (sb (yNm T n 0 (nI (yF (uT υ)) - 1) r) _) _
        cases hz : yNm T n 0 (nI (yF (uT υ)) - 1) r with
        | inl e => rw [hz] at z; exact z
        | inr t =>
          rw [hz] at z
          obtain ⟨B, d1, d2, d3, d4⟩ := z
          have b2 := yNm_b y2.2.2.2 hz
          have hf : t.1 < yF (uT υ) := pm1 b2.2.2.2.2 b2.1 hF
          have e64 : B.1 64 0 = nI q.1 := by rw [d4 0 (by decide), gI (by omega)]; exact l3
          rw [d1]
          have y' := r_142s h d2 (w := 3) (v4 := 3) (v5 := 2) (fu := 1997) (v3 := nI r) (by omega) (by omega) (by omega)
          show vO M n (sb (ySg T n t.2) _) _
          cases hy2 : ySg T n t.2 with
          | inl e => rw [hy2] at y'; exact y'
          | inr u =>
            rw [hy2] at y'
            obtain ⟨y3, y4⟩ := y'
            have v := r_225 (k142 := s_X5_item_142 49 (nI 3) (nI 3) 1997) (v4 := nI 3) (lo := 0) h y4 (w := 3) (v5 := 2) (hi_3 y4).2.2 (by omega) (by omega) (by omega)
            rw [y3, r_204 y4 (by omega) (by omega), if_neg (show ¬ (3 = 2 ∧ 2 = 0) by omega)]
            show vO M n (sb (yNm T n 0 1 u) _) _
            cases hv : yNm T n 0 1 u with
            | inl e => rw [hv] at v; exact v
            | inr x =>
              rw [hv] at v
              obtain ⟨D, o1, o2, o3, o4⟩ := v
              have b3 := yNm_b y4.2.2.2 hv
              have f0 : D.1 64 0 = nI q.1 := by rw [o4 0 (by decide), gI (by omega)]; exact e64
              have f1 : D.1 64 1 = nI t.1 := by rw [o4 1 (by decide), gI (by omega)]; exact d3
              rw [d01 b3.2.2.2.2 b3.1] at o3
              have hc := yFu_f hfu
              obtain ⟨E, e1, e2⟩ := r_leaves (b := decide (x.1 = 1)) (vR h o2.1) hu.1 o2.2.1.1 hp (show t.1 < 6 by omega) hc (show yS (uT υ) < 50 by omega)
              have e2' : gG GrT D E := gG_mono e2 (fun k j hk => by unfold Gr at hk; unfold GrT; omega)
              have rE' : rU υ E := rU_ag (ag_g e2 (fun k j hk hn => by unfold Zr at hk; unfold Gr at hn; omega)) o2.2.1
              have o5 : rT M υ n x.2 E := rT_g o2 e2' rE'
              have q0 : E.1 64 0 = nI q.1 := by rw [(e2.2 64 0 (by unfold Gr; omega)).1]; exact f0
              have q1' : E.1 64 1 = nI t.1 := by rw [(e2.2 64 1 (by unfold Gr; omega)).1]; exact f1
              have q2' : E.1 64 2 = qbI (decide (x.1 = 1)) := by rw [(e2.2 64 2 (by unfold Gr; omega)).1]; exact o3
              have hle := ypop_le (yWd (yad (uT υ) q.1 t.1 (decide (x.1 = 1))) yA1 99)
              have ele : (nI (ypop (yWd (yad (uT υ) q.1 t.1 (decide (x.1 = 1))) yA1 99)) = 0) ↔ yWa (uT υ) q.1 t.1 (decide (x.1 = 1)) = 0 := by
                show _ ↔ yWd (yad (uT υ) q.1 t.1 (decide (x.1 = 1))) yA1 99 = 0
                rw [← ypop_0]
                exact nI_eq (b := 0) (by omega) (by decide)
              clear hle
              have ee : ∀ F : Int32 → hf_M → Option (Int32 × hf_M), hf_rf (D.2.2 49 24) (fun q17 => hf_ldI D q17 0 (fun r18 => hf_rf (D.2.2 49 24) (fun q19 => hf_ldI D q19 1 (fun r20 => hf_rf (D.2.2 49 24) (fun q21 => hf_ldI D q21 2 (fun r22 => hf_bd (s_X5_leaves 49 r18 r20 r22 D) F)))))) = hf_bd (s_X5_leaves 49 (nI q.1) (nI t.1) (qbI (decide (x.1 = 1))) D) F := fun F => by
                refine (r_64 h o2 (j := 0) (by decide) _).trans ?_
                refine (r_64 h o2 (j := 1) (by decide) _).trans ?_
                refine (r_64 h o2 (j := 2) (by decide) _).trans ?_
                rw [f0, f1, o3]
              rw [o1, s_X5_item_142, if_pos (show nI 3 ≤ nI (2 + 1) by decide), if_neg (show ¬ nI 3 = (0 : Int32) by decide), if_neg (show ¬ nI 3 = (1 : Int32) by decide), if_neg (show ¬ nI 3 = (2 : Int32) by decide), if_pos (show nI 3 = (3 : Int32) from rfl), ee, e1, qb1]
              show vO M n (if yWa (uT υ) q.1 t.1 (decide (x.1 = 1)) = 0 then .inl u else .inr (uS υ q.1 t.1 (decide (x.1 = 1)), x.2)) _
              by_cases g0 : yWa (uT υ) q.1 t.1 (decide (x.1 = 1)) = 0
              · rw [if_pos g0, if_pos (ele.mpr g0)]
                exact vE_bz o5.1
              · obtain ⟨N, n1, n2, n3⟩ := r_addU (vR h o5.1) rE' (show yS (uT υ) < 52 by omega) q.1 t.1 (decide (x.1 = 1))
                rw [if_neg g0, if_neg (fun e => g0 (ele.mp e))]
                refine ⟨N, ?_, rT_g o5 n3 n2, uWF_S hu hp hf hfu hS24 g0⟩
                refine (r_64 h o5 (j := 0) (by decide) _).trans ?_
                refine (r_64 h o5 (j := 1) (by decide) _).trans ?_
                refine (r_64 h o5 (j := 2) (by decide) _).trans ?_
                rw [q0, q1', q2', n1, qb1]
    · rw [hfu, if_pos rfl] at x'
      rw [if_pos rfl]
      exact x'
end rd
