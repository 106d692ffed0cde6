/-! items, as the document's reader takes them -/
def sb {α β : Type} (o : Sum Nat α) (f : α → Sum Nat β) : Sum Nat β := match o with
  | .inl e => .inl e
  | .inr x => f x
section pu
variable (T : Nat → Int32) (n : Nat) (υ : hU)
def ySg (a : Nat) : Sum Nat Nat := if tl T n a = 32 then .inr (a + 1) else .inl a
def yI0 (a : Nat) : Sum Nat (hU × Nat) := sb (yW T n 0 (decide (yF (uT υ) < 6)) a) fun p => sb (yNm T n 0 99 p) fun q => .inr (uF υ (nI q.1), q.2)
def yI1 (a : Nat) : Sum Nat (hU × Nat) := sb (yW T n 1 (decide (yP (uT υ) < 6)) a) fun p => sb (yNm T n 0 6 p) fun q => sb (ySg T n q.2) fun r => sb (yNm T n 0 1023 r) fun t => .inr (uP υ q.1 t.1, t.2)
def yI2 (a : Nat) : Sum Nat (hU × Nat) := sb (yW T n 2 (decide (yS (uT υ) < 1)) a) fun p => sb (yNm T n 2 10 p) fun q => sb (ySg T n q.2) fun r => sb (yNm T n 0 (nI q.1) r) fun t => .inr (uL υ q.1 t.1, t.2)
def yI3 (a : Nat) : Sum Nat (hU × Nat) := sb (yW T n 3 (decide (yS (uT υ) < 24)) a) fun p => sb (yNm T n 0 (nI (yP (uT υ)) - 1) p) fun q => if yFu (uT υ) q.1 = true then .inl p else sb (ySg T n q.2) fun r => sb (yNm T n 0 (nI (yF (uT υ)) - 1) r) fun t => sb (ySg T n t.2) fun u => sb (yNm T n 0 1 u) fun x => if yWa (uT υ) q.1 t.1 (decide (x.1 = 1)) = 0 then .inl u else .inr (uS υ q.1 t.1 (decide (x.1 = 1)), x.2)
def yI4 (a : Nat) : Sum Nat (hU × Nat) := sb (yW T n 4 true a) fun p => sb (yNm T n 0 (nI (yF (uT υ)) - 1) p) fun q => sb (ySg T n q.2) fun r => sb (yNm T n 0 1 r) fun x => if yWd (uT υ) yA1 99 &&& yTr q.1 (decide (x.1 = 1)) = 0 then .inl r else .inr (uK υ (yl (uT υ) &&& yTr q.1 (decide (x.1 = 1))), x.2)
def yIt (a : Nat) : Sum Nat (hU × Nat) := if tl T n a = 102 then yI0 T n υ a else if tl T n a = 107 then yI4 T n υ a else if tl T n a = 108 then yI2 T n υ a else if tl T n a = 109 then yI1 T n υ a else if tl T n a = 115 then yI3 T n υ a else .inl a
end pu
section rd
variable {T : Nat → Int32} {n s : Nat} {M K : hf_M} {υ : hU} {c a : Nat}
theorem yW_room {w : Nat} {r : Bool} {p : Nat} (e : yW T n w r a = .inr p) : r = true := by
  cases r
  · unfold yW at e
    by_cases h : ymm T n w a (wl w) 0 = wl w
    · rw [if_pos h, if_neg (by decide)] at e
      cases e
    · rw [if_neg h] at e
      cases e
  · rfl
def cO (M : hf_M) (n c : Nat) (o : Sum Nat (hU × Nat)) (r : Option (Int32 × hf_M)) : Prop := match o with
  | .inl e => cE M c e r
  | .inr q => ∃ L, r = some (1, L) ∧ cT M q.1 n c q.2 L ∧ uWF q.1
theorem cE_bd {e : Nat} {x : Option (Int32 × hf_M)} {F : Int32 → hf_M → Option (Int32 × hf_M)} (h : cE M c e x) : cE M c e (hf_bd x (fun r N => if r = 0 then some (0, N) else F r N)) := by
  obtain ⟨L, l1, l2⟩ := h
  exact ⟨L, by rw [l1, qb1, if_pos rfl], l2⟩
theorem cT_g {υ' : hU} {L : hf_M} (hK : cT M υ n c a K) (g : gG (Gq 19) K L) (hc : cU 19 υ' L) : cT M υ' n c a L := by
  obtain ⟨g0, hU', h2, h4, ha⟩ := hK
  refine ⟨gG_tr g0 (gG_mono g (fun k j hk => by unfold Gq at hk; unfold Gt; omega)), hc, ?_, ?_, ha⟩
  · rw [(g.2 29 2 (by unfold Gq; omega)).1]; exact h2
  · rw [(g.2 29 4 (by unfold Gq; omega)).1]; exact h4
theorem c_sg (h : tX T n s M) (hK : cT M υ n c a K) : match ySg T n a with
    | .inl e => cE M c e (s_X1_isSign 29 32 K)
    | .inr p => ∃ L, s_X1_isSign 29 32 K = some (1, L) ∧ cT M υ n c p L ∧ (∀ j, j ≠ 2 → L.1 29 j = K.1 29 j) := by
  unfold ySg
  by_cases e : tl T n a = 32
  · rw [if_pos e]
    exact c_sign_ok h hK (by decide) e
  · rw [if_neg e]
    exact c_sign_no h hK e
theorem pm1 {v P : Nat} (h : nI v ≤ nI P - 1) (hv : v < 10000) (hP : P ≤ 6) : v < P := by
  rcases Nat.eq_zero_or_pos P with e | e
  · subst e
    have h1 : nI v ≤ (-1 : Int32) := h
    have h2 : (0 : Int32) ≤ nI v := nI_le (a := 0) (Nat.zero_le _) (by omega)
    exact absurd (Int32.le_trans h2 h1) (by decide)
  · rw [show (1 : Int32) = nI 1 from rfl, pk_sub (by omega)] at h
    have := (nI_leI (by omega) (by omega)).mp h
    omega
theorem num_le {v b : Nat} (h : nI v ≤ nI b) (hv : v < 10000) (hb : b < 10000) : v ≤ b := (nI_leI (by omega) (by omega)).mp h
theorem num_ge {v b : Nat} (h : ¬ nI v < nI b) (hv : v < 10000) (hb : b < 10000) : b ≤ v := by
  rcases Nat.lt_or_ge v b with g | g
  · exact absurd (nI_lt g (by omega)) h
  · exact g
theorem c_item0 (h : tX T n s M) (hu : uWF υ) (hK : cT M υ n c a K) : cO M n c (yI0 T n υ a) (s_X1_readFact 29 K) := by
  have hF := hu.1.1.1
  have e0 : s_X1_readFact 29 K = hf_bd (s_X1_isWord 29 0 (qbI (decide (yF (uT υ) < 6))) K) (fun r M => if r = 0 then some (0, M) else hf_bd (s_X1_isNumber 29 0 99 M) (fun r M5 => if r = 0 then some (0, M5) else hf_rf (M5.2.2 29 1) (fun q => hf_bd (s_X3_addFact q (M5.1 29 5) M5) (fun _ M8 => some (1, M8))))) := by
    unfold s_X1_readFact
    rw [tR1 h hK.1, qrs, hK.2.1.1.1.1, qi_le (show (6 : Int32) = nI 6 from rfl) rfl (by omega) (by omega)]
    by_cases g : 6 ≤ yF (uT υ)
    · rw [if_pos g, decide_eq_false (by omega)]; rfl
    · rw [if_neg g, decide_eq_true (by omega)]; rfl
  rw [e0]
  unfold yI0
  have w := c_word h hK (w := 0) (by decide) (decide (yF (uT υ) < 6))
  cases hw : yW T n 0 (decide (yF (uT υ) < 6)) a with
  | inl e => rw [hw] at w; exact cE_bd w
  | inr p =>
    rw [hw] at w
    obtain ⟨L, l1, l2⟩ := w
    rw [l1, qb1, if_neg q10]
    have x := c_number h l2 0 99
    show cO M n c (sb (yNm T n 0 99 p) fun q => .inr (uF υ (nI q.1), q.2)) _
    cases hx : yNm T n 0 99 p with
    | inl e => rw [hx] at x; exact cE_bd x
    | inr q =>
      rw [hx] at x
      obtain ⟨N, n1, n2, n5, n6⟩ := x
      have hF6 : yF (uT υ) < 6 := of_decide_eq_true (yW_room hw)
      obtain ⟨A, a1, a2, a3, a4⟩ := c_addF (tR0 h n2.1) q19 n2.2.1 hF6 (nI q.1)
      rw [n1, qb1, if_neg q10, tR1 h n2.1, qrs, n5, a1, qb1]
      exact ⟨A, rfl, cT_g n2 a3 a2, uWF_F hu hF6 _⟩
theorem c_item1 (h : tX T n s M) (hu : uWF υ) (hK : cT M υ n c a K) : cO M n c (yI1 T n υ a) (s_X1_readMan 29 K) := by
  have hP := hu.1.1.2.1
  have e0 : s_X1_readMan 29 K = hf_bd (s_X1_isWord 29 1 (qbI (decide (yP (uT υ) < 6))) K) (fun r M => if r = 0 then some (0, M) else hf_bd (s_X1_isNumber 29 0 6 M) (fun r M5 => if r = 0 then some (0, M5) else hf_bd (s_X1_isSign 29 32 M5) (fun r M7 => if r = 0 then some (0, M7) else hf_bd (s_X1_isNumber 29 0 1023 M7) (fun r M9 => if r = 0 then some (0, M9) else hf_rf (M9.2.2 29 1) (fun q => hf_bd (s_X3_addSpeaker q (M5.1 29 5) (M9.1 29 5) M9) (fun _ M12 => some (1, M12))))))) := by
    unfold s_X1_readMan
    rw [tR1 h hK.1, qrs, hK.2.1.1.1.2.1, qi_le (show (6 : Int32) = nI 6 from rfl) rfl (by omega) (by omega)]
    by_cases g : 6 ≤ yP (uT υ)
    · rw [if_pos g, decide_eq_false (by omega)]; rfl
    · rw [if_neg g, decide_eq_true (by omega)]; rfl
  rw [e0]
  unfold yI1
  have w := c_word h hK (w := 1) (by decide) (decide (yP (uT υ) < 6))
  cases hw : yW T n 1 (decide (yP (uT υ) < 6)) a with
  | inl e => rw [hw] at w; exact cE_bd w
  | inr p =>
    rw [hw] at w
    obtain ⟨L, l1, l2⟩ := w
    rw [l1, qb1, if_neg q10]
    have x := c_number h l2 0 6
    show cO M n c (sb (yNm T n 0 6 p) _) _
    cases hx : yNm T n 0 6 p with
    | inl e => rw [hx] at x; exact cE_bd x
    | inr q =>
      rw [hx] at x
      obtain ⟨N, n1, n2, n5, n6⟩ := x
      have b1 := yNm_b l2.2.2.2.2 hx
      rw [n1, qb1, if_neg q10]
      have y := c_sg h n2
      show cO M n c (sb (ySg T n q.2) _) _
      cases hy : ySg T n q.2 with
      | inl e => rw [hy] at y; exact cE_bd y
      | inr r =>
        rw [hy] at y
        obtain ⟨A, a1, a2, a3⟩ := y
        rw [a1, qb1, if_neg q10]
        have z := c_number h a2 0 1023
        show cO M n c (sb (yNm T n 0 1023 r) _) _
        cases hz : yNm T n 0 1023 r with
        | inl e => rw [hz] at z; exact cE_bd z
        | inr t =>
          rw [hz] at z
          obtain ⟨B, d1, d2, d5, d6⟩ := z
          have b2 := yNm_b a2.2.2.2.2 hz
          have hP6 : yP (uT υ) < 6 := of_decide_eq_true (yW_room hw)
          obtain ⟨C, f1, f2, f3, f4⟩ := c_addP (tR0 h d2.1) q19 hu.1 d2.2.1 hP6 q.1 t.1
          rw [d1, qb1, if_neg q10, tR1 h d2.1, qrs, n5, d5, f1, qb1]
          exact ⟨C, rfl, cT_g d2 f3 f2, uWF_P hu hP6 (num_le (b := 6) b1.2.2.2.2 b1.1 (by decide)) (num_le (b := 1023) b2.2.2.2.2 b2.1 (by decide))⟩
theorem c_item2 (h : tX T n s M) (hu : uWF υ) (hK : cT M υ n c a K) : cO M n c (yI2 T n υ a) (s_X1_readLaw 29 K) := by
  have hS := hu.2.1
  have e0 : s_X1_readLaw 29 K = hf_bd (s_X1_isWord 29 2 (qbI (decide (yS (uT υ) < 1))) K) (fun r M => if r = 0 then some (0, M) else hf_bd (s_X1_isNumber 29 2 10 M) (fun r M5 => if r = 0 then some (0, M5) else hf_bd (s_X1_isSign 29 32 M5) (fun r M7 => if r = 0 then some (0, M7) else hf_bd (s_X1_isNumber 29 0 (M5.1 29 5) M7) (fun r M9 => if r = 0 then some (0, M9) else hf_rf (M9.2.2 29 1) (fun q10 => hf_pt (hf_sI M9 q10 12 (M5.1 29 5)) (fun M11 => hf_rf (M11.2.2 29 1) (fun q12 => hf_pt (hf_sI M11 q12 13 (M11.1 29 5)) (fun M13 => some (1, M13))))))))) := by
    unfold s_X1_readLaw
    rw [tR1 h hK.1, qrs, hK.2.1.1.1.2.2.1, qi_eq (x := nI (yS (uT υ))) (y := 0) (c := 0) rfl rfl (by omega) (by omega)]
    by_cases g : yS (uT υ) = 0
    · rw [if_pos g, decide_eq_true (by omega)]; rfl
    · rw [if_neg g, decide_eq_false (by omega)]; rfl
  rw [e0]
  unfold yI2
  have w := c_word h hK (w := 2) (by decide) (decide (yS (uT υ) < 1))
  cases hw : yW T n 2 (decide (yS (uT υ) < 1)) a with
  | inl e => rw [hw] at w; exact cE_bd w
  | inr p =>
    rw [hw] at w
    obtain ⟨L, l1, l2⟩ := w
    rw [l1, qb1, if_neg q10]
    have x := c_number h l2 2 10
    show cO M n c (sb (yNm T n 2 10 p) _) _
    cases hx : yNm T n 2 10 p with
    | inl e => rw [hx] at x; exact cE_bd x
    | inr q =>
      rw [hx] at x
      obtain ⟨N, n1, n2, n5, n6⟩ := x
      have b1 := yNm_b l2.2.2.2.2 hx
      rw [n1, qb1, if_neg q10, n5]
      have y := c_sg h n2
      show cO M n c (sb (ySg T n q.2) _) _
      cases hy : ySg T n q.2 with
      | inl e => rw [hy] at y; exact cE_bd y
      | inr r =>
        rw [hy] at y
        obtain ⟨A, a1, a2, a3⟩ := y
        rw [a1, qb1, if_neg q10]
        have z := c_number h a2 0 (nI q.1)
        show cO M n c (sb (yNm T n 0 (nI q.1) r) _) _
        cases hz : yNm T n 0 (nI q.1) r with
        | inl e => rw [hz] at z; exact cE_bd z
        | inr t =>
          rw [hz] at z
          obtain ⟨B, d1, d2, d5, d6⟩ := z
          have b2 := yNm_b a2.2.2.2.2 hz
          have hS0 : yS (uT υ) = 0 := by
            have := of_decide_eq_true (yW_room hw)
            omega
          obtain ⟨f2, f3⟩ := c_setL d2.2.1 q.1 t.1
          have r1 : (hf_sI B 19 12 (nI q.1)).2.2 29 1 = some 19 := (show B.2.2 29 1 = some 19 from tR1 h d2.1)
          rw [d1, qb1, if_neg q10, tR1 h d2.1, qrs, qpt, r1, qrs, qpt, gI (by omega), d5]
          exact ⟨_, rfl, cT_g d2 f3 f2, uWF_L hu hS0 (num_ge (b := 2) b1.2.2.2.1 b1.1 (by decide)) (num_le (b := 10) b1.2.2.2.2 b1.1 (by decide)) (num_le b2.2.2.2.2 b2.1 b1.1)⟩
theorem c_item4 (h : tX T n s M) (hu : uWF υ) (hK : cT M υ n c a K) : cO M n c (yI4 T n υ a) (s_X1_readKnown 29 K) := by
  have hF := hu.1.1.1
  have hS := hu.2.1
  unfold s_X1_readKnown yI4
  have w := c_word h hK (w := 4) (by decide) true
  have w' : match yW T n 4 true a with
    | .inl e => cE M c e (s_X1_isWord 29 4 1 K)
    | .inr p => ∃ L, s_X1_isWord 29 4 1 K = some (1, L) ∧ cT M υ n c p L := w
  cases hw : yW T n 4 true a with
  | inl e => rw [hw] at w'; exact cE_bd w'
  | inr p =>
    rw [hw] at w'
    obtain ⟨L, l1, l2⟩ := w'
    rw [l1, qb1, if_neg q10, tR1 h l2.1, qrs, l2.2.1.1.1.1]
    have x := c_number h l2 0 (nI (yF (uT υ)) - 1)
    show cO M n c (sb (yNm T n 0 (nI (yF (uT υ)) - 1) p) _) _
    cases hx : yNm T n 0 (nI (yF (uT υ)) - 1) p with
    | inl e => rw [hx] at x; exact cE_bd x
    | inr q =>
      rw [hx] at x
      obtain ⟨N, n1, n2, n5, n6⟩ := x
      have b1 := yNm_b l2.2.2.2.2 hx
      have hf : q.1 < yF (uT υ) := pm1 b1.2.2.2.2 b1.1 hF
      rw [n1, qb1, if_neg q10, n5]
      have y := c_sg h n2
      show cO M n c (sb (ySg T n q.2) _) _
      cases hy : ySg T n q.2 with
      | inl e => rw [hy] at y; exact cE_bd y
      | inr r =>
        rw [hy] at y
        obtain ⟨A, a1, a2, a3⟩ := y
        rw [a1, qb1, if_neg q10]
        have z := c_number h a2 0 1
        show cO M n c (sb (yNm T n 0 1 r) _) _
        cases hz : yNm T n 0 1 r with
        | inl e => rw [hz] at z; exact cE_bd z
        | inr t =>
          rw [hz] at z
          obtain ⟨B, d1, d2, d5, d6⟩ := z
          have b2 := yNm_b a2.2.2.2.2 hz
          have hR := tR0 h d2.1
          have eps : s_X3_possible 19 (-1) B = some (yWd (uT υ) yA1 99, B) := c_poss hR q19 hu.1 d2.2.1.1 (by omega) d2.2.1.2.1 (fun i hi => qlb_m1 (by omega))
          have et := fun b => c_truth (f := q.1) (by omega) b B
          have el := fun b => c_learn (f := q.1) d2.2.1 (by omega) b
          have key : ∀ b : Bool, cO M n c (if yWd (uT υ) yA1 99 &&& yTr q.1 b = 0 then .inl r else .inr (uK υ (yl (uT υ) &&& yTr q.1 b), t.2)) (hf_rf (B.2.2 29 1) (fun q20 => hf_bd (s_X3_possible q20 (-1) B) (fun r21 M22 => hf_bd (s_X4_truthOf (nI q.1) (qbI b) M22) (fun r23 M24 => if (lg_cmp (r21 &&& r23) 0) = 0 then hf_bd (s_X1_wrong 29 (M24.1 29 6) M24) (fun r28 M29 => hf_bz r28 (some (r28, M29))) else hf_rf (M24.2.2 29 1) (fun q25 => hf_bd (s_X3_learn q25 (nI q.1) (qbI b) M24) (fun _ M27 => some (1, M27))))))) := by
            intro b
            rw [tR1 h d2.1, qrs, eps, qb1, et b, qb1]
            by_cases g0 : yWd (uT υ) yA1 99 &&& yTr q.1 b = 0
            · rw [if_pos g0, if_pos ((qcmp0 _).mpr g0), c_wrong, qb1, bz0, d6]
              exact ⟨_, rfl, Gt_I d2.1, gI0, by rw [gI (by omega)]; exact d2.2.2.2.1⟩
            · rw [if_neg g0, if_neg (fun e => g0 ((qcmp0 _).mp e)), tR1 h d2.1, qrs, el b, qb1]
              obtain ⟨f1, f2⟩ := c_left d2.2.1 (yl (uT υ) &&& yTr q.1 b)
              exact ⟨_, rfl, cT_g d2 f2 f1, uWF_K hu g0⟩
          rw [d1, qb1, if_neg q10, d5]
          by_cases g1 : t.1 = 1
          · have k1 := key true
            rw [if_pos (show nI t.1 = 1 by rw [g1]; rfl)]
            show cO M n c (if yWd (uT υ) yA1 99 &&& yTr q.1 (decide (t.1 = 1)) = 0 then .inl r else .inr (uK υ (yl (uT υ) &&& yTr q.1 (decide (t.1 = 1))), t.2)) _
            rw [decide_eq_true g1]
            exact k1
          · have k1 := key false
            rw [if_neg (show ¬ nI t.1 = 1 from fun e => g1 ((nI_eq (b := 1) (by omega) (by decide)).mp e))]
            show cO M n c (if yWd (uT υ) yA1 99 &&& yTr q.1 (decide (t.1 = 1)) = 0 then .inl r else .inr (uK υ (yl (uT υ) &&& yTr q.1 (decide (t.1 = 1))), t.2)) _
            rw [decide_eq_false g1]
            exact k1
theorem c_item3 (h : tX T n s M) (hu : uWF υ) (hK : cT M υ n c a K) : cO M n c (yI3 T n υ a) (s_X1_readSays 29 K) := by
  have hF := hu.1.1.1
  have hP := hu.1.1.2.1
  have hS := hu.2.1
  have e0 : s_X1_readSays 29 K = s_X1_readSays_20 29 29 3 (qbI (decide (yS (uT υ) < 24))) K := by
    unfold s_X1_readSays
    rw [tR1 h hK.1, qrs, hK.2.1.1.1.2.2.1, qi_le (show (24 : Int32) = nI 24 from rfl) rfl (by omega) (by omega)]
    by_cases g : 24 ≤ yS (uT υ)
    · rw [if_pos g, decide_eq_false (by omega)]; rfl
    · rw [if_neg g, decide_eq_true (by omega)]; rfl
  rw [e0]
  unfold yI3 s_X1_readSays_20
  have w := c_word h hK (w := 3) (by decide) (decide (yS (uT υ) < 24))
  cases hw : yW T n 3 (decide (yS (uT υ) < 24)) a with
  | inl e => rw [hw] at w; exact cE_bd w
  | inr p =>
    rw [hw] at w
    obtain ⟨L, l1, l2⟩ := w
    have hS24 : yS (uT υ) < 24 := of_decide_eq_true (yW_room hw)
    rw [l1, qb1, if_neg q10, tR1 h l2.1, qrs, l2.2.1.1.1.2.1]
    have x := c_number h l2 0 (nI (yP (uT υ)) - 1)
    show cO M n c (sb (yNm T n 0 (nI (yP (uT υ)) - 1) p) _) _
    cases hx : yNm T n 0 (nI (yP (uT υ)) - 1) p with
    | inl e => rw [hx] at x; exact cE_bd x
    | inr q =>
      rw [hx] at x
      obtain ⟨N, n1, n2, n5, n6⟩ := x
      have b1 := yNm_b l2.2.2.2.2 hx
      have hp : q.1 < yP (uT υ) := pm1 b1.2.2.2.2 b1.1 hP
      have eu : s_X3_isFull 19 (nI q.1) N = some (qbI (yFu (uT υ) q.1), N) := c_full (tR0 h n2.1) q19 hu.1 n2.2.1.1 hp
      rw [n1, qb1, if_neg q10, tR1 h n2.1, qrs, n5, eu, qb1]
      show cO M n c (if yFu (uT υ) q.1 = true then .inl p else sb (ySg T n q.2) _) _
      cases hfu : yFu (uT υ) q.1
      · rw [qb_ifF, if_neg (by decide)]
        have y := c_sg h n2
        cases hy : ySg T n q.2 with
        | inl e => rw [hy] at y; exact cE_bd y
        | inr r =>
          rw [hy] at y
          obtain ⟨A, a1, a2, a3⟩ := y
          rw [a1, qb1, if_neg q10, tR1 h a2.1, qrs, a2.2.1.1.1.1]
          have z := c_number h a2 0 (nI (yF (uT υ)) - 1)
          show cO M n c (sb (yNm T n 0 (nI (yF (uT υ)) - 1) r) _) _
          cases hz : yNm T n 0 (nI (yF (uT υ)) - 1) r with
          | inl e => rw [hz] at z; exact cE_bd z
          | inr t =>
            rw [hz] at z
            obtain ⟨B, d1, d2, d5, d6⟩ := z
            have b2 := yNm_b a2.2.2.2.2 hz
            have hf : t.1 < yF (uT υ) := pm1 b2.2.2.2.2 b2.1 hF
            rw [d1, qb1, if_neg q10, d5]
            have y2 := c_sg h d2
            show cO M n c (sb (ySg T n t.2) _) _
            cases hy2 : ySg T n t.2 with
            | inl e => rw [hy2] at y2; exact cE_bd y2
            | inr u =>
              rw [hy2] at y2
              obtain ⟨C, k1, k2, k3⟩ := y2
              rw [k1, qb1, if_neg q10]
              have v := c_number h k2 0 1
              show cO M n c (sb (yNm T n 0 1 u) _) _
              cases hv : yNm T n 0 1 u with
              | inl e => rw [hv] at v; exact cE_bd v
              | inr x =>
                rw [hv] at v
                obtain ⟨D, o1, o2, o5, o6⟩ := v
                have b3 := yNm_b k2.2.2.2.2 hv
                have hR := tR0 h o2.1
                have hc := yFu_f hfu
                have eps : s_X3_possible 19 (-1) D = some (yWd (uT υ) yA1 99, D) := c_poss hR q19 hu.1 o2.2.1.1 (by omega) o2.2.1.2.1 (fun i hi => qlb_m1 (by omega))
                have key : ∀ b : Bool, cO M n c (if yWa (uT υ) q.1 t.1 b = 0 then .inl u else .inr (uS υ q.1 t.1 b, x.2)) (s_X1_readSays_136 29 (nI q.1) (nI t.1) (qbI b) D) := by
                  intro b
                  obtain ⟨E, e1, e2⟩ := c_after (b := b) hR q19 hu.1 o2.2.1.1 (show yS (uT υ) < 48 by omega) o2.2.1.2.1 hp (show t.1 < 6 by omega) hc (yWd (uT υ) yA1 99)
                  rw [← yWd_add hp hP] at e1
                  have e1' : s_X3_after 19 (nI q.1) (nI t.1) (qbI b) (yWd (uT υ) yA1 99) D = some (yWa (uT υ) q.1 t.1 b, E) := e1
                  have cE' : cU 19 υ E := cU_ag (ag_g e2 (fun k j hk hn => by unfold Zc at hk; unfold Gc at hn; omega)) o2.2.1
                  have o3 : cT M υ n c x.2 E := cT_g o2 (gG_mono e2 (fun k j hk => by unfold Gc at hk; unfold Gq; omega)) cE'
                  have h6 : E.1 29 6 = nI u := by rw [(e2.2 29 6 (by unfold Gc; omega)).1]; exact o6
                  unfold s_X1_readSays_136
                  rw [tR1 h o2.1, qrs, qrs, eps, qb1, e1', qb1]
                  by_cases g0 : yWa (uT υ) q.1 t.1 b = 0
                  · rw [if_pos g0, if_pos ((qcmp0 _).mpr g0), c_wrong, qb1, bz0, h6]
                    exact ⟨_, rfl, Gt_I o3.1, gI0, by rw [gI (by omega)]; exact o3.2.2.2.1⟩
                  · obtain ⟨G, g1, g2, g3⟩ := c_putU (f := t.1) (tR0 h o3.1) q19 hu.1 cE' (show yS (uT υ) < 48 by omega) hp (by omega) b
                    rw [if_neg g0, if_neg (fun e => g0 ((qcmp0 _).mp e)), tR1 h o3.1, qrs, g1, qb1]
                    exact ⟨G, rfl, cT_g o3 g3 g2, uWF_S hu hp hf hfu hS24 g0⟩
                rw [o1, qb1, if_neg q10, o5]
                by_cases g1 : x.1 = 1
                · have k1 := key true
                  rw [if_pos (show nI x.1 = 1 by rw [g1]; rfl)]
                  show cO M n c (if yWa (uT υ) q.1 t.1 (decide (x.1 = 1)) = 0 then .inl u else .inr (uS υ q.1 t.1 (decide (x.1 = 1)), x.2)) _
                  rw [decide_eq_true g1]
                  exact k1
                · have k1 := key false
                  rw [if_neg (show ¬ nI x.1 = 1 from fun e => g1 ((nI_eq (b := 1) (by omega) (by decide)).mp e))]
                  show cO M n c (if yWa (uT υ) q.1 t.1 (decide (x.1 = 1)) = 0 then .inl u else .inr (uS υ q.1 t.1 (decide (x.1 = 1)), x.2)) _
                  rw [decide_eq_false g1]
                  exact k1
      · rw [qb_ifT, if_pos rfl, c_wrong, qb1, bz0, n6]
        exact ⟨_, rfl, Gt_I n2.1, gI0, by rw [gI (by omega)]; exact n2.2.2.2.1⟩
end rd
