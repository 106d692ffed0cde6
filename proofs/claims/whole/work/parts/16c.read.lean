/-! the reference's items, behind their word -/
section pu
variable (T : Nat → Int32) (n : Nat) (υ : hU)
def yJ0 (p : Nat) : Sum Nat (hU × Nat) := sb (yNm T n 0 99 p) fun q => .inr (uF υ (nI q.1), q.2)
def yJ1 (p : Nat) : Sum Nat (hU × Nat) := sb (yNm T n 0 6 p) fun q => sb (ySg T n q.2) fun r => sb (yNm T n 0 1023 r) fun t => .inr (uP υ q.1 t.1, t.2)
def yJ2 (p : Nat) : Sum Nat (hU × Nat) := sb (yNm T n 2 10 p) fun q => sb (ySg T n q.2) fun r => sb (yNm T n 0 (nI q.1) r) fun t => .inr (uL υ q.1 t.1, t.2)
def yJ3 (p : Nat) : Sum Nat (hU × Nat) := sb (yNm T n 0 (nI (yP (uT υ)) - 1) p) fun q => if yFu (uT υ) q.1 = true then .inl p else sb (ySg T n q.2) fun r => sb (yNm T n 0 (nI (yF (uT υ)) - 1) r) fun t => sb (ySg T n t.2) fun u => sb (yNm T n 0 1 u) fun x => if yWa (uT υ) q.1 t.1 (decide (x.1 = 1)) = 0 then .inl u else .inr (uS υ q.1 t.1 (decide (x.1 = 1)), x.2)
def yJ4 (p : Nat) : Sum Nat (hU × Nat) := sb (yNm T n 0 (nI (yF (uT υ)) - 1) p) fun q => sb (ySg T n q.2) fun r => sb (yNm T n 0 1 r) fun x => if yWd (uT υ) yA1 99 &&& yTr q.1 (decide (x.1 = 1)) = 0 then .inl r else .inr (uK υ (yl (uT υ) &&& yTr q.1 (decide (x.1 = 1))), x.2)
end pu
def vO (M : hf_M) (n : Nat) (o : Sum Nat (hU × Nat)) (r : Option (Int32 × hf_M)) : Prop := match o with
  | .inl e => vE M e r
  | .inr q => ∃ L, r = some (1, L) ∧ rT M q.1 n q.2 L ∧ uWF q.1
section rd
variable {T : Nat → Int32} {n s : Nat} {M K : hf_M} {υ : hU} {c a : Nat} {W : Nat → Int32}
theorem rT_g {υ' : hU} {L : hf_M} (hK : rT M υ n a K) (g : gG GrT K L) (hc : rU υ' L) : rT M υ' n a L := by
  obtain ⟨g0, hU', h2, ha⟩ := hK
  refine ⟨gG_tr g0 (gG_mono g (fun k j hk => Or.inl hk)), hc, ?_, ha⟩
  rw [(g.2 49 26 (by unfold GrT; omega)).1]; exact h2
theorem r_142z {w v4 fu : Nat} {v3 : Int32} (h4 : 0 < v4) (h3 : v4 < 4) : s_X5_item_142 49 (nI w) (nI v4) (fu + 1) v3 (nI 0) K = s_X5_item_204 (s_X5_item_142 49 (nI w) (nI v4) fu) 49 (nI w) (nI v4) (nI 0) K := by
  rw [s_X5_item_142, qi_le rfl rfl (by omega) (by omega), if_neg (show ¬ v4 ≤ 0 by omega), if_pos (show nI 0 ≤ (0 : Int32) by decide)]
theorem r_142s (h : vX T n s M) (hK : rT M υ n a K) {w v4 v5 fu : Nat} {v3 : Int32} (h5 : 0 < v5) (h4 : v5 < v4) (h3 : v4 < 4) : match ySg T n a with
    | .inl e => vE M e (s_X5_item_142 49 (nI w) (nI v4) (fu + 1) v3 (nI v5) K)
    | .inr p => s_X5_item_142 49 (nI w) (nI v4) (fu + 1) v3 (nI v5) K = s_X5_item_204 (s_X5_item_142 49 (nI w) (nI v4) fu) 49 (nI w) (nI v4) (nI v5) (hf_sI K 49 26 (nI p)) ∧ rT M υ n p (hf_sI K 49 26 (nI p)) := by
  have hn := h.2.2.1
  obtain ⟨g, hU', h2, ha⟩ := hK
  rw [s_X5_item_142, qi_le rfl rfl (by omega) (by omega), if_neg (show ¬ v4 ≤ v5 by omega), if_neg (show ¬ nI v5 ≤ (0 : Int32) from fun e => absurd ((nI_leI (b := 0) (by omega) (by decide)).mp e) (by omega)), v27 h g, h2, qi_le rfl rfl (by omega) (by omega)]
  unfold ySg
  by_cases e : n ≤ a
  · have t : ¬ tl T n a = 32 := fun e' => absurd (tl_lt (by decide) e') (by omega)
    rw [if_pos e, if_neg t]
    exact vE_bz g
  · obtain ⟨t1, t2⟩ := r_txt h g (b := a) (by omega)
    rw [if_neg e, t2, t1]
    by_cases t : tl T n a = 32
    · rw [if_pos t, if_pos t]
      refine ⟨by rw [qpt, nI_1], Gv_I g (by omega), rU_49 hU' (by omega), gI0, by omega⟩
    · rw [if_neg t, if_neg t]
      exact vE_bz g
theorem r_204 (hK : rT M υ n a K) {k142 : Int32 → Int32 → hf_M → Option (Int32 × hf_M)} {w v5 : Nat} {v4 : Int32} (hw : w < 5) (h5 : v5 < 3) : s_X5_item_204 k142 49 (nI w) v4 (nI v5) K = s_X5_item_225 k142 49 (nI w) (nI a) v4 (nI v5) 49 (if w = 2 ∧ v5 = 0 then 2 else 0) K := by
  unfold s_X5_item_204 s_X5_item_224
  rw [hK.2.2.1, qi_eq (x := nI w) (y := 2) (c := 2) rfl rfl (by omega) (by omega), qi_eq (x := nI v5) (y := 0) (c := 0) rfl rfl (by omega) (by omega)]
  by_cases e : w = 2
  · rw [if_pos e]
    by_cases e2 : v5 = 0
    · rw [if_pos e2, if_pos ⟨e, e2⟩]
    · rw [if_neg e2, if_neg (fun g => e2 g.2)]
  · rw [if_neg e, if_neg (fun g => e g.1)]
theorem r_64 {β : Type} (h : vX T n s M) (hK : rT M υ n a K) {j : Nat} (hj : j < 3) (k : Int32 → Option β) : hf_rf (K.2.2 49 24) (fun q => hf_ldI K q (nI j) k) = k (K.1 64 j) := by
  rw [yrf_49 (vR h hK.1) (j := 24) rfl, qrs, qlI K (by show j < 3; exact hj)]
theorem hi_0 {v : Int32} : s_X5_high 49 (nI 0) v K = some (99, K) := by
  unfold s_X5_high
  rw [if_pos (show nI 0 = (0 : Int32) from rfl)]
theorem hi_1 : s_X5_high 49 (nI 1) (nI 0) K = some (6, K) ∧ s_X5_high 49 (nI 1) (nI 1) K = some (1023, K) := by
  unfold s_X5_high
  rw [if_neg (show ¬ nI 1 = (0 : Int32) by decide), if_pos (show nI 1 = (1 : Int32) from rfl), if_pos (show nI 0 = (0 : Int32) from rfl)]
  refine ⟨rfl, ?_⟩
  rw [if_neg (show ¬ nI 1 = (0 : Int32) by decide), if_pos (show nI 1 = (1 : Int32) from rfl), if_neg (show ¬ nI 1 = (0 : Int32) by decide)]
theorem hi_2 (h : vX T n s M) (hK : rT M υ n a K) : s_X5_high 49 (nI 2) (nI 0) K = some (10, K) ∧ s_X5_high 49 (nI 2) (nI 1) K = some (K.1 64 0, K) := by
  unfold s_X5_high
  rw [if_neg (show ¬ nI 2 = (0 : Int32) by decide), if_neg (show ¬ nI 2 = (1 : Int32) by decide), if_pos (show nI 2 = (2 : Int32) from rfl), if_pos (show nI 0 = (0 : Int32) from rfl)]
  refine ⟨rfl, ?_⟩
  rw [if_neg (show ¬ nI 2 = (0 : Int32) by decide), if_neg (show ¬ nI 2 = (1 : Int32) by decide), if_pos (show nI 2 = (2 : Int32) from rfl), if_neg (show ¬ nI 1 = (0 : Int32) by decide)]
  exact r_64 h hK (j := 0) (by decide) _
theorem hi_3 (hK : rT M υ n a K) : s_X5_high 49 (nI 3) (nI 0) K = some (nI (yP (uT υ)) - 1, K) ∧ s_X5_high 49 (nI 3) (nI 1) K = some (nI (yF (uT υ)) - 1, K) ∧ s_X5_high 49 (nI 3) (nI 2) K = some (1, K) := by
  have e : ∀ v, s_X5_high 49 (nI 3) v K = if v = 0 then some (nI (yP (uT υ)) - 1, K) else if v = 1 then some (nI (yF (uT υ)) - 1, K) else some (1, K) := by
    intro v
    unfold s_X5_high
    rw [if_neg (show ¬ nI 3 = (0 : Int32) by decide), if_neg (show ¬ nI 3 = (1 : Int32) by decide), if_neg (show ¬ nI 3 = (2 : Int32) by decide), if_pos (show nI 3 = (3 : Int32) from rfl), hK.2.1.1.1.1, hK.2.1.1.1.2.1]
  refine ⟨?_, ?_, ?_⟩
  · rw [e, if_pos (show nI 0 = (0 : Int32) from rfl)]
  · rw [e, if_neg (show ¬ nI 1 = (0 : Int32) by decide), if_pos (show nI 1 = (1 : Int32) from rfl)]
  · rw [e, if_neg (show ¬ nI 2 = (0 : Int32) by decide), if_neg (show ¬ nI 2 = (1 : Int32) by decide)]
theorem hi_4 (hK : rT M υ n a K) : s_X5_high 49 (nI 4) (nI 0) K = some (nI (yF (uT υ)) - 1, K) ∧ s_X5_high 49 (nI 4) (nI 1) K = some (1, K) := by
  have e : ∀ v, s_X5_high 49 (nI 4) v K = if v = 0 then some (nI (yF (uT υ)) - 1, K) else some (1, K) := by
    intro v
    unfold s_X5_high
    rw [if_neg (show ¬ nI 4 = (0 : Int32) by decide), if_neg (show ¬ nI 4 = (1 : Int32) by decide), if_neg (show ¬ nI 4 = (2 : Int32) by decide), if_neg (show ¬ nI 4 = (3 : Int32) by decide), hK.2.1.1.1.1]
  refine ⟨?_, ?_⟩
  · rw [e, if_pos (show nI 0 = (0 : Int32) from rfl)]
  · rw [e, if_neg (show ¬ nI 1 = (0 : Int32) by decide)]
theorem r_item0 (h : vX T n s M) (hu : uWF υ) (hK : rT M υ n a K) (hF : yF (uT υ) < 6) (v3 : Int32) : vO M n (yJ0 T n υ a) (s_X5_item_119 49 (nI 0) v3 K) := by
  have e0 : s_X5_item_119 49 (nI 0) v3 K = s_X5_item_142 49 (nI 0) (nI 1) 2000 v3 (nI 0) K := if_pos rfl
  rw [e0, r_142z (fu := 1999) (by omega) (by omega), r_204 hK (by omega) (by omega)]
  have x := r_225 (k142 := s_X5_item_142 49 (nI 0) (nI 1) 1999) (v4 := nI 1) (lo := 0) h hK (w := 0) (v5 := 0) hi_0 (by omega) (by omega) (by omega)
  unfold yJ0
  rw [if_neg (show ¬ (0 = 2 ∧ 0 = 0) by omega)]
  cases hx : yNm T n 0 99 a with
  | inl e => rw [hx] at x; exact x
  | inr q =>
    rw [hx] at x
    obtain ⟨L, l1, l2, l3, l4⟩ := x
    obtain ⟨N, n1, n2, n3⟩ := r_addF (vR h l2.1) l2.2.1 hF (nI q.1)
    have r6 := fun k : Int32 → Option (Int32 × hf_M) => r_64 h l2 (j := 0) (by decide) k
    rw [l1, s_X5_item_142, if_pos (show nI 1 ≤ nI (0 + 1) by decide), if_pos (show nI 0 = (0 : Int32) from rfl)]
    have : hf_rf (L.2.2 49 24) (fun q1 => hf_ldI L q1 0 (fun r2 => hf_bd (s_X5_facts 49 r2 L) (fun r3 M4 => some ((1 : Int32), M4)))) = some (1, N) := by
      have := r6 (fun r2 => hf_bd (s_X5_facts 49 r2 L) (fun r3 M4 => some ((1 : Int32), M4)))
      refine this.trans ?_
      rw [l3, n1, qb1]
    exact ⟨N, this, rT_g l2 n3 n2, uWF_F hu hF _⟩
theorem r_item1 (h : vX T n s M) (hu : uWF υ) (hK : rT M υ n a K) (hP : yP (uT υ) < 6) (v3 : Int32) : vO M n (yJ1 T n υ a) (s_X5_item_119 49 (nI 1) v3 K) := by
  have e0 : s_X5_item_119 49 (nI 1) v3 K = s_X5_item_142 49 (nI 1) (nI 2) 2000 v3 (nI 0) K := (if_neg (by decide)).trans (if_neg (by decide))
  rw [e0, r_142z (fu := 1999) (by omega) (by omega), r_204 hK (by omega) (by omega)]
  have x := r_225 (k142 := s_X5_item_142 49 (nI 1) (nI 2) 1999) (v4 := nI 2) (lo := 0) h hK (w := 1) (v5 := 0) hi_1.1 (by omega) (by omega) (by omega)
  unfold yJ1
  rw [if_neg (show ¬ (1 = 2 ∧ 0 = 0) by omega)]
  cases hx : yNm T n 0 6 a with
  | inl e => rw [hx] at x; exact x
  | inr q =>
    rw [hx] at x
    obtain ⟨L, l1, l2, l3, l4⟩ := x
    have b1 := yNm_b hK.2.2.2 hx
    rw [l1]
    have y := r_142s h l2 (w := 1) (v4 := 2) (v5 := 1) (fu := 1998) (v3 := nI a) (by omega) (by omega) (by omega)
    show vO M n (sb (ySg T n q.2) _) _
    cases hy : ySg T n q.2 with
    | inl e => rw [hy] at y; exact y
    | inr r =>
      rw [hy] at y
      obtain ⟨y1, y2⟩ := y
      have z := r_225 (k142 := s_X5_item_142 49 (nI 1) (nI 2) 1998) (v4 := nI 2) (lo := 0) h y2 (w := 1) (v5 := 1) hi_1.2 (by omega) (by omega) (by omega)
      rw [y1, r_204 y2 (by omega) (by omega), if_neg (show ¬ (1 = 2 ∧ 1 = 0) by omega)]
      show vO M n (sb (yNm T n 0 1023 r) _) _
      cases hz : yNm T n 0 1023 r with
      | inl e => rw [hz] at z; exact z
      | inr t =>
        rw [hz] at z
        obtain ⟨B, d1, d2, d3, d4⟩ := z
        have b2 := yNm_b y2.2.2.2 hz
        have e64 : B.1 64 0 = nI q.1 := by rw [d4 0 (by decide), gI (by omega)]; exact l3
        obtain ⟨N, n1, n2, n3⟩ := r_addP (vR h d2.1) d2.2.1 hP q.1 t.1
        have r6 := fun (j : Nat) (hj : j < 3) (k : Int32 → Option (Int32 × hf_M)) => r_64 h d2 (j := j) hj k
        rw [d1, s_X5_item_142, if_pos (show nI 2 ≤ nI (1 + 1) by decide), if_neg (show ¬ nI 1 = (0 : Int32) by decide), if_pos (show nI 1 = (1 : Int32) from rfl)]
        refine ⟨N, ?_, rT_g d2 n3 n2, uWF_P hu hP (num_le (b := 6) b1.2.2.2.2 b1.1 (by decide)) (num_le (b := 1023) b2.2.2.2.2 b2.1 (by decide))⟩
        refine (r6 0 (by decide) _).trans ?_
        refine (r6 1 (by decide) _).trans ?_
        rw [e64, d3, n1, qb1]
theorem r_item2 (h : vX T n s M) (hu : uWF υ) (hK : rT M υ n a K) (hS0 : yS (uT υ) = 0) (v3 : Int32) : vO M n (yJ2 T n υ a) (s_X5_item_119 49 (nI 2) v3 K) := by
  have e0 : s_X5_item_119 49 (nI 2) v3 K = s_X5_item_142 49 (nI 2) (nI 2) 2000 v3 (nI 0) K := (if_neg (by decide)).trans (if_neg (by decide))
  rw [e0, r_142z (fu := 1999) (by omega) (by omega), r_204 hK (by omega) (by omega)]
  have x := r_225 (k142 := s_X5_item_142 49 (nI 2) (nI 2) 1999) (v4 := nI 2) (lo := 2) h hK (w := 2) (v5 := 0) (hi_2 h hK).1 (by omega) (by omega) (by omega)
  unfold yJ2
  rw [if_pos (show (2 = 2 ∧ 0 = 0) by omega)]
  cases hx : yNm T n 2 10 a with
  | inl e => rw [hx] at x; exact x
  | inr q =>
    rw [hx] at x
    obtain ⟨L, l1, l2, l3, l4⟩ := x
    have b1 := yNm_b hK.2.2.2 hx
    rw [l1]
    have y := r_142s h l2 (w := 2) (v4 := 2) (v5 := 1) (fu := 1998) (v3 := nI a) (by omega) (by omega) (by omega)
    show vO M n (sb (ySg T n q.2) _) _
    cases hy : ySg T n q.2 with
    | inl e => rw [hy] at y; exact y
    | inr r =>
      rw [hy] at y
      obtain ⟨y1, y2⟩ := y
      have e640 : (hf_sI L 49 26 (nI r)).1 64 0 = nI q.1 := by rw [gI (by omega)]; exact l3
      have hh := (hi_2 h y2).2
      rw [e640] at hh
      have z := r_225 (k142 := s_X5_item_142 49 (nI 2) (nI 2) 1998) (v4 := nI 2) (lo := 0) h y2 (w := 2) (v5 := 1) hh (by omega) (by omega) (by omega)
      rw [y1, r_204 y2 (by omega) (by omega), if_neg (show ¬ (2 = 2 ∧ 1 = 0) by omega)]
      show vO M n (sb (yNm T n 0 (nI q.1) r) _) _
      cases hz : yNm T n 0 (nI q.1) r with
      | inl e => rw [hz] at z; exact z
      | inr t =>
        rw [hz] at z
        obtain ⟨B, d1, d2, d3, d4⟩ := z
        have b2 := yNm_b y2.2.2.2 hz
        have e64 : B.1 64 0 = nI q.1 := (d4 0 (by decide)).trans e640
        obtain ⟨n2, n3⟩ := r_setL d2.2.1 q.1 t.1
        have d2' : rT M υ n t.2 (hf_sI B 49 3 (nI q.1)) → True := fun _ => trivial
        rw [d1, s_X5_item_142, if_pos (show nI 2 ≤ nI (1 + 1) by decide), if_neg (show ¬ nI 2 = (0 : Int32) by decide), if_neg (show ¬ nI 2 = (1 : Int32) by decide), if_pos (show nI 2 = (2 : Int32) from rfl)]
        refine ⟨hf_sI (hf_sI B 49 3 (nI q.1)) 49 4 (nI t.1), ?_, rT_g d2 n3 n2, uWF_L hu hS0 (num_ge (b := 2) b1.2.2.2.1 b1.1 (by decide)) (num_le (b := 10) b1.2.2.2.2 b1.1 (by decide)) (num_le b2.2.2.2.2 b2.1 b1.1)⟩
        refine (r_64 h d2 (j := 0) (by decide) _).trans ?_
        rw [e64, qpt]
        have r24 : (hf_sI B 49 3 (nI q.1)).2.2 49 24 = some 64 := yrf_49 (vR h d2.1) (j := 24) rfl
        rw [r24, qrs]
        refine (qlI (hf_sI B 49 3 (nI q.1)) (q := 64) (j := 1) (by decide) _).trans ?_
        rw [gI (by omega), d3, qpt]
end rd
