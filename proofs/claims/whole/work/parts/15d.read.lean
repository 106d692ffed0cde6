/-! the class reads it all -/
section rd
variable {T : Nat → Int32} {n s : Nat} {M K : hf_M} {υ : hU} {c a : Nat}
theorem sb_inr {α β : Type} {o : Sum Nat α} {f : α → Sum Nat β} {y : β} (h : sb o f = .inr y) : ∃ x, o = .inr x ∧ f x = .inr y := by
  cases o with
  | inl e => cases h
  | inr x => exact ⟨x, rfl, h⟩
theorem yW_lt {w : Nat} {r : Bool} {p : Nat} (e : yW T n w r a = .inr p) : a < p ∧ (a ≤ n → p ≤ n) := by
  unfold yW at e
  by_cases h : ymm T n w a (wl w) 0 = wl w
  · rw [if_pos h] at e
    cases r
    · rw [if_neg (by decide)] at e; cases e
    · rw [if_pos rfl] at e
      by_cases t : tl T n (a + wl w) = 32
      · rw [if_pos t] at e
        cases e
        exact ⟨by omega, fun _ => tl_lt (by decide) t⟩
      · rw [if_neg t] at e; cases e
  · rw [if_neg h] at e; cases e
theorem ySg_lt {p : Nat} (e : ySg T n a = .inr p) : p = a + 1 ∧ p ≤ n := by
  unfold ySg at e
  by_cases t : tl T n a = 32
  · rw [if_pos t] at e
    cases e
    exact ⟨rfl, tl_lt (by decide) t⟩
  · rw [if_neg t] at e; cases e
theorem yIt_lt {q : hU × Nat} (ha : a ≤ n) (e : yIt T n υ a = .inr q) : a < q.2 ∧ q.2 ≤ n := by
  unfold yIt at e
  by_cases h1 : tl T n a = 102
  · rw [if_pos h1] at e
    obtain ⟨p, e1, e⟩ := sb_inr e
    obtain ⟨x, e2, e⟩ := sb_inr e
    obtain ⟨p1, p2⟩ := yW_lt e1
    have b := yNm_b (p2 ha) e2
    cases e
    exact ⟨by show a < x.2; omega, b.2.2.1⟩
  rw [if_neg h1] at e
  by_cases h2 : tl T n a = 107
  · rw [if_pos h2] at e
    obtain ⟨p, e1, e⟩ := sb_inr e
    obtain ⟨x, e2, e⟩ := sb_inr e
    obtain ⟨r, e3, e⟩ := sb_inr e
    obtain ⟨t, e4, e⟩ := sb_inr e
    obtain ⟨p1, p2⟩ := yW_lt e1
    have b := yNm_b (p2 ha) e2
    obtain ⟨p3, p4⟩ := ySg_lt e3
    have b2 := yNm_b p4 e4
    by_cases g : yWd (uT υ) yA1 99 &&& yTr x.1 (decide (t.1 = 1)) = 0
    · rw [if_pos g] at e; cases e
    · rw [if_neg g] at e
      cases e
      exact ⟨by show a < t.2; omega, b2.2.2.1⟩
  rw [if_neg h2] at e
  by_cases h3 : tl T n a = 108
  · rw [if_pos h3] at e
    obtain ⟨p, e1, e⟩ := sb_inr e
    obtain ⟨x, e2, e⟩ := sb_inr e
    obtain ⟨r, e3, e⟩ := sb_inr e
    obtain ⟨t, e4, e⟩ := sb_inr e
    obtain ⟨p1, p2⟩ := yW_lt e1
    have b := yNm_b (p2 ha) e2
    obtain ⟨p3, p4⟩ := ySg_lt e3
    have b2 := yNm_b p4 e4
    cases e
    exact ⟨by show a < t.2; omega, b2.2.2.1⟩
  rw [if_neg h3] at e
  by_cases h4 : tl T n a = 109
  · rw [if_pos h4] at e
    obtain ⟨p, e1, e⟩ := sb_inr e
    obtain ⟨x, e2, e⟩ := sb_inr e
    obtain ⟨r, e3, e⟩ := sb_inr e
    obtain ⟨t, e4, e⟩ := sb_inr e
    obtain ⟨p1, p2⟩ := yW_lt e1
    have b := yNm_b (p2 ha) e2
    obtain ⟨p3, p4⟩ := ySg_lt e3
    have b2 := yNm_b p4 e4
    cases e
    exact ⟨by show a < t.2; omega, b2.2.2.1⟩
  rw [if_neg h4] at e
  by_cases h5 : tl T n a = 115
  · rw [if_pos h5] at e
    obtain ⟨p, e1, e⟩ := sb_inr e
    obtain ⟨x, e2, e⟩ := sb_inr e
    obtain ⟨p1, p2⟩ := yW_lt e1
    have b := yNm_b (p2 ha) e2
    by_cases g0 : yFu (uT υ) x.1 = true
    · rw [if_pos g0] at e; cases e
    rw [if_neg g0] at e
    obtain ⟨r, e3, e⟩ := sb_inr e
    obtain ⟨t, e4, e⟩ := sb_inr e
    obtain ⟨u, e5, e⟩ := sb_inr e
    obtain ⟨v, e6, e⟩ := sb_inr e
    obtain ⟨p3, p4⟩ := ySg_lt e3
    have b2 := yNm_b p4 e4
    obtain ⟨p5, p6⟩ := ySg_lt e5
    have b3 := yNm_b p6 e6
    by_cases g : yWa (uT υ) x.1 t.1 (decide (v.1 = 1)) = 0
    · rw [if_pos g] at e; cases e
    · rw [if_neg g] at e
      cases e
      exact ⟨by show a < v.2; omega, b3.2.2.1⟩
  rw [if_neg h5] at e
  cases e
def cI (M : hf_M) (n c : Nat) (o : Sum Nat (hU × Nat)) (r : Option (Int32 × hf_M)) : Prop := match o with
  | .inl e => cE M (c + 1) e r
  | .inr q => ∃ L, r = some (1, L) ∧ cT M q.1 n (c + 1) q.2 L ∧ uWF q.1
theorem cI_of {o : Sum Nat (hU × Nat)} {r : Option (Int32 × hf_M)} (h : cO M n c o r) : cI M n c o (hf_bd r (fun r3 M4 => hf_pt (hf_sI M4 29 4 ((M4.1 29 4) + 1)) (fun M5 => hf_bz r3 (some (r3, M5))))) := by
  cases o with
  | inl e =>
    obtain ⟨L, l1, l2, l3, l4⟩ := h
    exact ⟨hf_sI L 29 4 (nI (c + 1)), by rw [l1, qb1, qpt, bz0, l4, nI_1], Gt_I l2, by rw [gI (by omega)]; exact l3, gI0⟩
  | inr q =>
    obtain ⟨L, l1, l2, l3⟩ := h
    exact ⟨hf_sI L 29 4 (nI (c + 1)), by rw [l1, qb1, qpt, bz1, l2.2.2.2.1, nI_1], ⟨Gt_I l2.1, cU_29 l2.2.1, by rw [gI (by omega)]; exact l2.2.2.1, gI0, l2.2.2.2.2⟩, l3⟩
theorem c_item (h : tX T n s M) (hu : uWF υ) (hK : cT M υ n c a K) : cI M n c (yIt T n υ a) (s_X1_readItem 29 K) := by
  unfold s_X1_readItem yIt
  rw [c_letter h hK.1 hK.2.2.1 hK.2.2.2.2, qb1]
  by_cases h1 : tl T n a = 102
  · rw [if_pos h1, if_pos h1]
    exact cI_of (c_item0 h hu hK)
  rw [if_neg h1, if_neg h1]
  by_cases h2 : tl T n a = 107
  · rw [if_pos h2, if_pos h2]
    exact cI_of (c_item4 h hu hK)
  rw [if_neg h2, if_neg h2]
  by_cases h3 : tl T n a = 108
  · rw [if_pos h3, if_pos h3]
    exact cI_of (c_item2 h hu hK)
  rw [if_neg h3, if_neg h3]
  by_cases h4 : tl T n a = 109
  · rw [if_pos h4, if_pos h4]
    exact cI_of (c_item1 h hu hK)
  rw [if_neg h4, if_neg h4]
  by_cases h5 : tl T n a = 115
  · rw [if_pos h5, if_pos h5]
    exact cI_of (c_item3 h hu hK)
  rw [if_neg h5, if_neg h5, hK.2.2.1]
  exact cI_of (o := .inl a) ⟨hf_sI K 29 3 (nI a), c_wrong _, Gt_I hK.1, gI0, by rw [gI (by omega)]; exact hK.2.2.2.1⟩
def yLp (T : Nat → Int32) (n : Nat) : Nat → hU → Nat → Nat → Sum Nat (hU × Nat)
  | 0, υ, _, c => .inr (υ, c)
  | k + 1, υ, p, c => if n ≤ p then .inr (υ, c) else if tl T n p = 59 then sb (yIt T n υ (p + 1)) fun q => yLp T n k q.1 q.2 (c + 1) else .inl p
def cL (M : hf_M) (o : Sum Nat (hU × Nat)) (r : Option (Int32 × hf_M)) : Prop := match o with
  | .inl e => ∃ L, r = some (nI e, L) ∧ gG Gt M L
  | .inr q => ∃ L, r = some (-1, L) ∧ gG Gt M L ∧ cU 19 q.1 L ∧ L.1 29 4 = nI q.2 ∧ uWF q.1
theorem c_lp0 {e fu : Nat} {x : Option (Int32 × hf_M)} {v4 : Int32} (h : cE M c e x) : ∃ L, x = some (0, L) ∧ s_X1_read_33 29 (fu + 1) 0 v4 L = some (nI e, L) ∧ gG Gt M L := by
  obtain ⟨L, l1, l2, l3, l4⟩ := h
  exact ⟨L, l1, by rw [s_X1_read_33, if_pos rfl, if_pos rfl, l3], l2⟩
theorem c_lp (h : tX T n s M) : ∀ (k fu v4 p c : Nat) (υ : hU) (K : hf_M), n < p + k → k + 1 < fu → v4 ≤ p → cT M υ n c p K → uWF υ → cL M (yLp T n k υ p c) (s_X1_read_33 29 fu 1 (nI v4) K) := by
  have hn := h.2.2.1
  intro k
  induction k with
  | zero =>
    intro fu v4 p c υ K hp hf hv hK hu
    exact absurd hK.2.2.2.2 (by omega)
  | succ k ih =>
    intro fu v4 p c υ K hp hf hv hK hu
    obtain ⟨fu, rfl⟩ : ∃ u, fu = u + 2 := ⟨fu - 2, by omega⟩
    have r : K.2.2 29 0 = some (33 + 2 * s) := by rw [hK.1.1]; exact h.2.2.2.1
    have esz : K.1 (33 + 2 * s) 2 = nI n := by rw [(hK.1.2 (33 + 2 * s) 2 (by have := h.2.1; unfold Gt; omega)).1]; exact h.2.2.2.2.2.1
    have e0 : yLp T n (k + 1) υ p c = if n ≤ p then .inr (υ, c) else if tl T n p = 59 then sb (yIt T n υ (p + 1)) fun q => yLp T n k q.1 q.2 (c + 1) else .inl p := rfl
    rw [e0, s_X1_read_33, if_neg q10, r, qrs, esz, hK.2.2.1, qi_le rfl rfl (by have := hK.2.2.2.2; omega) (by have := hK.2.2.2.2; omega)]
    by_cases g1 : n ≤ p
    · rw [if_pos g1, if_pos g1, if_neg q10]
      exact ⟨K, rfl, hK.1, hK.2.1, hK.2.2.2.1, hu⟩
    · rw [if_neg g1, if_neg g1, qi_le (show (160 : Int32) = nI 160 from rfl) rfl (by omega) (by omega), if_neg (show ¬ 160 ≤ v4 by omega)]
      by_cases g2 : tl T n p = 59
      · rw [if_pos g2]
        obtain ⟨L, l1, l2, -⟩ := c_sign_ok h hK (x := 59) (by decide) g2
        rw [l1, qb1, if_neg q10]
        have it := c_item h hu l2
        cases hi : yIt T n υ (p + 1) with
        | inl e =>
          rw [hi] at it
          obtain ⟨N, n1, n2, n3⟩ := c_lp0 (fu := fu) (v4 := nI v4 + 1) it
          refine ⟨N, ?_, n3⟩
          rw [n1, qb1, if_pos rfl]
          exact n2
        | inr q =>
          rw [hi] at it
          obtain ⟨N, n1, n2, n3⟩ := it
          obtain ⟨q1, q2⟩ := yIt_lt l2.2.2.2.2 hi
          rw [n1, qb1, if_neg q10, nI_1]
          exact ih (fu + 1) (v4 + 1) q.2 (c + 1) q.1 N (by omega) (by omega) (by omega) n2 n3
      · rw [if_neg g2]
        obtain ⟨N, n1, n2, n3⟩ := c_lp0 (fu := fu) (v4 := nI v4 + 1) (c_sign_no h hK (x := 59) g2)
        refine ⟨N, ?_, n3⟩
        rw [n1, qb1, if_pos rfl]
        exact n2
def yRd (T : Nat → Int32) (n : Nat) (υ : hU) : Sum Nat (hU × Nat) := sb (yIt T n υ 0) fun q => yLp T n 170 q.1 q.2 1
theorem c_read (hR : yRf K) (hs : s < 8) (hn : n ≤ 160) (hsz : K.1 (33 + 2 * s) 2 = nI n) (hT : ∀ i, i < n → (K.2.1 (34 + 2 * s) i).toInt32 = T i) (hc : cU 19 υ K) (hu : uWF υ) : cL (hf_sR (hf_sR K 29 0 (some (33 + 2 * s))) 29 1 (some 19)) (yRd T n υ) (s_X1_read 29 (33 + 2 * s) 19 K) := by
  have hr : ∀ k j, k ≠ 29 → (hf_sR (hf_sR K 29 0 (some (33 + 2 * s))) 29 1 (some 19)).2.2 k j = K.2.2 k j := fun k j hk => by
    show (if k = 29 ∧ j = 1 then _ else if k = 29 ∧ j = 0 then _ else K.2.2 k j) = _
    rw [if_neg (by omega), if_neg (by omega)]
  have h : tX T n s (hf_sR (hf_sR K 29 0 (some (33 + 2 * s))) 29 1 (some 19)) := ⟨fun k j hk => (hr k j hk).trans (hR k j hk), hs, hn, rfl, rfl, hsz, hT⟩
  have h0 : cT (hf_sR (hf_sR K 29 0 (some (33 + 2 * s))) 29 1 (some 19)) υ n 0 0 (hf_sI (hf_sI (hf_sI (hf_sR (hf_sR K 29 0 (some (33 + 2 * s))) 29 1 (some 19)) 29 2 0) 29 3 (-1)) 29 4 0) := ⟨Gt_I (Gt_I (Gt_I (gG_refl _ _))), cU_29 (cU_29 (cU_29 hc)), by rw [gI (by omega), gI (by omega), gI0]; rfl, gI0, Nat.zero_le _⟩
  unfold s_X1_read yRd
  rw [qpt, qpt, qpt, qpt, qpt]
  have it := c_item h hu h0
  cases hi : yIt T n υ 0 with
  | inl e =>
    rw [hi] at it
    obtain ⟨N, n1, n2, n3⟩ := c_lp0 (fu := 1999) (v4 := 0) it
    refine ⟨N, ?_, n3⟩
    rw [n1, qb1]
    exact n2
  | inr q =>
    rw [hi] at it
    obtain ⟨N, n1, n2, n3⟩ := it
    rw [n1, qb1]
    exact c_lp h 170 2000 0 q.2 1 q.1 N (by omega) (by omega) (Nat.zero_le _) n2 n3
end rd
