/-! the class's town in the cells q to q + 8 -/
theorem q_if01 {A B : Prop} [Decidable A] [Decidable B] (M : hf_M) (h : A ↔ ¬ B) : (if A then some ((0 : Int32), M) else some (1, M)) = some (qbI (decide B), M) := by
  by_cases hb : B
  · rw [if_neg (fun a => h.mp a hb), decide_eq_true hb]; rfl
  · rw [if_pos (h.mpr hb), decide_eq_false hb]; rfl
theorem q_if10 {A B : Prop} [Decidable A] [Decidable B] (M : hf_M) (h : A ↔ B) : (if A then some ((1 : Int32), M) else some (0, M)) = some (qbI (decide B), M) := by
  by_cases hb : B
  · rw [if_pos (h.mpr hb), decide_eq_true hb]; rfl
  · rw [if_neg (fun a => hb (h.mp a)), decide_eq_false hb]; rfl
theorem qbz {β : Type} (b : Bool) (k : Option β) : hf_bz (qbI b) k = k := by
  unfold hf_bz
  cases b
  · exact if_pos (Or.inl rfl)
  · exact if_pos (Or.inr rfl)
theorem qbI_T {α : Type} {b : Bool} (h : b = true) (s t : α) : (if qbI b = 0 then s else t) = t := by
  subst h; rfl
theorem qbI_F {α : Type} {b : Bool} (h : b = false) (s t : α) : (if qbI b = 0 then s else t) = s := by
  subst h; rfl
def cq (q : Nat) : Prop := q = 1 ∨ q = 10 ∨ q = 19
set_option maxRecDepth 100000 in
theorem cr_ {M : hf_M} (hR : yRf M) {q j : Nat} (hq : cq q) (hj : j < 8) : M.2.2 q j = some (q + (j + 1)) := by
  have h8 : j = 0 ∨ j = 1 ∨ j = 2 ∨ j = 3 ∨ j = 4 ∨ j = 5 ∨ j = 6 ∨ j = 7 := by omega
  rcases hq with rfl | rfl | rfl
  · rw [hR 1 j (by decide)]
    rcases h8 with rfl | rfl | rfl | rfl | rfl | rfl | rfl | rfl <;> rfl
  · rw [hR 10 j (by decide)]
    rcases h8 with rfl | rfl | rfl | rfl | rfl | rfl | rfl | rfl <;> rfl
  · rw [hR 19 j (by decide)]
    rcases h8 with rfl | rfl | rfl | rfl | rfl | rfl | rfl | rfl <;> rfl
section CR
variable {M : hf_M} {q : Nat}
theorem cr0 (hR : yRf M) (hq : cq q) : M.2.2 q 0 = some (q + 1) := cr_ hR hq (j := 0) (by decide)
theorem cr1 (hR : yRf M) (hq : cq q) : M.2.2 q 1 = some (q + 2) := cr_ hR hq (j := 1) (by decide)
theorem cr2 (hR : yRf M) (hq : cq q) : M.2.2 q 2 = some (q + 3) := cr_ hR hq (j := 2) (by decide)
theorem cr3 (hR : yRf M) (hq : cq q) : M.2.2 q 3 = some (q + 4) := cr_ hR hq (j := 3) (by decide)
theorem cr4 (hR : yRf M) (hq : cq q) : M.2.2 q 4 = some (q + 5) := cr_ hR hq (j := 4) (by decide)
theorem cr5 (hR : yRf M) (hq : cq q) : M.2.2 q 5 = some (q + 6) := cr_ hR hq (j := 5) (by decide)
theorem cr6 (hR : yRf M) (hq : cq q) : M.2.2 q 6 = some (q + 7) := cr_ hR hq (j := 6) (by decide)
theorem cr7 (hR : yRf M) (hq : cq q) : M.2.2 q 7 = some (q + 8) := cr_ hR hq (j := 7) (by decide)
end CR
theorem cl6 {q j p : Nat} (hq : cq q) (hj : j < 5) (h0 : 0 < j) (hp : p < 6) : p < hf_len (q + j) := by
  have h4 : j = 1 ∨ j = 2 ∨ j = 3 ∨ j = 4 := by omega
  rcases hq with rfl | rfl | rfl <;> rcases h4 with rfl | rfl | rfl | rfl <;> exact hp
theorem cl48 {q j p : Nat} (hq : cq q) (hj : j < 9) (h0 : 4 < j) (hp : p < 48) : p < hf_len (q + j) := by
  have h4 : j = 5 ∨ j = 6 ∨ j = 7 ∨ j = 8 := by omega
  rcases hq with rfl | rfl | rfl <;> rcases h4 with rfl | rfl | rfl | rfl <;> exact hp
/-- numbers, speakers and sayings of the class's town at q are those of τ -/
def cB (q : Nat) (τ : hT) (M : hf_M) : Prop := (M.1 q 8 = nI (yF τ) ∧ M.1 q 9 = nI (yP τ) ∧ M.1 q 10 = nI (yS τ) ∧ M.1 q 12 = nI (yn τ) ∧ M.1 q 13 = nI (yt τ) ∧ M.2.1 q 11 = yl τ) ∧ (∀ p, p < yP τ → M.1 (q + 2) p = nI (yk τ p) ∧ M.1 (q + 3) p = nI (yc τ p) ∧ M.1 (q + 4) p = nI (ycn (yw τ) p (yS τ))) ∧ (∀ i, i < yS τ → M.1 (q + 5) i = nI (yw τ i) ∧ M.1 (q + 6) i = nI (ycn (yw τ) (yw τ i) i))
def cV (q : Nat) (τ : hT) (w : Nat) (M : hf_M) : Prop := ∀ i, i < yS τ → qlb (M.2.1 (q + 8) i) w = ytr τ w i
def cW (q : Nat) (τ : hT) (M : hf_M) : Prop := ∀ i, i < yS τ → M.1 (q + 7) i = nI (100 * yw τ i + 10 * yf τ i + (yb τ i).toNat)
theorem ygd_skip {τ : hT} {p : Nat} {ch : Nat → Bool} {w i : Nat} (h : (decide (yw τ i = p) && ch i) = false) : ygd τ p ch w (i + 1) = ygd τ p ch w i := by
  show (ygd τ p ch w i && (!decide (yw τ i = p) || !ch i || _)) = ygd τ p ch w i
  by_cases h1 : yw τ i = p
  · rw [decide_eq_true h1, Bool.true_and] at h
    rw [h]; simp
  · rw [decide_eq_false h1]; simp
theorem ygd_hit {τ : hT} {p : Nat} {ch : Nat → Bool} {w i : Nat} (h1 : yw τ i = p) (h2 : ch i = true) : ygd τ p ch w (i + 1) = (ygd τ p ch w i && yst τ p (ytr τ w i) (ycn (yw τ) p i) (ypr τ p ch w i)) := by
  show (ygd τ p ch w i && (!decide (yw τ i = p) || !ch i || _)) = _
  rw [decide_eq_true h1, h2]; simp
theorem yfr_of {τ : hT} {p : Nat} (h : yfr τ p = false) : yk τ p ≠ 0 ∧ yk τ p ≠ 6 := by
  unfold yfr at h
  have := of_decide_eq_false h
  exact ⟨fun e => this (Or.inl e), fun e => this (Or.inr e)⟩
theorem yst_must {τ : hT} {p k : Nat} {tr : Bool} {pr : Option Bool} (h : yfr τ p = false) : yst τ p tr k pr = (tr == ymu τ p k) := by
  unfold yst
  rw [h, decide_eq_false (yfr_of h).2]; simp
theorem yst_0 {τ : hT} {p k : Nat} {tr : Bool} {pr : Option Bool} (h : yk τ p = 0) : yst τ p tr k pr = true := by
  unfold yst yfr
  rw [h]; simp
theorem yst_6 {τ : hT} {p k : Nat} {tr : Bool} {pr : Option Bool} (h : yk τ p = 6) : yst τ p tr k pr = !(decide (k % 2 = 1) && decide (pr = some tr)) := by
  unfold yst yfr
  rw [h]; simp
theorem ygd_0 {τ : hT} {p : Nat} {ch : Nat → Bool} {w : Nat} (h : yk τ p = 0) : ∀ i, ygd τ p ch w i = true
  | 0 => rfl
  | i + 1 => by
    show (ygd τ p ch w i && (!decide (yw τ i = p) || !ch i || yst τ p _ _ _)) = true
    rw [ygd_0 h i, yst_0 h]; simp
section CB
variable {τ : hT} {M : hf_M} {q : Nat}
theorem c_late (h : cB q τ M) (hw : yWF τ) {k : Nat} (hk : k ≤ 50) : s_X3_mustLateBeTrue q (nI k) M = some (qbI (if yt τ = 0 ∨ yt τ = yn τ then decide (k < yt τ) else decide (k + 1 < yt τ ∨ k + 1 = yn τ)), M) := by
  obtain ⟨⟨hF, hP, hS, hn, ht, hl⟩, -⟩ := h
  obtain ⟨⟨w1, w2, w3, w4, w5, w6⟩, -⟩ := hw
  unfold s_X3_mustLateBeTrue
  rw [hn, ht, qi_eq rfl (show (0 : Int32) = nI 0 from rfl) (by omega) (by omega), qi_eq rfl rfl (by omega) (by omega), qi_le rfl rfl (by omega) (by omega)]
  by_cases c0 : yt τ = 0
  · rw [if_pos c0, if_pos (Or.inl c0)]
    exact q_if01 M (by omega)
  · rw [if_neg c0]
    by_cases c1 : yt τ = yn τ
    · rw [if_pos c1, if_pos (Or.inr c1)]
      exact q_if01 M (by omega)
    · have e4 : nI (yt τ) - 1 = nI (yt τ - 1) := pk_sub (a := yt τ) (b := 1) (by omega)
      have e5 : nI (yn τ) - 1 = nI (yn τ - 1) := pk_sub (a := yn τ) (b := 1) (by omega)
      rw [if_neg c1, if_neg (show ¬ (yt τ = 0 ∨ yt τ = yn τ) by omega), e4, e5, qi_lt rfl rfl (by omega) (by omega), qi_eq rfl rfl (by omega) (by omega)]
      by_cases c2 : k < yt τ - 1
      · rw [if_pos c2, decide_eq_true (by omega)]; rfl
      · rw [if_neg c2]
        exact q_if10 M (by omega)
theorem c_must (hR : yRf M) (hq : cq q) (hw : yWF τ) (h : cB q τ M) {p k : Nat} (hp : p < yP τ) (hk : k ≤ 20) (hf : yfr τ p = false) : s_X3_mustBeTrue q (nI p) (nI k) M = some (qbI (ymu τ p k), M) := by
  have hl := c_late h hw (k := k) (by omega)
  obtain ⟨⟨hF, hP, hS, hn, ht, -⟩, hkc, -⟩ := h
  obtain ⟨⟨w1, w2, w3, w4, w5, w6⟩, wk, -⟩ := hw
  have k1 := wk p hp
  obtain ⟨n0, n6⟩ := yfr_of hf
  unfold s_X3_mustBeTrue
  rw [cr1 hR hq, qrs, qlI M (cl6 hq (by decide) (by decide) (by omega)), (hkc p hp).1, hn, ht, hl, qb1, qbz, cr2 hR hq, qrs, qrs, qlI M (cl6 hq (by decide) (by decide) (by omega)), qlI M (cl6 hq (by decide) (by decide) (by omega)), (hkc p hp).2.1]
  rw [qi_eq rfl (show (1 : Int32) = nI 1 from rfl) (by omega) (by omega), qi_eq rfl (show (2 : Int32) = nI 2 from rfl) (by omega) (by omega), qi_eq rfl (show (3 : Int32) = nI 3 from rfl) (by omega) (by omega), qi_eq rfl (show (4 : Int32) = nI 4 from rfl) (by omega) (by omega), qi_eq rfl (show (5 : Int32) = nI 5 from rfl) (by omega) (by omega)]
  rw [qi_le rfl rfl (by omega) (by omega), pk_sub w6, qi_lt rfl rfl (by omega) (by omega), qsb (by omega) (by omega)]
  unfold ymu
  by_cases e1 : yk τ p = 1
  · rw [if_pos e1, if_pos e1]
    exact q_if01 M (by omega)
  · rw [if_neg e1, if_neg e1]
    by_cases e2 : yk τ p = 2
    · rw [if_pos e2, if_pos e2]
      exact q_if01 M (by omega)
    · rw [if_neg e2, if_neg e2]
      by_cases e3 : yk τ p = 3
      · rw [if_pos e3, if_pos e3]
      · rw [if_neg e3, if_neg e3]
        by_cases e4 : yk τ p = 4
        · rw [if_pos e4, if_pos e4]
          cases (yc τ p).testBit k <;> rfl
        · rw [if_neg e4, if_neg e4, if_pos (by omega)]
          cases (yc τ p).testBit k <;> rfl
theorem c_free (hR : yRf M) (hq : cq q) (hw : yWF τ) (h : cB q τ M) {p : Nat} (hp : p < yP τ) : s_X3_isFree q (nI p) M = some (qbI (yfr τ p), M) := by
  have k1 := hw.2.1 p hp
  have hpp := hw.1.2.1
  unfold s_X3_isFree
  rw [cr1 hR hq, qrs, qrs, qlI M (cl6 hq (by decide) (by decide) (by omega)), qlI M (cl6 hq (by decide) (by decide) (by omega)), (h.2.1 p hp).1, qi_eq rfl (show (0 : Int32) = nI 0 from rfl) (by omega) (by omega), qi_eq rfl (show (6 : Int32) = nI 6 from rfl) (by omega) (by omega)]
  unfold yfr
  by_cases e1 : yk τ p = 0
  · simp [e1, qbI]
  · by_cases e2 : yk τ p = 6 <;> simp [e1, e2, qbI]
theorem c_full (hR : yRf M) (hq : cq q) (hw : yWF τ) (h : cB q τ M) {p : Nat} (hp : p < yP τ) : s_X3_isFull q (nI p) M = some (qbI (decide (yn τ ≤ ycn (yw τ) p (yS τ))), M) := by
  have hpp := hw.1.2.1
  have hn := hw.1.2.2.2.2.1
  have hc := hw.2.2.2.1 p
  unfold s_X3_isFull
  rw [cr3 hR hq, qrs, qlI M (cl6 hq (by decide) (by decide) (by omega)), (h.2.1 p hp).2.2, h.1.2.2.2.1, qi_lt rfl rfl (by omega) (by omega)]
  exact q_if01 M (by omega)
theorem c_chosen (hR : yRf M) (hq : cq q) (hw : yWF τ) (h : cB q τ M) (hS : yS τ ≤ 48) {i p : Nat} (hi : i < yS τ) (hp : p < yP τ) (x : Int64) : s_X3_isChosen q (nI i) (nI p) x M = some (qbI (decide (yw τ i = p) && qlb x i), M) := by
  have h1 := (hw.2.2.1 i hi).1
  have h2 := hw.1.2.1
  unfold s_X3_isChosen
  rw [cr4 hR hq, qrs, qlI M (cl48 hq (by decide) (by decide) (by omega)), (h.2.2 i hi).1, qi_eq rfl rfl (by omega) (by omega), qlushr1 x (by omega)]
  by_cases e : yw τ i = p
  · rw [if_pos e, decide_eq_true e, Bool.true_and]
    cases qlb x i
    · rfl
    · rfl
  · rw [if_neg e, decide_eq_false e]; rfl
theorem c_all_loop (hR : yRf M) (hq : cq q) (hw : yWF τ) (h : cB q τ M) (hS : yS τ ≤ 48) {p w : Nat} (hp : p < yP τ) (hv : cV q τ w M) (hww : w < 64) (hf : yfr τ p = false) {x : Int64} {ch : Nat → Bool} (hx : ∀ i, i < yS τ → qlb x i = ch i) : ∀ (k i fuel : Nat) (v : Int64), yS τ = i + k → k < fuel → qlb v w = ygd τ p ch w i → ∃ z, s_X3_allowed_42 q (nI p) x fuel v (nI i) M = some (z, M) ∧ qlb z w = ygd τ p ch w (yS τ) := by
  intro k
  induction k with
  | zero =>
    intro i fuel v hi hfu hg
    obtain ⟨fuel, rfl⟩ : ∃ u, fuel = u + 1 := ⟨fuel - 1, by omega⟩
    refine ⟨v, ?_, ?_⟩
    · rw [s_X3_allowed_42, h.1.2.2.1, qi_le rfl rfl (by omega) (by omega), if_pos (by omega)]
    · rw [hi]; exact hg
  | succ k ih =>
    intro i fuel v hi hfu hg
    obtain ⟨fuel, rfl⟩ : ∃ u, fuel = u + 1 := ⟨fuel - 1, by omega⟩
    have hiS : i < yS τ := by omega
    rw [s_X3_allowed_42, h.1.2.2.1, qi_le rfl rfl (by omega) (by omega), if_neg (by omega), c_chosen hR hq hw h hS hiS hp, qb1, nI_1, hx i hiS]
    cases hc : (decide (yw τ i = p) && ch i)
    · rw [if_pos (show qbI false = 0 from rfl)]
      exact ih (i + 1) fuel v (by omega) (by omega) (by rw [ygd_skip hc]; exact hg)
    · obtain ⟨h1, h2⟩ : yw τ i = p ∧ ch i = true := by simpa using hc
      have hcn : ycn (yw τ) p i ≤ 20 := by
        have a1 := ycn_mono (yw τ) p (Nat.le_of_lt hiS)
        have a2 := hw.2.2.2.1 p
        have a3 := hw.1.2.2.2.2.1
        omega
      rw [if_neg (show ¬ qbI true = 0 by decide), cr5 hR hq, qrs, qlI M (cl48 hq (by decide) (by decide) (by omega)), (h.2.2 i hiS).2, h1, c_must hR hq hw h hp hcn hf, qb1, cr7 hR hq, qrs, qrs, qlL M (cl48 hq (by decide) (by decide) (by omega)), qlL M (cl48 hq (by decide) (by decide) (by omega))]
      have key : qlb (if ymu τ p (ycn (yw τ) p i) = true then v &&& M.2.1 (q + 8) i else v &&& (M.2.1 (q + 8) i ^^^ (-1))) w = ygd τ p ch w (i + 1) := by
        rw [ygd_hit h1 h2, yst_must hf, ← hg, ← hv i hiS]
        cases ymu τ p (ycn (yw τ) p i)
        · rw [if_neg (by decide), qlb_and, qlb_not _ hww]
          cases qlb (M.2.1 (q + 8) i) w <;> rfl
        · rw [if_pos rfl, qlb_and]
          cases qlb (M.2.1 (q + 8) i) w <;> rfl
      cases hm : ymu τ p (ycn (yw τ) p i)
      · rw [hm, if_neg (by decide)] at key
        rw [if_pos (show qbI false = 0 from rfl)]
        exact ih (i + 1) fuel _ (by omega) (by omega) key
      · rw [hm, if_pos rfl] at key
        rw [if_neg (show ¬ qbI true = 0 by decide)]
        exact ih (i + 1) fuel _ (by omega) (by omega) key
end CB
