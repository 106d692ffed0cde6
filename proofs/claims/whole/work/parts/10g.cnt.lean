/-! counting the true ones of all worlds at once -/
theorem q_add4 : ∀ c, c < 15 → ∀ b : Bool, ((c + b.toNat).testBit 0 = (c.testBit 0 ^^ b)) ∧ ((c + b.toNat).testBit 1 = (c.testBit 1 ^^ (c.testBit 0 && b))) ∧ ((c + b.toNat).testBit 2 = (c.testBit 2 ^^ (c.testBit 1 && (c.testBit 0 && b)))) ∧ ((c + b.toNat).testBit 3 = (c.testBit 3 ^^ (c.testBit 2 && (c.testBit 1 && (c.testBit 0 && b))))) := by decide +kernel
theorem q_dig4 : ∀ c, c < 16 → ∀ v, v < 16 → (((c.testBit 0 == decide (v % 2 = 1)) && (c.testBit 1 == decide (v / 2 % 2 = 1)) && (c.testBit 2 == decide (v / 4 % 2 = 1))) && (c.testBit 3 == decide (v / 8 % 2 = 1))) = decide (v = c) := by decide +kernel
theorem c_digit (x : Int64) {v : Nat} (hv : v < 2 ^ 31) (M : hf_M) : s_X3_digit x (nI v) M = some (if v % 2 = 1 then x else x ^^^ (-1), M) := by
  unfold s_X3_digit
  rw [qand1 hv, qi_eq rfl (show (1 : Int32) = nI 1 from rfl) (by omega) (by omega)]
  by_cases h : v % 2 = 1
  · rw [if_pos h, if_pos h]
  · rw [if_neg h, if_neg h]
theorem q_digb (x : Int64) (v : Nat) {w : Nat} (hw : w < 64) : qlb (if v % 2 = 1 then x else x ^^^ (-1)) w = (qlb x w == decide (v % 2 = 1)) := by
  by_cases h : v % 2 = 1
  · rw [if_pos h, decide_eq_true h]; cases qlb x w <;> rfl
  · rw [if_neg h, decide_eq_false h, qlb_not _ hw]; cases qlb x w <;> rfl
theorem q_min {a b : Nat} (ha : a < 2 ^ 31) (hb : b < 2 ^ 31) : hn_min (nI a) (nI b) = nI (min a b) := by
  unfold hn_min
  rw [qi_lt rfl rfl hb ha]
  by_cases h : b < a
  · rw [if_pos h, Nat.min_eq_right (by omega)]
  · rw [if_neg h, Nat.min_eq_left (by omega)]
theorem q_max {a b : Nat} (ha : a < 2 ^ 31) (hb : b < 2 ^ 31) : hn_max (nI a) (nI b) = nI (max a b) := by
  unfold hn_max
  rw [qi_lt rfl rfl ha hb]
  by_cases h : a < b
  · rw [if_pos h, Nat.max_eq_right (by omega)]
  · rw [if_neg h, Nat.max_eq_left (by omega)]
theorem q_max0 {a b : Nat} (ha : a < 2 ^ 30) (hb : b < 2 ^ 30) : hn_max 0 (nI a - nI b) = nI (a - b) := by
  unfold hn_max
  by_cases h : b ≤ a
  · rw [pk_sub h]
    by_cases h0 : a - b = 0
    · rw [h0]; rfl
    · rw [if_pos (show (0 : Int32) < nI (a - b) from nI_lt (a := 0) (by omega) (by omega))]
  · have h1 := pk_sneg hb (show a < b by omega)
    rw [if_neg (fun h2 => Int32.lt_irrefl (Int32.lt_trans h1 h2)), show a - b = 0 by omega]; rfl
theorem c_cnt_out (M : hf_M) {x1 x2 x4 x8 : Int64} {c w hi : Nat} (hw : w < 64) (hc : c < 16) (hh : hi < 16) (h1 : qlb x1 w = c.testBit 0) (h2 : qlb x2 w = c.testBit 1) (h4 : qlb x4 w = c.testBit 2) (h8 : qlb x8 w = c.testBit 3) : ∀ (k v fuel : Nat) (a : Int64), hi + 1 - v = k → k < fuel → v < 100 → ∃ z, s_X3_allowedByCount_134 x1 x2 x4 x8 (nI hi) fuel a (nI v) M = some (z, M) ∧ qlb z w = (qlb a w || (decide (v ≤ c) && decide (c ≤ hi))) := by
  intro k
  induction k with
  | zero =>
    intro v fuel a hk hf hv
    obtain ⟨fuel, rfl⟩ : ∃ u, fuel = u + 1 := ⟨fuel - 1, by omega⟩
    refine ⟨a, ?_, ?_⟩
    · rw [s_X3_allowedByCount_134, qi_lt rfl rfl (by omega) (by omega), if_pos (by omega)]
    · by_cases h : v ≤ c
      · rw [decide_eq_false (show ¬ c ≤ hi by omega)]; simp
      · rw [decide_eq_false h]; simp
  | succ k ih =>
    intro v fuel a hk hf hv
    obtain ⟨fuel, rfl⟩ : ∃ u, fuel = u + 1 := ⟨fuel - 1, by omega⟩
    rw [s_X3_allowedByCount_134, qi_lt rfl rfl (by omega) (by omega), if_neg (by omega), c_digit x1 (by omega), qb1]
    rw [show (1 : Int32) = nI 1 from rfl, show (2 : Int32) = nI 2 from rfl, show (3 : Int32) = nI 3 from rfl, qshr (by omega) (by omega), qshr (by omega) (by omega), qshr (by omega) (by omega), c_digit x2 (Nat.lt_of_le_of_lt (Nat.div_le_self _ _) (by omega)), qb1, c_digit x4 (Nat.lt_of_le_of_lt (Nat.div_le_self _ _) (by omega)), qb1, c_digit x8 (Nat.lt_of_le_of_lt (Nat.div_le_self _ _) (by omega)), qb1, nI_add]
    obtain ⟨z, e1, e2⟩ := ih (v + 1) fuel (a ||| (((if v % 2 = 1 then x1 else x1 ^^^ (-1)) &&& (if v / 2 ^ 1 % 2 = 1 then x2 else x2 ^^^ (-1))) &&& (if v / 2 ^ 2 % 2 = 1 then x4 else x4 ^^^ (-1)) &&& (if v / 2 ^ 3 % 2 = 1 then x8 else x8 ^^^ (-1)))) (by omega) (by omega) (by omega)
    refine ⟨z, e1, ?_⟩
    rw [e2, qlb_or, qlb_and, qlb_and, qlb_and, q_digb x1 v hw, q_digb x2 (v / 2 ^ 1) hw, q_digb x4 (v / 2 ^ 2) hw, q_digb x8 (v / 2 ^ 3) hw, h1, h2, h4, h8]
    have := q_dig4 c hc v (by omega)
    rw [show 2 ^ 1 = 2 from rfl, show 2 ^ 2 = 4 from rfl, show 2 ^ 3 = 8 from rfl, this]
    by_cases e : v = c
    · subst e
      rw [decide_eq_true (Nat.le_refl _), decide_eq_true (show v ≤ hi by omega)]; simp
    · rw [decide_eq_false e, Bool.or_false]
      by_cases hle : v ≤ c
      · rw [decide_eq_true hle, decide_eq_true (show v + 1 ≤ c by omega)]
      · rw [decide_eq_false hle, decide_eq_false (show ¬ v + 1 ≤ c by omega)]
section CC
variable {τ : hT} {M : hf_M} {q : Nat}
theorem yts_skip {p : Nat} {ch : Nat → Bool} {w i : Nat} (h : (decide (yw τ i = p) && ch i) = false) : yts τ p ch w (i + 1) = yts τ p ch w i ∧ yfs τ p ch w (i + 1) = yfs τ p ch w i := by
  have hn : ¬ (yw τ i = p ∧ ch i = true) := fun e => by
    rw [decide_eq_true e.1, e.2] at h; cases h
  constructor
  · show _ + _ = _
    rw [if_neg (fun e => hn ⟨e.1, e.2.1⟩)]; rfl
  · show _ + _ = _
    rw [if_neg (fun e => hn ⟨e.1, e.2.1⟩)]; rfl
theorem yts_hit {p : Nat} {ch : Nat → Bool} {w i : Nat} (h1 : yw τ i = p) (h2 : ch i = true) : yts τ p ch w (i + 1) = yts τ p ch w i + (ytr τ w i).toNat ∧ yfs τ p ch w (i + 1) = yfs τ p ch w i + (!ytr τ w i).toNat := by
  constructor
  · show _ + _ = _
    cases h3 : ytr τ w i
    · rw [if_neg (fun e => by cases e.2.2)]; rfl
    · rw [if_pos ⟨h1, h2, rfl⟩]; rfl
  · show _ + _ = _
    cases h3 : ytr τ w i
    · rw [if_pos ⟨h1, h2, rfl⟩]; rfl
    · rw [if_neg (fun e => by cases e.2.2)]; rfl
theorem c_cnt_loop (hR : yRf M) (hq : cq q) (hw : yWF τ) (h : cB q τ M) (hS : yS τ ≤ 48) {p w : Nat} (hp : p < yP τ) (hv : cV q τ w M) (hww : w < 64) (hk0 : yk τ p = 0) {x : Int64} {ch : Nat → Bool} (hx : ∀ i, i < yS τ → qlb x i = ch i) : ∀ (k i fuel : Nat) (x1 x2 x4 x8 : Int64), yS τ = i + k → k < fuel → qlb x1 w = (yts τ p ch w i).testBit 0 → qlb x2 w = (yts τ p ch w i).testBit 1 → qlb x4 w = (yts τ p ch w i).testBit 2 → qlb x8 w = (yts τ p ch w i).testBit 3 → ∃ z, s_X3_allowedByCount_18 q (nI p) x fuel x1 x2 x4 x8 (nI (yts τ p ch w i + yfs τ p ch w i)) (nI i) M = some (z, M) ∧ qlb z w = yok τ p ch w := by
  have hb2 := hw.2.2.2.1 p
  have hn10 := hw.1.2.2.2.2.1
  have htn := hw.1.2.2.2.2.2
  intro k
  induction k with
  | zero =>
    intro i fuel x1 x2 x4 x8 hi hfu h1 h2 h4 h8
    obtain ⟨fuel, rfl⟩ : ∃ u, fuel = u + 1 := ⟨fuel - 1, by omega⟩
    have hiS : i = yS τ := by omega
    subst hiS
    have hb := yts_le τ p ch w (yS τ)
    rw [s_X3_allowedByCount_18, h.1.2.2.1, qi_le rfl rfl (by omega) (by omega), if_pos (Nat.le_refl _), h.1.2.2.2.2.1, h.1.2.2.2.1, q_min (by omega) (by omega), pk_sub htn, q_max0 (by omega) (by omega)]
    obtain ⟨z, e1, e2⟩ := c_cnt_out M hww (c := yts τ p ch w (yS τ)) (hi := min (yt τ) (yts τ p ch w (yS τ) + yfs τ p ch w (yS τ))) (by omega) (by omega) h1 h2 h4 h8 _ (yts τ p ch w (yS τ) + yfs τ p ch w (yS τ) - (yn τ - yt τ)) 2000 0 rfl (by omega) (by omega)
    refine ⟨z, e1, ?_⟩
    rw [e2, qlb_0, Bool.false_or]
    unfold yok
    rw [ygd_0 hk0, hk0]
    simp only [decide_true, Bool.not_true, Bool.false_or, Bool.true_and]
    rw [Bool.and_comm]
    congr 1
    · exact decide_eq_decide.mpr (by omega)
    · exact decide_eq_decide.mpr (by omega)
  | succ k ih =>
    intro i fuel x1 x2 x4 x8 hi hfu h1 h2 h4 h8
    obtain ⟨fuel, rfl⟩ : ∃ u, fuel = u + 1 := ⟨fuel - 1, by omega⟩
    have hiS : i < yS τ := by omega
    rw [s_X3_allowedByCount_18, h.1.2.2.1, qi_le rfl rfl (by omega) (by omega), if_neg (by omega), c_chosen hR hq hw h hS hiS hp, qb1, nI_1, hx i hiS]
    cases hc : (decide (yw τ i = p) && ch i)
    · rw [if_pos (show qbI false = 0 from rfl)]
      obtain ⟨a1, a2⟩ := yts_skip (w := w) hc
      have := ih (i + 1) fuel x1 x2 x4 x8 (by omega) (by omega) (by rw [a1]; exact h1) (by rw [a1]; exact h2) (by rw [a1]; exact h4) (by rw [a1]; exact h8)
      rw [a1, a2] at this
      exact this
    · obtain ⟨g1, g2⟩ : yw τ i = p ∧ ch i = true := by simpa using hc
      obtain ⟨a1, a2⟩ := yts_hit (w := w) g1 g2
      have hb := yts_le τ p ch w i
      have a3 := ycn_lt (yw τ) p hiS g1
      have hcc : yts τ p ch w i < 15 := by omega
      obtain ⟨b0, b1, b2, b3⟩ := q_add4 _ hcc (ytr τ w i)
      rw [if_neg (show ¬ qbI true = 0 by decide), cr7 hR hq, qrs, qlL M (cl48 hq (by decide) (by decide) (by omega)), qrs, qlL M (cl48 hq (by decide) (by decide) (by omega)), nI_1]
      have es : yts τ p ch w i + yfs τ p ch w i + 1 = yts τ p ch w (i + 1) + yfs τ p ch w (i + 1) := by
        rw [a1, a2]
        cases ytr τ w i <;> simp <;> omega
      rw [es]
      have hvi := hv i hiS
      refine ih (i + 1) fuel _ _ _ _ (by omega) (by omega) ?_ ?_ ?_ ?_
      · rw [a1, b0, qlb_xor, h1, hvi]
      · rw [a1, b1, qlb_xor, qlb_and, h2, h1, hvi]
      · rw [a1, b2, qlb_xor, qlb_and, qlb_and, h4, h2, h1, hvi]
      · rw [a1, b3, qlb_xor, qlb_and, qlb_and, qlb_and, h8, h4, h2, h1, hvi]
/-- the last chosen saying, as the class keeps it -/
def cbf (τ : hT) (p : Nat) (ch : Nat → Bool) (w i : Nat) (b : Int32) : Prop := (b = -1 ∧ ypr τ p ch w i = none) ∨ ∃ j, j < i ∧ b = nI j ∧ yw τ j = p ∧ ypr τ p ch w i = if ycn (yw τ) p j + 1 = ycn (yw τ) p i ∧ ycn (yw τ) p j % 2 = 0 then some (ytr τ w j) else none
theorem ycn_hit {w : Nat → Nat} {p i : Nat} (h : w i = p) : ycn w p (i + 1) = ycn w p i + 1 := by
  show ycn w p i + _ = _
  rw [if_pos h]
theorem ycn_skip {w : Nat → Nat} {p i : Nat} (h : w i ≠ p) : ycn w p (i + 1) = ycn w p i := by
  show ycn w p i + _ = _
  rw [if_neg h]; rfl
theorem cbf_skip {p : Nat} {ch : Nat → Bool} {w i : Nat} {b : Int32} (h : cbf τ p ch w i b) (hc : (decide (yw τ i = p) && ch i) = false) : cbf τ p ch w (i + 1) b := by
  by_cases e : yw τ i = p
  · have hch : ch i = false := by
      rw [decide_eq_true e, Bool.true_and] at hc; exact hc
    have ep : ypr τ p ch w (i + 1) = none := by
      show (if yw τ i = p then _ else _) = none
      rw [if_pos e, if_neg (fun q => by rw [hch] at q; cases q.2)]
    rcases h with ⟨h1, -⟩ | ⟨j, h1, h2, h3, -⟩
    · exact Or.inl ⟨h1, ep⟩
    · refine Or.inr ⟨j, by omega, h2, h3, ?_⟩
      have := ycn_lt (yw τ) p h1 h3
      rw [ep, ycn_hit e, if_neg (by omega)]
  · have ep : ypr τ p ch w (i + 1) = ypr τ p ch w i := by
      show (if yw τ i = p then _ else _) = _
      rw [if_neg e]
    rcases h with ⟨h1, h2⟩ | ⟨j, h1, h2, h3, h4⟩
    · exact Or.inl ⟨h1, ep.trans h2⟩
    · refine Or.inr ⟨j, by omega, h2, h3, ?_⟩
      rw [ep, ycn_skip e]; exact h4
theorem cbf_hit {p : Nat} {ch : Nat → Bool} {w i : Nat} (e : yw τ i = p) (hc : ch i = true) : cbf τ p ch w (i + 1) (nI i) := by
  refine Or.inr ⟨i, by omega, rfl, e, ?_⟩
  show (if yw τ i = p then _ else _) = _
  rw [if_pos e, ycn_hit e]
  by_cases h : ycn (yw τ) p i % 2 = 0
  · rw [if_pos ⟨h, hc⟩, if_pos ⟨rfl, h⟩]
  · rw [if_neg (fun q => h q.1), if_neg (fun q => h q.2)]
theorem c_pair_loop (hR : yRf M) (hq : cq q) (hw : yWF τ) (h : cB q τ M) (hS : yS τ ≤ 48) {p w : Nat} (hp : p < yP τ) (hv : cV q τ w M) (hk6 : yk τ p = 6) {x : Int64} {ch : Nat → Bool} (hx : ∀ i, i < yS τ → qlb x i = ch i) : ∀ (k i fuel : Nat) (v : Int64) (b : Int32), yS τ = i + k → k < fuel → qlb v w = ygd τ p ch w i → cbf τ p ch w i b → ∃ z, s_X3_allowedByPairs_11 q (nI p) x fuel v b (nI i) M = some (z, M) ∧ qlb z w = ygd τ p ch w (yS τ) := by
  intro k
  induction k with
  | zero =>
    intro i fuel v b hi hfu hg hb
    obtain ⟨fuel, rfl⟩ : ∃ u, fuel = u + 1 := ⟨fuel - 1, by omega⟩
    refine ⟨v, ?_, ?_⟩
    · rw [s_X3_allowedByPairs_11, h.1.2.2.1, qi_le rfl rfl (by omega) (by omega), if_pos (by omega)]
    · rw [hi]; exact hg
  | succ k ih =>
    intro i fuel v b hi hfu hg hb
    obtain ⟨fuel, rfl⟩ : ∃ u, fuel = u + 1 := ⟨fuel - 1, by omega⟩
    have hiS : i < yS τ := by omega
    rw [s_X3_allowedByPairs_11, h.1.2.2.1, qi_le rfl rfl (by omega) (by omega), if_neg (by omega), c_chosen hR hq hw h hS hiS hp, qb1, nI_1, hx i hiS]
    cases hc : (decide (yw τ i = p) && ch i)
    · rw [if_pos (show qbI false = 0 from rfl)]
      exact ih (i + 1) fuel v b (by omega) (by omega) (by rw [ygd_skip hc]; exact hg) (cbf_skip hb hc)
    · obtain ⟨h1, h2⟩ : yw τ i = p ∧ ch i = true := by simpa using hc
      have hcn : ycn (yw τ) p i ≤ 20 := by
        have a1 := ycn_mono (yw τ) p (Nat.le_of_lt hiS)
        have a2 := hw.2.2.2.1 p
        have a3 := hw.1.2.2.2.2.1
        omega
      have eg := ygd_hit (w := w) h1 h2
      rw [yst_6 hk6] at eg
      have hb' := cbf_hit (w := w) h1 h2
      rw [if_neg (show ¬ qbI true = 0 by decide)]
      rcases hb with ⟨b1, b2⟩ | ⟨j, b1, b2, b3, b4⟩
      · rw [if_pos b1]
        refine ih (i + 1) fuel v (nI i) (by omega) (by omega) ?_ hb'
        rw [eg, b2, hg]; simp
      · have hjS : j < yS τ := by omega
        rw [b2, if_neg (fun e => qm1 j (by omega) e.symm), cr5 hR hq, qrs, qlI M (cl48 hq (by decide) (by decide) (by omega)), (h.2.2 i hiS).2, h1, qand1 (by omega), qi_eq rfl (show (1 : Int32) = nI 1 from rfl) (by omega) (by omega)]
        have hjc := ycn_lt (yw τ) p b1 b3
        by_cases ho : ycn (yw τ) p i % 2 = 1
        · have e5 : nI (ycn (yw τ) p i) - 1 = nI (ycn (yw τ) p i - 1) := pk_sub (a := ycn (yw τ) p i) (b := 1) (by omega)
          rw [if_pos ho, qrs, qlI M (cl48 hq (by decide) (by decide) (by omega)), (h.2.2 j hjS).2, b3, qrs, qlI M (cl48 hq (by decide) (by decide) (by omega)), (h.2.2 i hiS).2, h1, e5, qi_eq rfl rfl (by omega) (by omega)]
          by_cases hn : ycn (yw τ) p j = ycn (yw τ) p i - 1
          · rw [if_pos hn, cr7 hR hq, qrs, qlL M (cl48 hq (by decide) (by decide) (by omega)), qrs, qlL M (cl48 hq (by decide) (by decide) (by omega))]
            refine ih (i + 1) fuel _ (nI i) (by omega) (by omega) ?_ hb'
            rw [eg, b4, if_pos ⟨by omega, by omega⟩, decide_eq_true ho, qlb_and, qlb_xor, hv i hiS, hv j hjS, hg]
            cases ytr τ w i <;> cases ytr τ w j <;> simp
          · rw [if_neg hn]
            refine ih (i + 1) fuel _ (nI i) (by omega) (by omega) ?_ hb'
            rw [eg, b4, if_neg (fun e => hn (by omega)), hg]; simp
        · rw [if_neg ho]
          refine ih (i + 1) fuel _ (nI i) (by omega) (by omega) ?_ hb'
          rw [eg, decide_eq_false ho, hg]; simp
theorem c_allowed1 (hR : yRf M) (hq : cq q) (hw : yWF τ) (h : cB q τ M) (hS : yS τ ≤ 48) {p w : Nat} (hp : p < yP τ) (hv : cV q τ w M) (hww : w < 64) {x : Int64} {ch : Nat → Bool} (hx : ∀ i, i < yS τ → qlb x i = ch i) : ∃ z, s_X3_allowed q (nI p) x M = some (z, M) ∧ qlb z w = yok τ p ch w := by
  have hpp := hw.1.2.1
  have k1 := (hw.2.1 p hp).1
  unfold s_X3_allowed
  rw [cr1 hR hq, qrs, qrs, qlI M (cl6 hq (by decide) (by decide) (by omega)), qlI M (cl6 hq (by decide) (by decide) (by omega)), (h.2.1 p hp).1, qi_eq rfl (show (0 : Int32) = nI 0 from rfl) (by omega) (by omega), qi_eq rfl (show (6 : Int32) = nI 6 from rfl) (by omega) (by omega)]
  by_cases e0 : yk τ p = 0
  · have z0 : ∀ j, qlb 0 w = (0 : Nat).testBit j := fun j => by rw [qlb_0, Nat.zero_testBit]
    obtain ⟨z, z1, z2⟩ := c_cnt_loop hR hq hw h hS hp hv hww e0 hx (yS τ) 0 2000 0 0 0 0 (by omega) (by omega) (z0 0) (z0 1) (z0 2) (z0 3)
    have z3 : s_X3_allowedByCount q (nI p) x M = some (z, M) := z1
    refine ⟨z, ?_, z2⟩
    rw [if_pos e0, z3, qb1]
  · by_cases e6 : yk τ p = 6
    · obtain ⟨z, z1, z2⟩ := c_pair_loop hR hq hw h hS hp hv e6 hx (yS τ) 0 2000 (-1) (-1) (by omega) (by omega) (qlb_m1 hww) (Or.inl ⟨rfl, rfl⟩)
      have z3 : s_X3_allowedByPairs q (nI p) x M = some (z, M) := z1
      refine ⟨z, ?_, ?_⟩
      · rw [if_neg e0, if_pos e6, z3, qb1]
      · rw [z2]; unfold yok; rw [e6]; simp
    · have hf : yfr τ p = false := by
        unfold yfr
        exact decide_eq_false (fun e => e.elim e0 e6)
      obtain ⟨z, z1, z2⟩ := c_all_loop hR hq hw h hS hp hv hww hf hx (yS τ) 0 2000 (-1) (by omega) (by omega) (qlb_m1 hww)
      refine ⟨z, ?_, ?_⟩
      · rw [if_neg e0, if_neg e6]; exact z1
      · rw [z2]; unfold yok; rw [decide_eq_false e0]; simp
end CC
