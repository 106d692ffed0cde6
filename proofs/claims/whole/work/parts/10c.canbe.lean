def ypi : Option Bool → Int32
  | none => -1
  | some b => qbI b
theorem ypi_eq (o : Option Bool) (b : Bool) : ypi o = qbI b ↔ o = some b := by
  cases o with
  | none => cases b <;> simp [ypi, qbI]
  | some a => cases a <;> cases b <;> simp [ypi, qbI]
/-- a set of sayings as the reference has it -/
def yset (set : Int32) (ch : Nat → Bool) (n : Nat) : Prop := ∀ i, i < n → hn_ishr set (nI i) &&& 1 = qbI (ch i)
theorem yset_all (n : Nat) (h : n ≤ 64) : yset (-1) (fun _ => true) n := by
  intro i hi
  have : ∀ i, i < 64 → hn_ishr (-1) (nI i) &&& 1 = qbI true := by decide +kernel
  exact this i (by omega)
section YR2
variable {τ : hT} {M : hf_M}
theorem r_cb_145 (hR : yRf M) (p w : Nat) (ch : Nat → Bool) (set : Int32) {i : Nat} (hp : yw τ i = p) (hc : ycn (yw τ) p i < 2 ^ 30) (kc : Int32 → Int32 → Int32 → Int32 → Int32 → hf_M → Option (Int32 × hf_M)) (t f v7 : Int32) : s_X5_canBeOf_145 kc 49 (nI p) (nI w) set (nI (ycn (yw τ) p i)) t f v7 (nI i) (qbI (ch i)) (qbI (ytr τ w i)) M = kc (nI (ycn (yw τ) p (i + 1))) t f (ypi (ypr τ p ch w (i + 1))) (nI (i + 1)) M := by
  have e1 : nI (ycn (yw τ) p i) + 1 = nI (ycn (yw τ) p (i + 1)) := by
    rw [nI_1]
    unfold ycn
    rw [if_pos hp]
    cases i <;> rfl
  unfold s_X5_canBeOf_145
  rw [qrem2 (by omega), qi_eq rfl (show (0 : Int32) = nI 0 from rfl) (by omega) (by omega), e1, nI_1]
  have e2 : ypr τ p ch w (i + 1) = if ycn (yw τ) p i % 2 = 0 ∧ ch i = true then some (ytr τ w i) else none := by
    show (if yw τ i = p then _ else _) = _
    rw [if_pos hp]
  rw [e2]
  by_cases h : ycn (yw τ) p i % 2 = 0
  · cases h2 : ch i <;> cases h3 : ytr τ w i <;> simp [h, qbI, ypi]
  · simp [h, ypi]
theorem r_cb_113 (hR : yRf M) (p w : Nat) (ch : Nat → Bool) (set : Int32) {i : Nat} (hp : yw τ i = p) (hc : ycn (yw τ) p i < 2 ^ 30) (hk : yk τ p ≤ 6) (kc : Int32 → Int32 → Int32 → Int32 → Int32 → hf_M → Option (Int32 × hf_M)) (t f : Int32) : s_X5_canBeOf_113 kc 49 (nI p) (nI w) set (nI (ycn (yw τ) p i)) t f (nI (yk τ p)) (ypi (ypr τ p ch w i)) (nI i) (qbI (ch i)) (qbI (ytr τ w i)) M = if (yk τ p = 6 ∧ ycn (yw τ) p i % 2 = 1) ∧ ypr τ p ch w i = some (ytr τ w i) then some (0, M) else kc (nI (ycn (yw τ) p (i + 1))) t f (ypi (ypr τ p ch w (i + 1))) (nI (i + 1)) M := by
  unfold s_X5_canBeOf_113
  rw [qrem2 (by omega), qi_eq rfl (show (6 : Int32) = nI 6 from rfl) (by omega) (by omega), qi_eq rfl (show (1 : Int32) = nI 1 from rfl) (by omega) (by omega), r_cb_145 hR p w ch set hp hc]
  by_cases h6 : yk τ p = 6
  · rw [if_pos h6]
    by_cases h1 : ycn (yw τ) p i % 2 = 1
    · rw [if_pos h1]
      unfold s_X5_canBeOf_140
      rw [r_cb_145 hR p w ch set hp hc]
      have e0 : (0 : Int32) = qbI false := rfl
      have e1 : (1 : Int32) = qbI true := rfl
      cases h3 : ytr τ w i
      · rw [if_pos (show qbI false = 0 from rfl), e0]
        simp only [ypi_eq, h6, h1, true_and, and_self]
      · rw [if_neg (show ¬ qbI true = 0 by decide), e1]
        simp only [ypi_eq, h6, h1, true_and, and_self]
    · rw [if_neg h1, if_neg (fun h => h1 h.1.2)]
  · rw [if_neg h6, if_neg (fun h => h6 h.1.1)]
theorem r_cb_91 (hR : yRf M) (hw : yWF τ) (h : yR τ M) (p w : Nat) (hpP : p < yP τ) (ch : Nat → Bool) (set : Int32) {i : Nat} (hp : yw τ i = p) (hi : i < yS τ) (kc : Int32 → Int32 → Int32 → Int32 → Int32 → hf_M → Option (Int32 × hf_M)) (t f : Int32) : s_X5_canBeOf_91 kc 49 (nI p) (nI w) set (nI (ycn (yw τ) p i)) t f (nI (yk τ p)) (ypi (ypr τ p ch w i)) (nI i) (qbI (ch i)) (qbI (ytr τ w i)) M = if yst τ p (ytr τ w i) (ycn (yw τ) p i) (ypr τ p ch w i) = true then kc (nI (ycn (yw τ) p (i + 1))) t f (ypi (ypr τ p ch w (i + 1))) (nI (i + 1)) M else some (0, M) := by
  have hcn : ycn (yw τ) p i ≤ 10 := by
    have h1 := ycn_mono (yw τ) p (Nat.le_of_lt hi)
    have h2 := hw.2.2.2.1 p
    have h3 := hw.1
    omega
  have hk := (hw.2.1 p hpP).1
  unfold s_X5_canBeOf_91
  rw [r_isFree hR hw h hpP, qb1, r_isTrue hR hw h hpP (by omega), qb1]
  simp only [r_cb_113 hR p w ch set hp (by omega : ycn (yw τ) p i < 2 ^ 30) hk, qbI_0, qbI_eq]
  unfold yst
  cases hf : yfr τ p
  · by_cases he : ytr τ w i = ymu τ p (ycn (yw τ) p i)
    · by_cases h6 : (yk τ p = 6 ∧ ycn (yw τ) p i % 2 = 1) ∧ ypr τ p ch w i = some (ytr τ w i)
      · have e6 : yfr τ p = true := by unfold yfr; simp [h6.1.1]
        rw [hf] at e6; cases e6
      · have h6' : ¬ yk τ p = 6 := fun e => by
          have e6 : yfr τ p = true := by unfold yfr; simp [e]
          rw [hf] at e6; cases e6
        simp [he, h6']
    · have : (ytr τ w i == ymu τ p (ycn (yw τ) p i)) = false := by simpa using he
      simp [he, this]
  · by_cases h6 : (yk τ p = 6 ∧ ycn (yw τ) p i % 2 = 1) ∧ ypr τ p ch w i = some (ytr τ w i)
    · simp [h6.1.1, h6.1.2, h6.2]
    · have hq : ((decide (yk τ p = 6) && decide (ycn (yw τ) p i % 2 = 1)) && decide (ypr τ p ch w i = some (ytr τ w i))) = false := by
        apply Bool.eq_false_iff.mpr
        intro hq
        simp only [Bool.and_eq_true, decide_eq_true_eq] at hq
        exact h6 hq
      simp [h6, hq]
theorem r_canBe_loop (hR : yRf M) (hw : yWF τ) (h : yR τ M) {p w : Nat} (hpP : p < yP τ) (hww : w < 64) {set : Int32} {ch : Nat → Bool} (hset : yset set ch (yS τ)) : ∀ (k i fuel : Nat), yS τ = i + k → k < fuel → ygd τ p ch w i = true → s_X5_canBeOf_23 49 (nI p) (nI w) set (nI (yk τ p)) fuel (nI (ycn (yw τ) p i)) (nI (yts τ p ch w i)) (nI (yfs τ p ch w i)) (ypi (ypr τ p ch w i)) (nI i) M = some (qbI (yok τ p ch w), M) := by
  have hS := hw.1.2.2.1
  have hn := hw.1.2.2.2.2.1
  have htn := hw.1.2.2.2.2.2
  have hk := (hw.2.1 p hpP).1
  have hPP := hw.1.2.1
  intro k
  induction k with
  | zero =>
    intro i fuel hi hf hg
    obtain ⟨fuel, rfl⟩ : ∃ q, fuel = q + 1 := ⟨fuel - 1, by omega⟩
    have hiS : i = yS τ := by omega
    subst hiS
    have hb := yts_le τ p ch w (yS τ)
    have hb2 := hw.2.2.2.1 p
    rw [s_X5_canBeOf_23, h.1.2.2.1, qi_le rfl rfl (by omega) (by omega), if_pos (Nat.le_refl _), qi_eq rfl (show (0 : Int32) = nI 0 from rfl) (by omega) (by omega), h.1.2.2.2.2.1, h.1.2.2.2.1, pk_sub htn, qi_lt rfl rfl (by omega) (by omega), qi_lt rfl rfl (by omega) (by omega)]
    unfold yok
    rw [hg]
    by_cases h0 : yk τ p = 0
    · by_cases h1 : yts τ p ch w (yS τ) ≤ yt τ
      · by_cases h2 : yfs τ p ch w (yS τ) ≤ yn τ - yt τ
        · rw [if_pos h0, if_neg (by omega), if_neg (by omega)]
          simp [h0, h1, h2, qbI]
        · rw [if_pos h0, if_neg (by omega), if_pos (by omega)]
          simp [h0, h2, qbI]
      · rw [if_pos h0, if_pos (by omega)]
        simp [h0, h1, qbI]
    · simp [h0, qbI]
  | succ k ih =>
    intro i fuel hi hf hg
    obtain ⟨fuel, rfl⟩ : ∃ q, fuel = q + 1 := ⟨fuel - 1, by omega⟩
    have hiS : i < yS τ := by omega
    have hwi := (hw.2.2.1 i hiS).1
    rw [s_X5_canBeOf_23, h.1.2.2.1, qi_le rfl rfl (by omega) (by omega), if_neg (by omega), yrf_49 hR (j := 14) rfl, qrs, qlI M (by show i < 52; omega), (h.2.2 i hiS).1, qi_eq rfl rfl (by omega) (by omega)]
    by_cases hp : yw τ i = p
    · rw [if_pos hp, hset i hiS]
      have e145 : ∀ b : Bool, ch i = b → s_X5_canBeOf_61 (s_X5_canBeOf_23 49 (nI p) (nI w) set (nI (yk τ p)) fuel) 49 (nI p) (nI w) set (nI (ycn (yw τ) p i)) (nI (yts τ p ch w i)) (nI (yfs τ p ch w i)) (nI (yk τ p)) (ypi (ypr τ p ch w i)) (nI i) (qbI b) M = some (qbI (yok τ p ch w), M) := by
        intro b hb
        have hcn : ycn (yw τ) p i ≤ 10 := by
          have h1 := ycn_mono (yw τ) p (Nat.le_of_lt hiS)
          have h2 := hw.2.2.2.1 p
          omega
        unfold s_X5_canBeOf_61
        rw [r_isSo hR hw h hiS hww, qb1, ← hb]
        cases hc : ch i
        · rw [if_pos (show qbI false = 0 from rfl)]
          have e0 := r_cb_145 (τ := τ) hR p w ch set hp (by omega : ycn (yw τ) p i < 2 ^ 30) (s_X5_canBeOf_23 49 (nI p) (nI w) set (nI (yk τ p)) fuel) (nI (yts τ p ch w i)) (nI (yfs τ p ch w i)) (nI (yk τ p))
          rw [hc] at e0
          rw [e0]
          have et : yts τ p ch w (i + 1) = yts τ p ch w i := by
            show _ + _ = _
            rw [if_neg (by simp [hc])]; rfl
          have ef : yfs τ p ch w (i + 1) = yfs τ p ch w i := by
            show _ + _ = _
            rw [if_neg (by simp [hc])]; rfl
          have eg : ygd τ p ch w (i + 1) = true := by
            show (_ && _) = true
            rw [hg, hc]; simp
          have := ih (i + 1) fuel (by omega) (by omega) eg
          rw [et, ef] at this
          exact this
        · rw [if_neg (show ¬ qbI true = 0 by decide)]
          have e9 := fun t f => r_cb_91 (τ := τ) hR hw h p w hpP ch set hp hiS (s_X5_canBeOf_23 49 (nI p) (nI w) set (nI (yk τ p)) fuel) t f
          rw [hc] at e9
          simp only [e9, nI_1, qbI_0]
          have eg : ygd τ p ch w (i + 1) = yst τ p (ytr τ w i) (ycn (yw τ) p i) (ypr τ p ch w i) := by
            show (_ && _) = _
            rw [hg, hc]; simp [hp]
          by_cases hst : yst τ p (ytr τ w i) (ycn (yw τ) p i) (ypr τ p ch w i) = true
          · rw [if_pos hst, if_pos hst]
            have := ih (i + 1) fuel (by omega) (by omega) (by rw [eg]; exact hst)
            rw [← this]
            cases ht : ytr τ w i
            · rw [if_pos rfl]
              have et : yts τ p ch w (i + 1) = yts τ p ch w i := by
                show _ + _ = _
                rw [if_neg (by simp [ht])]; rfl
              have ef : yfs τ p ch w (i + 1) = yfs τ p ch w i + 1 := by
                show _ + _ = _
                rw [if_pos ⟨hp, hc, ht⟩]
              rw [et, ef]
            · rw [if_neg (by decide)]
              have et : yts τ p ch w (i + 1) = yts τ p ch w i + 1 := by
                show _ + _ = _
                rw [if_pos ⟨hp, hc, ht⟩]
              have ef : yfs τ p ch w (i + 1) = yfs τ p ch w i := by
                show _ + _ = _
                rw [if_neg (by simp [ht])]; rfl
              rw [et, ef]
          · rw [if_neg hst, if_neg hst]
            have hst2 : ygd τ p ch w (i + 1) = false := by rw [eg]; simpa using hst
            have hall : ∀ j, i + 1 ≤ j → ygd τ p ch w j = false := by
              intro j hj
              induction j with
              | zero => omega
              | succ j ihj =>
                by_cases hij : j = i
                · rw [hij]; exact hst2
                · show (_ && _) = false
                  rw [ihj (by omega)]; rfl
            have : yok τ p ch w = false := by
              unfold yok
              rw [hall (yS τ) (by omega)]; rfl
            rw [this]
            cases ytr τ w i <;> rfl
      cases hc : ch i
      · rw [if_neg (by decide)]
        exact e145 false hc
      · rw [if_pos (show qbI true = 1 from rfl)]
        exact e145 true hc
    · rw [if_neg hp, nI_1]
      have en : ycn (yw τ) p (i + 1) = ycn (yw τ) p i := by
        show _ + _ = _
        rw [if_neg hp]; rfl
      have et : yts τ p ch w (i + 1) = yts τ p ch w i := by
        show _ + _ = _
        rw [if_neg (fun h => hp h.1)]; rfl
      have ef : yfs τ p ch w (i + 1) = yfs τ p ch w i := by
        show _ + _ = _
        rw [if_neg (fun h => hp h.1)]; rfl
      have ep : ypr τ p ch w (i + 1) = ypr τ p ch w i := by
        show (if _ then _ else _) = _
        rw [if_neg hp]
      have eg : ygd τ p ch w (i + 1) = true := by
        show (_ && _) = true
        rw [hg]; simp [hp]
      have := ih (i + 1) fuel (by omega) (by omega) eg
      rw [en, et, ef, ep] at this
      exact this
theorem r_canBeOf (hR : yRf M) (hw : yWF τ) (h : yR τ M) {p w : Nat} (hpP : p < yP τ) (hww : w < 64) {set : Int32} {ch : Nat → Bool} (hset : yset set ch (yS τ)) : s_X5_canBeOf 49 (nI p) (nI w) set M = some (qbI (yok τ p ch w), M) := by
  have hPP := hw.1.2.1
  have hS := hw.1.2.2.1
  unfold s_X5_canBeOf
  rw [yrf_49 hR (j := 12) rfl, qrs, qlI M (by show p < 6; omega), (h.2.1 p hpP).1]
  exact r_canBe_loop hR hw h hpP hww hset (yS τ) 0 2000 (by omega) (by omega) rfl
end YR2
