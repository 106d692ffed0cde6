/-! ifs over ints that stand for naturals -/
theorem qi_eq {α : Type} {a c : Nat} {x y : Int32} (hx : x = nI a) (hy : y = nI c) (ha : a < 2 ^ 31) (hc : c < 2 ^ 31) (s t : α) : (if x = y then s else t) = if a = c then s else t := by
  subst hx; subst hy
  simp only [nI_eq ha hc]
theorem qi_lt {α : Type} {a c : Nat} {x y : Int32} (hx : x = nI a) (hy : y = nI c) (ha : a < 2 ^ 31) (hc : c < 2 ^ 31) (s t : α) : (if x < y then s else t) = if a < c then s else t := by
  subst hx; subst hy
  simp only [nI_ltI ha hc]
theorem qi_le {α : Type} {a c : Nat} {x y : Int32} (hx : x = nI a) (hy : y = nI c) (ha : a < 2 ^ 31) (hc : c < 2 ^ 31) (s t : α) : (if x ≤ y then s else t) = if a ≤ c then s else t := by
  subst hx; subst hy
  simp only [nI_leI ha hc]
/-! a town: (facts, speakers, sayings, n, t), kinds, codes; who, about what, how; the worlds that are left -/
abbrev hT : Type := (Nat × Nat × Nat × Nat × Nat) × (Nat → Nat) × (Nat → Nat) × (Nat → Nat) × (Nat → Nat) × (Nat → Bool) × Int64
abbrev yF (τ : hT) : Nat := τ.1.1
abbrev yP (τ : hT) : Nat := τ.1.2.1
abbrev yS (τ : hT) : Nat := τ.1.2.2.1
abbrev yn (τ : hT) : Nat := τ.1.2.2.2.1
abbrev yt (τ : hT) : Nat := τ.1.2.2.2.2
abbrev yk (τ : hT) : Nat → Nat := τ.2.1
abbrev yc (τ : hT) : Nat → Nat := τ.2.2.1
abbrev yw (τ : hT) : Nat → Nat := τ.2.2.2.1
abbrev yf (τ : hT) : Nat → Nat := τ.2.2.2.2.1
abbrev yb (τ : hT) : Nat → Bool := τ.2.2.2.2.2.1
abbrev yl (τ : hT) : Int64 := τ.2.2.2.2.2.2
def ycn (w : Nat → Nat) (p : Nat) : Nat → Nat
  | 0 => 0
  | i + 1 => ycn w p i + (if w i = p then 1 else 0)
def ytr (τ : hT) (w i : Nat) : Bool := w.testBit (yf τ i) == yb τ i
def ymu (τ : hT) (p k : Nat) : Bool :=
  if yk τ p = 1 then decide (k < yt τ) else if yk τ p = 2 then decide (yn τ - yt τ ≤ k)
  else if yk τ p = 3 then (if yt τ = 0 ∨ yt τ = yn τ then decide (k < yt τ) else decide (k + 1 < yt τ ∨ k + 1 = yn τ))
  else if yk τ p = 4 then (yc τ p).testBit k else !(yc τ p).testBit k
def yfr (τ : hT) (p : Nat) : Bool := decide (yk τ p = 0 ∨ yk τ p = 6)
def yts (τ : hT) (p : Nat) (ch : Nat → Bool) (w : Nat) : Nat → Nat
  | 0 => 0
  | i + 1 => yts τ p ch w i + (if yw τ i = p ∧ ch i = true ∧ ytr τ w i = true then 1 else 0)
def yfs (τ : hT) (p : Nat) (ch : Nat → Bool) (w : Nat) : Nat → Nat
  | 0 => 0
  | i + 1 => yfs τ p ch w i + (if yw τ i = p ∧ ch i = true ∧ ytr τ w i = false then 1 else 0)
def ypr (τ : hT) (p : Nat) (ch : Nat → Bool) (w : Nat) : Nat → Option Bool
  | 0 => none
  | i + 1 => if yw τ i = p then (if ycn (yw τ) p i % 2 = 0 ∧ ch i = true then some (ytr τ w i) else none) else ypr τ p ch w i
/-- saying i of one who said k before is as it must be, the last one of a pair told as pr says -/
def yst (τ : hT) (p : Nat) (tr : Bool) (k : Nat) (pr : Option Bool) : Bool := (yfr τ p || tr == ymu τ p k) && !(decide (yk τ p = 6) && decide (k % 2 = 1) && decide (pr = some tr))
def ygd (τ : hT) (p : Nat) (ch : Nat → Bool) (w : Nat) : Nat → Bool
  | 0 => true
  | i + 1 => ygd τ p ch w i && (!decide (yw τ i = p) || !ch i || yst τ p (ytr τ w i) (ycn (yw τ) p i) (ypr τ p ch w i))
def yok (τ : hT) (p : Nat) (ch : Nat → Bool) (w : Nat) : Bool :=
  ygd τ p ch w (yS τ) && (!decide (yk τ p = 0) || (decide (yts τ p ch w (yS τ) ≤ yt τ) && decide (yfs τ p ch w (yS τ) ≤ yn τ - yt τ)))
def yWF (τ : hT) : Prop := (yF τ ≤ 6 ∧ yP τ ≤ 6 ∧ yS τ ≤ 50 ∧ 2 ≤ yn τ ∧ yn τ ≤ 10 ∧ yt τ ≤ yn τ) ∧ (∀ p, p < yP τ → yk τ p ≤ 6 ∧ yc τ p ≤ 1023) ∧ (∀ i, i < yS τ → yw τ i < yP τ ∧ yf τ i < 6) ∧ (∀ p, ycn (yw τ) p (yS τ) ≤ yn τ) ∧ ∀ w, qlb (yl τ) w = true → w < 2 ^ yF τ
/-- the reference's town is τ -/
def yR (τ : hT) (M : hf_M) : Prop := (M.1 49 0 = nI (yF τ) ∧ M.1 49 1 = nI (yP τ) ∧ M.1 49 2 = nI (yS τ) ∧ M.1 49 3 = nI (yn τ) ∧ M.1 49 4 = nI (yt τ) ∧ M.2.1 49 9 = yl τ) ∧ (∀ p, p < yP τ → M.1 52 p = nI (yk τ p) ∧ M.1 53 p = nI (yc τ p)) ∧ (∀ i, i < yS τ → M.1 54 i = nI (yw τ i) ∧ M.1 55 i = nI (yf τ i) ∧ M.1 56 i = qbI (yb τ i))
/-- the references stand as the constructors laid them, but for the reader's -/
def yRf (M : hf_M) : Prop := ∀ k j, k ≠ 29 → M.2.2 k j = hm_end.2.2 k j
theorem yrf_49 {M : hf_M} (h : yRf M) {j q : Nat} (e : hm_end.2.2 49 j = some q) : M.2.2 49 j = some q := (h 49 j (by decide)).trans e
theorem ycn_le (w : Nat → Nat) (p : Nat) : ∀ i, ycn w p i ≤ i
  | 0 => Nat.le_refl 0
  | i + 1 => by
    have := ycn_le w p i
    unfold ycn
    split <;> omega
theorem ycn_mono (w : Nat → Nat) (p : Nat) {i j : Nat} (h : i ≤ j) : ycn w p i ≤ ycn w p j := by
  induction j with
  | zero => rw [Nat.le_zero.mp h]; exact Nat.le_refl _
  | succ j ih =>
    by_cases hij : i = j + 1
    · rw [hij]; exact Nat.le_refl _
    · have := ih (by omega)
      show _ ≤ ycn w p j + _
      omega
theorem ycn_lt (w : Nat → Nat) (p : Nat) {i j : Nat} (h : i < j) (hw : w i = p) : ycn w p i < ycn w p j := by
  have h1 := ycn_mono w p (show i + 1 ≤ j from h)
  have h2 : ycn w p (i + 1) = ycn w p i + 1 := by
    show ycn w p i + _ = _
    rw [if_pos hw]
  omega
theorem yts_le (τ : hT) (p : Nat) (ch : Nat → Bool) (w : Nat) : ∀ i, yts τ p ch w i + yfs τ p ch w i ≤ ycn (yw τ) p i
  | 0 => Nat.le_refl 0
  | i + 1 => by
    have := yts_le τ p ch w i
    unfold yts yfs ycn
    by_cases h1 : yw τ i = p <;> cases h2 : ch i <;> cases h3 : ytr τ w i <;> simp [h1] <;> omega
section YR
variable {τ : hT} {M : hf_M}
theorem r_isTrue (hR : yRf M) (hw : yWF τ) (h : yR τ M) {p k : Nat} (hp : p < yP τ) (hk : k ≤ 20) : s_X5_isTrue 49 (nI p) (nI k) M = some (qbI (ymu τ p k), M) := by
  obtain ⟨⟨hF, hP, hS, hn, ht, hl⟩, hkc, -⟩ := h
  obtain ⟨⟨w1, w2, w3, w4, w5, w6⟩, wk, -⟩ := hw
  have k1 := wk p hp
  unfold s_X5_isTrue
  rw [yrf_49 hR (j := 12) rfl, qrs, qlI M (by show p < 6; omega), (hkc p hp).1, hn, ht, yrf_49 hR (j := 13) rfl, qrs, qrs, qlI M (by show p < 6; omega), qlI M (by show p < 6; omega), (hkc p hp).2]
  rw [qi_eq rfl (show (1 : Int32) = nI 1 from rfl) (by omega) (by omega), qi_eq rfl (show (2 : Int32) = nI 2 from rfl) (by omega) (by omega), qi_eq rfl (show (3 : Int32) = nI 3 from rfl) (by omega) (by omega), qi_eq rfl (show (4 : Int32) = nI 4 from rfl) (by omega) (by omega)]
  rw [qi_le rfl rfl (by omega) (by omega), pk_sub w6, qi_lt rfl rfl (by omega) (by omega), qi_eq rfl (show (0 : Int32) = nI 0 from rfl) (by omega) (by omega), qi_eq rfl rfl (by omega) (by omega), qsb (by omega) (by omega)]
  unfold ymu
  by_cases e1 : yk τ p = 1
  · simp only [e1, if_true]
    by_cases c : yt τ ≤ k
    · rw [if_pos c, decide_eq_false (by omega)]; rfl
    · rw [if_neg c, decide_eq_true (by omega)]; rfl
  · by_cases e2 : yk τ p = 2
    · simp only [e2, if_true]
      by_cases c : k < yn τ - yt τ
      · simp [c, qbI]
        omega
      · simp [c, qbI]
        omega
    · by_cases e3 : yk τ p = 3
      · simp only [e3, if_true]
        by_cases c0 : yt τ = 0
        · simp [c0, qbI]
        · by_cases c1 : yt τ = yn τ
          · by_cases c : yt τ ≤ k
            · rw [if_neg c0, if_pos c1, if_pos c]
              simp [c1, qbI]
              omega
            · rw [if_neg c0, if_pos c1, if_neg c]
              simp [c1, qbI]
              omega
          · have e4 : nI (yt τ) - 1 = nI (yt τ - 1) := pk_sub (a := yt τ) (b := 1) (by omega)
            have e5 : nI (yn τ) - 1 = nI (yn τ - 1) := pk_sub (a := yn τ) (b := 1) (by omega)
            rw [if_neg c0, if_neg c1, e4, e5, qi_lt rfl rfl (by omega) (by omega), qi_eq rfl rfl (by omega) (by omega)]
            by_cases c2 : k < yt τ - 1
            · simp [c2, qbI, c0, c1]
              omega
            · by_cases c3 : k = yn τ - 1
              · simp [c3, qbI, c0, c1]
                omega
              · simp [c2, c3, qbI, c0, c1]
                omega
      · by_cases e4 : yk τ p = 4
        · simp only [e4, if_true, if_false, show ¬ (4 = 1) by decide, show ¬ (4 = 2) by decide, show ¬ (4 = 3) by decide]
          cases (yc τ p).testBit k <;> simp [qbI]
        · simp only [e1, e2, e3, e4, if_false]
          cases (yc τ p).testBit k <;> simp [qbI]
theorem r_isFree (hR : yRf M) (hw : yWF τ) (h : yR τ M) {p : Nat} (hp : p < yP τ) : s_X5_isFree 49 (nI p) M = some (qbI (yfr τ p), M) := by
  have k1 := hw.2.1 p hp
  have hpp := hw.1.2.1
  unfold s_X5_isFree
  rw [yrf_49 hR (j := 12) rfl, qrs, qrs, qlI M (by show p < 6; omega), qlI M (by show p < 6; omega), (h.2.1 p hp).1, qi_eq rfl (show (0 : Int32) = nI 0 from rfl) (by omega) (by omega), qi_eq rfl (show (6 : Int32) = nI 6 from rfl) (by omega) (by omega)]
  unfold yfr
  by_cases e1 : yk τ p = 0
  · simp [e1, qbI]
  · by_cases e2 : yk τ p = 6 <;> simp [e1, e2, qbI]
theorem r_isSo (hR : yRf M) (hw : yWF τ) (h : yR τ M) {i w : Nat} (hi : i < yS τ) (hww : w < 64) : s_X5_isSo 49 (nI i) (nI w) M = some (qbI (ytr τ w i), M) := by
  have hs := hw.1.2.2.1
  have k1 := hw.2.2.1 i hi
  have hF := hw.1.1
  unfold s_X5_isSo
  rw [yrf_49 hR (j := 15) rfl, qrs, qlI M (by show i < 52; omega), yrf_49 hR (j := 16) rfl, qrs, qlI M (by show i < 52; omega), (h.2.2 i hi).2.1, (h.2.2 i hi).2.2, qsb (by omega) (by omega)]
  unfold ytr
  cases w.testBit (yf τ i) <;> cases yb τ i <;> rfl
end YR
