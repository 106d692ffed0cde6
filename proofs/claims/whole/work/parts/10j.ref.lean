/-! the reference's sets of worlds -/
theorem q_pow {F : Nat} (h : F ≤ 6) : hn_ishl 1 (nI F) = nI (2 ^ F) := by
  have := qshl (a := 1) (f := F) (by omega) (by have : 2 ^ F ≤ 2 ^ 6 := Nat.pow_le_pow_right (by decide) h; omega)
  rw [Nat.one_mul] at this
  exact this
theorem q_pow64 {F : Nat} (h : F ≤ 6) : 2 ^ F ≤ 64 := Nat.pow_le_pow_right (n := 2) (by decide) h
section YW
variable {τ : hT} {M : hf_M}
theorem r_wo_in (hR : yRf M) (hw : yWF τ) (h : yR τ M) {w b : Nat} (hww : w < 64) {set bi : Int32} {ch : Nat → Bool} (hset : yset set ch (yS τ)) (hb : ∀ p, p < yP τ → (nI p = bi ↔ p = b)) (k5 : Int64 → Int32 → hf_M → Option (Int64 × hf_M)) (a : Int64) : ∀ (k p fuel : Nat), yP τ = p + k → k < fuel → s_X5_worldsOf_39 k5 49 set bi a (nI w) fuel (qbI (yal τ ch b w p)) (nI p) M = k5 (if yal τ ch b w (yP τ) = true then a ||| hn_lshl 1 (nI w) else a) (nI (w + 1)) M := by
  have hP := hw.1.2.1
  intro k
  induction k with
  | zero =>
    intro p fuel hp hf
    obtain ⟨fuel, rfl⟩ : ∃ u, fuel = u + 1 := ⟨fuel - 1, by omega⟩
    have hpp : p = yP τ := by omega
    subst hpp
    rw [s_X5_worldsOf_39, h.1.2.1, qi_le rfl rfl (by omega) (by omega), if_pos (Nat.le_refl _), nI_1]
    cases yal τ ch b w (yP τ)
    · rfl
    · rfl
  | succ k ih =>
    intro p fuel hp hf
    obtain ⟨fuel, rfl⟩ : ∃ u, fuel = u + 1 := ⟨fuel - 1, by omega⟩
    rw [s_X5_worldsOf_39, h.1.2.1, qi_le rfl rfl (by omega) (by omega), if_neg (by omega), nI_1, nI_1]
    cases hy : yal τ ch b w p
    · rw [yal_f hy (yP τ) (by omega)]
      rfl
    · rw [if_neg (show ¬ qbI true = 0 by decide), r_canBeOf hR hw h (by omega) hww hset, qb1]
      have es : yal τ ch b w (p + 1) = (decide (p = b) || yok τ p ch w) := by
        show (_ && _) = _
        rw [hy, Bool.true_and]
      have e1 := ih (p + 1) fuel (by omega) (by omega)
      rw [es] at e1
      by_cases e : p = b
      · rw [if_pos ((hb p (by omega)).mpr e)]
        rw [decide_eq_true e, Bool.true_or] at e1
        exact e1
      · rw [if_neg (fun q => e ((hb p (by omega)).mp q))]
        rw [decide_eq_false e, Bool.false_or] at e1
        cases ho : yok τ p ch w
        · rw [ho] at e1
          exact e1
        · rw [ho] at e1
          exact e1
theorem r_wo_loop (hR : yRf M) (hw : yWF τ) (h : yR τ M) {b : Nat} {set bi : Int32} {ch : Nat → Bool} (hset : yset set ch (yS τ)) (hb : ∀ p, p < yP τ → (nI p = bi ↔ p = b)) : ∀ (k w fuel : Nat), 2 ^ yF τ = w + k → k < fuel → s_X5_worldsOf_5 49 set bi fuel (qofI (fun w => qlb (yl τ) w && yal τ ch b w (yP τ)) w) (nI w) M = some (qofI (fun w => qlb (yl τ) w && yal τ ch b w (yP τ)) (2 ^ yF τ), M) := by
  have hF := hw.1.1
  have hP := hw.1.2.1
  have h64 := q_pow64 hF
  intro k
  induction k with
  | zero =>
    intro w fuel hk hf
    obtain ⟨fuel, rfl⟩ : ∃ u, fuel = u + 1 := ⟨fuel - 1, by omega⟩
    rw [s_X5_worldsOf_5, h.1.1, q_pow hF, qi_le rfl rfl (by omega) (by omega), if_pos (by omega), hk, Nat.add_zero]
  | succ k ih =>
    intro w fuel hk hf
    obtain ⟨fuel, rfl⟩ : ∃ u, fuel = u + 1 := ⟨fuel - 1, by omega⟩
    rw [s_X5_worldsOf_5, h.1.1, q_pow hF, qi_le rfl rfl (by omega) (by omega), if_neg (by omega), h.1.2.2.2.2.2, qlshr1 _ (by omega), nI_1]
    have e0 := ih (w + 1) fuel (by omega) (by omega)
    have e1 : s_X5_worldsOf_39 (s_X5_worldsOf_5 49 set bi fuel) 49 set bi (qofI (fun w => qlb (yl τ) w && yal τ ch b w (yP τ)) w) (nI w) 2000 1 0 M = _ := r_wo_in hR hw h (w := w) (by omega) hset hb (s_X5_worldsOf_5 49 set bi fuel) (qofI (fun w => qlb (yl τ) w && yal τ ch b w (yP τ)) w) (yP τ) 0 2000 (by omega) (by omega)
    rw [q_if_lg, e1]
    rw [qofI_s] at e0
    cases hl : qlb (yl τ) w
    · rw [hl, Bool.false_and, if_neg (by decide)] at e0
      rw [if_neg (show ¬ false = true by decide)]
      exact e0
    · rw [hl, Bool.true_and] at e0
      rw [if_pos (show true = true from rfl)]
      exact e0
theorem r_worldsOf (hR : yRf M) (hw : yWF τ) (h : yR τ M) {b : Nat} {set bi : Int32} {ch : Nat → Bool} (hset : yset set ch (yS τ)) (hb : ∀ p, p < yP τ → (nI p = bi ↔ p = b)) : s_X5_worldsOf 49 set bi M = some (yWd τ ch b, M) := by
  have hF := hw.1.1
  have h64 := q_pow64 hF
  unfold s_X5_worldsOf
  have := r_wo_loop hR hw h hset hb (2 ^ yF τ) 0 2000 (by omega) (by omega)
  refine Eq.trans this ?_
  congr 2
  apply qlb_ext
  intro w hww
  unfold yWd
  rw [qofI_b _ hww _ h64, qof_b _ hww]
  cases hl : qlb (yl τ) w
  · simp
  · rw [decide_eq_true (hw.2.2.2.2 w hl), Bool.true_and]
theorem r_b99 (hw : yWF τ) : ∀ p, p < yP τ → (nI p = (-1 : Int32) ↔ p = 99) := fun p hp => by
  have := hw.1.2.1
  exact ⟨fun e => absurd e.symm (qm1 p (by omega)), fun e => by omega⟩
theorem r_worldsNow (hR : yRf M) (hw : yWF τ) (h : yR τ M) : s_X5_worldsNow 49 M = some (yWd τ yA1 99, M) := by
  unfold s_X5_worldsNow
  rw [r_worldsOf hR hw h (yset_all _ (by have := hw.1.2.2.1; omega)) (r_b99 hw), qb1]; rfl
theorem r_said_loop (hR : yRf M) (hw : yWF τ) (h : yR τ M) {p : Nat} (hp : p < yP τ) : ∀ (k i fuel : Nat), yS τ = i + k → k < fuel → s_X5_saidBy_4 49 (nI p) fuel (nI (ycn (yw τ) p i)) (nI i) M = some (nI (ycn (yw τ) p (yS τ)), M) := by
  have hP := hw.1.2.1
  have hS := hw.1.2.2.1
  intro k
  induction k with
  | zero =>
    intro i fuel hi hf
    obtain ⟨fuel, rfl⟩ : ∃ u, fuel = u + 1 := ⟨fuel - 1, by omega⟩
    rw [s_X5_saidBy_4, h.1.2.2.1, qi_le rfl rfl (by omega) (by omega), if_pos (by omega), hi, Nat.add_zero]
  | succ k ih =>
    intro i fuel hi hf
    obtain ⟨fuel, rfl⟩ : ∃ u, fuel = u + 1 := ⟨fuel - 1, by omega⟩
    have h1 := (hw.2.2.1 i (by omega)).1
    have e0 := ih (i + 1) fuel (by omega) (by omega)
    rw [s_X5_saidBy_4, h.1.2.2.1, qi_le rfl rfl (by omega) (by omega), if_neg (by omega), yrf_49 hR (j := 14) rfl, qrs, qlI M (by show i < 52; omega), (h.2.2 i (by omega)).1, qi_eq rfl rfl (by omega) (by omega), nI_1, nI_1, show (0 : Int32) = nI 0 from rfl, nI_add]
    by_cases e : yw τ i = p
    · rw [ycn_hit e] at e0
      rw [if_pos e]; exact e0
    · rw [ycn_skip e] at e0
      rw [if_neg e]; exact e0
theorem r_saidBy (hR : yRf M) (hw : yWF τ) (h : yR τ M) {p : Nat} (hp : p < yP τ) : s_X5_saidBy 49 (nI p) M = some (nI (ycn (yw τ) p (yS τ)), M) := by
  have hS := hw.1.2.2.1
  exact r_said_loop hR hw h hp (yS τ) 0 2000 (by omega) (by omega)
theorem r_full (hR : yRf M) (hw : yWF τ) (h : yR τ M) {p : Nat} (hp : p < yP τ) : s_X5_isFull 49 (nI p) M = some (qbI (decide (yn τ ≤ ycn (yw τ) p (yS τ))), M) := by
  have hn := hw.1.2.2.2.2.1
  have hc := hw.2.2.2.1 p
  unfold s_X5_isFull
  rw [r_saidBy hR hw h hp, qb1, h.1.2.2.2.1, qi_lt rfl rfl (by omega) (by omega)]
  exact q_if01 M (by omega)
end YW
def rPu (p f S : Nat) (v : Int32) (M : hf_M) : hf_M := hf_sI (hf_sI (hf_sI (hf_sI M 54 S (nI p)) 55 S (nI f)) 56 S v) 49 2 (nI S + 1)
section RPU
variable {p f S : Nat} {v : Int32} {M : hf_M}
theorem rPu_1 {k j : Nat} (h1 : ¬ (k = 49 ∧ j = 2)) (h3 : ¬ ((k = 54 ∨ k = 55 ∨ k = 56) ∧ j = S)) : (rPu p f S v M).1 k j = M.1 k j := by
  unfold rPu
  rw [gI (by omega), gI (by omega), gI (by omega), gI (by omega)]
theorem rPu_L : (rPu p f S v M).2.1 = M.2.1 := rfl
theorem rPu_2 : (rPu p f S v M).1 49 2 = nI (S + 1) := by
  unfold rPu
  rw [gI0, nI_1]
theorem rPu_54 : (rPu p f S v M).1 54 S = nI p := by
  unfold rPu
  rw [gI (by omega), gI (by omega), gI (by omega), gI0]
theorem rPu_55 : (rPu p f S v M).1 55 S = nI f := by
  unfold rPu
  rw [gI (by omega), gI (by omega), gI0]
theorem rPu_56 : (rPu p f S v M).1 56 S = v := by
  unfold rPu
  rw [gI (by omega), gI0]
theorem rPu_Rf (hR : yRf M) : yRf (rPu p f S v M) := hR
end RPU
section RE
variable {τ : hT} {M : hf_M} {p f : Nat} {b : Bool}
theorem r_adds (hR : yRf M) (h : yR τ M) (hS : yS τ < 52) (p f v : Int32) (pn fn : Nat) (hp : p = nI pn) (hf : f = nI fn) : s_X5_adds 49 p f v M = some ((), rPu pn fn (yS τ) v M) := by
  subst hp hf
  have h2 := h.1.2.2.1
  unfold s_X5_adds
  rw [yrf_49 hR (j := 14) rfl, qrs, h2, qsI M _ (by show yS τ < 52; omega)]
  generalize e1 : hf_sI M 54 (yS τ) (nI pn) = M1
  have hR1 : yRf M1 := by subst e1; exact hR
  have a2 : M1.1 49 2 = nI (yS τ) := by rw [← e1, gI (by omega)]; exact h2
  rw [yrf_49 hR1 (j := 15) rfl, qrs, a2, qsI M1 _ (by show yS τ < 52; omega)]
  generalize e2 : hf_sI M1 55 (yS τ) (nI fn) = M2
  have hR2 : yRf M2 := by subst e2; exact hR1
  have b2 : M2.1 49 2 = nI (yS τ) := by rw [← e2, gI (by omega)]; exact a2
  rw [yrf_49 hR2 (j := 16) rfl, qrs, b2, qsI M2 _ (by show yS τ < 52; omega), qpt, gI (by omega), b2]
  subst e2 e1
  rfl
theorem rPu_R (h : yR τ M) : yR (yad τ p f b) (rPu p f (yS τ) (qbI b) M) := by
  obtain ⟨⟨h0, h1, h2, h3, h4, h9⟩, hk, hs⟩ := h
  refine ⟨⟨?_, ?_, rPu_2, ?_, ?_, ?_⟩, fun r hr => ⟨?_, ?_⟩, fun i hi => ?_⟩
  · rw [rPu_1 (by omega) (by omega)]; exact h0
  · rw [rPu_1 (by omega) (by omega)]; exact h1
  · rw [rPu_1 (by omega) (by omega)]; exact h3
  · rw [rPu_1 (by omega) (by omega)]; exact h4
  · exact h9
  · rw [rPu_1 (by omega) (by omega)]; exact (hk r hr).1
  · rw [rPu_1 (by omega) (by omega)]; exact (hk r hr).2
  · have hi' : i < yS τ + 1 := hi
    by_cases e : i = yS τ
    · subst e
      rw [rPu_54, rPu_55, rPu_56, yad_w0, yad_f0, yad_b0]
      exact ⟨rfl, rfl, rfl⟩
    · rw [rPu_1 (by omega) (by omega), rPu_1 (by omega) (by omega), rPu_1 (by omega) (by omega), yad_w (by omega), yad_f (by omega), yad_b (by omega)]
      exact hs i (by omega)
/-- the last saying dropped again -/
theorem r_dropG (h : yR τ M) {N : hf_M} {v : Int32} (hg : gG (Gr (yS τ + 1)) (rPu p f (yS τ) v M) N) : N.1 49 2 - 1 = nI (yS τ) ∧ gG (Gr (yS τ)) M (hf_sI N 49 2 (nI (yS τ))) := by
  have a1 : N.1 49 2 = nI (yS τ + 1) := (hg.2 49 2 (by unfold Gr; omega)).1.trans rPu_2
  refine ⟨by rw [a1, nI_pred], hg.1, fun k j hn => ⟨?_, ?_⟩⟩
  · unfold Gr at hn
    by_cases e2 : k = 49 ∧ j = 2
    · obtain ⟨rfl, rfl⟩ := e2
      rw [gI0]; exact h.1.2.2.1.symm
    · rw [gI (by omega), (hg.2 k j (by unfold Gr; omega)).1, rPu_1 e2 (by omega)]
  · unfold Gr at hn
    rw [gIL, (hg.2 k j (by unfold Gr; omega)).2, rPu_L]
theorem r_leaves (hR : yRf M) (hw : yWF τ) (h : yR τ M) (hp : p < yP τ) (hf : f < 6) (hc : ycn (yw τ) p (yS τ) < yn τ) (hS : yS τ < 50) : ∃ K, s_X5_leaves 49 (nI p) (nI f) (qbI b) M = some (nI (ypop (yWd (yad τ p f b) yA1 99)), K) ∧ gG (Gr (yS τ)) M K := by
  obtain ⟨d1, d2⟩ := r_dropG h (p := p) (f := f) (v := qbI b) (gG_refl _ _)
  refine ⟨_, ?_, d2⟩
  unfold s_X5_leaves
  rw [r_adds hR h (by omega) _ _ _ p f rfl rfl, qb1, r_worldsNow (rPu_Rf hR) (yad_WF hw hp hf hc hS) (rPu_R h), qb1, r_count, qb1, qpt, d1]
theorem r_lets (hR : yRf M) (hw : yWF τ) (h : yR τ M) (hp : p < yP τ) (hc : ycn (yw τ) p (yS τ) < yn τ) (hS : yS τ < 50) {w : Nat} (hww : w < 64) : ∃ K, s_X5_lets 49 (nI p) (nI w) (qbI b) M = some (qbI (yok (yad τ p 0 (w.testBit 0 == b)) p yA1 w), K) ∧ gG (Gr (yS τ)) M K := by
  have key : ∀ c : Bool, (w.testBit 0 == b) = c → s_X5_canBeOf 49 (nI p) (nI w) (-1) (rPu p 0 (yS τ) (qbI c) M) = some (qbI (yok (yad τ p 0 (w.testBit 0 == b)) p yA1 w), rPu p 0 (yS τ) (qbI c) M) := by
    intro c hcc
    subst hcc
    exact r_canBeOf (rPu_Rf hR) (yad_WF hw hp (by decide) hc hS) (rPu_R h) hp hww (yset_all _ (by show yS τ + 1 ≤ 64; omega))
  obtain ⟨d1, d2⟩ := r_dropG h (p := p) (f := 0) (v := qbI (w.testBit 0 == b)) (gG_refl _ _)
  refine ⟨_, ?_, d2⟩
  unfold s_X5_lets
  have a0 : s_X5_adds 49 (nI p) 0 0 M = some ((), rPu p 0 (yS τ) (qbI false) M) := r_adds hR h (by omega) _ _ _ p 0 rfl rfl
  have a1 : s_X5_adds 49 (nI p) 0 1 M = some ((), rPu p 0 (yS τ) (qbI true) M) := r_adds hR h (by omega) _ _ _ p 0 rfl rfl
  have ew : nI w &&& 1 = qbI (w.testBit 0) := by
    rw [qand1 (by omega), qbI_nI, Nat.testBit_zero]
    congr 1
    rcases Nat.mod_two_eq_zero_or_one w with e | e <;> rw [e] <;> rfl
  rw [ew, a0, a1, qb1, qb1]
  cases h0 : w.testBit 0 <;> cases b <;> rw [h0] at key d1
  · rw [if_neg (show ¬ qbI false = 1 by decide), if_pos (show (0 : Int32) = qbI false from rfl), key true rfl, qb1, qpt, qbz]
    exact congrArg (fun x => some (_, hf_sI _ 49 2 x)) d1
  · rw [if_neg (show ¬ qbI false = 1 by decide), if_neg (show ¬ (0 : Int32) = qbI true by decide), key false rfl, qb1, qpt, qbz]
    exact congrArg (fun x => some (_, hf_sI _ 49 2 x)) d1
  · rw [if_pos (show qbI true = 1 from rfl), if_neg (show ¬ (1 : Int32) = qbI false by decide), key false rfl, qb1, qpt, qbz]
    exact congrArg (fun x => some (_, hf_sI _ 49 2 x)) d1
  · rw [if_pos (show qbI true = 1 from rfl), if_pos (show (1 : Int32) = qbI true from rfl), key true rfl, qb1, qpt, qbz]
    exact congrArg (fun x => some (_, hf_sI _ 49 2 x)) d1
end RE
def yTh (F f : Nat) (v : Bool) : Int64 := qofI (fun w => w.testBit f == v) (2 ^ F)
theorem yTh_b {F f w : Nat} (v : Bool) (hF : F ≤ 6) (hw : w < 64) : qlb (yTh F f v) w = (decide (w < 2 ^ F) && (w.testBit f == v)) := qofI_b _ hw _ (q_pow64 hF)
theorem r_those_loop {M : hf_M} {F f : Nat} (h0 : M.1 49 0 = nI F) (hF : F ≤ 6) (hf : f < 6) (v : Bool) : ∀ (k w fuel : Nat), 2 ^ F = w + k → k < fuel → s_X5_those_5 49 (nI f) (qbI v) fuel (qofI (fun w => w.testBit f == v) w) (nI w) M = some (yTh F f v, M) := by
  have h64 := q_pow64 hF
  intro k
  induction k with
  | zero =>
    intro w fuel hk hfu
    obtain ⟨fuel, rfl⟩ : ∃ u, fuel = u + 1 := ⟨fuel - 1, by omega⟩
    rw [s_X5_those_5, h0, q_pow hF, qi_le rfl rfl (by omega) (by omega), if_pos (by omega)]
    unfold yTh
    rw [hk, Nat.add_zero]
  | succ k ih =>
    intro w fuel hk hfu
    obtain ⟨fuel, rfl⟩ : ∃ u, fuel = u + 1 := ⟨fuel - 1, by omega⟩
    rw [s_X5_those_5, h0, q_pow hF, qi_le rfl rfl (by omega) (by omega), if_neg (by omega), qsb (by omega) (by omega), nI_1]
    have e0 := ih (w + 1) fuel (by omega) (by omega)
    rw [qofI_s] at e0
    by_cases e : w.testBit f = v
    · rw [if_pos ((qbI_eq _ _).mpr e)]
      rw [if_pos (by simpa using e)] at e0
      exact e0
    · rw [if_neg (fun q => e ((qbI_eq _ _).mp q))]
      rw [if_neg (by simpa using e)] at e0
      exact e0
theorem r_those {M : hf_M} {F f : Nat} (h0 : M.1 49 0 = nI F) (hF : F ≤ 6) (hf : f < 6) (v : Bool) : s_X5_those 49 (nI f) (qbI v) M = some (yTh F f v, M) := by
  have h64 := q_pow64 hF
  exact r_those_loop h0 hF hf v (2 ^ F) 0 2000 (by omega) (by omega)
/-- sure: 1 so, 0 not so, -1 neither -/
def ySu (f : Nat) (x : Int64) : Int32 := if x &&& hf_SO f = 0 then (if x &&& (hf_SO f ^^^ (-1)) = 0 then -1 else 0) else (if x &&& (hf_SO f ^^^ (-1)) = 0 then 1 else -1)
theorem c_surety {f : Nat} (hf : f < 6) (x : Int64) (M : hf_M) : s_X4_surety x (nI f) M = some (ySu f x, M) := by
  unfold s_X4_surety ySu
  rw [qSO hf, qSO hf, qSO hf]
  simp only [qcmp0]
  by_cases h1 : x &&& hf_SO f = 0
  · rw [if_pos h1, if_pos h1]
    by_cases h2 : x &&& (hf_SO f ^^^ (-1)) = 0
    · rw [if_pos h2, if_pos h2]
    · rw [if_neg h2, if_neg h2]
  · rw [if_neg h1, if_neg h1]
    by_cases h2 : x &&& (hf_SO f ^^^ (-1)) = 0
    · rw [if_pos h2, if_pos h2]
    · rw [if_neg h2, if_neg h2]
theorem r_sureBy {M : hf_M} {F f : Nat} (h0 : M.1 49 0 = nI F) (hF : F ≤ 6) (hf : f < 6) {x : Int64} (hx : ∀ w, w < 64 → qlb x w = true → w < 2 ^ F) : s_X5_sureBy 49 (nI f) x M = some (ySu f x, M) := by
  unfold s_X5_sureBy
  have et : s_X5_those 49 (nI f) 1 M = some (yTh F f true, M) := r_those h0 hF hf true
  rw [et, qb1]
  simp only [qcmp0, qcmp]
  have eq1 : x &&& yTh F f true = x &&& hf_SO f := by
    apply qlb_ext
    intro w hw
    rw [qlb_and, qlb_and, yTh_b _ hF hw, qSOb hf hw]
    cases hx1 : qlb x w
    · rfl
    · rw [decide_eq_true (hx w hw hx1)]
      cases w.testBit f <;> rfl
  have eq2 : x &&& (hf_SO f ^^^ (-1)) = 0 ↔ x &&& hf_SO f = x := by
    constructor
    · intro h
      apply qlb_ext
      intro w hw
      have h2 := congrArg (fun y => qlb y w) h
      simp only [qlb_and, qlb_not _ hw, qlb_0] at h2
      rw [qlb_and]
      cases h3 : qlb x w
      · rfl
      · rw [h3] at h2
        cases h4 : qlb (hf_SO f) w
        · rw [h4] at h2; cases h2
        · rfl
    · intro h
      apply qlb_zero
      intro w hw
      have h2 := congrArg (fun y => qlb y w) h
      simp only [qlb_and] at h2
      rw [qlb_and, qlb_not _ hw]
      cases h3 : qlb x w
      · rfl
      · rw [h3] at h2
        cases h4 : qlb (hf_SO f) w
        · rw [h4] at h2; cases h2
        · rfl
  rw [eq1]
  unfold ySu
  simp only [eq2]
  by_cases hx0 : x = 0
  · subst hx0
    have : (0 : Int64) &&& hf_SO f = 0 := by
      apply qlb_zero
      intro w hw
      rw [qlb_and, qlb_0]; rfl
    rw [if_pos rfl, if_pos this, if_pos this]
  · rw [if_neg hx0]
    by_cases h1 : x &&& hf_SO f = 0
    · have h2 : ¬ x &&& hf_SO f = x := fun e => hx0 (by rw [← e, h1])
      rw [if_neg h2, if_pos h1, if_pos h1, if_neg h2]
    · by_cases h2 : x &&& hf_SO f = x
      · rw [if_pos h2, if_neg h1, if_pos h2]
      · rw [if_neg h2, if_neg h1, if_neg h1, if_neg h2]
theorem yWd_lt {τ : hT} (hw : yWF τ) {ch : Nat → Bool} {b w : Nat} (hww : w < 64) (h : qlb (yWd τ ch b) w = true) : w < 2 ^ yF τ := by
  unfold yWd at h
  rw [qof_b _ hww, Bool.and_eq_true] at h
  exact hw.2.2.2.2 w h.1
