/-! sayings put and taken back: the class -/
theorem gLI {M : hf_M} {k j : Nat} {v : Int64} : (hf_sL M k j v).1 = M.1 := rfl
theorem gIL {M : hf_M} {k j : Nat} {v : Int32} : (hf_sI M k j v).2.1 = M.2.1 := rfl
theorem gIR {M : hf_M} {k j : Nat} {v : Int32} : (hf_sI M k j v).2.2 = M.2.2 := rfl
theorem gLR {M : hf_M} {k j : Nat} {v : Int64} : (hf_sL M k j v).2.2 = M.2.2 := rfl
theorem yrf_I {M : hf_M} {k j : Nat} {v : Int32} (h : yRf M) : yRf (hf_sI M k j v) := h
theorem yrf_L {M : hf_M} {k j : Nat} {v : Int64} (h : yRf M) : yRf (hf_sL M k j v) := h
def cPu (q p S : Nat) (c wd : Int32) (tr : Int64) (M : hf_M) : hf_M := hf_sI (hf_sI (hf_sL (hf_sI (hf_sI (hf_sI M (q + 5) S (nI p)) (q + 6) S c) (q + 7) S wd) (q + 8) S tr) (q + 4) p (c + 1)) q 10 (nI S + 1)
def yTr (f : Nat) (b : Bool) : Int64 := if b = true then hf_SO f else hf_SO f ^^^ (-1)
theorem yTr_b {f w : Nat} (b : Bool) (hf : f < 6) (hw : w < 64) : qlb (yTr f b) w = (w.testBit f == b) := by
  unfold yTr
  cases b
  · rw [if_neg (by decide), qlb_not _ hw, qSOb hf hw]
    cases w.testBit f <;> rfl
  · rw [if_pos rfl, qSOb hf hw]
    cases w.testBit f <;> rfl
theorem c_truth {f : Nat} (hf : f < 6) (b : Bool) (M : hf_M) : s_X4_truthOf (nI f) (qbI b) M = some (yTr f b, M) := by
  unfold s_X4_truthOf yTr
  rw [qSO hf, qSO hf]
  cases b <;> rfl
section CPU
variable {q p S : Nat} {c wd : Int32} {tr : Int64} {M : hf_M}
theorem cPu_1 {k j : Nat} (h1 : ¬ (k = q ∧ j = 10)) (h2 : ¬ (k = q + 4 ∧ j = p)) (h3 : ¬ ((k = q + 5 ∨ k = q + 6 ∨ k = q + 7) ∧ j = S)) : (cPu q p S c wd tr M).1 k j = M.1 k j := by
  unfold cPu
  rw [gI (by omega), gI (by omega), gLI, gI (by omega), gI (by omega), gI (by omega)]
theorem cPu_L {k j : Nat} (h : ¬ (k = q + 8 ∧ j = S)) : (cPu q p S c wd tr M).2.1 k j = M.2.1 k j := by
  unfold cPu
  rw [gIL, gIL, gL (by omega), gIL, gIL, gIL]
theorem cPu_10 : (cPu q p S c wd tr M).1 q 10 = nI (S + 1) := by
  unfold cPu
  rw [gI0, nI_1]
theorem cPu_4 : (cPu q p S c wd tr M).1 (q + 4) p = c + 1 := by
  unfold cPu
  rw [gI (by omega), gI0]
theorem cPu_5 : (cPu q p S c wd tr M).1 (q + 5) S = nI p := by
  unfold cPu
  rw [gI (by omega), gI (by omega), gLI, gI (by omega), gI (by omega), gI0]
theorem cPu_6 : (cPu q p S c wd tr M).1 (q + 6) S = c := by
  unfold cPu
  rw [gI (by omega), gI (by omega), gLI, gI (by omega), gI0]
theorem cPu_7 : (cPu q p S c wd tr M).1 (q + 7) S = wd := by
  unfold cPu
  rw [gI (by omega), gI (by omega), gLI, gI0]
theorem cPu_8 : (cPu q p S c wd tr M).2.1 (q + 8) S = tr := by
  unfold cPu
  rw [gIL, gIL, gL0]
theorem cPu_R (hR : yRf M) : yRf (cPu q p S c wd tr M) := hR
end CPU
section CE
variable {τ : hT} {M : hf_M} {q p f : Nat} {b : Bool}
theorem c_putT (hR : yRf M) (hq : cq q) (h : cB q τ M) (hS : yS τ < 48) (hp : p < yP τ) (hP : yP τ ≤ 6) (wd : Int32) (tr : Int64) : s_X3_putTrueIn q (nI p) wd tr M = some ((), cPu q p (yS τ) (nI (ycn (yw τ) p (yS τ))) wd tr M) := by
  have h10 := h.1.2.2.1
  have hc := (h.2.1 p hp).2.2
  unfold s_X3_putTrueIn
  rw [h10, qi_le (show (48 : Int32) = nI 48 from rfl) rfl (by omega) (by omega), if_neg (by omega), cr4 hR hq, qrs, qsI M _ (cl48 hq (by decide) (by decide) hS)]
  generalize e1 : hf_sI M (q + 5) (yS τ) (nI p) = M1
  have hR1 : yRf M1 := by subst e1; exact hR
  have a10 : M1.1 q 10 = nI (yS τ) := by rw [← e1, gI (by omega)]; exact h10
  have a4 : M1.1 (q + 4) p = nI (ycn (yw τ) p (yS τ)) := by rw [← e1, gI (by omega)]; exact hc
  rw [cr5 hR1 hq, qrs, cr3 hR1 hq, qrs, qlI M1 (cl6 hq (by decide) (by decide) (by omega)), a4, a10, qsI M1 _ (cl48 hq (by decide) (by decide) hS)]
  generalize e2 : hf_sI M1 (q + 6) (yS τ) (nI (ycn (yw τ) p (yS τ))) = M2
  have hR2 : yRf M2 := by subst e2; exact hR1
  have b10 : M2.1 q 10 = nI (yS τ) := by rw [← e2, gI (by omega)]; exact a10
  have b4 : M2.1 (q + 4) p = nI (ycn (yw τ) p (yS τ)) := by rw [← e2, gI (by omega)]; exact a4
  rw [cr6 hR2 hq, qrs, b10, qsI M2 _ (cl48 hq (by decide) (by decide) hS)]
  generalize e3 : hf_sI M2 (q + 7) (yS τ) wd = M3
  have hR3 : yRf M3 := by subst e3; exact hR2
  have c10 : M3.1 q 10 = nI (yS τ) := by rw [← e3, gI (by omega)]; exact b10
  have c4 : M3.1 (q + 4) p = nI (ycn (yw τ) p (yS τ)) := by rw [← e3, gI (by omega)]; exact b4
  rw [cr7 hR3 hq, qrs, c10, qsL M3 _ (cl48 hq (by decide) (by decide) hS)]
  generalize e4 : hf_sL M3 (q + 8) (yS τ) tr = M4
  have hR4 : yRf M4 := by subst e4; exact hR3
  have d10 : M4.1 q 10 = nI (yS τ) := by rw [← e4, gLI]; exact c10
  have d4 : M4.1 (q + 4) p = nI (ycn (yw τ) p (yS τ)) := by rw [← e4, gLI]; exact c4
  rw [cr3 hR4 hq, qrs, qlI M4 (cl6 hq (by decide) (by decide) (by omega)), d4, qsI M4 _ (cl6 hq (by decide) (by decide) (by omega)), qpt, gI (by omega), d10]
  subst e4 e3 e2 e1
  rfl
theorem cPu_B (h : cB q τ M) (hS : yS τ < 48) (hp : p < yP τ) (wd : Int32) (tr : Int64) : cB q (yad τ p f b) (cPu q p (yS τ) (nI (ycn (yw τ) p (yS τ))) wd tr M) := by
  obtain ⟨⟨h8, h9, h10, h12, h13, h11⟩, hk, hs⟩ := h
  refine ⟨⟨?_, ?_, cPu_10, ?_, ?_, ?_⟩, fun r hr => ⟨?_, ?_, ?_⟩, fun i hi => ?_⟩
  · rw [cPu_1 (by omega) (by omega) (by omega)]; exact h8
  · rw [cPu_1 (by omega) (by omega) (by omega)]; exact h9
  · rw [cPu_1 (by omega) (by omega) (by omega)]; exact h12
  · rw [cPu_1 (by omega) (by omega) (by omega)]; exact h13
  · rw [cPu_L (by omega)]; exact h11
  · rw [cPu_1 (by omega) (by omega) (by omega)]; exact (hk r hr).1
  · rw [cPu_1 (by omega) (by omega) (by omega)]; exact (hk r hr).2.1
  · show _ = nI (ycn (yw (yad τ p f b)) r (yS τ + 1))
    rw [yad_cnS]
    by_cases e : p = r
    · subst e
      rw [cPu_4, if_pos rfl, nI_1]
    · rw [cPu_1 (by omega) (by omega) (by omega), if_neg e]; exact (hk r hr).2.2
  · have hi' : i < yS τ + 1 := hi
    by_cases e : i = yS τ
    · subst e
      rw [cPu_5, cPu_6, yad_w0, yad_cn p (Nat.le_refl _)]
      exact ⟨rfl, rfl⟩
    · rw [cPu_1 (by omega) (by omega) (by omega), cPu_1 (by omega) (by omega) (by omega), yad_w (by omega), yad_cn _ (by omega)]
      exact hs i (by omega)
theorem cPu_V {w : Nat} (hv : cV q τ w M) {c wd : Int32} {tr : Int64} (ht : qlb tr w = (w.testBit f == b)) : cV q (yad τ p f b) w (cPu q p (yS τ) c wd tr M) := by
  intro i hi
  have hi' : i < yS τ + 1 := hi
  by_cases e : i = yS τ
  · subst e
    rw [cPu_8, yad_tr0]; exact ht
  · rw [cPu_L (by omega), yad_tr (by omega)]
    exact hv i (by omega)
theorem cPu_W (hv : cW q τ M) {c : Int32} {tr : Int64} : cW q (yad τ p f b) (cPu q p (yS τ) c (nI (100 * p + 10 * f + b.toNat)) tr M) := by
  intro i hi
  have hi' : i < yS τ + 1 := hi
  by_cases e : i = yS τ
  · subst e
    rw [cPu_7, yad_w0, yad_f0, yad_b0]
  · rw [cPu_1 (by omega) (by omega) (by omega), yad_w (by omega), yad_f (by omega), yad_b (by omega)]
    exact hv i (by omega)
theorem c_put (hR : yRf M) (hq : cq q) (h : cB q τ M) (hS : yS τ < 48) (hp : p < yP τ) (hP : yP τ ≤ 6) (hf : f < 6) : s_X3_put q (nI p) (nI f) (qbI b) M = some ((), cPu q p (yS τ) (nI (ycn (yw τ) p (yS τ))) (nI (100 * p + 10 * f + b.toNat)) (yTr f b) M) := by
  unfold s_X3_put
  rw [c_truth hf, qb1, qb1, show (100 : Int32) = nI 100 from rfl, show (10 : Int32) = nI 10 from rfl, pk_mul, pk_mul, nI_add, show (0 : Int32) = nI 0 from rfl, nI_add, show (1 : Int32) = nI 1 from rfl, nI_add, c_putT hR hq h hS hp hP, qb1, c_putT hR hq h hS hp hP, qb1]
  cases b
  · rfl
  · rfl
theorem c_back {N : hf_M} (hR : yRf N) (hq : cq q) {S c : Nat} (h1 : N.1 q 10 = nI (S + 1)) (h2 : N.1 (q + 5) S = nI p) (h3 : N.1 (q + 4) p = nI (c + 1)) (hp : p < 6) (hS : S < 48) : s_X3_takeBack q N = some ((), hf_sI (hf_sI N q 10 (nI S)) (q + 4) p (nI c)) := by
  unfold s_X3_takeBack
  rw [h1, qi_le rfl (show (0 : Int32) = nI 0 from rfl) (by omega) (by omega), if_neg (by omega), nI_pred, qpt]
  generalize e : hf_sI N q 10 (nI S) = N1
  have hR1 : yRf N1 := by subst e; exact hR
  have i10 : N1.1 q 10 = nI S := by rw [← e, gI0]
  have i5 : N1.1 (q + 5) S = nI p := by rw [← e, gI (by omega)]; exact h2
  have i4 : N1.1 (q + 4) p = nI (c + 1) := by rw [← e, gI (by omega)]; exact h3
  rw [cr3 hR1 hq, qrs, cr4 hR1 hq, qrs, i10, qlI N1 (cl48 hq (by decide) (by decide) hS), i5, qlI N1 (cl6 hq (by decide) (by decide) hp), i4, qsI N1 _ (cl6 hq (by decide) (by decide) hp), nI_pred]
theorem c_backG (hR : yRf M) (hq : cq q) (h : cB q τ M) (hS : yS τ < 48) (hp : p < yP τ) (hP : yP τ ≤ 6) {wd : Int32} {tr : Int64} {N : hf_M} (hg : gG (Gc q (yS τ + 1)) (cPu q p (yS τ) (nI (ycn (yw τ) p (yS τ))) wd tr M) N) : ∃ K, s_X3_takeBack q N = some ((), K) ∧ gG (Gc q (yS τ)) M K := by
  have hRN : yRf N := gG_rf hg (cPu_R hR)
  have a1 : N.1 q 10 = nI (yS τ + 1) := (hg.2 q 10 (by unfold Gc; omega)).1.trans cPu_10
  have a2 : N.1 (q + 5) (yS τ) = nI p := (hg.2 (q + 5) (yS τ) (by unfold Gc; omega)).1.trans cPu_5
  have a3 : N.1 (q + 4) p = nI (ycn (yw τ) p (yS τ) + 1) := ((hg.2 (q + 4) p (by unfold Gc; omega)).1.trans cPu_4).trans (nI_1 _)
  refine ⟨_, c_back hRN hq a1 a2 a3 (by omega) hS, hg.1, fun k j hn => ⟨?_, ?_⟩⟩
  · unfold Gc at hn
    by_cases e1 : k = q + 4 ∧ j = p
    · obtain ⟨rfl, rfl⟩ := e1
      rw [gI0]; exact ((h.2.1 _ hp).2.2).symm
    · rw [gI (by omega)]
      by_cases e2 : k = q ∧ j = 10
      · obtain ⟨rfl, rfl⟩ := e2
        rw [gI0]; exact h.1.2.2.1.symm
      · rw [gI (by omega), (hg.2 k j (by unfold Gc; omega)).1, cPu_1 e2 e1 (by omega)]
  · unfold Gc at hn
    rw [gIL, gIL, (hg.2 k j (by unfold Gc; omega)).2, cPu_L (by omega)]
theorem c_after (hR : yRf M) (hq : cq q) (hw : yWF τ) (h : cB q τ M) (hS : yS τ < 48) (hv : ∀ w, w < 64 → cV q τ w M) (hp : p < yP τ) (hf : f < 6) (hc : ycn (yw τ) p (yS τ) < yn τ) (ws : Int64) : ∃ K, s_X3_after q (nI p) (nI f) (qbI b) ws M = some (ws &&& yAl (yad τ p f b) p yA1, K) ∧ gG (Gc q (yS τ)) M K := by
  have hP := hw.1.2.1
  obtain ⟨K, k1, k2⟩ := c_backG hR hq h hS hp hP (wd := nI (100 * p + 10 * f + b.toNat)) (tr := yTr f b) (gG_refl _ _)
  refine ⟨K, ?_, k2⟩
  unfold s_X3_after
  rw [c_put hR hq h hS hp hP hf, qb1, c_allowed (cPu_R hR) hq (yad_WF (f := f) (b := b) hw hp hf hc (by omega)) (cPu_B h hS hp _ _) (by show yS τ + 1 ≤ 48; omega) hp (fun w hww => cPu_V (hv w hww) (yTr_b b hf hww)) (x := -1) (ch := yA1) (fun i hi => qlb_m1 (by have hi' : i < yS τ + 1 := hi; omega)), qb1, k1, qb1]
def yNx (τ : hT) (p : Nat) (b : Bool) : Int64 := qof (fun w => yok (yad τ p 0 (w.testBit 0 == b)) p yA1 w)
theorem c_next (hR : yRf M) (hq : cq q) (hw : yWF τ) (h : cB q τ M) (hS : yS τ < 48) (hv : ∀ w, w < 64 → cV q τ w M) (hp : p < yP τ) (hc : ycn (yw τ) p (yS τ) < yn τ) : ∃ K, s_X3_allowedNext q (nI p) (qbI b) M = some (yNx τ p b, K) ∧ gG (Gc q (yS τ)) M K := by
  have hP := hw.1.2.1
  obtain ⟨K, k1, k2⟩ := c_backG hR hq h hS hp hP (wd := 0) (tr := if b = true then -1 else 0) (gG_refl _ _)
  refine ⟨K, ?_, k2⟩
  have key : s_X3_allowed q (nI p) (-1) (cPu q p (yS τ) (nI (ycn (yw τ) p (yS τ))) 0 (if b = true then -1 else 0) M) = some (yNx τ p b, cPu q p (yS τ) (nI (ycn (yw τ) p (yS τ))) 0 (if b = true then -1 else 0) M) := by
    refine q_all (fun w hww => ?_)
    refine c_allowed1 (τ := yad τ p 0 (w.testBit 0 == b)) (cPu_R hR) hq (yad_WF hw hp (by decide) hc (by omega)) (cPu_B h hS hp _ _) (by show yS τ + 1 ≤ 48; omega) hp (cPu_V (hv w hww) ?_) hww (fun i hi => qlb_m1 (by have hi' : i < yS τ + 1 := hi; omega))
    cases b
    · rw [if_neg (by decide), qlb_0]
      cases w.testBit 0 <;> rfl
    · rw [if_pos rfl, qlb_m1 hww]
      cases w.testBit 0 <;> rfl
  unfold s_X3_allowedNext
  cases b
  · rw [if_neg (by decide)] at key k1
    rw [if_pos (show qbI false = 0 from rfl), c_putT hR hq h hS hp hP, qb1, key, qb1, k1, qb1]
  · rw [if_pos rfl] at key k1
    rw [if_neg (show ¬ qbI true = 0 by decide), c_putT hR hq h hS hp hP, qb1, key, qb1, k1, qb1]
end CE
