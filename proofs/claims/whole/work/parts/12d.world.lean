/-! what holds of the town at any time between calls -/
section JV
variable {υ : hU} {M : hf_M}
theorem jw (hJ : Jv υ M) : yWF (uT υ) := hJ.2.1.1
theorem jS (hJ : Jv υ M) : yS (uT υ) ≤ 24 := hJ.2.1.2.1
theorem jc (hJ : Jv υ M) : cU 1 υ M := hJ.2.2.1
theorem jr (hJ : Jv υ M) : rU υ M := hJ.2.2.2.1
theorem j0 (hJ : Jv υ M) : M.2.2 0 0 = some 1 := yr0 hJ.1 rfl
theorem q1 : cq 1 := Or.inl rfl
theorem j_poss (hJ : Jv υ M) : s_X3_possible 1 (-1) M = some (yWd (uT υ) yA1 99, M) := c_poss hJ.1 q1 (jw hJ) (jc hJ).1 (by have := jS hJ; omega) (jc hJ).2.1 (fun i hi => qlb_m1 (by have := jS hJ; omega))
theorem j_now (hJ : Jv υ M) : s_X5_worldsNow 49 M = some (yWd (uT υ) yA1 99, M) := r_worldsNow hJ.1 (jw hJ) (jr hJ).1
theorem j_cS (hJ : Jv υ M) (a : Int32) : s_X3_isSpeaker 1 a M = some (qbI (yin a (yP (uT υ))), M) := c_isSp (jc hJ).1.1.2.1 a
theorem j_cF (hJ : Jv υ M) (a : Int32) : s_X3_isFact 1 a M = some (qbI (yin a (yF (uT υ))), M) := c_isFa (jc hJ).1.1.1 a
theorem j_rS (hJ : Jv υ M) (a : Int32) : s_X5_isSpeaker 49 a M = some (qbI (yin a (yP (uT υ))), M) := r_isSp (jr hJ).1.1.2.1 a
theorem j_rF (hJ : Jv υ M) (a : Int32) : s_X5_isFact 49 a M = some (qbI (yin a (yF (uT υ))), M) := r_isFa (jr hJ).1.1.1 a
def yFu (τ : hT) (p : Nat) : Bool := decide (yn τ ≤ ycn (yw τ) p (yS τ))
theorem j_cU (hJ : Jv υ M) {p : Nat} (hp : p < yP (uT υ)) : s_X3_isFull 1 (nI p) M = some (qbI (yFu (uT υ) p), M) := c_full hJ.1 q1 (jw hJ) (jc hJ).1 hp
theorem j_rU (hJ : Jv υ M) {p : Nat} (hp : p < yP (uT υ)) : s_X5_isFull 49 (nI p) M = some (qbI (yFu (uT υ) p), M) := r_full hJ.1 (jw hJ) (jr hJ).1 hp
theorem yFu_f {τ : hT} {p : Nat} (h : yFu τ p = false) : ycn (yw τ) p (yS τ) < yn τ := by
  have := of_decide_eq_false h
  omega
def yWa (τ : hT) (p f : Nat) (b : Bool) : Int64 := yWd (yad τ p f b) yA1 99
theorem j_after (hJ : Jv υ M) {p f : Nat} (hp : p < yP (uT υ)) (hf : f < yF (uT υ)) (hu : yFu (uT υ) p = false) (b : Bool) : ∃ K, s_X3_after 1 (nI p) (nI f) (qbI b) (yWd (uT υ) yA1 99) M = some (yWa (uT υ) p f b, K) ∧ gG (GG (yS (uT υ))) M K := by
  have hF := (jw hJ).1.1
  obtain ⟨K, k1, k2⟩ := c_after (b := b) hJ.1 q1 (jw hJ) (jc hJ).1 (by have := jS hJ; omega) (jc hJ).2.1 hp (show f < 6 by omega) (yFu_f hu) (yWd (uT υ) yA1 99)
  refine ⟨K, ?_, gc_GG k2 (Nat.le_refl _)⟩
  rw [k1]
  unfold yWa
  rw [yWd_add hp (jw hJ).1.2.1]
theorem j_leaves (hJ : Jv υ M) {p f : Nat} (hp : p < yP (uT υ)) (hf : f < yF (uT υ)) (hu : yFu (uT υ) p = false) (b : Bool) : ∃ K, s_X5_leaves 49 (nI p) (nI f) (qbI b) M = some (nI (ypop (yWa (uT υ) p f b)), K) ∧ gG (GG (yS (uT υ))) M K := by
  have hF := (jw hJ).1.1
  obtain ⟨K, k1, k2⟩ := r_leaves (b := b) hJ.1 (jw hJ) (jr hJ).1 hp (show f < 6 by omega) (yFu_f hu) (by have := jS hJ; omega)
  exact ⟨K, k1, gr_GG k2 (Nat.le_refl _)⟩
theorem j_sure (hJ : Jv υ M) {f : Nat} (hf : f < yF (uT υ)) (ch : Nat → Bool) : s_X5_sureBy 49 (nI f) (yWd (uT υ) ch 99) M = some (ySu f (yWd (uT υ) ch 99), M) := r_sureBy (jr hJ).1.1.1 (jw hJ).1.1 (by have := (jw hJ).1.1; omega) (fun w hw h => yWd_lt (jw hJ) hw h)
end JV
theorem nI_ne0' {x : Int64} : (nI (ypop x) = 0) ↔ x = 0 := by
  have := ypop_le x
  have e : nI (ypop x) = 0 ↔ ypop x = 0 := nI_eq (a := ypop x) (b := 0) (by omega) (by omega)
  rw [e, ypop_0]
theorem p_worlds : hs_worlds Inv := by
  intro M ⟨υ, hJ, hRe⟩
  refine ⟨yWd (uT υ) yA1 99, M, M, ?_, ?_, υ, hJ, hRe⟩
  · unfold s_X4_worlds
    rw [j0 hJ, qrs, j_poss hJ, qb1]
  · unfold s_X5_worlds
    rw [j_now hJ, qb1]
theorem p_many : hs_many Inv := by
  intro M ⟨υ, hJ, hRe⟩
  refine ⟨nI (ypop (yWd (uT υ) yA1 99)), M, M, ?_, ?_, υ, hJ, hRe⟩
  · unfold s_X4_many
    rw [j0 hJ, qrs, j_poss hJ, qb1, c_pop, qb1]
  · unfold s_X5_many
    rw [j_now hJ, qb1, r_count, qb1]
theorem p_sure : hs_sure Inv := by
  intro M ⟨υ, hJ, hRe⟩ a1
  have hF := (jw hJ).1.1
  cases hb : yin a1 (yF (uT υ))
  · refine ⟨-11, bC 1 M, bR 1 (bC 1 M), ?_, ?_, Inv_ref0 hJ hRe⟩
    · unfold s_X4_sure
      rw [j0 hJ, qrs, j_cF hJ, qb1, hb, qb_ifF, c_ref_ hJ.1 (j := 1) rfl (by decide) (by decide), qb1]
    · unfold s_X5_sure
      rw [j_rF (Jv_bC hJ), qb1, hb, qb_ifF, r_noTen (M := bC _ M) hJ.1 (j := 1) rfl (by decide), qb1]; rfl
  · obtain ⟨f, hf, rfl⟩ := yin_T hb (by omega)
    refine ⟨ySu f (yWd (uT υ) yA1 99), M, M, ?_, ?_, υ, hJ, hRe⟩
    · unfold s_X4_sure
      rw [j0 hJ, qrs, j_cF hJ, qb1, hb, qb_ifT, j0 hJ, qrs, j_poss hJ, qb1, c_surety (by omega), qb1]
    · unfold s_X5_sure
      rw [j_rF hJ, qb1, hb, qb_ifT, j_now hJ, qb1, j_sure hJ hf, qb1]
theorem sures_loop {υ : hU} {M : hf_M} (hJ : Jv υ M) : ∀ (k f fu1 fu2 : Nat) (a : Int32), yF (uT υ) = f + k → k < fu1 → k < fu2 → ∃ r, s_X4_sures_16 0 (yWd (uT υ) yA1 99) fu1 a (nI f) M = some (r, M) ∧ s_X5_sures_10 49 (yWd (uT υ) yA1 99) fu2 a (nI f) M = some (r, M) := by
  have hF := (jw hJ).1.1
  intro k
  induction k with
  | zero =>
    intro f fu1 fu2 a hk h1 h2
    obtain ⟨fu1, rfl⟩ : ∃ u, fu1 = u + 1 := ⟨fu1 - 1, by omega⟩
    obtain ⟨fu2, rfl⟩ : ∃ u, fu2 = u + 1 := ⟨fu2 - 1, by omega⟩
    refine ⟨a, ?_, ?_⟩
    · rw [s_X4_sures_16, j0 hJ, qrs, (jc hJ).1.1.1, qi_le rfl rfl (by omega) (by omega), if_pos (by omega)]
    · rw [s_X5_sures_10, (jr hJ).1.1.1, qi_le rfl rfl (by omega) (by omega), if_pos (by omega)]
  | succ k ih =>
    intro f fu1 fu2 a hk h1 h2
    obtain ⟨fu1, rfl⟩ : ∃ u, fu1 = u + 1 := ⟨fu1 - 1, by omega⟩
    obtain ⟨fu2, rfl⟩ : ∃ u, fu2 = u + 1 := ⟨fu2 - 1, by omega⟩
    obtain ⟨r, r1, r2⟩ := ih (f + 1) fu1 fu2 (if ySu f (yWd (uT υ) yA1 99) = -1 then a else a ||| hn_ishl 1 (nI f)) (by omega) (by omega) (by omega)
    refine ⟨r, ?_, ?_⟩
    · rw [s_X4_sures_16, j0 hJ, qrs, (jc hJ).1.1.1, qi_le rfl rfl (by omega) (by omega), if_neg (by omega), c_surety (by omega), qb1, nI_1, ← r1]
      by_cases e : ySu f (yWd (uT υ) yA1 99) = -1
      · rw [if_pos e, if_pos e]
      · rw [if_neg e, if_neg e]
    · rw [s_X5_sures_10, (jr hJ).1.1.1, qi_le rfl rfl (by omega) (by omega), if_neg (by omega), j_sure hJ (by omega), qb1, nI_1, ← r2]
      by_cases e : ySu f (yWd (uT υ) yA1 99) = -1
      · rw [if_pos e, if_pos e]
      · rw [if_neg e, if_neg e]
theorem p_sures : hs_sures Inv := by
  intro M ⟨υ, hJ, hRe⟩
  have hF := (jw hJ).1.1
  obtain ⟨r, r1, r2⟩ := sures_loop hJ (yF (uT υ)) 0 2000 2000 0 (by omega) (by omega) (by omega)
  refine ⟨r, M, M, ?_, ?_, υ, hJ, hRe⟩
  · unfold s_X4_sures
    rw [j0 hJ, qrs, j_poss hJ, qb1]; exact r1
  · unfold s_X5_sures
    rw [j_now hJ, qb1]; exact r2
theorem ych_cong {τ : hT} {r w : Nat} {ch dh : Nat → Bool} : ∀ i, (∀ j, j < i → ch j = dh j) → yts τ r ch w i = yts τ r dh w i ∧ yfs τ r ch w i = yfs τ r dh w i ∧ ypr τ r ch w i = ypr τ r dh w i ∧ ygd τ r ch w i = ygd τ r dh w i
  | 0, _ => ⟨rfl, rfl, rfl, rfl⟩
  | i + 1, h => by
    obtain ⟨a2, a3, a4, a5⟩ := ych_cong (τ := τ) (r := r) (w := w) i (fun j hj => h j (by omega))
    have b := h i (by omega)
    refine ⟨?_, ?_, ?_, ?_⟩
    · show _ + _ = _ + _
      rw [a2, b]
    · show _ + _ = _ + _
      rw [a3, b]
    · show (if _ then _ else _) = (if _ then _ else _)
      rw [a4, b]
    · show (_ && _) = (_ && _)
      rw [a5, a4, b]
theorem yWd_ch {τ : hT} {ch dh : Nat → Bool} {b : Nat} (h : ∀ j, j < yS τ → ch j = dh j) : yWd τ ch b = yWd τ dh b := by
  apply qlb_ext
  intro w hw
  rw [Bool.eq_iff_iff, yWd_bit hw, yWd_bit hw]
  have e : ∀ p, yok τ p ch w = yok τ p dh w := fun p => by
    obtain ⟨a2, a3, a4, a5⟩ := ych_cong (τ := τ) (r := p) (w := w) (yS τ) h
    unfold yok
    rw [a2, a3, a5]
  simp only [e]
theorem sh_mask_c : ∀ k, k < 25 → ∀ i, i < 50 → qlb ((hn_lshl 1 (nI k)) - 1) i = decide (i < k) := by decide +kernel
theorem sh_mask_r : ∀ k, k < 25 → ∀ i, i < 30 → hn_ishr ((hn_ishl 1 (nI k)) - 1) (nI i) &&& 1 = qbI (decide (i < k)) := by decide +kernel
theorem shown_loop {υ : hU} {M : hf_M} (hJ : Jv υ M) {f : Nat} (hf : f < yF (uT υ)) (hs : ySu f (yWd (uT υ) yA1 99) ≠ -1) : ∀ (k i fu1 fu2 : Nat), yS (uT υ) = i + k → k < fu1 → k < fu2 → ∃ r, s_X4_shown_44 0 (nI f) fu1 (nI i) M = some (r, M) ∧ s_X5_shown_36 49 (nI f) fu2 (nI i) M = some (r, M) := by
  have hF := (jw hJ).1.1
  have hS := jS hJ
  intro k
  induction k with
  | zero =>
    intro i fu1 fu2 hk h1 h2
    obtain ⟨fu1, rfl⟩ : ∃ u, fu1 = u + 1 := ⟨fu1 - 1, by omega⟩
    obtain ⟨fu2, rfl⟩ : ∃ u, fu2 = u + 1 := ⟨fu2 - 1, by omega⟩
    refine ⟨nI i, ?_, ?_⟩
    · rw [s_X4_shown_44, j0 hJ, qrs, (jc hJ).1.1.2.2.1, qi_le rfl rfl (by omega) (by omega), if_pos (by omega), qrs, (jc hJ).1.1.2.2.1, hk, Nat.add_zero]
    · rw [s_X5_shown_36, r_worldsOf hJ.1 (jw hJ) (jr hJ).1 (b := 99) (ch := fun j => decide (j < i)) (fun j hj => sh_mask_r i (by omega) j (by omega)) (r_b99 (jw hJ)), qb1, j_sure hJ hf, qb1, yWd_ch (dh := yA1) (fun j hj => decide_eq_true (by omega)), if_neg hs]
  | succ k ih =>
    intro i fu1 fu2 hk h1 h2
    obtain ⟨fu1, rfl⟩ : ∃ u, fu1 = u + 1 := ⟨fu1 - 1, by omega⟩
    obtain ⟨fu2, rfl⟩ : ∃ u, fu2 = u + 1 := ⟨fu2 - 1, by omega⟩
    obtain ⟨r, r1, r2⟩ := ih (i + 1) fu1 fu2 (by omega) (by omega) (by omega)
    refine ⟨if ySu f (yWd (uT υ) (fun j => decide (j < i)) 99) = -1 then r else nI i, ?_, ?_⟩
    · rw [s_X4_shown_44, j0 hJ, qrs, (jc hJ).1.1.2.2.1, qi_le rfl rfl (by omega) (by omega), if_neg (by omega), qrs, c_poss hJ.1 q1 (jw hJ) (jc hJ).1 (by omega) (jc hJ).2.1 (ch := fun j => decide (j < i)) (fun j hj => sh_mask_c i (by omega) j (by omega)), qb1, c_surety (by omega), qb1, nI_1, r1]
      by_cases e : ySu f (yWd (uT υ) (fun j => decide (j < i)) 99) = -1
      · rw [if_pos e, if_pos e]
      · rw [if_neg e, if_neg e]
    · rw [s_X5_shown_36, r_worldsOf hJ.1 (jw hJ) (jr hJ).1 (b := 99) (ch := fun j => decide (j < i)) (fun j hj => sh_mask_r i (by omega) j (by omega)) (r_b99 (jw hJ)), qb1, j_sure hJ hf, qb1, nI_1, r2]
      by_cases e : ySu f (yWd (uT υ) (fun j => decide (j < i)) 99) = -1
      · rw [if_pos e, if_pos e]
      · rw [if_neg e, if_neg e]
theorem p_shown : hs_shown Inv := by
  intro M ⟨υ, hJ, hRe⟩ a1
  have hF := (jw hJ).1.1
  have hS := jS hJ
  cases hb : yin a1 (yF (uT υ))
  · refine ⟨-1, bC 1 M, bR 1 (bC 1 M), ?_, ?_, Inv_ref0 hJ hRe⟩
    · unfold s_X4_shown
      rw [j0 hJ, qrs, j_cF hJ, qb1, hb, qb_ifF, c_ref hJ.1 (j := 1) rfl (by decide) (by decide), qb1]
    · unfold s_X5_shown
      rw [j_rF (Jv_bC hJ), qb1, hb, qb_ifF, r_no (M := bC _ M) hJ.1 (j := 1) rfl (by decide), qb1]
  · obtain ⟨f, hf, rfl⟩ := yin_T hb (by omega)
    by_cases hs : ySu f (yWd (uT υ) yA1 99) = -1
    · refine ⟨-5, bC 5 M, bR 5 (bC 5 M), ?_, ?_, Inv_ref0 hJ hRe⟩
      · unfold s_X4_shown
        rw [j0 hJ, qrs, j_cF hJ, qb1, hb, qb_ifT, j0 hJ, qrs, j_poss hJ, qb1, c_surety (by omega), qb1, if_pos hs, c_ref hJ.1 (j := 5) rfl (by decide) (by decide), qb1]
      · unfold s_X5_shown
        rw [j_rF (Jv_bC hJ), qb1, hb, qb_ifT, j_now (Jv_bC hJ), qb1, j_sure (Jv_bC hJ) hf, qb1, if_pos hs, r_no (M := bC _ M) hJ.1 (j := 5) rfl (by decide), qb1]
    · obtain ⟨r, r1, r2⟩ := shown_loop hJ hf hs (yS (uT υ)) 0 2000 2000 (by omega) (by omega) (by omega)
      refine ⟨r, M, M, ?_, ?_, υ, hJ, hRe⟩
      · unfold s_X4_shown
        rw [j0 hJ, qrs, j_cF hJ, qb1, hb, qb_ifT, j0 hJ, qrs, j_poss hJ, qb1, c_surety (by omega), qb1, if_neg hs]; exact r1
      · unfold s_X5_shown
        rw [j_rF hJ, qb1, hb, qb_ifT, j_now hJ, qb1, j_sure hJ hf, qb1, if_neg hs]; exact r2
theorem qlb_lN {n w : Nat} (hw : w < 64) : qlb (lN n) w = n.testBit w := by
  show (BitVec.ofNat 64 n).getLsbD w = _
  rw [BitVec.getLsbD_ofNat, decide_eq_true hw, Bool.true_and]
theorem proof_loop {υ : hU} {M : hf_M} (hJ : Jv υ M) {f : Nat} (hf : f < yF (uT υ)) (h10 : yS (uT υ) ≤ 10) (now : Int32) : ∀ (k v fu1 fu2 : Nat) (a : Int32), 2 ^ yS (uT υ) = v + k → k < fu1 → k < fu2 → ∃ r, s_X4_proof_74 0 (nI f) now fu1 a (nI v) M = some (r, M) ∧ s_X5_proof_60 49 (nI f) now fu2 a (nI v) M = some (r, M) := by
  have hF := (jw hJ).1.1
  have h2 : 2 ^ yS (uT υ) ≤ 2 ^ 10 := Nat.pow_le_pow_right (by decide) h10
  have hsh : hn_ishl 1 (nI (yS (uT υ))) = nI (2 ^ yS (uT υ)) := by
    have := qshl (a := 1) (f := yS (uT υ)) (by omega) (by omega)
    rw [Nat.one_mul] at this
    exact this
  intro k
  induction k with
  | zero =>
    intro v fu1 fu2 a hk h1 h2
    obtain ⟨fu1, rfl⟩ : ∃ u, fu1 = u + 1 := ⟨fu1 - 1, by omega⟩
    obtain ⟨fu2, rfl⟩ : ∃ u, fu2 = u + 1 := ⟨fu2 - 1, by omega⟩
    refine ⟨a, ?_, ?_⟩
    · rw [s_X4_proof_74, j0 hJ, qrs, (jc hJ).1.1.2.2.1, hsh, qi_le rfl rfl (by omega) (by omega), if_pos (by omega)]
    · rw [s_X5_proof_60, (jr hJ).1.1.2.2.1, hsh, qi_le rfl rfl (by omega) (by omega), if_pos (by omega)]
  | succ k ih =>
    intro v fu1 fu2 a hk h1 h2
    obtain ⟨fu1, rfl⟩ : ∃ u, fu1 = u + 1 := ⟨fu1 - 1, by omega⟩
    obtain ⟨fu2, rfl⟩ : ∃ u, fu2 = u + 1 := ⟨fu2 - 1, by omega⟩
    obtain ⟨r, r1, r2⟩ := ih (v + 1) fu1 fu2 (if a ≤ nI (ypc v.testBit 10) then a else if ySu f (yWd (uT υ) v.testBit 99) = now then nI (ypc v.testBit 10) else a) (by omega) (by omega) (by omega)
    refine ⟨r, ?_, ?_⟩
    · rw [s_X4_proof_74, j0 hJ, qrs, (jc hJ).1.1.2.2.1, hsh, qi_le rfl rfl (by omega) (by omega), if_neg (by omega), c_pop_i v (by omega), qb1, j0 hJ, qrs, c_poss hJ.1 q1 (jw hJ) (jc hJ).1 (by omega) (jc hJ).2.1 (ch := v.testBit) (fun j hj => by rw [nI_l (by omega)]; exact qlb_lN (by omega)), qb1, c_surety (by omega), qb1, nI_1, ← r1]
      by_cases e : a ≤ nI (ypc v.testBit 10)
      · rw [if_pos e, if_pos e]
      · rw [if_neg e, if_neg e]
        by_cases e2 : ySu f (yWd (uT υ) v.testBit 99) = now
        · rw [if_pos e2, if_pos e2]
        · rw [if_neg e2, if_neg e2]
    · rw [s_X5_proof_60, (jr hJ).1.1.2.2.1, hsh, qi_le rfl rfl (by omega) (by omega), if_neg (by omega), r_count, qb1, y_pop_l v (by omega), r_worldsOf hJ.1 (jw hJ) (jr hJ).1 (b := 99) (ch := v.testBit) (fun j hj => qsb (by omega) (by omega)) (r_b99 (jw hJ)), qb1, j_sure hJ hf, qb1, nI_1, ← r2]
      by_cases e : a ≤ nI (ypc v.testBit 10)
      · rw [if_pos e, if_pos e]
      · rw [if_neg e, if_neg e]
        by_cases e2 : ySu f (yWd (uT υ) v.testBit 99) = now
        · rw [if_pos e2, if_pos e2]
        · rw [if_neg e2, if_neg e2]
theorem p_proof : hs_proof Inv := by
  intro M ⟨υ, hJ, hRe⟩ a1
  have hF := (jw hJ).1.1
  have hS := jS hJ
  cases hb : yin a1 (yF (uT υ))
  · refine ⟨-1, bC 1 M, bR 1 (bC 1 M), ?_, ?_, Inv_ref0 hJ hRe⟩
    · unfold s_X4_proof
      rw [j0 hJ, qrs, j_cF hJ, qb1, hb, qb_ifF, c_ref hJ.1 (j := 1) rfl (by decide) (by decide), qb1]
    · unfold s_X5_proof
      rw [j_rF (Jv_bC hJ), qb1, hb, qb_ifF, r_no (M := bC _ M) hJ.1 (j := 1) rfl (by decide), qb1]
  · obtain ⟨f, hf, rfl⟩ := yin_T hb (by omega)
    by_cases hs : ySu f (yWd (uT υ) yA1 99) = -1
    · refine ⟨-5, bC 5 M, bR 5 (bC 5 M), ?_, ?_, Inv_ref0 hJ hRe⟩
      · unfold s_X4_proof
        rw [j0 hJ, qrs, j_cF hJ, qb1, hb, qb_ifT, j0 hJ, qrs, j_poss hJ, qb1, c_surety (by omega), qb1, if_pos hs, c_ref hJ.1 (j := 5) rfl (by decide) (by decide), qb1]
      · unfold s_X5_proof
        rw [j_rF (Jv_bC hJ), qb1, hb, qb_ifT, j_now (Jv_bC hJ), qb1, j_sure (Jv_bC hJ) hf, qb1, if_pos hs, r_no (M := bC _ M) hJ.1 (j := 5) rfl (by decide), qb1]
    · by_cases h10 : yS (uT υ) ≤ 10
      · have h2 : 2 ^ yS (uT υ) ≤ 2 ^ 10 := Nat.pow_le_pow_right (by decide) h10
        obtain ⟨r, r1, r2⟩ := proof_loop hJ hf h10 (ySu f (yWd (uT υ) yA1 99)) (2 ^ yS (uT υ)) 0 2000 2000 (nI (yS (uT υ))) (by omega) (by omega) (by omega)
        refine ⟨r, M, M, ?_, ?_, υ, hJ, hRe⟩
        · unfold s_X4_proof
          rw [j0 hJ, qrs, j_cF hJ, qb1, hb, qb_ifT, j0 hJ, qrs, j_poss hJ, qb1, c_surety (by omega), qb1, if_neg hs, j0 hJ, qrs, (jc hJ).1.1.2.2.1, qi_le rfl (show (10 : Int32) = nI 10 from rfl) (by omega) (by omega), if_pos h10, qrs, (jc hJ).1.1.2.2.1]; exact r1
        · unfold s_X5_proof
          rw [j_rF hJ, qb1, hb, qb_ifT, j_now hJ, qb1, j_sure hJ hf, qb1, if_neg hs, (jr hJ).1.1.2.2.1, qi_le rfl (show (10 : Int32) = nI 10 from rfl) (by omega) (by omega), if_pos h10]; exact r2
      · refine ⟨-7, bC 7 M, bR 7 (bC 7 M), ?_, ?_, Inv_ref0 hJ hRe⟩
        · unfold s_X4_proof
          rw [j0 hJ, qrs, j_cF hJ, qb1, hb, qb_ifT, j0 hJ, qrs, j_poss hJ, qb1, c_surety (by omega), qb1, if_neg hs, j0 hJ, qrs, (jc hJ).1.1.2.2.1, qi_le rfl (show (10 : Int32) = nI 10 from rfl) (by omega) (by omega), if_neg h10, c_ref hJ.1 (j := 7) rfl (by decide) (by decide), qb1]
        · unfold s_X5_proof
          rw [j_rF (Jv_bC hJ), qb1, hb, qb_ifT, j_now (Jv_bC hJ), qb1, j_sure (Jv_bC hJ) hf, qb1, if_neg hs, (jr (Jv_bC hJ)).1.1.2.2.1, qi_le rfl (show (10 : Int32) = nI 10 from rfl) (by omega) (by omega), if_neg h10, r_no (M := bC _ M) hJ.1 (j := 7) rfl (by decide), qb1]
