/-! the reference's words -/
def Gv (k j : Nat) : Prop := (GrT k j) ∨ (k = 49 ∧ (j = 26 ∨ j = 28 ∨ j = 29)) ∨ k = 64
def vX (T : Nat → Int32) (n s : Nat) (M : hf_M) : Prop := yRf M ∧ s < 8 ∧ n ≤ 160 ∧ M.1 49 25 = nI (160 * s) ∧ M.1 49 27 = nI n ∧ (∀ i, i < n → (M.2.1 61 (160 * s + i)).toInt32 = T i) ∧ iWo M
def rT (M : hf_M) (υ : hU) (n a : Nat) (K : hf_M) : Prop := gG Gv M K ∧ rU υ K ∧ K.1 49 26 = nI a ∧ a ≤ n
def vE (M : hf_M) (e : Nat) (r : Option (Int32 × hf_M)) : Prop := ∃ K, r = some (0, K) ∧ gG Gv M K ∧ K.1 49 29 = nI e
def off (w : Nat) : Nat := [0, 6, 11, 16, 22, 29].getD w 0
def zc : Nat → Nat
  | 0 => 0
  | i + 1 => zc i + (if hm_end.1 63 i = 0 then 1 else 0)
theorem zc1 : ∀ w, w < 5 → zc (off w) = w := by decide +kernel
theorem zc2 : ∀ w, w < 5 → ∀ i, i < off w → zc i < w := by decide +kernel
theorem w63 : ∀ w, w < 5 → ∀ v, v < wl w → hm_end.1 63 (off w + v) = hf_chr w v ∧ 32 < hf_chr w v ∧ hf_chr w v ≠ 0 := by decide +kernel
theorem w32 : ∀ w, w < 5 → hm_end.1 63 (off w + wl w) = 32 ∧ hm_end.1 63 (off w + wl w + 1) = 0 ∧ off w + wl w + 1 < 29 ∧ off (w + 1) = off w + wl w + 2 := by decide +kernel
def ymx (T : Nat → Int32) (n w pos : Nat) : Nat → Nat → Nat
  | 0, v => v
  | k + 1, v => if tl T n (pos + v) = hm_end.1 63 (off w + v) then ymx T n w pos k (v + 1) else v
section rd
variable {T : Nat → Int32} {n s : Nat} {M K : hf_M} {υ : hU} {c a : Nat}
theorem vR (h : vX T n s M) (g : gG Gv M K) : yRf K := gG_rf g h.1
theorem v63 (h : vX T n s M) (g : gG Gv M K) (j : Nat) : K.1 63 j = hm_end.1 63 j := by
  rw [(g.2 63 j (by unfold Gv GrT; omega)).1]; exact h.2.2.2.2.2.2 j
theorem v27 (h : vX T n s M) (g : gG Gv M K) : K.1 49 27 = nI n := by
  rw [(g.2 49 27 (by unfold Gv GrT; omega)).1]; exact h.2.2.2.2.1
theorem r_txt (h : vX T n s M) (g : gG Gv M K) {b : Nat} (hb : b < n) : (K.2.1 61 (160 * s + b)).toInt32 = tl T n b ∧ ∀ {β : Type} (k : Int64 → Option β), hf_rf (K.2.2 49 21) (fun q => hf_ldL K q (K.1 49 25 + nI b) k) = k (K.2.1 61 (160 * s + b)) := by
  have hR := vR h g
  obtain ⟨h1, hs, hn, h25, h27, ht, hw⟩ := h
  refine ⟨?_, fun k => ?_⟩
  · unfold tl
    rw [if_pos hb, (g.2 61 (160 * s + b) (by unfold Gv GrT; omega)).2]
    exact ht b hb
  · rw [yrf_49 hR (j := 21) rfl, qrs, (g.2 49 25 (by unfold Gv GrT; omega)).1, h25, nI_add, qlL K (by show 160 * s + b < 1280; omega)]
theorem r_63 {β : Type} (h : vX T n s M) (g : gG Gv M K) {j : Nat} (hj : j < 29) (k : Int32 → Option β) : hf_rf (K.2.2 49 23) (fun q => hf_ldI K q (nI j) k) = k (hm_end.1 63 j) := by
  rw [yrf_49 (vR h g) (j := 23) rfl, qrs, qlI K (by show j < 29; exact hj), v63 h g]
theorem r_wat4 (h : vX T n s M) (g : gG Gv M K) {w : Nat} (hw : w < 5) : ∀ (k j fu : Nat), off w = j + k → k < fu → s_X5_isWordAt_4 49 (nI w) fu (nI j) (nI (zc j)) K = s_X5_isWordAt_37 49 2000 (nI (off w)) (K.1 49 26) K := by
  have hl := (w32 w hw).2.2.1
  intro k
  induction k with
  | zero =>
    intro j fu hj hf
    obtain ⟨fu, rfl⟩ : ∃ u, fu = u + 1 := ⟨fu - 1, by omega⟩
    have e : off w = j := by omega
    have z := zc1 w hw
    rw [e] at z
    rw [s_X5_isWordAt_4, z, qi_le rfl rfl (by omega) (by omega), if_pos (Nat.le_refl _), e]
  | succ k ih =>
    intro j fu hj hf
    obtain ⟨fu, rfl⟩ : ∃ u, fu = u + 1 := ⟨fu - 1, by omega⟩
    have z := zc2 w hw j (by omega)
    have ez : zc (j + 1) = zc j + (if hm_end.1 63 j = 0 then 1 else 0) := rfl
    rw [s_X5_isWordAt_4, qi_le rfl rfl (by omega) (by omega), if_neg (show ¬ w ≤ zc j by omega), r_63 h g (by omega)]
    have ih' := ih (j + 1) fu (by omega) (by omega)
    by_cases e0 : hm_end.1 63 j = 0
    · rw [if_pos e0] at ez
      rw [if_pos e0, nI_1, nI_1, ← ez]
      exact ih'
    · rw [if_neg e0] at ez
      rw [if_neg e0, nI_1, Int32.add_zero, show zc j = zc (j + 1) from ez.symm]
      exact ih'
theorem r_wat37 (h : vX T n s M) (g : gG Gv M K) {w : Nat} (hw : w < 5) : ∀ (k v fu : Nat), wl w = v + k → k < fu → a ≤ n → s_X5_isWordAt_37 49 fu (nI (off w + v)) (nI (a + v)) K = some (qbI (decide (ymm T n w a k v = wl w)), K) := by
  have hl := w32 w hw
  have h6 := wl6 w hw
  have hn := h.2.2.1
  intro k
  induction k with
  | zero =>
    intro v fu hv hf ha
    obtain ⟨fu, rfl⟩ : ∃ u, fu = u + 1 := ⟨fu - 1, by omega⟩
    have e : v = wl w := by omega
    subst e
    have em : ymm T n w a 0 (wl w) = wl w := rfl
    rw [s_X5_isWordAt_37, r_63 h g (by omega), hl.1, if_pos (show (32 : Int32) ≤ 32 by decide), r_63 h g (by omega), hl.1, if_neg (show ¬ (32 : Int32) < 32 by decide), em, decide_eq_true rfl]
    rfl
  | succ k ih =>
    intro v fu hv hf ha
    obtain ⟨fu, rfl⟩ : ∃ u, fu = u + 1 := ⟨fu - 1, by omega⟩
    obtain ⟨c1, c2, c3⟩ := w63 w hw v (by omega)
    have em : ymm T n w a (k + 1) v = if tl T n (a + v) = hf_chr w v then ymm T n w a k (v + 1) else v := rfl
    have hne : ¬ v = wl w := by omega
    have r63 : ∀ {β : Type} (k : Int32 → Option β), hf_rf (K.2.2 49 23) (fun q => hf_ldI K q (nI (off w + v)) k) = k (hf_chr w v) := fun k => by
      rw [r_63 h g (by omega), c1]
    rw [s_X5_isWordAt_37, r63, if_neg (fun e => absurd c2 (Int32.not_lt.mpr e)), v27 h g, qi_le rfl rfl (by omega) (by omega), em]
    by_cases e1 : n ≤ a + v
    · have e2 : ¬ tl T n (a + v) = hf_chr w v := fun e => absurd (tl_lt (chr_m1 w hw v (by omega)) e) (by omega)
      rw [if_pos e1, r63, if_pos c2, if_neg e2, decide_eq_false hne]; rfl
    · obtain ⟨t1, t2⟩ := r_txt h g (b := a + v) (by omega)
      rw [if_neg e1, t2, r63, t1]
      by_cases e2 : tl T n (a + v) = hf_chr w v
      · rw [if_pos e2, if_pos e2, nI_1, nI_1]
        exact ih (v + 1) fu (by omega) (by omega) ha
      · rw [if_neg e2, if_neg e2, r63, if_pos c2, decide_eq_false hne]; rfl
theorem r_wat (h : vX T n s M) (hK : rT M υ n a K) {w : Nat} (hw : w < 5) : s_X5_isWordAt 49 (nI w) K = some (qbI (decide (ymm T n w a (wl w) 0 = wl w)), K) := by
  have hl := w32 w hw
  have e := r_wat4 h hK.1 hw (off w) 0 2000 (by omega) (by omega)
  unfold s_X5_isWordAt
  have e' : s_X5_isWordAt_4 49 (nI w) 2000 0 0 K = _ := e
  rw [e', hK.2.2.1]
  exact r_wat37 h hK.1 hw (wl w) 0 2000 (by omega) (by have := wl6 w hw; omega) hK.2.2.2
theorem ymx_e {w : Nat} (hw : w < 5) : ∀ (k v : Nat), wl w = v + k → ymx T n w a (k + 1) v = if ymm T n w a k v = wl w then (if tl T n (a + wl w) = 32 then wl w + 1 else wl w) else ymm T n w a k v := by
  intro k
  induction k with
  | zero =>
    intro v hv
    have e : v = wl w := by omega
    subst e
    show (if tl T n (a + wl w) = hm_end.1 63 (off w + wl w) then wl w + 1 else wl w) = if wl w = wl w then _ else _
    rw [if_pos (rfl : wl w = wl w), (w32 w hw).1]
  | succ k ih =>
    intro v hv
    have e1 : ymx T n w a (k + 1 + 1) v = if tl T n (a + v) = hm_end.1 63 (off w + v) then ymx T n w a (k + 1) (v + 1) else v := rfl
    have e2 : ymm T n w a (k + 1) v = if tl T n (a + v) = hf_chr w v then ymm T n w a k (v + 1) else v := rfl
    rw [e1, e2, (w63 w hw v (by omega)).1]
    by_cases g : tl T n (a + v) = hf_chr w v
    · rw [if_pos g, if_pos g]
      exact ih (v + 1) (by omega)
    · rw [if_neg g, if_neg g, if_neg (show ¬ v = wl w by omega)]
theorem ymx_le {w : Nat} : ∀ (k v : Nat), v ≤ ymx T n w a k v ∧ ymx T n w a k v ≤ v + k := by
  intro k
  induction k with
  | zero => intro v; exact ⟨Nat.le_refl _, Nat.le_refl _⟩
  | succ k ih =>
    intro v
    have e1 : ymx T n w a (k + 1) v = if tl T n (a + v) = hm_end.1 63 (off w + v) then ymx T n w a k (v + 1) else v := rfl
    rw [e1]
    split
    · have := ih (v + 1)
      omega
    · omega
theorem r_w105 (h : vX T n s M) (g : gG Gv M K) {k9 : Int32 → Int32 → Int32 → hf_M → Option (Int32 × hf_M)} {v2 v3 : Int32} {w : Nat} (hw : w < 5) : ∀ (k v fu : Nat), wl w + 1 = v + k → k < fu → s_X5_word_105 k9 49 v2 v3 fu (nI (off w + v)) K = k9 (nI (off (w + 1))) v2 (v3 + 1) K := by
  have hl := w32 w hw
  intro k
  induction k with
  | zero =>
    intro v fu hv hf
    obtain ⟨fu, rfl⟩ : ∃ u, fu = u + 1 := ⟨fu - 1, by omega⟩
    have e : v = wl w + 1 := by omega
    subst e
    rw [s_X5_word_105, r_63 h g (by omega), show off w + (wl w + 1) = off w + wl w + 1 by omega, hl.2.1, if_pos rfl, nI_1, hl.2.2.2]
  | succ k ih =>
    intro v fu hv hf
    obtain ⟨fu, rfl⟩ : ∃ u, fu = u + 1 := ⟨fu - 1, by omega⟩
    have c : ¬ hm_end.1 63 (off w + v) = 0 := by
      by_cases e : v = wl w
      · rw [e, hl.1]; decide
      · obtain ⟨c1, c2, c3⟩ := w63 w hw v (by omega)
        rw [c1]; exact c3
    rw [s_X5_word_105, r_63 h g (by omega), if_neg c, nI_1]
    exact ih (v + 1) fu (by omega) (by omega)
theorem r_w23 (h : vX T n s M) (g : gG Gv M K) {k9 : Int32 → Int32 → Int32 → hf_M → Option (Int32 × hf_M)} {v1 v3 : Int32} {b w : Nat} (hw : w < 5) (ha : a ≤ n) (hb : b < 2 ^ 20) : ∀ (k v fu : Nat), wl w + 1 = v + k → k < fu → s_X5_word_23 k9 49 v1 (nI b) v3 fu (nI (a + v)) (nI (off w + v)) K = if ymx T n w a k v = wl w + 1 then some (v3, hf_sI K 49 26 (nI (a + wl w + 1))) else s_X5_word_105 k9 49 (nI (if a + ymx T n w a k v ≤ b then b else a + ymx T n w a k v)) v3 2000 v1 K := by
  have hl := w32 w hw
  have h6 := wl6 w hw
  have hn := h.2.2.1
  intro k
  induction k with
  | zero =>
    intro v fu hv hf
    obtain ⟨fu, rfl⟩ : ∃ u, fu = u + 1 := ⟨fu - 1, by omega⟩
    have e : v = wl w + 1 := by omega
    subst e
    have em : ymx T n w a 0 (wl w + 1) = wl w + 1 := rfl
    rw [s_X5_word_23, r_63 h g (by omega), show off w + (wl w + 1) = off w + wl w + 1 by omega, hl.2.1, if_pos rfl, r_63 h g (by omega), hl.2.1, if_pos rfl, qpt, em, if_pos rfl]
    rfl
  | succ k ih =>
    intro v fu hv hf
    obtain ⟨fu, rfl⟩ : ∃ u, fu = u + 1 := ⟨fu - 1, by omega⟩
    have c : ¬ hm_end.1 63 (off w + v) = 0 ∧ ¬ hm_end.1 63 (off w + v) = -1 := by
      by_cases e : v = wl w
      · rw [e, hl.1]; decide
      · obtain ⟨c1, c2, c3⟩ := w63 w hw v (by omega)
        rw [c1]; exact ⟨c3, chr_m1 w hw v (by omega)⟩
    have em : ymx T n w a (k + 1) v = if tl T n (a + v) = hm_end.1 63 (off w + v) then ymx T n w a k (v + 1) else v := rfl
    have hne : ¬ v = wl w + 1 := by omega
    have fin : (if nI (a + v) ≤ nI b then s_X5_word_105 k9 49 (nI b) v3 2000 v1 K else s_X5_word_105 k9 49 (nI (a + v)) v3 2000 v1 K) = s_X5_word_105 k9 49 (nI (if a + v ≤ b then b else a + v)) v3 2000 v1 K := by
      rw [qi_le rfl rfl (by omega) (by omega)]
      by_cases e : a + v ≤ b
      · rw [if_pos e, if_pos e]
      · rw [if_neg e, if_neg e]
    rw [s_X5_word_23, r_63 h g (by omega), if_neg c.1, v27 h g, qi_le rfl rfl (by omega) (by omega), em]
    by_cases e1 : n ≤ a + v
    · have e2 : ¬ tl T n (a + v) = hm_end.1 63 (off w + v) := fun e => absurd (tl_lt c.2 e) (by omega)
      rw [if_pos e1, r_63 h g (by omega), if_neg c.1, fin, if_neg e2, if_neg hne]
    · obtain ⟨t1, t2⟩ := r_txt h g (b := a + v) (by omega)
      rw [if_neg e1, t2, r_63 h g (by omega), t1]
      by_cases e2 : tl T n (a + v) = hm_end.1 63 (off w + v)
      · rw [if_pos e2, if_pos e2, nI_1, nI_1]
        exact ih (v + 1) fu (by omega) (by omega)
      · rw [if_neg e2, if_neg e2, r_63 h g (by omega), if_neg c.1, fin, if_neg hne]
/-- the first word that stands here with its blank, or the farthest place -/
def yBs (T : Nat → Int32) (n a : Nat) : Nat → Nat → Nat → Sum Nat Nat
  | 0, _, b => .inl b
  | k + 1, w, b => if ymx T n w a (wl w + 1) 0 = wl w + 1 then .inr w else yBs T n a k (w + 1) (if a + ymx T n w a (wl w + 1) 0 ≤ b then b else a + ymx T n w a (wl w + 1) 0)
theorem r_w9 (h : vX T n s M) (hK : rT M υ n a K) : ∀ (k w fu b : Nat), 5 = w + k → k < fu → b < 2 ^ 20 → s_X5_word_9 49 fu (nI (off w)) (nI b) (nI w) K = match yBs T n a k w b with
    | .inl e => some (-1, hf_sI K 49 29 (nI e))
    | .inr w => some (nI w, hf_sI K 49 26 (nI (a + wl w + 1))) := by
  have hn := h.2.2.1
  have ha := hK.2.2.2
  intro k
  induction k with
  | zero =>
    intro w fu b hw hf hb
    obtain ⟨fu, rfl⟩ : ∃ u, fu = u + 1 := ⟨fu - 1, by omega⟩
    have e : w = 5 := by omega
    subst e
    rw [s_X5_word_9, if_pos (show (5 : Int32) ≤ nI 5 by decide), qpt]; rfl
  | succ k ih =>
    intro w fu b hw hf hb
    obtain ⟨fu, rfl⟩ : ∃ u, fu = u + 1 := ⟨fu - 1, by omega⟩
    have e23 := r_w23 (k9 := s_X5_word_9 49 fu) (v1 := nI (off w)) (v3 := nI w) (b := b) h hK.1 (show w < 5 by omega) ha hb (wl w + 1) 0 2000 (by omega) (by have := wl6 w (by omega); omega)
    have e23' : s_X5_word_23 (s_X5_word_9 49 fu) 49 (nI (off w)) (nI b) (nI w) 2000 (nI a) (nI (off w)) K = _ := e23
    have hx := ymx_le (T := T) (n := n) (a := a) (w := w) (wl w + 1) 0
    have h6 := wl6 w (by omega)
    have eb : yBs T n a (k + 1) w b = if ymx T n w a (wl w + 1) 0 = wl w + 1 then .inr w else yBs T n a k (w + 1) (if a + ymx T n w a (wl w + 1) 0 ≤ b then b else a + ymx T n w a (wl w + 1) 0) := rfl
    rw [s_X5_word_9, if_neg (show ¬ (5 : Int32) ≤ nI w from fun e => absurd ((nI_leI (a := 5) (by decide) (by omega)).mp e) (by omega)), hK.2.2.1, e23', eb]
    by_cases g : ymx T n w a (wl w + 1) 0 = wl w + 1
    · rw [if_pos g, if_pos g]
    · rw [if_neg g, if_neg g]
      have e105 := r_w105 (k9 := s_X5_word_9 49 fu) (v2 := nI (if a + ymx T n w a (wl w + 1) 0 ≤ b then b else a + ymx T n w a (wl w + 1) 0)) (v3 := nI w) h hK.1 (show w < 5 by omega) (wl w + 1) 0 2000 (by omega) (by omega)
      have e105' : s_X5_word_105 (s_X5_word_9 49 fu) 49 _ (nI w) 2000 (nI (off w)) K = _ := e105
      rw [e105', nI_1]
      exact ih (w + 1) fu _ (by omega) (by omega) (by split <;> omega)
theorem r_word (h : vX T n s M) (hK : rT M υ n a K) : s_X5_word 49 K = match yBs T n a 5 0 a with
    | .inl e => some (-1, hf_sI K 49 29 (nI e))
    | .inr w => some (nI w, hf_sI K 49 26 (nI (a + wl w + 1))) := by
  unfold s_X5_word
  rw [hK.2.2.1]
  have hn := h.2.2.1
  have ha := hK.2.2.2
  exact r_w9 h hK 5 0 2000 a (by omega) (by omega) (by omega)
end rd
