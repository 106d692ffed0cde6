/-! reading a town: the text, as it stands; the class's letters, words, numbers -/
def tl (T : Nat → Int32) (n i : Nat) : Int32 := if i < n then T i else -1
def Gt (k j : Nat) : Prop := ((19 ≤ k ∧ k ≤ 27) ∧ 0 ≤ j) ∨ k = 29
def tX (T : Nat → Int32) (n s : Nat) (M : hf_M) : Prop := yRf M ∧ s < 8 ∧ n ≤ 160 ∧ M.2.2 29 0 = some (33 + 2 * s) ∧ M.2.2 29 1 = some 19 ∧ M.1 (33 + 2 * s) 2 = nI n ∧ ∀ i, i < n → (M.2.1 (34 + 2 * s) i).toInt32 = T i
def cT (M : hf_M) (υ : hU) (n c a : Nat) (K : hf_M) : Prop := gG Gt M K ∧ cU 19 υ K ∧ K.1 29 2 = nI a ∧ K.1 29 4 = nI c ∧ a ≤ n
/-- it went wrong at e -/
def cE (M : hf_M) (c e : Nat) (r : Option (Int32 × hf_M)) : Prop := ∃ K, r = some (0, K) ∧ gG Gt M K ∧ K.1 29 3 = nI e ∧ K.1 29 4 = nI c
section rd
variable {T : Nat → Int32} {n s : Nat} {M K : hf_M} {υ : hU} {c a : Nat}
theorem Gt_I {j : Nat} {v : Int32} (g : gG Gt M K) : gG Gt M (hf_sI K 29 j v) := gG_tr g (gG_I (Or.inr rfl))
theorem cU_29 {j : Nat} {v : Int32} (h : cU 19 υ K) : cU 19 υ (hf_sI K 29 j v) := cU_ag (fun k i hk => ⟨by unfold Zc at hk; rw [gI (by omega)], rfl⟩) h
theorem tR0 (h : tX T n s M) (g : gG Gt M K) : yRf K := gG_rf g h.1
theorem tR1 (h : tX T n s M) (g : gG Gt M K) : K.2.2 29 1 = some 19 := by rw [g.1]; exact h.2.2.2.2.1
theorem c_letter (h : tX T n s M) (g : gG Gt M K) (h2 : K.1 29 2 = nI a) (ha : a ≤ n) : s_X1_letter 29 K = some (tl T n a, K) := by
  have hR := tR0 h g
  obtain ⟨h1, hs, hn, r0, r1, hsz, ht⟩ := h
  have r : K.2.2 29 0 = some (33 + 2 * s) := by rw [g.1]; exact r0
  unfold s_X1_letter
  rw [r, qrs, qrs, (g.2 (33 + 2 * s) 2 (by unfold Gt; omega)).1, hsz, h2, qi_le rfl rfl (by omega) (by omega)]
  unfold tl
  by_cases e : a < n
  · rw [if_neg (by omega), if_pos e]
    unfold s_X2_asInt
    rw [sh_r0 hR hs, qrs, qlL K (by rw [sh_len hs]; omega), (g.2 (34 + 2 * s) a (by unfold Gt; omega)).2, ht a e, qb1]
  · rw [if_pos (by omega), if_neg e]
theorem c_wrong (x : Int32) : s_X1_wrong 29 x K = some (0, hf_sI K 29 3 x) := rfl
theorem bz0 {β : Type} (k : Option β) : hf_bz 0 k = k := if_pos (Or.inl rfl)
theorem bz1 {β : Type} (k : Option β) : hf_bz 1 k = k := if_pos (Or.inr rfl)
theorem c_sign (h : tX T n s M) (g : gG Gt M K) (h2 : K.1 29 2 = nI a) (ha : a ≤ n) (x : Int32) : s_X1_isSign 29 x K = if tl T n a = x then some (1, hf_sI K 29 2 (nI (a + 1))) else some (0, hf_sI K 29 3 (nI a)) := by
  unfold s_X1_isSign
  rw [c_letter h g h2 ha, qb1]
  by_cases e : tl T n a = x
  · rw [if_pos e, if_pos e, h2, nI_1, qpt]
  · rw [if_neg e, if_neg e, c_wrong, qb1, bz0, h2]
theorem tl_lt {x : Int32} (hx : ¬ x = -1) (e : tl T n a = x) : a < n := by
  unfold tl at e
  by_cases h : a < n
  · exact h
  · rw [if_neg h] at e
    exact absurd e.symm hx
/-- a blank, or whatever sign: on, or wrong here -/
theorem c_sign_ok (h : tX T n s M) (k : cT M υ n c a K) {x : Int32} (hx : ¬ x = -1) (e : tl T n a = x) : ∃ L, s_X1_isSign 29 x K = some (1, L) ∧ cT M υ n c (a + 1) L ∧ (∀ j, j ≠ 2 → L.1 29 j = K.1 29 j) := by
  obtain ⟨g, hU', h2, h4, ha⟩ := k
  refine ⟨hf_sI K 29 2 (nI (a + 1)), ?_, ⟨Gt_I g, cU_29 hU', gI0, by rw [gI (by omega)]; exact h4, tl_lt hx e⟩, fun j hj => gI (by omega)⟩
  rw [c_sign h g h2 ha, if_pos e]
theorem c_sign_no (h : tX T n s M) (k : cT M υ n c a K) {x : Int32} (e : ¬ tl T n a = x) : cE M c a (s_X1_isSign 29 x K) := by
  obtain ⟨g, hU', h2, h4, ha⟩ := k
  exact ⟨hf_sI K 29 3 (nI a), by rw [c_sign h g h2 ha, if_neg e], Gt_I g, gI0, by rw [gI (by omega)]; exact h4⟩
def ymm (T : Nat → Int32) (n w pos : Nat) : Nat → Nat → Nat
  | 0, v => v
  | k + 1, v => if tl T n (pos + v) = hf_chr w v then ymm T n w pos k (v + 1) else v
def wl (w : Nat) : Nat := hf_wl.getD w 0
theorem chr_m1 : ∀ w, w < 5 → ∀ j, j < wl w → ¬ hf_chr w j = -1 := by decide +kernel
theorem wl6 : ∀ w, w < 5 → wl w < 6 := hf_wl_6
theorem c_word_loop (h : tX T n s M) {w pos : Nat} (hw : w < 5) (room : Bool) : ∀ (k v fu : Nat) (K : hf_M), wl w = v + k → k < fu → cT M υ n c (pos + v) K → (ymm T n w pos k v = wl w → room = true → tl T n (pos + wl w) = 32 → ∃ L, s_X1_isWord_8 29 w (qbI room) (nI pos) fu (nI v) K = some (1, L) ∧ cT M υ n c (pos + wl w + 1) L) ∧ (ymm T n w pos k v = wl w → room = true → ¬ tl T n (pos + wl w) = 32 → cE M c (pos + wl w) (s_X1_isWord_8 29 w (qbI room) (nI pos) fu (nI v) K)) ∧ (ymm T n w pos k v = wl w → room = false → cE M c pos (s_X1_isWord_8 29 w (qbI room) (nI pos) fu (nI v) K)) ∧ (¬ ymm T n w pos k v = wl w → cE M c (pos + ymm T n w pos k v) (s_X1_isWord_8 29 w (qbI room) (nI pos) fu (nI v) K)) := by
  intro k
  have h6 := wl6 w hw
  induction k with
  | zero =>
    intro v fu K hv hf hK
    obtain ⟨fu, rfl⟩ : ∃ u, fu = u + 1 := ⟨fu - 1, by omega⟩
    have hv' : wl w = v := by omega
    have em : ymm T n w pos 0 v = wl w := hv'.symm
    have e0 : s_X1_isWord_8 29 w (qbI room) (nI pos) (fu + 1) (nI v) K = if qbI room = 0 then hf_bd (s_X1_wrong 29 (nI pos) K) (fun r1 M2 => hf_bz r1 (some (r1, M2))) else hf_bd (s_X1_isSign 29 32 K) (fun r3 M4 => hf_bz r3 (some (r3, M4))) := by
      rw [s_X1_isWord_8, show hf_wlen w = nI (wl w) from rfl, qi_le rfl rfl (by omega) (by omega), if_pos (by omega)]
    rw [e0, em, hv']
    refine ⟨fun _ hr e => ?_, fun _ hr e => ?_, fun _ hr => ?_, fun e => absurd rfl e⟩
    · subst hr
      obtain ⟨L, l1, l2, -⟩ := c_sign_ok h hK (x := 32) (by decide) e
      exact ⟨L, by rw [if_neg (show ¬ qbI true = 0 by decide), l1, qb1, bz1], l2⟩
    · subst hr
      obtain ⟨L, l1, l2, l3, l4⟩ := c_sign_no h hK (x := 32) e
      exact ⟨L, by rw [if_neg (show ¬ qbI true = 0 by decide), l1, qb1, bz0], l2, l3, l4⟩
    · subst hr
      obtain ⟨g, hU', h2, h4, ha⟩ := hK
      exact ⟨hf_sI K 29 3 (nI pos), by rw [if_pos (show qbI false = 0 from rfl), c_wrong, qb1, bz0], Gt_I g, gI0, by rw [gI (by omega)]; exact h4⟩
  | succ k ih =>
    intro v fu K hv hf hK
    obtain ⟨fu, rfl⟩ : ∃ u, fu = u + 1 := ⟨fu - 1, by omega⟩
    have hc := chr_m1 w hw v (by omega)
    have e0 : s_X1_isWord_8 29 w (qbI room) (nI pos) (fu + 1) (nI v) K = hf_bd (s_X1_isSign 29 (hf_chr w v) K) (fun r6 M7 => if r6 = 0 then some (0, M7) else s_X1_isWord_8 29 w (qbI room) (nI pos) fu (nI (v + 1)) M7) := by
      have hl : v < hf_wl.getD w 0 := by
        have : wl w = hf_wl.getD w 0 := rfl
        omega
      rw [s_X1_isWord_8, show hf_wlen w = nI (wl w) from rfl, qi_le rfl rfl (by omega) (by omega), if_neg (by omega), nI_1]
      unfold hf_ldCh
      rw [qix hl (by have : wl w = hf_wl.getD w 0 := rfl
                     omega)]
    rw [e0]
    have em : ymm T n w pos (k + 1) v = if tl T n (pos + v) = hf_chr w v then ymm T n w pos k (v + 1) else v := rfl
    by_cases e : tl T n (pos + v) = hf_chr w v
    · obtain ⟨L, l1, l2, -⟩ := c_sign_ok h hK hc e
      rw [em, if_pos e, l1, qb1, if_neg q10]
      exact ih (v + 1) fu L (by omega) (by omega) l2
    · obtain ⟨L, l1, l2, l3, l4⟩ := c_sign_no h hK e
      rw [em, if_neg e, l1, qb1, if_pos rfl]
      have hne : ¬ v = wl w := by omega
      exact ⟨fun q => absurd q hne, fun q => absurd q hne, fun q => absurd q hne, fun _ => ⟨L, rfl, l2, l3, l4⟩⟩
/-- a word with its blank -/
def yW (T : Nat → Int32) (n w : Nat) (room : Bool) (pos : Nat) : Sum Nat Nat := if ymm T n w pos (wl w) 0 = wl w then if room = true then if tl T n (pos + wl w) = 32 then .inr (pos + wl w + 1) else .inl (pos + wl w) else .inl pos else .inl (pos + ymm T n w pos (wl w) 0)
theorem c_word (h : tX T n s M) (hK : cT M υ n c a K) {w : Nat} (hw : w < 5) (room : Bool) : match yW T n w room a with
    | .inl e => cE M c e (s_X1_isWord 29 w (qbI room) K)
    | .inr p => ∃ L, s_X1_isWord 29 w (qbI room) K = some (1, L) ∧ cT M υ n c p L := by
  have h6 := wl6 w hw
  have e : s_X1_isWord 29 w (qbI room) K = s_X1_isWord_8 29 w (qbI room) (nI a) 2000 (nI 0) K := by
    unfold s_X1_isWord
    rw [hK.2.2.1]; rfl
  obtain ⟨w1, w2, w3, w4⟩ := c_word_loop (pos := a) h hw room (wl w) 0 2000 K (by omega) (by omega) hK
  rw [e]
  unfold yW
  by_cases m : ymm T n w a (wl w) 0 = wl w
  · rw [if_pos m]
    cases room
    · rw [if_neg (by decide)]
      exact w3 m rfl
    · rw [if_pos rfl]
      by_cases t : tl T n (a + wl w) = 32
      · rw [if_pos t]
        exact w1 m rfl t
      · rw [if_neg t]
        exact w2 m rfl t
  · rw [if_neg m]
    exact w4 m
end rd
