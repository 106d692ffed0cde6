def yRm (υ : hU) (w : Nat) : Bool := if w = 0 then decide (yF (uT υ) < 6) else if w = 1 then decide (yP (uT υ) < 6) else if w = 2 then decide (yS (uT υ) < 1) else if w = 3 then decide (yS (uT υ) < 24) else true
section rd
variable {T : Nat → Int32} {n s : Nat} {M K : hf_M} {υ : hU} {c a : Nat}
theorem r_wfull (hu : uWF υ) (hK : rT M υ n a K) {w : Nat} (hw : w < 5) : s_X5_isWordFull 49 (nI w) K = some (qbI (!yRm υ w), K) := by
  have hF := hu.1.1.1
  have hP := hu.1.1.2.1
  have hS := hu.2.1
  obtain ⟨g, ⟨⟨⟨r0, r1, r2, r3, r4, r9⟩, hk, hs⟩, hh⟩, h2, ha⟩ := hK
  have h5 : w = 0 ∨ w = 1 ∨ w = 2 ∨ w = 3 ∨ w = 4 := by omega
  unfold s_X5_isWordFull yRm
  rcases h5 with rfl | rfl | rfl | rfl | rfl
  · rw [if_pos (show nI 0 = (0 : Int32) from rfl), r0, qi_eq (x := nI (yF (uT υ))) (y := 6) (c := 6) rfl rfl (by omega) (by omega), if_pos (rfl : 0 = 0)]
    by_cases e : yF (uT υ) = 6
    · rw [if_pos e, decide_eq_false (by omega)]; rfl
    · rw [if_neg e, if_neg (show ¬ nI 0 = (1 : Int32) by decide), if_neg (show ¬ nI 0 = (2 : Int32) by decide), if_neg (show ¬ nI 0 = (3 : Int32) by decide), decide_eq_true (by omega)]; rfl
  · rw [if_neg (show ¬ nI 1 = (0 : Int32) by decide), if_pos (show nI 1 = (1 : Int32) from rfl), r1, qi_eq (x := nI (yP (uT υ))) (y := 6) (c := 6) rfl rfl (by omega) (by omega), if_neg (show ¬ 1 = 0 by decide), if_pos (rfl : 1 = 1)]
    by_cases e : yP (uT υ) = 6
    · rw [if_pos e, decide_eq_false (by omega)]; rfl
    · rw [if_neg e, if_neg (show ¬ nI 1 = (2 : Int32) by decide), if_neg (show ¬ nI 1 = (3 : Int32) by decide), decide_eq_true (by omega)]; rfl
  · rw [if_neg (show ¬ nI 2 = (0 : Int32) by decide), if_neg (show ¬ nI 2 = (1 : Int32) by decide), if_pos (show nI 2 = (2 : Int32) from rfl), r2, if_neg (show ¬ 2 = 0 by decide), if_neg (show ¬ 2 = 1 by decide), if_pos (rfl : 2 = 2)]
    by_cases e : yS (uT υ) < 1
    · rw [if_neg (show ¬ (0 : Int32) < nI (yS (uT υ)) from fun q => absurd ((nI_ltI (a := 0) (by decide) (by omega)).mp q) (by omega)), if_neg (show ¬ nI 2 = (3 : Int32) by decide), decide_eq_true e]; rfl
    · rw [if_pos (show (0 : Int32) < nI (yS (uT υ)) from nI_lt (a := 0) (by omega) (by omega)), decide_eq_false e]; rfl
  · rw [if_neg (show ¬ nI 3 = (0 : Int32) by decide), if_neg (show ¬ nI 3 = (1 : Int32) by decide), if_neg (show ¬ nI 3 = (2 : Int32) by decide), if_pos (show nI 3 = (3 : Int32) from rfl), r2, qi_eq (x := nI (yS (uT υ))) (y := 24) (c := 24) rfl rfl (by omega) (by omega), if_neg (show ¬ 3 = 0 by decide), if_neg (show ¬ 3 = 1 by decide), if_neg (show ¬ 3 = 2 by decide), if_pos (rfl : 3 = 3)]
    by_cases e : yS (uT υ) = 24
    · rw [if_pos e, decide_eq_false (by omega)]; rfl
    · rw [if_neg e, decide_eq_true (by omega)]; rfl
  · rw [if_neg (show ¬ nI 4 = (0 : Int32) by decide), if_neg (show ¬ nI 4 = (1 : Int32) by decide), if_neg (show ¬ nI 4 = (2 : Int32) by decide), if_neg (show ¬ nI 4 = (3 : Int32) by decide)]; rfl
def itl (K : hf_M) : Option (Int32 × hf_M) := hf_bd (s_X5_word 49 K) (fun r1 M2 => if r1 = (-1) then some (0, M2) else if r1 = 0 then if (M2.1 49 0) = 6 then hf_bd (s_X5_wrong 49 (K.1 49 26) M2) (fun r3 M4 => hf_bz r3 (some (r3, M4))) else s_X5_item_73 49 (K.1 49 26) r1 (M2.1 49 26) M2 else s_X5_item_73 49 (K.1 49 26) r1 (M2.1 49 26) M2)
theorem r_i2 (h : vX T n s M) (hu : uWF υ) (hK : rT M υ n a K) : ∀ (k j fu : Nat), 5 = j + k → k < fu → ((∀ i, j ≤ i → i < 5 → ymm T n i a (wl i) 0 = wl i → yRm υ i = true) → s_X5_item_2 49 fu (nI j) K = itl K) ∧ ((∃ i, j ≤ i ∧ i < 5 ∧ ymm T n i a (wl i) 0 = wl i ∧ yRm υ i = false) → vE M a (s_X5_item_2 49 fu (nI j) K)) := by
  intro k
  induction k with
  | zero =>
    intro j fu hj hf
    obtain ⟨fu, rfl⟩ : ∃ u, fu = u + 1 := ⟨fu - 1, by omega⟩
    refine ⟨fun _ => ?_, fun ⟨i, h1, h2, _⟩ => absurd h1 (by omega)⟩
    rw [s_X5_item_2, qi_le (show (5 : Int32) = nI 5 from rfl) rfl (by omega) (by omega), if_pos (show 5 ≤ j by omega)]
    rfl
  | succ k ih =>
    intro j fu hj hf
    obtain ⟨fu, rfl⟩ : ∃ u, fu = u + 1 := ⟨fu - 1, by omega⟩
    obtain ⟨i1, i2⟩ := ih (j + 1) fu (by omega) (by omega)
    rw [s_X5_item_2, qi_le (show (5 : Int32) = nI 5 from rfl) rfl (by omega) (by omega), if_neg (show ¬ 5 ≤ j by omega), r_wat h hK (w := j) (by omega), qb1]
    by_cases m : ymm T n j a (wl j) 0 = wl j
    · rw [decide_eq_true m, qb_ifT, r_wfull hu hK (by omega), qb1]
      cases r : yRm υ j
      · rw [Bool.not_false, qb_ifT, hK.2.2.1]
        exact ⟨fun q => absurd (q j (Nat.le_refl _) (by omega) m) (by rw [r]; decide), fun _ => vE_bz hK.1⟩
      · rw [Bool.not_true, qb_ifF, nI_1]
        refine ⟨fun q => i1 (fun i a1 a2 => q i (by omega) a2), fun ⟨i, a1, a2, a3, a4⟩ => i2 ⟨i, ?_, a2, a3, a4⟩⟩
        rcases Nat.lt_or_ge j i with g | g
        · exact g
        · have : i = j := by omega
          rw [this, r] at a4
          cases a4
    · rw [decide_eq_false m, qb_ifF, nI_1]
      refine ⟨fun q => i1 (fun i a1 a2 => q i (by omega) a2), fun ⟨i, a1, a2, a3, a4⟩ => i2 ⟨i, ?_, a2, a3, a4⟩⟩
      rcases Nat.lt_or_ge j i with g | g
      · exact g
      · have : i = j := by omega
        rw [this] at a3
        exact absurd a3 m
theorem ymm_0 {w : Nat} (hw : w < 5) (e : ¬ tl T n a = hf_chr w 0) : ymm T n w a (wl w) 0 = 0 ∧ ymx T n w a (wl w + 1) 0 = 0 := by
  have hw0 : ∀ w, w < 5 → 0 < wl w := by decide +kernel
  have h0 := hw0 w hw
  obtain ⟨k, hk⟩ : ∃ k, wl w = k + 1 := ⟨wl w - 1, by omega⟩
  refine ⟨?_, ?_⟩
  · rw [hk]
    show (if tl T n a = hf_chr w 0 then _ else 0) = 0
    rw [if_neg e]
  · show (if tl T n a = hm_end.1 63 (off w + 0) then _ else 0) = 0
    rw [(w63 w hw 0 h0).1, if_neg e]
theorem yBs_s {i : Nat} (e : ymx T n i a (wl i + 1) 0 = 0) (k : Nat) {b : Nat} (hb : a ≤ b) : yBs T n a (k + 1) i b = yBs T n a k (i + 1) b := by
  show (if ymx T n i a (wl i + 1) 0 = wl i + 1 then _ else yBs T n a k (i + 1) (if a + ymx T n i a (wl i + 1) 0 ≤ b then b else a + ymx T n i a (wl i + 1) 0)) = _
  rw [e, if_neg (show ¬ 0 = wl i + 1 by omega), if_pos (show a + 0 ≤ b by omega)]
theorem yBs_h (w k : Nat) : yBs T n a (k + 1) w a = if ymx T n w a (wl w + 1) 0 = wl w + 1 then .inr w else yBs T n a k (w + 1) (a + ymx T n w a (wl w + 1) 0) := by
  show (if ymx T n w a (wl w + 1) 0 = wl w + 1 then _ else yBs T n a k (w + 1) (if a + ymx T n w a (wl w + 1) 0 ≤ a then a else a + ymx T n w a (wl w + 1) 0)) = _
  by_cases e : a + ymx T n w a (wl w + 1) 0 ≤ a
  · rw [if_pos e, show a + ymx T n w a (wl w + 1) 0 = a by omega]
  · rw [if_neg e]
theorem yBs_w {w : Nat} (hw : w < 5) (e : ∀ i, i < 5 → i ≠ w → ymx T n i a (wl i + 1) 0 = 0) : yBs T n a 5 0 a = if ymx T n w a (wl w + 1) 0 = wl w + 1 then .inr w else .inl (a + ymx T n w a (wl w + 1) 0) := by
  have h5 : w = 0 ∨ w = 1 ∨ w = 2 ∨ w = 3 ∨ w = 4 := by omega
  have l : ∀ x, a ≤ a + x := fun x => Nat.le_add_right _ _
  rcases h5 with rfl | rfl | rfl | rfl | rfl
  · rw [yBs_h, yBs_s (e 1 (by omega) (by omega)) 3 (l _), yBs_s (e 2 (by omega) (by omega)) 2 (l _), yBs_s (e 3 (by omega) (by omega)) 1 (l _), yBs_s (e 4 (by omega) (by omega)) 0 (l _)]; rfl
  · rw [yBs_s (e 0 (by omega) (by omega)) 4 (Nat.le_refl _), yBs_h, yBs_s (e 2 (by omega) (by omega)) 2 (l _), yBs_s (e 3 (by omega) (by omega)) 1 (l _), yBs_s (e 4 (by omega) (by omega)) 0 (l _)]; rfl
  · rw [yBs_s (e 0 (by omega) (by omega)) 4 (Nat.le_refl _), yBs_s (e 1 (by omega) (by omega)) 3 (Nat.le_refl _), yBs_h, yBs_s (e 3 (by omega) (by omega)) 1 (l _), yBs_s (e 4 (by omega) (by omega)) 0 (l _)]; rfl
  · rw [yBs_s (e 0 (by omega) (by omega)) 4 (Nat.le_refl _), yBs_s (e 1 (by omega) (by omega)) 3 (Nat.le_refl _), yBs_s (e 2 (by omega) (by omega)) 2 (Nat.le_refl _), yBs_h, yBs_s (e 4 (by omega) (by omega)) 0 (l _)]; rfl
  · rw [yBs_s (e 0 (by omega) (by omega)) 4 (Nat.le_refl _), yBs_s (e 1 (by omega) (by omega)) 3 (Nat.le_refl _), yBs_s (e 2 (by omega) (by omega)) 2 (Nat.le_refl _), yBs_s (e 3 (by omega) (by omega)) 1 (Nat.le_refl _), yBs_h]; rfl
theorem yBs_n (e : ∀ i, i < 5 → ymx T n i a (wl i + 1) 0 = 0) : yBs T n a 5 0 a = .inl a := by
  rw [yBs_s (e 0 (by omega)) 4 (Nat.le_refl _), yBs_s (e 1 (by omega)) 3 (Nat.le_refl _), yBs_s (e 2 (by omega)) 2 (Nat.le_refl _), yBs_s (e 3 (by omega)) 1 (Nat.le_refl _), yBs_s (e 4 (by omega)) 0 (Nat.le_refl _)]; rfl
theorem r_73 (hu : uWF υ) (hK : rT M υ n a K) {w : Nat} (hw : w < 5) (hr : yRm υ w = true) (v1 v3 : Int32) : s_X5_item_73 49 v1 (nI w) v3 K = s_X5_item_119 49 (nI w) v3 K := by
  have hP := hu.1.1.2.1
  have hS := hu.2.1
  have r1 := hK.2.1.1.1.2.1
  have r2 := hK.2.1.1.1.2.2.1
  have h5 : w = 0 ∨ w = 1 ∨ w = 2 ∨ w = 3 ∨ w = 4 := by omega
  unfold s_X5_item_73 s_X5_item_87 s_X5_item_99
  rcases h5 with rfl | rfl | rfl | rfl | rfl
  · rw [if_neg (show ¬ nI 0 = (1 : Int32) by decide), if_neg (show ¬ nI 0 = (2 : Int32) by decide), if_neg (show ¬ nI 0 = (3 : Int32) by decide)]
  · have hr' : yP (uT υ) < 6 := of_decide_eq_true hr
    rw [if_pos (show nI 1 = (1 : Int32) from rfl), r1, if_neg (show ¬ nI (yP (uT υ)) = 6 from fun e => absurd ((nI_eq (b := 6) (by omega) (by decide)).mp e) (by omega)), if_neg (show ¬ nI 1 = (2 : Int32) by decide), if_neg (show ¬ nI 1 = (3 : Int32) by decide)]
  · have hr' : yS (uT υ) < 1 := of_decide_eq_true hr
    rw [if_neg (show ¬ nI 2 = (1 : Int32) by decide), if_pos (show nI 2 = (2 : Int32) from rfl), r2, if_neg (show ¬ (0 : Int32) < nI (yS (uT υ)) from fun q => absurd ((nI_ltI (a := 0) (by decide) (by omega)).mp q) (by omega)), if_neg (show ¬ nI 2 = (3 : Int32) by decide)]
  · have hr' : yS (uT υ) < 24 := of_decide_eq_true hr
    rw [if_neg (show ¬ nI 3 = (1 : Int32) by decide), if_neg (show ¬ nI 3 = (2 : Int32) by decide), if_pos (show nI 3 = (3 : Int32) from rfl), r2, if_neg (show ¬ nI (yS (uT υ)) = 24 from fun e => absurd ((nI_eq (b := 24) (by omega) (by decide)).mp e) (by omega))]
  · rw [if_neg (show ¬ nI 4 = (1 : Int32) by decide), if_neg (show ¬ nI 4 = (2 : Int32) by decide), if_neg (show ¬ nI 4 = (3 : Int32) by decide)]
end rd
