section rd
variable {T : Nat → Int32} {n : Nat} {υ : hU} {a e : Nat}
theorem yIt_e (ha : a ≤ n) (h : yIt T n υ a = .inl e) : e ≤ n := by
  have num : ∀ {p e' : Nat} {lo hi : Int32}, p ≤ n → yNm T n lo hi p = .inl e' → e' ≤ n := fun hp hh => by
    rw [yNm_e hh]; exact hp
  have sg : ∀ {p e' : Nat}, p ≤ n → ySg T n p = .inl e' → e' ≤ n := fun hp hh => by
    rw [ySg_e hh]; exact hp
  unfold yIt at h
  by_cases h1 : tl T n a = 102
  · rw [if_pos h1] at h
    rcases sb_inl h with h | ⟨p, e1, h⟩
    · exact yW_e (by decide) ha h
    have b0 := (yW_lt e1).2 ha
    rcases sb_inl h with h | ⟨q, e2, h⟩
    · exact num b0 h
    cases h
  rw [if_neg h1] at h
  by_cases h2 : tl T n a = 107
  · rw [if_pos h2] at h
    rcases sb_inl h with h | ⟨p, e1, h⟩
    · exact yW_e (by decide) ha h
    have b0 := (yW_lt e1).2 ha
    rcases sb_inl h with h | ⟨q, e2, h⟩
    · exact num b0 h
    have b1 := (yNm_b b0 e2).2.2.1
    rcases sb_inl h with h | ⟨r, e3, h⟩
    · exact sg b1 h
    have b2 := (ySg_lt e3).2
    rcases sb_inl h with h | ⟨t, e4, h⟩
    · exact num b2 h
    by_cases g : yWd (uT υ) yA1 99 &&& yTr q.1 (decide (t.1 = 1)) = 0
    · rw [if_pos g] at h; cases h; exact b2
    · rw [if_neg g] at h; cases h
  rw [if_neg h2] at h
  by_cases h3 : tl T n a = 108
  · rw [if_pos h3] at h
    rcases sb_inl h with h | ⟨p, e1, h⟩
    · exact yW_e (by decide) ha h
    have b0 := (yW_lt e1).2 ha
    rcases sb_inl h with h | ⟨q, e2, h⟩
    · exact num b0 h
    have b1 := (yNm_b b0 e2).2.2.1
    rcases sb_inl h with h | ⟨r, e3, h⟩
    · exact sg b1 h
    have b2 := (ySg_lt e3).2
    rcases sb_inl h with h | ⟨t, e4, h⟩
    · exact num b2 h
    cases h
  rw [if_neg h3] at h
  by_cases h4 : tl T n a = 109
  · rw [if_pos h4] at h
    rcases sb_inl h with h | ⟨p, e1, h⟩
    · exact yW_e (by decide) ha h
    have b0 := (yW_lt e1).2 ha
    rcases sb_inl h with h | ⟨q, e2, h⟩
    · exact num b0 h
    have b1 := (yNm_b b0 e2).2.2.1
    rcases sb_inl h with h | ⟨r, e3, h⟩
    · exact sg b1 h
    have b2 := (ySg_lt e3).2
    rcases sb_inl h with h | ⟨t, e4, h⟩
    · exact num b2 h
    cases h
  rw [if_neg h4] at h
  by_cases h5 : tl T n a = 115
  · rw [if_pos h5] at h
    rcases sb_inl h with h | ⟨p, e1, h⟩
    · exact yW_e (by decide) ha h
    have b0 := (yW_lt e1).2 ha
    rcases sb_inl h with h | ⟨q, e2, h⟩
    · exact num b0 h
    have b1 := (yNm_b b0 e2).2.2.1
    by_cases g0 : yFu (uT υ) q.1 = true
    · rw [if_pos g0] at h; cases h; exact b0
    rw [if_neg g0] at h
    rcases sb_inl h with h | ⟨r, e3, h⟩
    · exact sg b1 h
    have b2 := (ySg_lt e3).2
    rcases sb_inl h with h | ⟨t, e4, h⟩
    · exact num b2 h
    have b3 := (yNm_b b2 e4).2.2.1
    rcases sb_inl h with h | ⟨u, e5, h⟩
    · exact sg b3 h
    have b4 := (ySg_lt e5).2
    rcases sb_inl h with h | ⟨x, e6, h⟩
    · exact num b4 h
    by_cases g : yWa (uT υ) q.1 t.1 (decide (x.1 = 1)) = 0
    · rw [if_pos g] at h; cases h; exact b4
    · rw [if_neg g] at h; cases h
  rw [if_neg h5] at h
  cases h; exact ha
theorem yLp_e : ∀ (k : Nat) (υ : hU) (p c : Nat), p ≤ n → yLp T n k υ p c = .inl e → e ≤ n := by
  intro k
  induction k with
  | zero => intro υ p c hp h; cases h
  | succ k ih =>
    intro υ p c hp h
    have e0 : yLp T n (k + 1) υ p c = if n ≤ p then .inr (υ, c) else if tl T n p = 59 then sb (yIt T n υ (p + 1)) fun q => yLp T n k q.1 q.2 (c + 1) else .inl p := rfl
    rw [e0] at h
    by_cases g1 : n ≤ p
    · rw [if_pos g1] at h; cases h
    rw [if_neg g1] at h
    by_cases g2 : tl T n p = 59
    · rw [if_pos g2] at h
      rcases sb_inl h with h | ⟨q, e1, h⟩
      · exact yIt_e (by omega) h
      · exact ih q.1 q.2 (c + 1) (yIt_lt (by omega) e1).2 h
    · rw [if_neg g2] at h; cases h; exact hp
theorem yRd_e (h : yRd T n υ = .inl e) : e ≤ n := by
  rcases sb_inl h with h | ⟨q, e1, h⟩
  · exact yIt_e (Nat.zero_le _) h
  · exact yLp_e 170 q.1 q.2 1 (yIt_lt (Nat.zero_le _) e1).2 h
end rd
