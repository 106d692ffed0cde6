section rd
variable {T : Nat → Int32} {n : Nat} {υ : hU} {a : Nat}
theorem yIt_P {q : hU × Nat} (e : yIt T n υ a = .inr q) : yP (uT υ) ≤ yP (uT q.1) := by
  unfold yIt at e
  by_cases h1 : tl T n a = 102
  · rw [if_pos h1] at e
    obtain ⟨p, e1, e⟩ := sb_inr e
    obtain ⟨x, e2, e⟩ := sb_inr e
    cases e
    exact Nat.le_refl _
  rw [if_neg h1] at e
  by_cases h2 : tl T n a = 107
  · rw [if_pos h2] at e
    obtain ⟨p, e1, e⟩ := sb_inr e
    obtain ⟨x, e2, e⟩ := sb_inr e
    obtain ⟨r, e3, e⟩ := sb_inr e
    obtain ⟨t, e4, e⟩ := sb_inr e
    by_cases g : yWd (uT υ) yA1 99 &&& yTr x.1 (decide (t.1 = 1)) = 0
    · rw [if_pos g] at e; cases e
    · rw [if_neg g] at e
      cases e
      exact Nat.le_refl _
  rw [if_neg h2] at e
  by_cases h3 : tl T n a = 108
  · rw [if_pos h3] at e
    obtain ⟨p, e1, e⟩ := sb_inr e
    obtain ⟨x, e2, e⟩ := sb_inr e
    obtain ⟨r, e3, e⟩ := sb_inr e
    obtain ⟨t, e4, e⟩ := sb_inr e
    cases e
    exact Nat.le_refl _
  rw [if_neg h3] at e
  by_cases h4 : tl T n a = 109
  · rw [if_pos h4] at e
    obtain ⟨p, e1, e⟩ := sb_inr e
    obtain ⟨x, e2, e⟩ := sb_inr e
    obtain ⟨r, e3, e⟩ := sb_inr e
    obtain ⟨t, e4, e⟩ := sb_inr e
    cases e
    exact Nat.le_succ _
  rw [if_neg h4] at e
  by_cases h5 : tl T n a = 115
  · rw [if_pos h5] at e
    obtain ⟨p, e1, e⟩ := sb_inr e
    obtain ⟨x, e2, e⟩ := sb_inr e
    by_cases g0 : yFu (uT υ) x.1 = true
    · rw [if_pos g0] at e; cases e
    rw [if_neg g0] at e
    obtain ⟨r, e3, e⟩ := sb_inr e
    obtain ⟨t, e4, e⟩ := sb_inr e
    obtain ⟨u, e5, e⟩ := sb_inr e
    obtain ⟨v, e6, e⟩ := sb_inr e
    by_cases g : yWa (uT υ) x.1 t.1 (decide (v.1 = 1)) = 0
    · rw [if_pos g] at e; cases e
    · rw [if_neg g] at e
      cases e
      exact Nat.le_refl _
  rw [if_neg h5] at e
  cases e
theorem yLp_P : ∀ (k : Nat) (υ : hU) (p c : Nat) (q : hU × Nat), yLp T n k υ p c = .inr q → yP (uT υ) ≤ yP (uT q.1) := by
  intro k
  induction k with
  | zero => intro υ p c q h; cases h; exact Nat.le_refl _
  | succ k ih =>
    intro υ p c q h
    have e0 : yLp T n (k + 1) υ p c = if n ≤ p then .inr (υ, c) else if tl T n p = 59 then sb (yIt T n υ (p + 1)) fun q => yLp T n k q.1 q.2 (c + 1) else .inl p := rfl
    rw [e0] at h
    by_cases g1 : n ≤ p
    · rw [if_pos g1] at h; cases h; exact Nat.le_refl _
    rw [if_neg g1] at h
    by_cases g2 : tl T n p = 59
    · rw [if_pos g2] at h
      obtain ⟨x, e1, h⟩ := sb_inr h
      exact Nat.le_trans (yIt_P e1) (ih x.1 x.2 (c + 1) q h)
    · rw [if_neg g2] at h; cases h
theorem yRd_P {q : hU × Nat} (h : yRd T n υ = .inr q) : yP (uT υ) ≤ yP (uT q.1) := by
  obtain ⟨x, e1, h⟩ := sb_inr h
  exact Nat.le_trans (yIt_P e1) (yLp_P 170 x.1 x.2 1 q h)
end rd
