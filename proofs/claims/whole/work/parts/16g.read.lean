/-! where it went wrong lies in the text -/
section rd
variable {T : Nat → Int32} {n : Nat} {υ : hU} {a e : Nat}
theorem sb_inl {α β : Type} {o : Sum Nat α} {f : α → Sum Nat β} (h : sb o f = .inl e) : o = .inl e ∨ ∃ x, o = .inr x ∧ f x = .inl e := by
  cases o with
  | inl x => cases h; exact Or.inl rfl
  | inr x => exact Or.inr ⟨x, rfl, h⟩
theorem ymm_n {w : Nat} (hw : w < 5) : ∀ (k v : Nat), wl w = v + k → a + v ≤ n → a + ymm T n w a k v ≤ n := by
  intro k
  induction k with
  | zero => intro v _ h; exact h
  | succ k ih =>
    intro v hv h
    have e : ymm T n w a (k + 1) v = if tl T n (a + v) = hf_chr w v then ymm T n w a k (v + 1) else v := rfl
    rw [e]
    by_cases g : tl T n (a + v) = hf_chr w v
    · rw [if_pos g]
      exact ih (v + 1) (by omega) (by have := tl_lt (chr_m1 w hw v (by omega)) g
                                      omega)
    · rw [if_neg g]; exact h
theorem yW_e {w : Nat} {r : Bool} (hw : w < 5) (ha : a ≤ n) (h : yW T n w r a = .inl e) : e ≤ n := by
  have hm := ymm_n (T := T) hw (wl w) 0 (by omega) (show a + 0 ≤ n by omega)
  unfold yW at h
  by_cases m : ymm T n w a (wl w) 0 = wl w
  · rw [if_pos m] at h
    rw [m] at hm
    cases r
    · rw [if_neg (by decide)] at h
      cases h; exact ha
    · rw [if_pos rfl] at h
      by_cases t : tl T n (a + wl w) = 32
      · rw [if_pos t] at h; cases h
      · rw [if_neg t] at h; cases h; exact hm
  · rw [if_neg m] at h; cases h; exact hm
theorem yNm_e {lo hi : Int32} (h : yNm T n lo hi a = .inl e) : e = a := by
  unfold yNm yfin at h
  by_cases h1 : (yDg T n 4 a 0).2 ≤ a
  · rw [if_pos h1] at h; cases h; rfl
  · rw [if_neg h1] at h
    by_cases h2 : nI (yDg T n 4 a 0).1 < lo
    · rw [if_pos h2] at h; cases h; rfl
    · rw [if_neg h2] at h
      by_cases h3 : nI (yDg T n 4 a 0).1 ≤ hi
      · rw [if_pos h3] at h; cases h
      · rw [if_neg h3] at h; cases h; rfl
theorem ySg_e (h : ySg T n a = .inl e) : e = a := by
  unfold ySg at h
  by_cases t : tl T n a = 32
  · rw [if_pos t] at h; cases h
  · rw [if_neg t] at h; cases h; rfl
end rd
