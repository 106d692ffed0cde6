/-! the beginning -/
def hu0 : hU := (((0, 0, 0, 4, 2), (fun _ => 0), (fun _ => 0), (fun _ => 0), (fun _ => 0), (fun _ => false), 1), (fun _ => 0), 0, 1, -1)
theorem hu0_WF : uWF hu0 := by
  refine ⟨⟨by decide, fun p hp => absurd hp (Nat.not_lt_zero _), fun i hi => absurd hi (Nat.not_lt_zero _), fun p => Nat.zero_le _, fun w hw => ?_⟩, by decide, by decide +kernel, fun i hi => absurd hi (Nat.not_lt_zero _), Or.inl rfl⟩
  have h1 : ∀ w, w < 64 → qlb (1 : Int64) w = true → w < 1 := by decide +kernel
  by_cases h : w < 64
  · exact h1 w h hw
  · have : qlb (1 : Int64) w = false := BitVec.getLsbD_of_ge _ _ (by omega)
    have hw' : qlb (1 : Int64) w = true := hw
    rw [this] at hw'
    cases hw'
theorem Inv_end : Inv hm_end := by
  refine ⟨hu0, ⟨fun _ _ _ => rfl, hu0_WF, ⟨⟨by decide +kernel, fun p hp => absurd hp (Nat.not_lt_zero _), fun i hi => absurd hi (Nat.not_lt_zero _)⟩, fun w hw i hi => absurd hi (Nat.not_lt_zero _), fun i hi => absurd hi (Nat.not_lt_zero _), ?_, by decide +kernel, by decide +kernel, by decide +kernel⟩, ⟨⟨by decide +kernel, fun p hp => absurd hp (Nat.not_lt_zero _), fun i hi => absurd hi (Nat.not_lt_zero _)⟩, ?_, by decide +kernel, by decide +kernel, by decide +kernel⟩, ?_, Or.inl (by decide +kernel), ?_, ⟨0, by decide, by decide +kernel, by decide +kernel, fun i hi => absurd hi (Nat.not_lt_zero _)⟩, fun _ => rfl⟩, ?_⟩
  · show ∀ j, j < 6 → hm_end.1 2 j = 0
    decide +kernel
  · show ∀ j, j < 6 → hm_end.1 51 j = 0
    decide +kernel
  · have h : ∀ s, s < 8 → hm_end.1 (33 + 2 * s) 1 = -1 ∧ hm_end.1 57 s = 0 := by decide +kernel
    exact fun s hs => Or.inl (h s hs)
  · show hm_end.1 0 8 = hm_end.1 49 8
    decide +kernel
  · have h : ∀ j, j < 8 → hm_end.1 32 j = hm_end.1 50 j := by decide +kernel
    exact fun j _ h2 => h j (by omega)
