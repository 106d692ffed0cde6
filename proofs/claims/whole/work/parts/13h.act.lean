/-! acts: bodies as a list -/
def TM (t j b : Nat) (N : hf_M) (l : List Int32) : hf_M := (fun a i => if a = t ∧ i = j then nI l.length else if a = b ∧ i < l.length ∧ i < 20 then l.getD i 0 else N.1 a i, N.2.1, N.2.2)
theorem TM_o {t j b : Nat} {N : hf_M} {l : List Int32} {a i : Nat} (h : ¬ (a = t ∧ i = j)) (h2 : a ≠ b) : (TM t j b N l).1 a i = N.1 a i := by
  show (if a = t ∧ i = j then nI l.length else if a = b ∧ i < l.length ∧ i < 20 then l.getD i 0 else N.1 a i) = _
  rw [if_neg h, if_neg (fun e => h2 e.1)]
theorem TM_n {t j b : Nat} {N : hf_M} {l : List Int32} : (TM t j b N l).1 t j = nI l.length := if_pos ⟨rfl, rfl⟩
theorem TM_b {t j b : Nat} {N : hf_M} {l : List Int32} {i : Nat} (h : b ≠ t) (h1 : i < l.length) (h2 : i < 20) : (TM t j b N l).1 b i = l.getD i 0 := by
  show (if b = t ∧ i = j then nI l.length else if b = b ∧ i < l.length ∧ i < 20 then l.getD i 0 else N.1 b i) = _
  rw [if_neg (fun e => h e.1), if_pos ⟨rfl, h1, h2⟩]
theorem TM_id {t j b : Nat} {N : hf_M} (h : N.1 t j = 0) : TM t j b N [] = N := by
  refine Prod.ext (funext fun a => funext fun i => ?_) rfl
  show (if a = t ∧ i = j then nI 0 else if a = b ∧ i < 0 ∧ i < 20 then _ else N.1 a i) = _
  by_cases e : a = t ∧ i = j
  · rw [if_pos e, e.1, e.2, h]; rfl
  · rw [if_neg e, if_neg (by omega)]
theorem len1 (l : List Int32) (x : Int32) : (l ++ [x]).length = l.length + 1 := by rw [List.length_append]; rfl
theorem getD1 {l : List Int32} {x : Int32} {i : Nat} (h : i < l.length) : (l ++ [x]).getD i 0 = l.getD i 0 := by
  rw [List.getD_eq_getElem?_getD, List.getD_eq_getElem?_getD, List.getElem?_append_left h]
theorem getD2 {l : List Int32} {x : Int32} : (l ++ [x]).getD l.length 0 = x := by
  rw [List.getD_eq_getElem?_getD, List.getElem?_append_right (Nat.le_refl _), Nat.sub_self]; rfl
theorem TM_add1 {t j b : Nat} {N : hf_M} {l : List Int32} {x : Int32} (h : 20 ≤ l.length) : hf_sI (TM t j b N l) t j (nI (l.length + 1)) = TM t j b N (l ++ [x]) := by
  refine Prod.ext (funext fun a => funext fun i => ?_) rfl
  show (if a = t ∧ i = j then nI (l.length + 1) else if a = t ∧ i = j then nI l.length else if a = b ∧ i < l.length ∧ i < 20 then l.getD i 0 else N.1 a i) = (if a = t ∧ i = j then nI (l ++ [x]).length else if a = b ∧ i < (l ++ [x]).length ∧ i < 20 then (l ++ [x]).getD i 0 else N.1 a i)
  rw [len1]
  by_cases e : a = t ∧ i = j
  · rw [if_pos e, if_pos e]
  · rw [if_neg e, if_neg e, if_neg e]
    by_cases e2 : a = b ∧ i < l.length ∧ i < 20
    · rw [if_pos e2, if_pos ⟨e2.1, by omega, e2.2.2⟩, getD1 e2.2.1]
    · rw [if_neg e2, if_neg (fun g => e2 ⟨g.1, by omega, g.2.2⟩)]
theorem TM_add2 {t j b : Nat} {N : hf_M} {l : List Int32} {x : Int32} (hb : b ≠ t) (h : l.length < 20) : hf_sI (hf_sI (TM t j b N l) b l.length x) t j (nI (l.length + 1)) = TM t j b N (l ++ [x]) := by
  refine Prod.ext (funext fun a => funext fun i => ?_) rfl
  show (if a = t ∧ i = j then nI (l.length + 1) else if a = b ∧ i = l.length then x else if a = t ∧ i = j then nI l.length else if a = b ∧ i < l.length ∧ i < 20 then l.getD i 0 else N.1 a i) = (if a = t ∧ i = j then nI (l ++ [x]).length else if a = b ∧ i < (l ++ [x]).length ∧ i < 20 then (l ++ [x]).getD i 0 else N.1 a i)
  rw [len1]
  by_cases e : a = t ∧ i = j
  · rw [if_pos e, if_pos e]
  · rw [if_neg e, if_neg e, if_neg e]
    by_cases e3 : a = b ∧ i = l.length
    · obtain ⟨rfl, rfl⟩ := e3
      rw [if_pos ⟨rfl, rfl⟩, if_pos ⟨rfl, by omega, h⟩, getD2]
    · rw [if_neg e3]
      by_cases e2 : a = b ∧ i < l.length ∧ i < 20
      · rw [if_pos e2, if_pos ⟨e2.1, by omega, e2.2.2⟩, getD1 e2.2.1]
      · have e5 : ¬ (a = b ∧ i < l.length + 1 ∧ i < 20) := by
          intro g
          have h5 : ¬ i = l.length := fun q => e3 ⟨g.1, q⟩
          exact e2 ⟨g.1, by omega, g.2.2⟩
        rw [if_neg e2, if_neg e5]
theorem c_note {N : hf_M} (hR : yRf N) {l : List Int32} (hl : l.length < 100) (x : Int32) : s_X0_note 30 x (TM 30 1 31 N l) = some ((), TM 30 1 31 N (l ++ [x])) := by
  have h300 : (TM 30 1 31 N l).2.2 30 0 = some 31 := (hR 30 0 (by decide)).trans rfl
  unfold s_X0_note
  rw [TM_n, nI_1]
  by_cases h : 20 ≤ l.length
  · rw [if_pos (show (20 : Int32) ≤ nI l.length from nI_le (a := 20) h (by omega)), qpt, TM_add1 (x := x) h]
  · rw [if_neg (show ¬ (20 : Int32) ≤ nI l.length from fun e => h ((nI_leI (a := 20) (by decide) (by omega)).mp e)), h300, qrs, qsI _ _ (by show l.length < 20; omega), gI (by omega), TM_n, nI_1, qpt, TM_add2 (by decide) (by omega)]
theorem r_body {N : hf_M} (hR : yRf N) {l : List Int32} (hl : l.length < 100) (x : Int32) : s_X5_body 49 x (TM 49 36 68 N l) = some ((), TM 49 36 68 N (l ++ [x])) := by
  have h35 : (TM 49 36 68 N l).2.2 49 35 = some 68 := (hR 49 35 (by decide)).trans rfl
  unfold s_X5_body
  rw [TM_n, nI_1]
  by_cases h : 20 ≤ l.length
  · rw [if_pos (show (20 : Int32) ≤ nI l.length from nI_le (a := 20) h (by omega)), qpt, TM_add1 (x := x) h]
  · rw [if_neg (show ¬ (20 : Int32) ≤ nI l.length from fun e => h ((nI_leI (a := 20) (by decide) (by omega)).mp e)), h35, qrs, qsI _ _ (by show l.length < 20; omega), gI (by omega), TM_n, nI_1, qpt, TM_add2 (by decide) (by omega)]
/-! whose body -/
def yow (k z : Nat) : Nat := if (k = 1 ∧ z = 0) ∨ (k = 2 ∧ z = 1) ∨ (k = 3 ∧ z ≠ 1) ∨ (k = 4 ∧ z = 1) ∨ (k = 5 ∧ z = 1) ∨ (k = 6 ∧ z ≠ 1) then k else 0
theorem own_step {k z v n : Nat} (hk : k ≤ 6) (hz : z ≤ 2) (hv : v < 7) (M : hf_M) : s_X0_ownerOf_4 (nI z) (n + 1) (nI k) (nI v) M = if hf_BO (3 * k + z) = 0 then s_X0_ownerOf_4 (nI z) n (hf_AB k) (nI (v + 1)) M else some (nI k, M) := by
  rw [s_X0_ownerOf_4, qi_le (show (7 : Int32) = nI 7 from rfl) rfl (by omega) (by omega), if_neg (by omega), und_kind hk, qb1, if_neg q10, show (3 : Int32) = nI 3 from rfl, pk_mul, nI_add, qBO (by omega), qAB (by omega), nI_1]
theorem own_0 {z v n : Nat} (hz : z ≤ 2) (hv : v < 7) (M : hf_M) : s_X0_ownerOf_4 (nI z) (n + 1) (nI 0) (nI v) M = some (nI 0, M) := by
  rw [own_step (by omega) hz hv, if_neg]
  have h3 : z = 0 ∨ z = 1 ∨ z = 2 := by omega
  rcases h3 with rfl | rfl | rfl <;> decide
theorem own {k z : Nat} (hk : k ≤ 6) (hz : z ≤ 2) (M : hf_M) : s_X0_ownerOf (nI k) (nI z) M = some (nI (yow k z), M) := by
  have h7 : k = 0 ∨ k = 1 ∨ k = 2 ∨ k = 3 ∨ k = 4 ∨ k = 5 ∨ k = 6 := by omega
  have h3 : z = 0 ∨ z = 1 ∨ z = 2 := by omega
  show s_X0_ownerOf_4 (nI z) (1996 + 4) (nI k) (nI 0) M = _
  rcases h7 with rfl | rfl | rfl | rfl | rfl | rfl | rfl
  · rw [own_0 hz (by omega)]
    rcases h3 with rfl | rfl | rfl <;> rfl
  · rw [own_step (by omega) hz (by omega), show hf_AB 1 = nI 0 from rfl, own_0 hz (by omega)]
    rcases h3 with rfl | rfl | rfl
    · rw [if_neg (by decide)]; rfl
    · rw [if_pos (by decide)]; rfl
    · rw [if_pos (by decide)]; rfl
  · rw [own_step (by omega) hz (by omega), show hf_AB 2 = nI 0 from rfl, own_0 hz (by omega)]
    rcases h3 with rfl | rfl | rfl
    · rw [if_pos (by decide)]; rfl
    · rw [if_neg (by decide)]; rfl
    · rw [if_pos (by decide)]; rfl
  · rw [own_step (by omega) hz (by omega), show hf_AB 3 = nI 1 from rfl, own_step (by omega) hz (by omega), show hf_AB 1 = nI 0 from rfl, own_0 hz (by omega)]
    rcases h3 with rfl | rfl | rfl
    · rw [if_neg (show ¬ hf_BO (3 * 3 + 0) = 0 by decide)]; rfl
    · rw [if_pos (show hf_BO (3 * 3 + 1) = 0 by decide), if_pos (by decide)]; rfl
    · rw [if_neg (show ¬ hf_BO (3 * 3 + 2) = 0 by decide)]; rfl
  · rw [own_step (by omega) hz (by omega), show hf_AB 4 = nI 0 from rfl, own_0 hz (by omega)]
    rcases h3 with rfl | rfl | rfl
    · rw [if_pos (by decide)]; rfl
    · rw [if_neg (by decide)]; rfl
    · rw [if_pos (by decide)]; rfl
  · rw [own_step (by omega) hz (by omega), show hf_AB 5 = nI 4 from rfl, own_step (by omega) hz (by omega), show hf_AB 4 = nI 0 from rfl, own_0 hz (by omega)]
    rcases h3 with rfl | rfl | rfl
    · rw [if_pos (show hf_BO (3 * 5 + 0) = 0 by decide), if_pos (by decide)]; rfl
    · rw [if_neg (show ¬ hf_BO (3 * 5 + 1) = 0 by decide)]; rfl
    · rw [if_pos (show hf_BO (3 * 5 + 2) = 0 by decide), if_pos (by decide)]; rfl
  · rw [own_step (by omega) hz (by omega), show hf_AB 6 = nI 0 from rfl, own_0 hz (by omega)]
    rcases h3 with rfl | rfl | rfl
    · rw [if_neg (by decide)]; rfl
    · rw [if_pos (by decide)]; rfl
    · rw [if_neg (by decide)]; rfl
/-! what the acts say, and by which bodies -/
def lS (k : Nat) : List Int32 := if k = 1 then [20, 10] else if k = 3 then [30, 20, 10] else if k = 6 then [70, 10] else [10]
def vS (k : Nat) (a m K : Int32) : Int32 := if k = 1 then a + m + K else if k = 3 then a + 1 + m + K else if k = 6 then (a + m) * 2 else a + m
def lH (k : Nat) : List Int32 := if k = 2 then 40 :: 11 :: lS k else if k = 4 then 50 :: 11 :: lS k else if k = 5 then 60 :: 50 :: 11 :: lS k else 11 :: lS k
def vH (k : Nat) (a m K : Int32) : Int32 := if k = 2 then vS k a m K * 2 * 3 else if k = 4 then -(vS k a m K * 2) else if k = 5 then (-(vS k a m K * 2)) ^^^ 5 else vS k a m K * 2
def lK (k : Nat) : List Int32 := if k = 3 then 31 :: 12 :: (lH k ++ lS k) else if k = 6 then 71 :: 12 :: (lH k ++ lS k) else 12 :: (lH k ++ lS k)
def vK (k : Nat) (a m K : Int32) : Int32 := if k = 3 then (vH k a m K ^^^ vS k (a - K) m K) - m else if k = 6 then vH k (a - K) m K ^^^ vS k (a - K - K) m K else vH k a m K ^^^ vS k (a - K) m K
theorem lS_len (k : Nat) : (lS k).length ≤ 3 := by
  unfold lS; split
  · decide
  · split
    · decide
    · split <;> decide
theorem lH_len (k : Nat) : (lH k).length ≤ 6 := by
  have := lS_len k
  unfold lH; split
  · simp only [List.length_cons]; omega
  · split
    · simp only [List.length_cons]; omega
    · split <;> (simp only [List.length_cons]; omega)
theorem lK_len (k : Nat) : (lK k).length ≤ 11 := by
  have := lS_len k
  have := lH_len k
  unfold lK; split
  · simp only [List.length_cons, List.length_append]; omega
  · split <;> (simp only [List.length_cons, List.length_append]; omega)
/-! the class's acts -/
def hX (k : Nat) (m K : Int32) (N : hf_M) : Prop := yRf N ∧ N.1 30 2 = nI k ∧ N.1 30 3 = m ∧ N.1 30 4 = K
theorem run_step {N : hf_M} (hR : yRf N) {n k z d : Nat} {a : Int32} (hk : k ≤ 6) (hz : z ≤ 2) (hd : d ≤ 20) {l : List Int32} (hl : l.length < 100) : s_X0_run (n + 1) 30 (nI k) (nI z) a (nI d) (TM 30 1 31 N l) = hf_bd (s_X0_resultOf (s_X0_run n) 30 (hf_BO (3 * yow k z + z)) (hf_AB (yow k z)) a (nI (d + 1)) (TM 30 1 31 N (l ++ [hf_BO (3 * yow k z + z)]))) (fun r M => some (r, M)) := by
  have ho : yow k z ≤ 6 := by unfold yow; split <;> omega
  show s_X0_run_b (s_X0_run n) 30 (nI k) (nI z) a (nI d) (TM 30 1 31 N l) = _
  unfold s_X0_run_b
  rw [own hk hz, qb1, und_kind ho, qb1, if_neg q10, if_pos (show nI d ≤ 20 from nI_le (b := 20) hd (by decide)), show (3 : Int32) = nI 3 from rfl, pk_mul, nI_add, qBO (by omega), c_note hR hl, qb1, qAB (by omega), nI_1]
theorem res10 {f t q a d} {M : hf_M} : s_X0_resultOf f t 10 q a d M = some (a + M.1 t 3, M) := by
  unfold s_X0_resultOf
  rw [if_pos rfl]
theorem res11 {f t q a d} {M : hf_M} : s_X0_resultOf f t 11 q a d M = hf_bd (f t (M.1 t 2) 0 a d M) (fun r M => some (r * 2, M)) := by
  unfold s_X0_resultOf
  rw [if_neg (show ¬ (11 : Int32) = 10 by decide), if_pos rfl]
theorem res12 {f t q a d} {M : hf_M} : s_X0_resultOf f t 12 q a d M = hf_bd (f t (M.1 t 2) 1 a d M) (fun r3 M4 => hf_bd (f t (M4.1 t 2) 0 (a - (M4.1 t 4)) d M4) (fun r5 M6 => some (r3 ^^^ r5, M6))) := by
  unfold s_X0_resultOf
  rw [if_neg (show ¬ (12 : Int32) = 10 by decide), if_neg (show ¬ (12 : Int32) = 11 by decide), if_pos rfl]
theorem res20 {f t q a d} {M : hf_M} : s_X0_resultOf f t 20 q a d M = hf_bd (f t q 0 a d M) (fun r7 M8 => some (r7 + (M8.1 t 4), M8)) := by
  unfold s_X0_resultOf
  rw [if_neg (show ¬ (20 : Int32) = 10 by decide), if_neg (show ¬ (20 : Int32) = 11 by decide), if_neg (show ¬ (20 : Int32) = 12 by decide), if_pos rfl]
theorem res30 {f t q a d} {M : hf_M} : s_X0_resultOf f t 30 q a d M = hf_bd (f t q 0 (a + 1) d M) (fun r M => some (r, M)) := by
  unfold s_X0_resultOf
  rw [if_neg (show ¬ (30 : Int32) = 10 by decide), if_neg (show ¬ (30 : Int32) = 11 by decide), if_neg (show ¬ (30 : Int32) = 12 by decide), if_neg (show ¬ (30 : Int32) = 20 by decide), if_pos rfl]
theorem res31 {f t q a d} {M : hf_M} : s_X0_resultOf f t 31 q a d M = hf_bd (f t q 2 a d M) (fun r11 M12 => some (r11 - (M12.1 t 3), M12)) := by
  unfold s_X0_resultOf
  rw [if_neg (show ¬ (31 : Int32) = 10 by decide), if_neg (show ¬ (31 : Int32) = 11 by decide), if_neg (show ¬ (31 : Int32) = 12 by decide), if_neg (show ¬ (31 : Int32) = 20 by decide), if_neg (show ¬ (31 : Int32) = 30 by decide), if_pos rfl]
theorem res40 {f t q a d} {M : hf_M} : s_X0_resultOf f t 40 q a d M = hf_bd (f t q 1 a d M) (fun r M => some (r * 3, M)) := by
  unfold s_X0_resultOf
  rw [if_neg (show ¬ (40 : Int32) = 10 by decide), if_neg (show ¬ (40 : Int32) = 11 by decide), if_neg (show ¬ (40 : Int32) = 12 by decide), if_neg (show ¬ (40 : Int32) = 20 by decide), if_neg (show ¬ (40 : Int32) = 30 by decide), if_neg (show ¬ (40 : Int32) = 31 by decide), if_pos rfl]
theorem res50 {f t q a d} {M : hf_M} : s_X0_resultOf f t 50 q a d M = hf_bd (f t q 1 a d M) (fun r M => some (-r, M)) := by
  unfold s_X0_resultOf
  rw [if_neg (show ¬ (50 : Int32) = 10 by decide), if_neg (show ¬ (50 : Int32) = 11 by decide), if_neg (show ¬ (50 : Int32) = 12 by decide), if_neg (show ¬ (50 : Int32) = 20 by decide), if_neg (show ¬ (50 : Int32) = 30 by decide), if_neg (show ¬ (50 : Int32) = 31 by decide), if_neg (show ¬ (50 : Int32) = 40 by decide), if_pos rfl]
theorem res60 {f t q a d} {M : hf_M} : s_X0_resultOf f t 60 q a d M = hf_bd (f t q 1 a d M) (fun r M => some (r ^^^ 5, M)) := by
  unfold s_X0_resultOf
  rw [if_neg (show ¬ (60 : Int32) = 10 by decide), if_neg (show ¬ (60 : Int32) = 11 by decide), if_neg (show ¬ (60 : Int32) = 12 by decide), if_neg (show ¬ (60 : Int32) = 20 by decide), if_neg (show ¬ (60 : Int32) = 30 by decide), if_neg (show ¬ (60 : Int32) = 31 by decide), if_neg (show ¬ (60 : Int32) = 40 by decide), if_neg (show ¬ (60 : Int32) = 50 by decide), if_pos rfl]
theorem res70 {f t q a d} {M : hf_M} : s_X0_resultOf f t 70 q a d M = hf_bd (f t q 0 a d M) (fun r M => some (r * 2, M)) := by
  unfold s_X0_resultOf
  rw [if_neg (show ¬ (70 : Int32) = 10 by decide), if_neg (show ¬ (70 : Int32) = 11 by decide), if_neg (show ¬ (70 : Int32) = 12 by decide), if_neg (show ¬ (70 : Int32) = 20 by decide), if_neg (show ¬ (70 : Int32) = 30 by decide), if_neg (show ¬ (70 : Int32) = 31 by decide), if_neg (show ¬ (70 : Int32) = 40 by decide), if_neg (show ¬ (70 : Int32) = 50 by decide), if_neg (show ¬ (70 : Int32) = 60 by decide), if_pos rfl]
theorem res71 {f t q a d} {M : hf_M} : s_X0_resultOf f t 71 q a d M = hf_bd (f t q 2 (a - (M.1 t 4)) d M) (fun r M => some (r, M)) := by
  unfold s_X0_resultOf
  rw [if_neg (show ¬ (71 : Int32) = 10 by decide), if_neg (show ¬ (71 : Int32) = 11 by decide), if_neg (show ¬ (71 : Int32) = 12 by decide), if_neg (show ¬ (71 : Int32) = 20 by decide), if_neg (show ¬ (71 : Int32) = 30 by decide), if_neg (show ¬ (71 : Int32) = 31 by decide), if_neg (show ¬ (71 : Int32) = 40 by decide), if_neg (show ¬ (71 : Int32) = 50 by decide), if_neg (show ¬ (71 : Int32) = 60 by decide), if_neg (show ¬ (71 : Int32) = 70 by decide)]
theorem run_s {N : hf_M} (hR : yRf N) {n k z d o : Nat} {a x w zz : Int32} (hk : k ≤ 6) (hz : z ≤ 2) (hzz : zz = nI z) (hd : d ≤ 20) {l : List Int32} (hl : l.length < 100) (ho : yow k z = o) (hx : hf_BO (3 * o + z) = x) (hw : hf_AB o = w) : s_X0_run (n + 1) 30 (nI k) zz a (nI d) (TM 30 1 31 N l) = hf_bd (s_X0_resultOf (s_X0_run n) 30 x w a (nI (d + 1)) (TM 30 1 31 N (l ++ [x]))) (fun r M => some (r, M)) := by
  subst hzz ho hx hw
  exact run_step hR hk hz hd hl
section acts
variable {N : hf_M} {κ : Nat} {m K : Int32}
theorem TM2 (h : hX κ m K N) {l : List Int32} : (TM 30 1 31 N l).1 30 2 = nI κ := (TM_o (by omega) (by decide)).trans h.2.1
theorem TM3 (h : hX κ m K N) {l : List Int32} : (TM 30 1 31 N l).1 30 3 = m := (TM_o (by omega) (by decide)).trans h.2.2.1
theorem TM4 (h : hX κ m K N) {l : List Int32} : (TM 30 1 31 N l).1 30 4 = K := (TM_o (by omega) (by decide)).trans h.2.2.2
theorem run_say0 (h : hX κ m K N) {n k d : Nat} {a : Int32} (hk : k ≤ 6) (ho : yow k 0 = 0) (hd : d ≤ 20) {l : List Int32} (hl : l.length < 100) : s_X0_run (n + 1) 30 (nI k) 0 a (nI d) (TM 30 1 31 N l) = some (a + m, TM 30 1 31 N (l ++ [10])) := by
  rw [run_s h.1 (z := 0) (zz := 0) (x := 10) hk (by omega) rfl hd hl ho rfl rfl, res10, qb1, TM3 h]
theorem run_say1 (h : hX κ m K N) {n d : Nat} {a : Int32} (hd : d ≤ 19) {l : List Int32} (hl : l.length < 99) : s_X0_run (n + 2) 30 (nI 1) 0 a (nI d) (TM 30 1 31 N l) = some (a + m + K, TM 30 1 31 N (l ++ [20, 10])) := by
  rw [run_s h.1 (z := 0) (zz := 0) (o := 1) (x := 20) (w := nI 0) (by omega) (by omega) rfl (by omega) (by omega) rfl rfl rfl, res20, run_say0 h (by omega) rfl (by omega) (by rw [len1]; omega), qb1, qb1, TM4 h, List.append_assoc]
  rfl
theorem run_say (h : hX κ m K N) (hκ : κ ≤ 6) {n d : Nat} {a : Int32} (hd : d ≤ 18) {l : List Int32} (hl : l.length < 98) : s_X0_run (n + 3) 30 (nI κ) 0 a (nI d) (TM 30 1 31 N l) = some (vS κ a m K, TM 30 1 31 N (l ++ lS κ)) := by
  have h7 : κ = 0 ∨ κ = 1 ∨ κ = 2 ∨ κ = 3 ∨ κ = 4 ∨ κ = 5 ∨ κ = 6 := by omega
  rcases h7 with rfl | rfl | rfl | rfl | rfl | rfl | rfl
  · exact run_say0 h (n := n + 2) (by omega) rfl (by omega) (by omega)
  · exact run_say1 h (n := n + 1) (by omega) (by omega)
  · exact run_say0 h (n := n + 2) (by omega) rfl (by omega) (by omega)
  · rw [run_s h.1 (n := n + 2) (z := 0) (zz := 0) (o := 3) (x := 30) (w := nI 1) (by omega) (by omega) rfl (by omega) (by omega) rfl rfl rfl, res30, run_say1 h (by omega) (by rw [len1]; omega), qb1, qb1, List.append_assoc]
    rfl
  · exact run_say0 h (n := n + 2) (by omega) rfl (by omega) (by omega)
  · exact run_say0 h (n := n + 2) (by omega) rfl (by omega) (by omega)
  · rw [run_s h.1 (n := n + 2) (z := 0) (zz := 0) (o := 6) (x := 70) (w := nI 0) (by omega) (by omega) rfl (by omega) (by omega) rfl rfl rfl, res70, run_say0 h (n := n + 1) (by omega) rfl (by omega) (by rw [len1]; omega), qb1, qb1, List.append_assoc]
    rfl
theorem run_hide0 (h : hX κ m K N) (hκ : κ ≤ 6) {n k d : Nat} {a : Int32} (hk : k ≤ 6) (ho : yow k 1 = 0) (hd : d ≤ 17) {l : List Int32} (hl : l.length < 97) : s_X0_run (n + 4) 30 (nI k) 1 a (nI d) (TM 30 1 31 N l) = some (vS κ a m K * 2, TM 30 1 31 N (l ++ 11 :: lS κ)) := by
  rw [run_s h.1 (n := n + 3) (z := 1) (zz := 1) (x := 11) hk (by omega) rfl (by omega) (by omega) ho rfl rfl, res11, TM2 h, run_say h hκ (by omega) (by rw [len1]; omega), qb1, qb1, List.append_assoc]
  rfl
theorem run_hide4 (h : hX κ m K N) (hκ : κ ≤ 6) {n d : Nat} {a : Int32} (hd : d ≤ 16) {l : List Int32} (hl : l.length < 96) : s_X0_run (n + 5) 30 (nI 4) 1 a (nI d) (TM 30 1 31 N l) = some (-(vS κ a m K * 2), TM 30 1 31 N (l ++ 50 :: 11 :: lS κ)) := by
  rw [run_s h.1 (n := n + 4) (z := 1) (zz := 1) (o := 4) (x := 50) (w := nI 0) (by omega) (by omega) rfl (by omega) (by omega) rfl rfl rfl, res50, run_hide0 h hκ (by omega) rfl (by omega) (by rw [len1]; omega), qb1, qb1, List.append_assoc]
  rfl
theorem run_hide (h : hX κ m K N) (hκ : κ ≤ 6) {n d : Nat} {a : Int32} (hd : d ≤ 15) {l : List Int32} (hl : l.length < 95) : s_X0_run (n + 6) 30 (nI κ) 1 a (nI d) (TM 30 1 31 N l) = some (vH κ a m K, TM 30 1 31 N (l ++ lH κ)) := by
  have h7 : κ = 0 ∨ κ = 1 ∨ κ = 2 ∨ κ = 3 ∨ κ = 4 ∨ κ = 5 ∨ κ = 6 := by omega
  rcases h7 with rfl | rfl | rfl | rfl | rfl | rfl | rfl
  · exact run_hide0 h (by omega) (n := n + 2) (by omega) rfl (by omega) (by omega)
  · exact run_hide0 h (by omega) (n := n + 2) (by omega) rfl (by omega) (by omega)
  · rw [run_s h.1 (n := n + 5) (z := 1) (zz := 1) (o := 2) (x := 40) (w := nI 0) (by omega) (by omega) rfl (by omega) (by omega) rfl rfl rfl, res40, run_hide0 h (by omega) (n := n + 1) (by omega) rfl (by omega) (by rw [len1]; omega), qb1, qb1, List.append_assoc]
    rfl
  · exact run_hide0 h (by omega) (n := n + 2) (by omega) rfl (by omega) (by omega)
  · exact run_hide4 h (by omega) (n := n + 1) (by omega) (by omega)
  · rw [run_s h.1 (n := n + 5) (z := 1) (zz := 1) (o := 5) (x := 60) (w := nI 4) (by omega) (by omega) rfl (by omega) (by omega) rfl rfl rfl, res60, run_hide4 h (by omega) (n := n) (by omega) (by rw [len1]; omega), qb1, qb1, List.append_assoc]
    rfl
  · exact run_hide0 h (by omega) (n := n + 2) (by omega) rfl (by omega) (by omega)
theorem run_know0 (h : hX κ m K N) (hκ : κ ≤ 6) {n k d : Nat} {a : Int32} (hk : k ≤ 6) (ho : yow k 2 = 0) (hd : d ≤ 14) {l : List Int32} (hl : l.length < 80) : s_X0_run (n + 7) 30 (nI k) 2 a (nI d) (TM 30 1 31 N l) = some (vH κ a m K ^^^ vS κ (a - K) m K, TM 30 1 31 N (l ++ 12 :: (lH κ ++ lS κ))) := by
  have hh := lH_len κ
  rw [run_s h.1 (n := n + 6) (z := 2) (zz := 2) (x := 12) hk (by omega) rfl (by omega) (by omega) ho rfl rfl, res12, TM2 h, run_hide h hκ (by omega) (by rw [len1]; omega), qb1, TM2 h, TM4 h, run_say h hκ (n := n + 3) (by omega) (by rw [List.length_append, len1]; omega), qb1, qb1, List.append_assoc, List.append_assoc]
  rfl
theorem run_know (h : hX κ m K N) (hκ : κ ≤ 6) {n d : Nat} {a : Int32} (hd : d ≤ 13) {l : List Int32} (hl : l.length < 79) : s_X0_run (n + 8) 30 (nI κ) 2 a (nI d) (TM 30 1 31 N l) = some (vK κ a m K, TM 30 1 31 N (l ++ lK κ)) := by
  have h7 : κ = 0 ∨ κ = 1 ∨ κ = 2 ∨ κ = 3 ∨ κ = 4 ∨ κ = 5 ∨ κ = 6 := by omega
  rcases h7 with rfl | rfl | rfl | rfl | rfl | rfl | rfl
  · exact run_know0 h (by omega) (n := n + 1) (by omega) rfl (by omega) (by omega)
  · exact run_know0 h (by omega) (n := n + 1) (by omega) rfl (by omega) (by omega)
  · exact run_know0 h (by omega) (n := n + 1) (by omega) rfl (by omega) (by omega)
  · rw [run_s h.1 (n := n + 7) (z := 2) (zz := 2) (o := 3) (x := 31) (w := nI 1) (by omega) (by omega) rfl (by omega) (by omega) rfl rfl rfl, res31, run_know0 h (by omega) (by omega) rfl (by omega) (by rw [len1]; omega), qb1, qb1, TM3 h, List.append_assoc]
    rfl
  · exact run_know0 h (by omega) (n := n + 1) (by omega) rfl (by omega) (by omega)
  · exact run_know0 h (by omega) (n := n + 1) (by omega) rfl (by omega) (by omega)
  · rw [run_s h.1 (n := n + 7) (z := 2) (zz := 2) (o := 6) (x := 71) (w := nI 0) (by omega) (by omega) rfl (by omega) (by omega) rfl rfl rfl, res71, TM4 h, run_know0 h (by omega) (by omega) rfl (by omega) (by rw [len1]; omega), qb1, qb1, List.append_assoc]
    rfl
end acts
