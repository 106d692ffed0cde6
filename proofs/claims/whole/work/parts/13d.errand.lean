/-! errands -/
theorem q_or10 : ∀ a, a < 1024 → ∀ i, i < 10 → nI a ||| hn_ishl 1 (nI i) = nI (a ||| 2 ^ i) := by decide +kernel
theorem q_or_lt {a i : Nat} (ha : a < 1024) (hi : i < 10) : a ||| 2 ^ i < 1024 := Nat.or_lt_two_pow (n := 10) ha (Nat.pow_lt_pow_right (by decide) hi)
def ecd (h : Nat → Int32) (i : Nat) (b : Option Nat) : Bool := match b with
  | none => true
  | some j => decide (h i < h j)
def ebst (isF : Nat → Bool) (h : Nat → Int32) (P : Nat) : Nat → Nat → Option Nat → Option Nat
  | 0, _, b => b
  | k + 1, i, b => ebst isF h P k (i + 1) (if isF i = true ∧ P.testBit i = false ∧ ecd h i b = true then some i else b)
def eob : Option Nat → Int32
  | none => -1
  | some j => nI j
def eoh (h : Nat → Int32) : Option Nat → Int32
  | none => 0
  | some j => h j
theorem ebst_ok (isF : Nat → Bool) (h : Nat → Int32) (P n : Nat) : ∀ (k i : Nat) (b : Option Nat), n = i + k → (∀ j, b = some j → j < n ∧ isF j = true ∧ P.testBit j = false) → ∀ j, ebst isF h P k i b = some j → j < n ∧ isF j = true ∧ P.testBit j = false
  | 0, _, b, _, hb, j, hj => hb j hj
  | k + 1, i, b, hn, hb, j, hj => by
    refine ebst_ok isF h P n k (i + 1) _ (by omega) (fun j' hj' => ?_) j hj
    split at hj'
    · next hc =>
      have : i = j' := Option.some.inj hj'
      subst this
      exact ⟨by omega, hc.1, hc.2.1⟩
    · exact hb j' hj'
theorem ebst_none (isF : Nat → Bool) (h : Nat → Int32) (P : Nat) : ∀ (k i : Nat) (b : Option Nat), ebst isF h P k i b = none ↔ b = none ∧ ∀ j, i ≤ j → j < i + k → ¬ (isF j = true ∧ P.testBit j = false)
  | 0, i, b => ⟨fun hb => ⟨hb, fun j h1 h2 => by omega⟩, fun hb => hb.1⟩
  | k + 1, i, b => by
    show ebst isF h P k (i + 1) _ = none ↔ _
    rw [ebst_none isF h P k (i + 1)]
    constructor
    · rintro ⟨h1, h2⟩
      split at h1
      · cases h1
      · next hc =>
        subst h1
        refine ⟨rfl, fun j a b => ?_⟩
        by_cases e : j = i
        · subst e
          exact fun hh => hc ⟨hh.1, hh.2, rfl⟩
        · exact h2 j (by omega) (by omega)
    · rintro ⟨rfl, h2⟩
      refine ⟨if_neg (fun hc => h2 i (Nat.le_refl _) (by omega) ⟨hc.1, hc.2.1⟩), fun j a b => h2 j (by omega) (by omega)⟩
def epk (isF : Nat → Bool) (h : Nat → Int32) (n : Nat) : Nat → Nat → Nat
  | 0, P => P
  | m + 1, P => match ebst isF h P n 0 none with
    | none => P
    | some i => epk isF h n m (P ||| 2 ^ i)
def eU (isF : Nat → Bool) (n P : Nat) : Nat := ypc (fun i => isF i && !P.testBit i) n
def ehs (isF : Nat → Bool) (h : Nat → Int32) (P : Nat) : Nat → Int32
  | 0 => 0
  | i + 1 => if P.testBit i = true ∧ isF i = true then ehs isF h P i + h i else ehs isF h P i
theorem tb_or (P i j : Nat) : (P ||| 2 ^ i).testBit j = (P.testBit j || decide (i = j)) := by
  rw [Nat.testBit_or, Nat.testBit_two_pow]
theorem ehs_add (isF : Nat → Bool) (h : Nat → Int32) {P i : Nat} (hF : isF i = true) (hP : P.testBit i = false) : ∀ n, ehs isF h (P ||| 2 ^ i) n = if i < n then ehs isF h P n + h i else ehs isF h P n
  | 0 => by rw [if_neg (by omega)]; rfl
  | n + 1 => by
    have ih := ehs_add isF h hF hP n
    show (if (P ||| 2 ^ i).testBit n = true ∧ isF n = true then ehs isF h (P ||| 2 ^ i) n + h n else ehs isF h (P ||| 2 ^ i) n) = if i < n + 1 then (if P.testBit n = true ∧ isF n = true then ehs isF h P n + h n else ehs isF h P n) + h i else (if P.testBit n = true ∧ isF n = true then ehs isF h P n + h n else ehs isF h P n)
    rw [ih, tb_or]
    by_cases e : i = n
    · subst e
      rw [decide_eq_true rfl, Bool.or_true, if_pos ⟨rfl, hF⟩, if_neg (by omega), if_pos (by omega), if_neg (fun hh => by rw [hP] at hh; cases hh.1)]
    · rw [decide_eq_false e, Bool.or_false]
      by_cases hlt : i < n
      · rw [if_pos hlt, if_pos (show i < n + 1 by omega)]
        by_cases hb : P.testBit n = true ∧ isF n = true
        · rw [if_pos hb, if_pos hb, Int32.add_assoc, Int32.add_comm (h i), ← Int32.add_assoc]
        · rw [if_neg hb, if_neg hb]
      · rw [if_neg hlt, if_neg (show ¬ i < n + 1 by omega)]
theorem eU_dec {isF : Nat → Bool} {n P i : Nat} (hi : i < n) (hF : isF i = true) (hP : P.testBit i = false) : eU isF n P = eU isF n (P ||| 2 ^ i) + 1 := by
  unfold eU
  refine ypc_clear (i := i) hi ?_ ?_ (fun k hk => ?_)
  · rw [hF, hP]; rfl
  · rw [tb_or, decide_eq_true rfl, Bool.or_true, hF]; rfl
  · rw [tb_or, decide_eq_false (Ne.symm hk), Bool.or_false]
theorem eU_0 {isF : Nat → Bool} {h : Nat → Int32} {n P : Nat} : ebst isF h P n 0 none = none ↔ eU isF n P = 0 := by
  rw [ebst_none]
  unfold eU
  constructor
  · rintro ⟨-, h2⟩
    refine ypc_all (fun k hk => ?_)
    have := h2 k (by omega) (by omega)
    cases h3 : isF k
    · rfl
    · cases h4 : P.testBit k
      · exact absurd ⟨h3, h4⟩ this
      · rfl
  · intro hz
    refine ⟨rfl, fun j _ hj hh => ?_⟩
    have := ypc_zero hz j (by omega)
    rw [hh.1, hh.2] at this
    cases this
theorem epk_min (isF : Nat → Bool) (h : Nat → Int32) (n : Nat) : ∀ (m P : Nat), epk isF h n m P = epk isF h n (min m (eU isF n P)) P
  | 0, P => by rw [Nat.zero_min]
  | m + 1, P => by
    cases hb : ebst isF h P n 0 none with
    | none =>
      rw [eU_0.mp hb, Nat.min_zero]
      show (match ebst isF h P n 0 none with | none => P | some i => epk isF h n m (P ||| 2 ^ i)) = P
      rw [hb]
    | some i =>
      obtain ⟨h1, h2, h3⟩ := ebst_ok isF h P n n 0 none (by omega) (fun j hj => by cases hj) i hb
      rw [eU_dec h1 h2 h3, show min (m + 1) (eU isF n (P ||| 2 ^ i) + 1) = min m (eU isF n (P ||| 2 ^ i)) + 1 by omega]
      show (match ebst isF h P n 0 none with | none => P | some i => epk isF h n m (P ||| 2 ^ i)) = (match ebst isF h P n 0 none with | none => P | some i => epk isF h n _ (P ||| 2 ^ i))
      rw [hb]
      exact epk_min isF h n m (P ||| 2 ^ i)
/-- a row of errands in shelf s -/
def eF (υ : hU) (v : Nat → Int32) (i : Nat) : Bool := yin (v i) (yF (uT υ))
def eh (υ : hU) (v : Nat → Int32) (i : Nat) : Int32 := uh υ (v i).toNatClampNeg
section ER
variable {υ : hU} {M : hf_M} {s n : Nat} {v : Nat → Int32}
theorem c_lh (hJ : Jv υ M) (hs : s < 8) (hn : n ≤ 10) (h2 : M.1 (33 + 2 * s) 2 = nI n) (hv : ∀ i, i < n → (M.2.1 (34 + 2 * s) i).toInt32 = v i) {P : Nat} (hP : P < 1024) : ∀ (k i fu : Nat) (b : Option Nat), n = i + k → k < fu → (∀ j, b = some j → j < n ∧ eF υ v j = true ∧ P.testBit j = false) → s_X4_leastHarmful_8 0 (33 + 2 * s) (nI P) fu (eob b) (eoh (eh υ v) b) (nI i) M = some (eob (ebst (eF υ v) (eh υ v) P k i b), M) := by
  have hF := (jw hJ).1.1
  have hR := hJ.1
  intro k
  induction k with
  | zero =>
    intro i fu b hi hf hb
    obtain ⟨fu, rfl⟩ : ∃ u, fu = u + 1 := ⟨fu - 1, by omega⟩
    rw [s_X4_leastHarmful_8, h2, qi_le rfl rfl (by omega) (by omega), if_pos (by omega)]; rfl
  | succ k ih =>
    intro i fu b hi hf hb
    obtain ⟨fu, rfl⟩ : ∃ u, fu = u + 1 := ⟨fu - 1, by omega⟩
    have le : i < hf_len (34 + 2 * s) := by rw [sh_len hs]; omega
    have ea : s_X2_asInt (33 + 2 * s) (nI i) M = some (v i, M) := by
      unfold s_X2_asInt
      rw [sh_r0 hR hs, qrs, qlL M le, hv i (by omega)]
    have est : ebst (eF υ v) (eh υ v) P (k + 1) i b = ebst (eF υ v) (eh υ v) P k (i + 1) (if eF υ v i = true ∧ P.testBit i = false ∧ ecd (eh υ v) i b = true then some i else b) := rfl
    rw [s_X4_leastHarmful_8, h2, qi_le rfl rfl (by omega) (by omega), if_neg (by omega), ea, qb1, qsb (by omega) (by omega), nI_1, est]
    cases hbit : P.testBit i
    · rw [qb_ifF, j0 hJ, qrs, j_cF hJ, qb1]
      cases hy : yin (v i) (yF (uT υ))
      · rw [qb_ifF, if_neg (fun hh => by have := hh.1; unfold eF at this; rw [hy] at this; cases this)]
        exact ih (i + 1) fu b (by omega) (by omega) hb
      · obtain ⟨f, hf6, ef⟩ := yin_T hy (by omega)
        have l2 : f < hf_len (1 + 1) := by show f < 6; omega
        have eld : M.1 (1 + 1) f = eh υ v i := by
          rw [(jc hJ).2.2.2.1 f (by omega)]
          unfold eh
          rw [ef, nI_clamp (by omega)]
        have hFi : eF υ v i = true := hy
        rw [qb_ifT]
        cases b with
        | none =>
          rw [if_pos (show eob none = -1 from rfl), j0 hJ, qrs, cr0 hR q1, qrs, ef, qlI M l2, eld, if_pos ⟨hFi, rfl, rfl⟩]
          exact ih (i + 1) fu (some i) (by omega) (by omega) (fun j hj => by
            have : i = j := Option.some.inj hj
            subst this
            exact ⟨by omega, hFi, hbit⟩)
        | some j =>
          have hj := hb j rfl
          rw [if_neg (show ¬ eob (some j) = -1 from fun e => qm1 j (by omega) e.symm), j0 hJ, qrs, cr0 hR q1, qrs, ef, qlI M l2, eld]
          by_cases hc : eh υ v i < eh υ v j
          · rw [if_neg (show ¬ eoh (eh υ v) (some j) ≤ eh υ v i from Int32.not_le.mpr hc), qrs, cr0 hR q1, qrs, qlI M l2, eld, if_pos ⟨hFi, rfl, decide_eq_true hc⟩]
            exact ih (i + 1) fu (some i) (by omega) (by omega) (fun j' hj' => by
              have : i = j' := Option.some.inj hj'
              subst this
              exact ⟨by omega, hFi, hbit⟩)
          · rw [if_pos (show eoh (eh υ v) (some j) ≤ eh υ v i from Int32.not_lt.mp hc), if_neg (fun hh => hc (of_decide_eq_true hh.2.2))]
            exact ih (i + 1) fu (some j) (by omega) (by omega) hb
    · rw [qb_ifT, if_neg (fun hh => by cases hh.2.1)]
      exact ih (i + 1) fu b (by omega) (by omega) hb
theorem q_sle {x a j : Nat} (hx : x < 2 ^ 20) (ha : a < 2 ^ 20) (hj : j < 2 ^ 20) : (nI x - nI a ≤ nI j) ↔ x ≤ a + j := by
  rw [Int32.le_iff_toInt_le, pk_sub_toInt (by omega) (by omega), nI_toInt (by omega)]
  omega
theorem c_lp_loop (hJ : Jv υ M) (hs : s < 8) (hn : n ≤ 10) (h2 : M.1 (33 + 2 * s) 2 = nI n) (hv : ∀ i, i < n → (M.2.1 (34 + 2 * s) i).toInt32 = v i) {x a : Nat} (hx : x ≤ 10) (ha : a ≤ 10) : ∀ (k j fu P : Nat), x - a = j + k ∨ (x - a ≤ j ∧ k = 0) → j ≤ 20 → k < fu → P < 1024 → ∃ P', P' = epk (eF υ v) (eh υ v) n k P ∧ P' < 1024 ∧ s_X4_liesPlaced_24 0 (33 + 2 * s) (nI x - nI a) fu (nI P) (nI j) M = some (nI P', M) := by
  intro k
  induction k with
  | zero =>
    intro j fu P hk hj hf hP
    obtain ⟨fu, rfl⟩ : ∃ u, fu = u + 1 := ⟨fu - 1, by omega⟩
    refine ⟨P, rfl, hP, ?_⟩
    rw [s_X4_liesPlaced_24, if_pos ((q_sle (by omega) (by omega) (by omega)).mpr (by omega))]
  | succ k ih =>
    intro j fu P hk hj hf hP
    obtain ⟨fu, rfl⟩ : ∃ u, fu = u + 1 := ⟨fu - 1, by omega⟩
    have el : s_X4_leastHarmful 0 (33 + 2 * s) (nI P) M = some (eob (ebst (eF υ v) (eh υ v) P n 0 none), M) := c_lh hJ hs hn h2 hv hP n 0 2000 none (by omega) (by omega) (fun j hj => by cases hj)
    have ee : epk (eF υ v) (eh υ v) n (k + 1) P = match ebst (eF υ v) (eh υ v) P n 0 none with | none => P | some i => epk (eF υ v) (eh υ v) n k (P ||| 2 ^ i) := rfl
    rw [s_X4_liesPlaced_24, if_neg (fun h => absurd ((q_sle (by omega) (by omega) (by omega)).mp h) (by omega)), el, qb1, nI_1, ee]
    cases hb : ebst (eF υ v) (eh υ v) P n 0 none with
    | none =>
      exact ⟨P, rfl, hP, if_pos rfl⟩
    | some i =>
      obtain ⟨g1, g2, g3⟩ := ebst_ok _ _ P n n 0 none (by omega) (fun j hj => by cases hj) i hb
      obtain ⟨P', p1, p2, p3⟩ := ih (j + 1) fu (P ||| 2 ^ i) (by omega) (by omega) (by omega) (q_or_lt hP (by omega))
      refine ⟨P', p1, p2, ?_⟩
      show (if nI i = -1 then _ else _) = _
      rw [if_neg (fun e => qm1 i (by omega) e.symm)]
      show s_X4_liesPlaced_24 0 (33 + 2 * s) (nI x - nI a) fu (nI P ||| hn_ishl 1 (nI i)) (nI (j + 1)) M = _
      rw [q_or10 P hP i (by omega)]
      exact p3
theorem c_sum_loop (hJ : Jv υ M) (hs : s < 8) (hn : n ≤ 10) (h2 : M.1 (33 + 2 * s) 2 = nI n) (hv : ∀ i, i < n → (M.2.1 (34 + 2 * s) i).toInt32 = v i) {P : Nat} (hP : P < 1024) : ∀ (k i fu : Nat), n = i + k → k < fu → s_X4_errands_40 0 (33 + 2 * s) (nI P) fu (ehs (eF υ v) (eh υ v) P i) (nI i) M = some (ehs (eF υ v) (eh υ v) P n, M) := by
  have hF := (jw hJ).1.1
  have hR := hJ.1
  intro k
  induction k with
  | zero =>
    intro i fu hi hf
    obtain ⟨fu, rfl⟩ : ∃ u, fu = u + 1 := ⟨fu - 1, by omega⟩
    rw [s_X4_errands_40, h2, qi_le rfl rfl (by omega) (by omega), if_pos (by omega), hi, Nat.add_zero]
  | succ k ih =>
    intro i fu hi hf
    obtain ⟨fu, rfl⟩ : ∃ u, fu = u + 1 := ⟨fu - 1, by omega⟩
    have le : i < hf_len (34 + 2 * s) := by rw [sh_len hs]; omega
    have ea : s_X2_asInt (33 + 2 * s) (nI i) M = some (v i, M) := by
      unfold s_X2_asInt
      rw [sh_r0 hR hs, qrs, qlL M le, hv i (by omega)]
    have i1 := ih (i + 1) fu (by omega) (by omega)
    have est : ehs (eF υ v) (eh υ v) P (i + 1) = if P.testBit i = true ∧ eF υ v i = true then ehs (eF υ v) (eh υ v) P i + eh υ v i else ehs (eF υ v) (eh υ v) P i := rfl
    rw [s_X4_errands_40, h2, qi_le rfl rfl (by omega) (by omega), if_neg (by omega), ea, qb1, qsb (by omega) (by omega), nI_1]
    cases hbit : P.testBit i
    · rw [if_neg (fun hh => by rw [hbit] at hh; cases hh.1)] at est
      rw [est] at i1
      rw [if_neg (show ¬ qbI false = 1 by decide)]
      exact i1
    · rw [if_pos (show qbI true = 1 from rfl), j0 hJ, qrs, j_cF hJ, qb1]
      cases hy : yin (v i) (yF (uT υ))
      · rw [if_neg (fun hh => by have := hh.2; unfold eF at this; rw [hy] at this; cases this)] at est
        rw [est] at i1
        rw [qb_ifF]
        exact i1
      · obtain ⟨f, hf6, ef⟩ := yin_T hy (by omega)
        have l2 : f < hf_len (1 + 1) := by show f < 6; omega
        have eld : M.1 (1 + 1) f = eh υ v i := by
          rw [(jc hJ).2.2.2.1 f (by omega)]
          unfold eh
          rw [ef, nI_clamp (by omega)]
        rw [if_pos ⟨hbit, hy⟩] at est
        rw [est] at i1
        rw [qb_ifT, j0 hJ, qrs, cr0 hR q1, qrs, ef, qlI M l2, eld]
        exact i1
end ER
