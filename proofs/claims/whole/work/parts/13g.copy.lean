/-! copy -/
theorem lg_pos {x y : Int64} : (0 < lg_cmp x y) ↔ y < x := by
  unfold lg_cmp
  by_cases h : x > y
  · rw [if_pos h]; exact ⟨fun _ => h, fun _ => by decide⟩
  · rw [if_neg h]
    constructor
    · intro g
      split at g
      · exact absurd g (by decide)
      · exact absurd g (by decide)
    · intro g; exact absurd g h
theorem part64 {x m n : Nat} (hx : x < 2 ^ 31) (hm : m < 2 ^ 31) (hn : n ≤ 160) : ((nI n).toInt64 < (nI x).toInt64 + (nI m).toInt64) ↔ n < x + m := by
  have e : ((x : Int) + m).bmod (2 ^ 64) = x + m := by
    rw [Int.bmod_def]
    have : ((x : Int) + m) % ((2 ^ 64 : Nat) : Int) = x + m := Int.emod_eq_of_lt (by omega) (by omega)
    rw [this]
    exact if_pos (by omega)
  rw [Int64.lt_iff_toInt_lt, Int64.toInt_add, Int32.toInt_toInt64, Int32.toInt_toInt64, Int32.toInt_toInt64, nI_toInt hx, nI_toInt hm, nI_toInt (by omega), e]
  omega
theorem part32 {x m n : Nat} (hx : x < 2 ^ 31) (hm : m < 2 ^ 31) (hn : n ≤ 160) : (nI n - nI m < nI x) ↔ n < x + m := by
  rw [Int32.lt_iff_toInt_lt, Int32.toInt_sub, nI_toInt hx, nI_toInt hm, nI_toInt (by omega), Int.bmod_def]
  split <;> omega
def ypt (a : Int32) (m n : Nat) : Bool := !decide (a < 0) && decide (a.toNatClampNeg + m ≤ n)
theorem c_part {M : hf_M} {q n m : Nat} (h2 : M.1 q 2 = nI n) (hn : n ≤ 160) (hm : m < 2 ^ 31) (a : Int32) : s_X2_hasPart q a (nI m) M = some (qbI (ypt a m n), M) := by
  unfold s_X2_hasPart ypt
  by_cases h0 : a < 0
  · rw [if_pos h0, decide_eq_true h0]; rfl
  · obtain ⟨x, hx, rfl⟩ := nI_of h0
    rw [if_neg h0, if_neg (nI_pos hm), h2, decide_eq_false h0, nI_clamp hx]
    by_cases g : x + m ≤ n
    · rw [if_neg (fun e => absurd ((part64 hx hm hn).mp (lg_pos.mp e)) (by omega)), decide_eq_true g]; rfl
    · rw [if_pos (lg_pos.mpr ((part64 hx hm hn).mpr (by omega))), decide_eq_false g]; rfl
theorem r_part {α : Type} {n m : Nat} (hn : n ≤ 160) (hm : m < 2 ^ 31) (a : Int32) (s t : α) : (if a < 0 then s else if nI n - nI m < a then s else t) = if ypt a m n = true then t else s := by
  unfold ypt
  by_cases h0 : a < 0
  · rw [if_pos h0, decide_eq_true h0]; rfl
  · obtain ⟨x, hx, rfl⟩ := nI_of h0
    rw [if_neg h0, decide_eq_false h0, nI_clamp hx]
    by_cases g : x + m ≤ n
    · rw [if_neg (fun e => absurd ((part32 hx hm hn).mp e) (by omega)), decide_eq_true g]; rfl
    · rw [if_pos ((part32 hx hm hn).mpr (by omega)), decide_eq_false g]; rfl
theorem r_cp2 {z y m : Nat} (hz : z < 8) (hy : y + m ≤ 160) : ∀ (k i fu : Nat) (K : hf_M), m = i + k → k < fu → yRf K → ∃ L, s_X5_copy_205 49 (nI z) (nI y) (nI m) fu (nI i) K = some (1, L) ∧ L.1 = K.1 ∧ L.2.2 = K.2.2 ∧ (∀ a j, ¬ (a = 61 ∧ 160 * z + y + i ≤ j ∧ j < 160 * z + y + m) → L.2.1 a j = K.2.1 a j) ∧ (∀ j, i ≤ j → j < m → L.2.1 61 (160 * z + y + j) = K.2.1 62 j) := by
  intro k
  induction k with
  | zero =>
    intro i fu K hi hf hR
    obtain ⟨fu, rfl⟩ : ∃ u, fu = u + 1 := ⟨fu - 1, by omega⟩
    refine ⟨K, ?_, rfl, rfl, fun _ _ _ => rfl, fun j h1 h2 => absurd h2 (by omega)⟩
    rw [s_X5_copy_205, qi_le rfl rfl (by omega) (by omega), if_pos (by omega)]
  | succ k ih =>
    intro i fu K hi hf hR
    obtain ⟨fu, rfl⟩ : ∃ u, fu = u + 1 := ⟨fu - 1, by omega⟩
    have l61 : 160 * z + y + i < hf_len 61 := by show 160 * z + y + i < 1280; omega
    have l62 : i < hf_len 62 := by show i < 160; omega
    obtain ⟨L, a1, a2, a3, a4, a5⟩ := ih (i + 1) fu (hf_sL K 61 (160 * z + y + i) (K.2.1 62 i)) (by omega) (by omega) hR
    refine ⟨L, ?_, a2, a3, fun a j h => ?_, fun j h1 h2 => ?_⟩
    · rw [s_X5_copy_205, qi_le rfl rfl (by omega) (by omega), if_neg (by omega), yrf_49 hR (j := 21) rfl, qrs, yrf_49 hR (j := 22) rfl, qrs, qlL K l62, show (160 : Int32) = nI 160 from rfl, pk_mul, nI_add, nI_add, qsL K _ l61, nI_1]
      exact a1
    · rw [a4 a j (by omega), gL (by omega)]
    · by_cases e : j = i
      · subst e
        rw [a4 61 _ (by omega), gL0]
      · rw [a5 j (by omega) h2, gL (by omega)]
theorem r_cp1 {s x m : Nat} (hs : s < 8) (hx : x + m ≤ 160) (v2 v4 : Int32) : ∀ (k i fu : Nat) (K : hf_M), m = i + k → k < fu → yRf K → ∃ L, s_X5_copy_167 49 (nI s) v2 (nI x) v4 (nI m) fu (nI i) K = s_X5_copy_205 49 v2 v4 (nI m) 2000 0 L ∧ L.1 = K.1 ∧ L.2.2 = K.2.2 ∧ (∀ a j, a ≠ 62 → L.2.1 a j = K.2.1 a j) ∧ (∀ j, i ≤ j → j < m → L.2.1 62 j = K.2.1 61 (160 * s + x + j)) ∧ (∀ j, j < i → L.2.1 62 j = K.2.1 62 j) := by
  intro k
  induction k with
  | zero =>
    intro i fu K hi hf hR
    obtain ⟨fu, rfl⟩ : ∃ u, fu = u + 1 := ⟨fu - 1, by omega⟩
    refine ⟨K, ?_, rfl, rfl, fun _ _ _ => rfl, fun j h1 h2 => absurd h2 (by omega), fun _ _ => rfl⟩
    rw [s_X5_copy_167, qi_le rfl rfl (by omega) (by omega), if_pos (by omega)]
  | succ k ih =>
    intro i fu K hi hf hR
    obtain ⟨fu, rfl⟩ : ∃ u, fu = u + 1 := ⟨fu - 1, by omega⟩
    have l61 : 160 * s + x + i < hf_len 61 := by show 160 * s + x + i < 1280; omega
    have l62 : i < hf_len 62 := by show i < 160; omega
    obtain ⟨L, a1, a2, a3, a4, a5, a6⟩ := ih (i + 1) fu (hf_sL K 62 i (K.2.1 61 (160 * s + x + i))) (by omega) (by omega) hR
    refine ⟨L, ?_, a2, a3, fun a j h => ?_, fun j h1 h2 => ?_, fun j h1 => ?_⟩
    · rw [s_X5_copy_167, qi_le rfl rfl (by omega) (by omega), if_neg (by omega), yrf_49 hR (j := 22) rfl, qrs, yrf_49 hR (j := 21) rfl, qrs, show (160 : Int32) = nI 160 from rfl, pk_mul, nI_add, nI_add, qlL K l61, qsL K _ l62, nI_1]
      exact a1
    · rw [a4 a j h, gL (by omega)]
    · by_cases e : j = i
      · subst e
        rw [a6 j (by omega), gL0]
      · rw [a5 j (by omega) h2, gL (by omega)]
    · rw [a6 j (by omega), gL (by omega)]
def rno (c : Int32) (K : hf_M) : Option (Int32 × hf_M) := hf_bd (s_X5_no 49 c K) (fun r M => some (r, M))
theorem r_copy84 {K : hf_M} (hR : yRf K) {s z : Nat} (hs : s < 8) (hz : z < 8) (a3 a4 a5 : Int32) : s_X5_copy_84 49 (nI s) (nI z) a3 a4 a5 K = if K.1 57 s = 0 then rno (-3) K else if K.1 57 z = 0 then rno (-3) K else if 0 ≤ a5 then if a3 < 0 then rno (-5) K else if a4 < 0 then rno (-5) K else if K.1 59 s - a5 < a3 then rno (-5) K else if a4 ≤ K.1 59 z - a5 then s_X5_copy_167 49 (nI s) (nI z) a3 a4 a5 2000 0 K else rno (-5) K else rno (-4) K := by
  have l1 : s < hf_len 57 := hs
  have l2 : z < hf_len 57 := hz
  have l3 : s < hf_len 59 := hs
  have l4 : z < hf_len 59 := hz
  unfold s_X5_copy_84
  simp only [yrf_49 hR (j := 17) rfl, yrf_49 hR (j := 19) rfl, qrs, qlI K l1, qlI K l2, qlI K l3, qlI K l4]
  rfl
theorem r_copy {K : hf_M} (hR : yRf K) {s z : Nat} (hs : s < 8) (hz : z < 8) (a3 a4 a5 : Int32) : s_X5_copy 49 (nI s) (nI z) a3 a4 a5 K = if K.1 57 s = 2 then rno (-2) K else if K.1 57 z = 2 then rno (-2) K else if K.1 57 s = 1 then if K.1 57 z = 1 then if K.1 58 s = K.1 58 z then s_X5_copy_84 49 (nI s) (nI z) a3 a4 a5 K else rno (-2) K else s_X5_copy_84 49 (nI s) (nI z) a3 a4 a5 K else s_X5_copy_84 49 (nI s) (nI z) a3 a4 a5 K := by
  have l1 : s < hf_len 57 := hs
  have l2 : z < hf_len 57 := hz
  have l3 : s < hf_len 58 := hs
  have l4 : z < hf_len 58 := hz
  have b1 : yin (nI s) 8 = true := by rw [yin_nI (by omega) (by decide), decide_eq_true hs]
  have b2 : yin (nI z) 8 = true := by rw [yin_nI (by omega) (by decide), decide_eq_true hz]
  unfold s_X5_copy
  rw [r_shelf, qb1, b1, qb_ifT, r_shelf, qb1, b2, qb_ifT]
  simp only [yrf_49 hR (j := 17) rfl, yrf_49 hR (j := 18) rfl, qrs, qlI K l1, qlI K l2, qlI K l3, qlI K l4]
  rfl
def cno (c : Int32) (K : hf_M) : Option (Int32 × hf_M) := hf_bd (s_X4_refuse 0 c K) (fun r M => some (r, M))
def cc84 (s z : Nat) (r1 r2 : Int32) (a3 a4 a5 : Int32) (M : hf_M) : Option (Int32 × hf_M) := if r1 = 0 then cno (-3) M else if r2 = 0 then cno (-3) M else if 0 ≤ a5 then hf_bd (s_X2_hasPart (33 + 2 * s) a3 a5 M) (fun r M => if r = 0 then cno (-5) M else hf_bd (s_X2_hasPart (33 + 2 * z) a4 a5 M) (fun r M => if r = 0 then cno (-5) M else hf_rf (M.2.2 (33 + 2 * s) 0) (fun q33 => hf_rf (M.2.2 (33 + 2 * z) 0) (fun q34 => hf_acL M q33 a3 q34 a4 a5 (fun M35 => some (1, M35)))))) else cno (-4) M
theorem c_copy {M : hf_M} (hR : yRf M) {s z : Nat} (hs : s < 8) (hz : z < 8) {r1 p1 r2 p2 : Int32} (e1 : s_X2_isRow (33 + 2 * s) M = some (r1, M)) (e2 : s_X2_isSpeaker (33 + 2 * s) M = some (p1, M)) (e3 : s_X2_isRow (33 + 2 * z) M = some (r2, M)) (e4 : s_X2_isSpeaker (33 + 2 * z) M = some (p2, M)) (a3 a4 a5 : Int32) : s_X4_copy 0 (nI s) (nI z) a3 a4 a5 M = if p1 = 0 then if p2 = 0 then if r1 = 0 then cc84 s z r1 r2 a3 a4 a5 M else if r2 = 0 then cc84 s z r1 r2 a3 a4 a5 M else if M.1 (33 + 2 * s) 1 = M.1 (33 + 2 * z) 1 then cc84 s z r1 r2 a3 a4 a5 M else cno (-2) M else cno (-2) M else cno (-2) M := by
  have b1 : yin (nI s) 8 = true := by rw [yin_nI (by omega) (by decide), decide_eq_true hs]
  have b2 : yin (nI z) 8 = true := by rw [yin_nI (by omega) (by decide), decide_eq_true hz]
  have h3 : M.2.2 0 3 = some 28 := yr0 hR rfl
  unfold s_X4_copy
  rw [c_shelf, qb1, b1, qb_ifT, c_shelf, qb1, b2, qb_ifT]
  simp only [h3, qrs, sh_ld hR hs, sh_ld hR hz, e1, e2, e3, e4, qb1]
  rfl
theorem p_copy : hs_copy Inv := by
  intro M ⟨υ, hJ, hRe⟩ a1 a2 a3 a4 a5
  have hR := hJ.1
  have hC : ∀ (j : Nat) (k i : Nat), k ≠ 32 → (bC j M).1 k i = M.1 k i := fun j k i hk => by unfold bC; rw [gI (by omega)]
  have hno : ∀ (c : Int32) (j : Nat), -c = nI j → 0 < j → j < 8 → s_X4_copy 0 a1 a2 a3 a4 a5 M = cno c M → s_X5_copy 49 a1 a2 a3 a4 a5 (bC j M) = rno c (bC j M) → ∃ r M1 M2, s_X4_copy 0 a1 a2 a3 a4 a5 M = some (r, M1) ∧ s_X5_copy 49 a1 a2 a3 a4 a5 M1 = some (r, M2) ∧ Inv M2 := by
    intro c j c1 c2 c3 e1 e2
    refine ⟨c, bC j M, bR j (bC j M), ?_, ?_, Inv_ref0 hJ hRe⟩
    · rw [e1]
      unfold cno
      rw [c_ref hR c1 c2 c3, qb1]
    · rw [e2]
      unfold rno
      rw [r_no (M := bC _ M) hR c1 c3, qb1]
  cases hb1 : yin a1 8
  · refine hno (-1) 1 rfl (by decide) (by decide) ?_ ?_
    · unfold s_X4_copy
      rw [c_shelf, qb1, hb1, qb_ifF]; rfl
    · unfold s_X5_copy
      rw [r_shelf, qb1, hb1, qb_ifF]; rfl
  cases hb2 : yin a2 8
  · refine hno (-1) 1 rfl (by decide) (by decide) ?_ ?_
    · unfold s_X4_copy
      rw [c_shelf, qb1, hb1, qb_ifT, c_shelf, qb1, hb2, qb_ifF]; rfl
    · unfold s_X5_copy
      rw [r_shelf, qb1, hb1, qb_ifT, r_shelf, qb1, hb2, qb_ifF]; rfl
  obtain ⟨s, hs, rfl⟩ := yin_T hb1 (by decide)
  obtain ⟨z, hz, rfl⟩ := yin_T hb2 (by decide)
  have x57 : ∀ j i, (bC j M).1 57 i = M.1 57 i := fun j i => hC j 57 i (by decide)
  have x58 : ∀ j i, (bC j M).1 58 i = M.1 58 i := fun j i => hC j 58 i (by decide)
  have x59 : ∀ j i, (bC j M).1 59 i = M.1 59 i := fun j i => hC j 59 i (by decide)
  have rc : ∀ j, s_X5_copy 49 (nI s) (nI z) a3 a4 a5 (bC j M) = _ := fun j => r_copy (K := bC j M) hR hs hz a3 a4 a5
  have r8 : ∀ j, s_X5_copy_84 49 (nI s) (nI z) a3 a4 a5 (bC j M) = _ := fun j => r_copy84 (K := bC j M) hR hs hz a3 a4 a5
  have z10 : ((1 : Int32) = 0) = False := eq_false (by decide)
  have z20 : ((2 : Int32) = 0) = False := eq_false (by decide)
  have z02 : ((0 : Int32) = 2) = False := eq_false (by decide)
  have z12 : ((1 : Int32) = 2) = False := eq_false (by decide)
  have z01 : ((0 : Int32) = 1) = False := eq_false (by decide)
  rcases sh_tag hJ.2.2.2.2.1 hJ.2.1.1.1.2.1 hs with ⟨t1, t2, t3, t4⟩ | ⟨t1, t2, t3, t4⟩ | ⟨t1, t2, t3, o, n, ho, hn, u1, u2, u3, u4, u5⟩
  · rcases sh_tag hJ.2.2.2.2.1 hJ.2.1.1.1.2.1 hz with ⟨t1', t2', t3', t4'⟩ | ⟨t1', t2', t3', t4'⟩ | ⟨t1', t2', t3', o', n', ho', hn', u1', u2', u3', u4', u5'⟩
    · refine hno (-3) 3 rfl (by decide) (by decide) ?_ ?_
      · rw [c_copy hR hs hz t2 t3 t2' t3']; rfl
      · simp only [rc, r8, x57, t1, t1', z02, z01, if_false, if_true]
    · refine hno (-2) 2 rfl (by decide) (by decide) ?_ ?_
      · rw [c_copy hR hs hz t2 t3 t2' t3']; rfl
      · simp only [rc, r8, x57, t1, t1', z02, z01, if_false, if_true]
    · refine hno (-3) 3 rfl (by decide) (by decide) ?_ ?_
      · rw [c_copy hR hs hz t2 t3 t2' t3']; rfl
      · simp only [rc, r8, x57, t1, t1', z02, z01, z12, if_false, if_true]
  · rcases sh_tag hJ.2.2.2.2.1 hJ.2.1.1.1.2.1 hz with ⟨t1', t2', t3', t4'⟩ | ⟨t1', t2', t3', t4'⟩ | ⟨t1', t2', t3', o', n', ho', hn', u1', u2', u3', u4', u5'⟩
    all_goals
      refine hno (-2) 2 rfl (by decide) (by decide) ?_ ?_
      · rw [c_copy hR hs hz t2 t3 t2' t3']; rfl
      · simp only [rc, r8, x57, t1, if_true]
  · rcases sh_tag hJ.2.2.2.2.1 hJ.2.1.1.1.2.1 hz with ⟨t1', t2', t3', t4'⟩ | ⟨t1', t2', t3', t4'⟩ | ⟨t1', t2', t3', o', n', ho', hn', u1', u2', u3', u4', u5'⟩
    · refine hno (-3) 3 rfl (by decide) (by decide) ?_ ?_
      · rw [c_copy hR hs hz t2 t3 t2' t3']; rfl
      · simp only [rc, r8, x57, t1, t1', z02, z01, z12, z10, if_false, if_true]
    · refine hno (-2) 2 rfl (by decide) (by decide) ?_ ?_
      · rw [c_copy hR hs hz t2 t3 t2' t3']; rfl
      · simp only [rc, r8, x57, t1, t1', z12, if_false, if_true]
    · by_cases ho2 : o = o'
      · have hk : M.1 (33 + 2 * s) 1 = M.1 (33 + 2 * z) 1 := by rw [u1, u1', ho2]
        have hk2 : M.1 58 s = M.1 58 z := by rw [u3, u3', ho2]
        have ec : s_X4_copy 0 (nI s) (nI z) a3 a4 a5 M = cc84 s z 1 1 a3 a4 a5 M := by
          rw [c_copy hR hs hz t2 t3 t2' t3', if_pos rfl, if_pos rfl, if_neg q10, if_neg q10, if_pos hk]
        have er : ∀ K, yRf K → K.1 57 s = 1 → K.1 57 z = 1 → K.1 58 s = K.1 58 z → K.1 59 s = nI n → K.1 59 z = nI n' → s_X5_copy 49 (nI s) (nI z) a3 a4 a5 K = if 0 ≤ a5 then if a3 < 0 then rno (-5) K else if a4 < 0 then rno (-5) K else if nI n - a5 < a3 then rno (-5) K else if a4 ≤ nI n' - a5 then s_X5_copy_167 49 (nI s) (nI z) a3 a4 a5 2000 0 K else rno (-5) K else rno (-4) K := by
          intro K k0 k1 k2 k3 k4 k5
          rw [r_copy k0 hs hz, r_copy84 k0 hs hz, k1, k2, if_neg (show ¬ (1 : Int32) = 2 by decide), if_neg (show ¬ (1 : Int32) = 2 by decide), if_pos rfl, if_pos rfl, if_pos k3, if_neg q10, if_neg q10, k4, k5]
        have erb := fun j => er (bC j M) hR (by rw [x57, t1]) (by rw [x57, t1']) (by rw [x58, x58, hk2]) (by rw [x59, u4]) (by rw [x59, u4'])
        have ec2 : ∀ {y}, (if 0 ≤ a5 then hf_bd (s_X2_hasPart (33 + 2 * s) a3 a5 M) (fun r M => if r = 0 then cno (-5) M else hf_bd (s_X2_hasPart (33 + 2 * z) a4 a5 M) (fun r M => if r = 0 then cno (-5) M else hf_rf (M.2.2 (33 + 2 * s) 0) (fun q33 => hf_rf (M.2.2 (33 + 2 * z) 0) (fun q34 => hf_acL M q33 a3 q34 a4 a5 (fun M35 => some (1, M35)))))) else cno (-4) M) = y → s_X4_copy 0 (nI s) (nI z) a3 a4 a5 M = y := by
          intro y hy
          rw [← hy, ec]
          unfold cc84
          rw [if_neg q10, if_neg q10]
        by_cases h5 : 0 ≤ a5
        · obtain ⟨m, hm, rfl⟩ := nI_of (Int32.not_lt.mpr h5)
          have cp1 := c_part u2 hn hm a3
          have cp2 := c_part u2' hn' hm a4
          have le2 : ∀ {a b : Int32}, ¬ b < a → a ≤ b := fun h => Int32.not_lt.mp h
          by_cases hp1 : ypt a3 m n = true
          · by_cases hp2 : ypt a4 m n' = true
            · have g1 := hp1
              have g2 := hp2
              unfold ypt at g1 g2
              rw [Bool.and_eq_true, Bool.not_eq_true', decide_eq_false_iff_not, decide_eq_true_eq] at g1 g2
              obtain ⟨x, hx, rfl⟩ := nI_of g1.1
              obtain ⟨y, hy, rfl⟩ := nI_of g2.1
              have i1 := g1.2
              have i2 := g2.2
              rw [nI_clamp hx] at i1
              rw [nI_clamp hy] at i2
              have hN : yRf (hf_cpL M (34 + 2 * s) x (34 + 2 * z) y m) := hR
              obtain ⟨K, b1, b2, b3, b4, b5, b6⟩ := r_cp1 hs (show x + m ≤ 160 by omega) (nI z) (nI y) m 0 2000 (hf_cpL M (34 + 2 * s) x (34 + 2 * z) y m) (by omega) (by omega) hN
              have hK : yRf K := fun k j hk => by rw [b3]; exact hR k j hk
              obtain ⟨L, c1, c2, c3, c4, c5⟩ := r_cp2 hz (show y + m ≤ 160 by omega) m 0 2000 K (by omega) (by omega) hK
              have v61 : ∀ j, (hf_cpL M (34 + 2 * s) x (34 + 2 * z) y m).2.1 61 j = M.2.1 61 j := fun j => if_neg (by omega)
              have v0 : ∀ k j, k ≠ 34 + 2 * z → (hf_cpL M (34 + 2 * s) x (34 + 2 * z) y m).2.1 k j = M.2.1 k j := fun k j hk => if_neg hk
              have vz : ∀ j, (hf_cpL M (34 + 2 * s) x (34 + 2 * z) y m).2.1 (34 + 2 * z) j = va_cpy (M.2.1 (34 + 2 * s)) (M.2.1 (34 + 2 * z)) x y m j := fun j => if_pos rfl
              refine ⟨1, hf_cpL M (34 + 2 * s) x (34 + 2 * z) y m, L, ec2 ?_, ?_, Jv_shelf hJ hRe hz (c3.trans b3) (fun k j hk => ⟨?_, ?_⟩) (Or.inr (Or.inr ⟨o', n', ho', hn', ?_, ?_, ?_, ?_, ?_, fun j hj => ?_⟩))⟩
              · rw [if_pos h5, cp1, qb1, hp1, qb_ifT, cp2, qb1, hp2, qb_ifT, sh_r0 hR hs, qrs, sh_r0 hR hz, qrs]
                unfold hf_acL
                rw [nI_clamp hx, nI_clamp hy, nI_clamp hm, sh_len hs, sh_len hz, if_pos ⟨nI_pos hx, nI_pos hy, nI_pos hm, by omega, by omega⟩]
              · have b1' : s_X5_copy_167 49 (nI s) (nI z) (nI x) (nI y) (nI m) 2000 0 (hf_cpL M (34 + 2 * s) x (34 + 2 * z) y m) = _ := b1
                have c1' : s_X5_copy_205 49 (nI z) (nI y) (nI m) 2000 0 K = _ := c1
                rw [er _ hN t1 t1' hk2 u4 u4', if_pos h5, if_neg (nI_pos hx), if_neg (nI_pos hy), if_neg (fun e => absurd ((part32 hx hm hn).mp e) (by omega)), if_pos (le2 (fun e => absurd ((part32 hy hm hn').mp e) (by omega))), b1', c1']
              · rw [c2, b2]; rfl
              · rw [c4 k j (by omega), b4 k j (by omega), v0 k j (by omega)]
              · rw [c2, b2]; exact u1'
              · rw [c2, b2]; exact u2'
              · rw [c2, b2]; exact t1'
              · rw [c2, b2]; exact u3'
              · rw [c2, b2]; exact u4'
              · rw [c4 (34 + 2 * z) j (by omega), b4 (34 + 2 * z) j (by omega), vz]
                by_cases hc : y ≤ j ∧ j < y + m
                · have e61 : 160 * z + j = 160 * z + y + (j - y) := by omega
                  rw [pk_cpy_in hc.1 hc.2, e61, c5 (j - y) (by omega) (by omega), b5 (j - y) (by omega) (by omega), v61, u5 _ (by omega), Nat.add_assoc]
                · rw [pk_cpy_out (by omega), c4 61 _ (by omega), b4 61 _ (by decide), v61]
                  exact u5' j hj
            · have hp2' : ypt a4 m n' = false := Bool.eq_false_iff.mpr hp2
              refine hno (-5) 5 rfl (by decide) (by decide) (ec2 ?_) ?_
              · rw [if_pos h5, cp1, qb1, hp1, qb_ifT, cp2, qb1, hp2', qb_ifF]
              · have g1 := hp1
                unfold ypt at g1
                rw [Bool.and_eq_true, Bool.not_eq_true', decide_eq_false_iff_not, decide_eq_true_eq] at g1
                obtain ⟨x, hx, rfl⟩ := nI_of g1.1
                have i1 := g1.2
                rw [nI_clamp hx] at i1
                rw [erb, if_pos h5, if_neg (nI_pos hx)]
                by_cases h4 : a4 < 0
                · rw [if_pos h4]
                · obtain ⟨y, hy, rfl⟩ := nI_of h4
                  have i2 : n' < y + m := by
                    unfold ypt at hp2'
                    rw [decide_eq_false h4, nI_clamp hy] at hp2'
                    have := of_decide_eq_false hp2'
                    omega
                  rw [if_neg h4, if_neg (fun e => absurd ((part32 hx hm hn).mp e) (by omega)), if_neg (fun e => absurd ((part32 hy hm hn').mpr i2) (Int32.not_lt.mpr e))]
          · have hp1' : ypt a3 m n = false := Bool.eq_false_iff.mpr hp1
            refine hno (-5) 5 rfl (by decide) (by decide) (ec2 ?_) ?_
            · rw [if_pos h5, cp1, qb1, hp1', qb_ifF]
            · rw [erb, if_pos h5]
              by_cases h3 : a3 < 0
              · rw [if_pos h3]
              · obtain ⟨x, hx, rfl⟩ := nI_of h3
                have i1 : n < x + m := by
                  unfold ypt at hp1'
                  rw [decide_eq_false h3, nI_clamp hx] at hp1'
                  have := of_decide_eq_false hp1'
                  omega
                rw [if_neg h3, if_pos ((part32 hx hm hn).mpr i1)]
                by_cases h4 : a4 < 0
                · rw [if_pos h4]
                · rw [if_neg h4]
        · refine hno (-4) 4 rfl (by decide) (by decide) (ec2 ?_) ?_
          · rw [if_neg h5]
          · rw [erb, if_neg h5]
      · have hk : ¬ M.1 (33 + 2 * s) 1 = M.1 (33 + 2 * z) 1 := by
          rw [u1, u1']
          intro e
          have := (nI_eq (by omega) (by omega)).mp e
          omega
        have hk2 : ¬ M.1 58 s = M.1 58 z := by
          rw [u3, u3']
          intro e
          have := (nI_eq (by omega) (by omega)).mp e
          omega
        refine hno (-2) 2 rfl (by decide) (by decide) ?_ ?_
        · rw [c_copy hR hs hz t2 t3 t2' t3', if_pos rfl, if_pos rfl, if_neg q10, if_neg q10, if_neg hk]
        · rw [rc, x57, x57, x58, x58, t1, t1', if_neg (show ¬ (1 : Int32) = 2 by decide), if_neg (show ¬ (1 : Int32) = 2 by decide), if_pos rfl, if_pos rfl, if_neg hk2]
