/-! the reference's acts -/
def rX (k p : Nat) (K : Int32) (N : hf_M) : Prop := yRf N ∧ p < 6 ∧ N.1 52 p = nI k ∧ N.1 53 p = K
section acts
variable {N : hf_M} {κ p : Nat} {K : Int32}
theorem RM52 {β : Type} (h : rX κ p K N) {l : List Int32} (k : Int32 → Option β) : hf_rf ((TM 49 36 68 N l).2.2 49 12) (fun q => hf_ldI (TM 49 36 68 N l) q (nI p) k) = k (nI κ) := by
  have l6 : p < hf_len 52 := h.2.1
  have e : (TM 49 36 68 N l).2.2 49 12 = some 52 := (h.1 49 12 (by decide)).trans rfl
  rw [e, qrs, qlI _ l6, TM_o (by omega) (by decide), h.2.2.1]
theorem RM53 {β : Type} (h : rX κ p K N) {l : List Int32} (k : Int32 → Option β) : hf_rf ((TM 49 36 68 N l).2.2 49 13) (fun q => hf_ldI (TM 49 36 68 N l) q (nI p) k) = k K := by
  have l6 : p < hf_len 53 := h.2.1
  have e : (TM 49 36 68 N l).2.2 49 13 = some 53 := (h.1 49 13 (by decide)).trans rfl
  rw [e, qrs, qlI _ l6, TM_o (by omega) (by decide), h.2.2.2]
theorem eqk (hκ : κ ≤ 6) (c : Nat) (hc : c ≤ 6) (x : Int32) (hx : x = nI c) : (nI κ = x) = (κ = c) := by
  subst hx
  exact propext (nI_eq (by omega) (by omega))
theorem r_saying (h : rX κ p K N) (hκ : κ ≤ 6) {a : Int32} {l : List Int32} (hl : l.length < 90) : s_X5_saying 49 (nI p) a (TM 49 36 68 N l) = some (vS κ a (nI p) K, TM 49 36 68 N (l ++ lS κ)) := by
  have h7 : κ = 0 ∨ κ = 1 ∨ κ = 2 ∨ κ = 3 ∨ κ = 4 ∨ κ = 5 ∨ κ = 6 := by omega
  have b1 : ∀ x, s_X5_body 49 x (TM 49 36 68 N l) = _ := fun x => r_body h.1 (by omega) x
  have b2 : ∀ x y, s_X5_body 49 y (TM 49 36 68 N (l ++ [x])) = _ := fun x y => r_body h.1 (by rw [len1]; omega) y
  have b3 : ∀ x y z, s_X5_body 49 z (TM 49 36 68 N (l ++ [x] ++ [y])) = _ := fun x y z => r_body h.1 (by rw [len1, len1]; omega) z
  unfold s_X5_saying s_X5_saying_26 s_X5_saying_36 s_X5_saying_42 s_X5_saying_54
  rw [RM52 h]
  simp only [eqk hκ 3 (by omega) 3 rfl, eqk hκ 1 (by omega) 1 rfl, eqk hκ 6 (by omega) 6 rfl]
  rcases h7 with rfl | rfl | rfl | rfl | rfl | rfl | rfl
  · show hf_bd (s_X5_body 49 10 (TM 49 36 68 N l)) (fun _ M => some (a + nI p, M)) = _
    rw [b1, qb1]; rfl
  · show hf_bd (s_X5_body 49 20 (TM 49 36 68 N l)) (fun _ M => hf_bd (s_X5_body 49 10 M) (fun _ M2 => hf_rf (M2.2.2 49 13) (fun q => hf_ldI M2 q (nI p) (fun r => some (a + nI p + r, M2))))) = _
    rw [b1, qb1, b2, qb1, RM53 h, List.append_assoc]; rfl
  · show hf_bd (s_X5_body 49 10 (TM 49 36 68 N l)) (fun _ M => some (a + nI p, M)) = _
    rw [b1, qb1]; rfl
  · show hf_bd (s_X5_body 49 30 (TM 49 36 68 N l)) (fun _ M => hf_bd (s_X5_body 49 20 M) (fun _ M => hf_bd (s_X5_body 49 10 M) (fun _ M2 => hf_rf (M2.2.2 49 13) (fun q => hf_ldI M2 q (nI p) (fun r => some (a + 1 + nI p + r, M2)))))) = _
    rw [b1, qb1, b2, qb1, b3, qb1, RM53 h, List.append_assoc, List.append_assoc]; rfl
  · show hf_bd (s_X5_body 49 10 (TM 49 36 68 N l)) (fun _ M => some (a + nI p, M)) = _
    rw [b1, qb1]; rfl
  · show hf_bd (s_X5_body 49 10 (TM 49 36 68 N l)) (fun _ M => some (a + nI p, M)) = _
    rw [b1, qb1]; rfl
  · show hf_bd (s_X5_body 49 70 (TM 49 36 68 N l)) (fun _ M => hf_bd (s_X5_body 49 10 M) (fun _ M2 => some ((a + nI p) * 2, M2))) = _
    rw [b1, qb1, b2, qb1, List.append_assoc]; rfl
theorem r_hiding (h : rX κ p K N) (hκ : κ ≤ 6) {a : Int32} {l : List Int32} (hl : l.length < 80) : s_X5_hiding 49 (nI p) a (TM 49 36 68 N l) = some (vH κ a (nI p) K, TM 49 36 68 N (l ++ lH κ)) := by
  have h7 : κ = 0 ∨ κ = 1 ∨ κ = 2 ∨ κ = 3 ∨ κ = 4 ∨ κ = 5 ∨ κ = 6 := by omega
  have b1 : ∀ x, s_X5_body 49 x (TM 49 36 68 N l) = _ := fun x => r_body h.1 (by omega) x
  have b2 : ∀ x y, s_X5_body 49 y (TM 49 36 68 N (l ++ [x])) = _ := fun x y => r_body h.1 (by rw [len1]; omega) y
  have b3 : ∀ x y z, s_X5_body 49 z (TM 49 36 68 N (l ++ [x] ++ [y])) = _ := fun x y z => r_body h.1 (by rw [len1, len1]; omega) z
  have c1 : ∀ x, s_X5_saying 49 (nI p) a (TM 49 36 68 N (l ++ [x])) = _ := fun x => r_saying h hκ (by rw [len1]; omega)
  have c2 : ∀ x y, s_X5_saying 49 (nI p) a (TM 49 36 68 N (l ++ [x] ++ [y])) = _ := fun x y => r_saying h hκ (by rw [len1, len1]; omega)
  have c3 : ∀ x y z, s_X5_saying 49 (nI p) a (TM 49 36 68 N (l ++ [x] ++ [y] ++ [z])) = _ := fun x y z => r_saying h hκ (by rw [len1, len1, len1]; omega)
  unfold s_X5_hiding s_X5_hiding_18 s_X5_hiding_29 s_X5_hiding_39 s_X5_hiding_45
  rw [RM52 h]
  simp only [eqk hκ 2 (by omega) 2 rfl, eqk hκ 4 (by omega) 4 rfl, eqk hκ 5 (by omega) 5 rfl]
  have d0 : ∀ {y : Option (Int32 × hf_M)}, some (vS κ a (nI p) K * 2, TM 49 36 68 N (l ++ 11 :: lS κ)) = y → hf_bd (s_X5_body 49 11 (TM 49 36 68 N l)) (fun _ M2 => hf_bd (s_X5_saying 49 (nI p) a M2) (fun r3 M4 => some (r3 * 2, M4))) = y := by
    intro y hy
    rw [b1, qb1, c1, qb1, List.append_assoc, ← hy]; rfl
  rcases h7 with rfl | rfl | rfl | rfl | rfl | rfl | rfl
  · exact d0 rfl
  · exact d0 rfl
  · show hf_bd (s_X5_body 49 40 (TM 49 36 68 N l)) (fun _ M => hf_bd (s_X5_body 49 11 M) (fun _ M2 => hf_bd (s_X5_saying 49 (nI p) a M2) (fun r3 M4 => some (r3 * 2 * 3, M4)))) = _
    rw [b1, qb1, b2, qb1, c2, qb1, List.append_assoc, List.append_assoc]; rfl
  · exact d0 rfl
  · show hf_bd (s_X5_body 49 50 (TM 49 36 68 N l)) (fun _ M => hf_bd (s_X5_body 49 11 M) (fun _ M2 => hf_bd (s_X5_saying 49 (nI p) a M2) (fun r3 M4 => some (-(r3 * 2), M4)))) = _
    rw [b1, qb1, b2, qb1, c2, qb1, List.append_assoc, List.append_assoc]; rfl
  · show hf_bd (s_X5_body 49 60 (TM 49 36 68 N l)) (fun _ M => hf_bd (s_X5_body 49 50 M) (fun _ M => hf_bd (s_X5_body 49 11 M) (fun _ M2 => hf_bd (s_X5_saying 49 (nI p) a M2) (fun r3 M4 => some ((-(r3 * 2)) ^^^ 5, M4))))) = _
    rw [b1, qb1, b2, qb1, b3, qb1, c3, qb1, List.append_assoc, List.append_assoc, List.append_assoc]; rfl
  · exact d0 rfl
theorem r_knowing (h : rX κ p K N) (hκ : κ ≤ 6) {a : Int32} {l : List Int32} (hl : l.length < 60) : s_X5_knowing 49 (nI p) a (TM 49 36 68 N l) = some (vK κ a (nI p) K, TM 49 36 68 N (l ++ lK κ)) := by
  have h7 : κ = 0 ∨ κ = 1 ∨ κ = 2 ∨ κ = 3 ∨ κ = 4 ∨ κ = 5 ∨ κ = 6 := by omega
  have hh := lH_len κ
  have b1 : ∀ x, s_X5_body 49 x (TM 49 36 68 N l) = _ := fun x => r_body h.1 (by omega) x
  have b2 : ∀ x y, s_X5_body 49 y (TM 49 36 68 N (l ++ [x])) = _ := fun x y => r_body h.1 (by rw [len1]; omega) y
  have c1 : ∀ x c, s_X5_hiding 49 (nI p) c (TM 49 36 68 N (l ++ [x])) = _ := fun x c => r_hiding h hκ (by rw [len1]; omega)
  have c2 : ∀ x y c, s_X5_hiding 49 (nI p) c (TM 49 36 68 N (l ++ [x] ++ [y])) = _ := fun x y c => r_hiding h hκ (by rw [len1, len1]; omega)
  have e1 : ∀ x c, s_X5_saying 49 (nI p) c (TM 49 36 68 N (l ++ [x] ++ lH κ)) = _ := fun x c => r_saying h hκ (by rw [List.length_append, len1]; omega)
  have e2 : ∀ x y c, s_X5_saying 49 (nI p) c (TM 49 36 68 N (l ++ [x] ++ [y] ++ lH κ)) = _ := fun x y c => r_saying h hκ (by rw [List.length_append, len1, len1]; omega)
  unfold s_X5_knowing
  rw [RM52 h]
  simp only [eqk hκ 3 (by omega) 3 rfl, eqk hκ 6 (by omega) 6 rfl]
  have d0 : ∀ {y : Option (Int32 × hf_M)}, some (vH κ a (nI p) K ^^^ vS κ (a - K) (nI p) K, TM 49 36 68 N (l ++ 12 :: (lH κ ++ lS κ))) = y → hf_bd (s_X5_body 49 12 (TM 49 36 68 N l)) (fun _ M4 => hf_bd (s_X5_hiding 49 (nI p) a M4) (fun r5 M6 => hf_rf (M6.2.2 49 13) (fun q7 => hf_ldI M6 q7 (nI p) (fun r8 => hf_bd (s_X5_saying 49 (nI p) (a - r8) M6) (fun r9 M10 => some (r5 ^^^ r9, M10)))))) = y := by
    intro y hy
    rw [b1, qb1, c1, qb1, RM53 h, e1, qb1, List.append_assoc, List.append_assoc, ← hy]; rfl
  rcases h7 with rfl | rfl | rfl | rfl | rfl | rfl | rfl
  · exact d0 rfl
  · exact d0 rfl
  · exact d0 rfl
  · show hf_bd (s_X5_body 49 31 (TM 49 36 68 N l)) (fun _ M => hf_bd (s_X5_body 49 12 M) (fun _ M4 => hf_bd (s_X5_hiding 49 (nI p) a M4) (fun r5 M6 => hf_rf (M6.2.2 49 13) (fun q7 => hf_ldI M6 q7 (nI p) (fun r8 => hf_bd (s_X5_saying 49 (nI p) (a - r8) M6) (fun r9 M10 => some ((r5 ^^^ r9) - nI p, M10))))))) = _
    rw [b1, qb1, b2, qb1, c2, qb1, RM53 h, e2, qb1, List.append_assoc, List.append_assoc, List.append_assoc]; rfl
  · exact d0 rfl
  · exact d0 rfl
  · show hf_bd (s_X5_body 49 71 (TM 49 36 68 N l)) (fun _ M => hf_rf (M.2.2 49 13) (fun q => hf_ldI M q (nI p) (fun r => hf_bd (s_X5_body 49 12 M) (fun _ M4 => hf_bd (s_X5_hiding 49 (nI p) (a - r) M4) (fun r5 M6 => hf_rf (M6.2.2 49 13) (fun q7 => hf_ldI M6 q7 (nI p) (fun r8 => hf_bd (s_X5_saying 49 (nI p) (a - r - r8) M6) (fun r9 M10 => some (r5 ^^^ r9, M10))))))))) = _
    rw [b1, qb1, RM53 h, b2, qb1, c2, qb1, RM53 h, e2, qb1, List.append_assoc, List.append_assoc, List.append_assoc]; rfl
end acts
def Ga (k j : Nat) : Prop := k = 30 ∨ k = 31 ∨ k = 68 ∨ (k = 49 ∧ j = 36)
theorem Jv_act {υ : hU} {M N : hf_M} (hJ : Jv υ M) (hg : gG Ga M N) (ht : iTr N) : Jv υ N := by
  obtain ⟨j1, j2, j3, j4, j5, j6, j7, j8, j9⟩ := hJ
  refine ⟨gG_rf hg j1, j2, cU_ag (ag_g hg (fun k j hk hn => ?_)) j3, rU_ag (ag_g hg (fun k j hk hn => ?_)) j4, iSh_ag (fun k j hk => hg.2 k j ?_) j5, iIm_ag (fun k j hk => hg.2 k j ?_) j6, ?_, ht, fun j => ?_⟩
  · unfold Zc at hk; unfold Ga at hn; omega
  · unfold Zr at hk; unfold Ga at hn; omega
  · unfold Ga; omega
  · unfold Ga; omega
  · unfold iFa
    rw [(hg.2 0 8 (by unfold Ga; omega)).1, (hg.2 49 8 (by unfold Ga; omega)).1]; exact j7
  · rw [(hg.2 63 j (by unfold Ga; omega)).1]; exact j9 j
theorem act_fin {υ : hU} {M N : hf_M} (hJ : Jv υ M) (hR : iRe M) (hg : gG Ga M N) {l : List Int32} (hl : l.length < 100) : Inv (TM 49 36 68 (TM 30 1 31 N l) l) := by
  have g1 : gG Ga M (TM 49 36 68 (TM 30 1 31 N l) l) := ⟨hg.1, fun k j hk => by
    unfold Ga at hk
    refine ⟨?_, (hg.2 k j hk).2⟩
    rw [TM_o (by omega) (by omega), TM_o (by omega) (by omega)]
    exact (hg.2 k j hk).1⟩
  refine ⟨υ, Jv_act hJ g1 ⟨l.length, by omega, ?_, TM_n, fun i h1 h2 => ?_⟩, fun j h1 h2 => ?_⟩
  · rw [TM_o (by omega) (by decide), TM_n]
  · rw [TM_o (by omega) (by decide), TM_b (by decide) h1 h2, TM_b (by decide) h1 h2]
  · rw [(g1.2 32 j (by unfold Ga; omega)).1, (g1.2 50 j (by unfold Ga; omega)).1]; exact hR j h1 h2
theorem p_act : hs_act Inv := by
  intro M ⟨υ, hJ, hRe⟩ a1 a2 a3
  have hP6 := (jw hJ).1.2.1
  have h5 : M.2.2 0 5 = some 30 := yr0 hJ.1 rfl
  have h0 := j0 hJ
  have h11 : M.2.2 1 1 = some 3 := cr1 hJ.1 q1
  have h12 : M.2.2 1 2 = some 4 := cr2 hJ.1 q1
  have hb := (jc hJ).1
  have hr := (jr hJ).1
  have r0 : ∀ {K : hf_M}, K.1 49 36 = 0 → hf_sI K 49 36 0 = K := by
    intro K hK
    refine Prod.ext (funext fun a => funext fun i => ?_) rfl
    show (if a = 49 ∧ i = 36 then (0 : Int32) else K.1 a i) = _
    by_cases e : a = 49 ∧ i = 36
    · rw [if_pos e, e.1, e.2, hK]
    · rw [if_neg e]
  have hno : s_X4_act 0 a1 a2 a3 M = some (0, hf_sI M 30 1 0) → (∀ K : hf_M, K.1 49 1 = M.1 49 1 → s_X5_act 49 a1 a2 a3 K = some (0, hf_sI K 49 36 0)) → ∃ r M1 M2, s_X4_act 0 a1 a2 a3 M = some (r, M1) ∧ s_X5_act 49 a1 a2 a3 M1 = some (r, M2) ∧ Inv M2 := by
    intro e1 e2
    refine ⟨0, hf_sI M 30 1 0, hf_sI (hf_sI M 30 1 0) 49 36 0, e1, e2 _ (by rw [gI (by omega)]), ?_⟩
    have f := act_fin (N := hf_sI (hf_sI M 30 1 0) 49 36 0) hJ hRe ⟨rfl, fun k j hk => ⟨by unfold Ga at hk; rw [gI (by omega), gI (by omega)], rfl⟩⟩ (l := []) (by decide)
    rw [TM_id (show (hf_sI (hf_sI M 30 1 0) 49 36 0).1 30 1 = 0 by rw [gI (by omega), gI0]), TM_id (show (hf_sI (hf_sI M 30 1 0) 49 36 0).1 49 36 = 0 from gI0)] at f
    exact f
  have ecb : ∀ {y}, hf_bd (s_X3_isSpeaker 1 a1 (hf_sI M 30 1 0)) (fun r5 M6 => if r5 = 0 then some (0, M6) else hf_bd (s_X4_within a2 0 2 M6) (fun r7 M8 => if r7 = 0 then some (0, M8) else hf_rf (M8.2.2 0 5) (fun q9 => hf_rf (M8.2.2 0 0) (fun q10 => hf_rf (M8.2.2 q10 1) (fun q11 => hf_ldI M8 q11 a1 (fun r12 => hf_rf (M8.2.2 0 0) (fun q13 => hf_rf (M8.2.2 q13 2) (fun q14 => hf_ldI M8 q14 a1 (fun r15 => hf_bd (s_X0_perform q9 r12 a1 r15 a2 a3 M8) (fun r16 M17 => some (r16, M17))))))))))) = y → s_X4_act 0 a1 a2 a3 M = y := by
    intro y hy
    unfold s_X4_act s_X0_begin
    rw [h5, qrs, qpt, qb1]
    show hf_rf (M.2.2 0 0) _ = _
    rw [h0, qrs]
    exact hy
  have eSp := c_isSp (M := hf_sI M 30 1 0) (q := 1) (by rw [gI (by omega)]; exact hb.1.2.1) a1
  cases hs : yin a1 (yP (uT υ))
  · refine hno (ecb ?_) (fun K hK => ?_)
    · rw [eSp, qb1, hs, qb_ifF]
    · unfold s_X5_act
      rw [qpt, r_isSp (M := hf_sI K 49 36 0) (by rw [gI (by omega), hK]; exact hr.1.2.1), qb1, hs, qb_ifF]
  · obtain ⟨p, hp, rfl⟩ := yin_T hs (by omega)
    have hr5 : ∀ K : hf_M, K.1 49 1 = M.1 49 1 → ∀ {y}, (if a2 < 0 then some (0, hf_sI K 49 36 0) else if a2 ≤ 2 then if a2 = 0 then hf_bd (s_X5_saying 49 (nI p) a3 (hf_sI K 49 36 0)) (fun r8 M9 => some (r8, M9)) else if a2 = 1 then hf_bd (s_X5_hiding 49 (nI p) a3 (hf_sI K 49 36 0)) (fun r6 M7 => some (r6, M7)) else hf_bd (s_X5_knowing 49 (nI p) a3 (hf_sI K 49 36 0)) (fun r4 M5 => some (r4, M5)) else some (0, hf_sI K 49 36 0)) = y → s_X5_act 49 (nI p) a2 a3 K = y := by
      intro K hK y hy
      unfold s_X5_act
      rw [qpt, r_isSp (M := hf_sI K 49 36 0) (by rw [gI (by omega), hK]; exact hr.1.2.1), qb1, hs, qb_ifT]
      exact hy
    by_cases g0 : a2 < 0
    · refine hno (ecb ?_) (fun K hK => hr5 K hK ?_)
      · unfold s_X4_within
        rw [eSp, qb1, hs, qb_ifT, if_pos g0, qb1, if_pos rfl]
      · rw [if_pos g0]
    by_cases g2 : 2 < a2
    · refine hno (ecb ?_) (fun K hK => hr5 K hK ?_)
      · unfold s_X4_within
        rw [eSp, qb1, hs, qb_ifT, if_neg g0, if_pos g2, qb1, if_pos rfl]
      · rw [if_neg g0, if_neg (fun e => Int32.not_lt.mpr e g2)]
    have hk6 : yk (uT υ) p ≤ 6 := ((jw hJ).2.1 p hp).1
    have hN : ∀ N' : hf_M, N' = hf_sI (hf_sI (hf_sI (hf_sI M 30 1 0) 30 2 (nI (yk (uT υ) p))) 30 3 (nI p)) 30 4 (nI (yc (uT υ) p)) → gG Ga M N' ∧ hX (yk (uT υ) p) (nI p) (nI (yc (uT υ) p)) N' ∧ TM 30 1 31 N' [] = N' := by
      intro N' e
      subst e
      refine ⟨⟨rfl, fun k j hk => ⟨by unfold Ga at hk; rw [gI (by omega), gI (by omega), gI (by omega), gI (by omega)], rfl⟩⟩, ⟨hJ.1, ?_, ?_, gI0⟩, TM_id ?_⟩
      · rw [gI (by omega), gI (by omega), gI0]
      · rw [gI (by omega), gI0]
      · rw [gI (by omega), gI (by omega), gI (by omega), gI0]
    obtain ⟨N', eN⟩ : ∃ N', N' = hf_sI (hf_sI (hf_sI (hf_sI M 30 1 0) 30 2 (nI (yk (uT υ) p))) 30 3 (nI p)) 30 4 (nI (yc (uT υ) p)) := ⟨_, rfl⟩
    obtain ⟨n1, n2, n3⟩ := hN N' eN
    have ecl : ∀ {v l}, s_X0_run 24 30 (nI (yk (uT υ) p)) a2 a3 (nI 0) (TM 30 1 31 N' []) = some (v, TM 30 1 31 N' ([] ++ l)) → s_X4_act 0 (nI p) a2 a3 M = some (v, TM 30 1 31 N' l) := by
      intro v l hv
      rw [n3, eN] at hv
      have hv' : s_X0_run 24 30 (nI (yk (uT υ) p)) a2 a3 0 (hf_sI (hf_sI (hf_sI (hf_sI M 30 1 0) 30 2 (nI (yk (uT υ) p))) 30 3 (nI p)) 30 4 (nI (yc (uT υ) p))) = some (v, TM 30 1 31 N' l) := by rw [eN]; exact hv
      refine ecb ?_
      unfold s_X4_within s_X0_perform
      have l3 : p < hf_len 3 := by show p < 6; omega
      have l4 : p < hf_len 4 := by show p < 6; omega
      rw [eSp, qb1, hs, qb_ifT, if_neg g0, if_neg g2, qb1, if_neg q10]
      show hf_rf (M.2.2 0 5) _ = _
      rw [h5, qrs]
      show hf_rf (M.2.2 0 0) _ = _
      rw [h0, qrs]
      show hf_rf (M.2.2 1 1) _ = _
      rw [h11, qrs, qlI _ l3, gI (by omega), (hb.2.1 p hp).1]
      show hf_rf (M.2.2 0 0) _ = _
      rw [h0, qrs]
      show hf_rf (M.2.2 1 2) _ = _
      rw [h12, qrs, qlI _ l4, gI (by omega), (hb.2.1 p hp).2.1, qpt, qpt, qpt]
      have e2 : (hf_sI (hf_sI (hf_sI (hf_sI M 30 1 0) 30 2 (nI (yk (uT υ) p))) 30 3 (nI p)) 30 4 (nI (yc (uT υ) p))).1 30 2 = nI (yk (uT υ) p) := by rw [gI (by omega), gI (by omega), gI0]
      rw [e2, hv', qb1, qb1]
    have fin : ∀ {v l}, l.length < 100 → s_X0_run 24 30 (nI (yk (uT υ) p)) a2 a3 (nI 0) (TM 30 1 31 N' []) = some (v, TM 30 1 31 N' ([] ++ l)) → (∀ K : hf_M, rX (yk (uT υ) p) p (nI (yc (uT υ) p)) K → TM 49 36 68 K [] = hf_sI (TM 30 1 31 N' l) 49 36 0 → s_X5_act 49 (nI p) a2 a3 (TM 30 1 31 N' l) = some (v, TM 49 36 68 K ([] ++ l))) → ∃ r M1 M2, s_X4_act 0 (nI p) a2 a3 M = some (r, M1) ∧ s_X5_act 49 (nI p) a2 a3 M1 = some (r, M2) ∧ Inv M2 := by
      intro v l hl e1 e2
      have eK : hf_sI (TM 30 1 31 N' l) 49 36 0 = TM 30 1 31 (hf_sI N' 49 36 0) l := by
        refine Prod.ext (funext fun a => funext fun i => ?_) rfl
        show (if a = 49 ∧ i = 36 then (0 : Int32) else if a = 30 ∧ i = 1 then nI l.length else if a = 31 ∧ i < l.length ∧ i < 20 then l.getD i 0 else N'.1 a i) = (if a = 30 ∧ i = 1 then nI l.length else if a = 31 ∧ i < l.length ∧ i < 20 then l.getD i 0 else if a = 49 ∧ i = 36 then (0 : Int32) else N'.1 a i)
        by_cases e : a = 49 ∧ i = 36
        · rw [if_pos e, if_neg (by omega), if_neg (by omega), if_pos e]
        · rw [if_neg e, if_neg e]
      have gK : gG Ga M (hf_sI N' 49 36 0) := ⟨n1.1, fun k j hk => ⟨by
        rw [gI (by unfold Ga at hk; omega)]; exact (n1.2 k j hk).1, (n1.2 k j hk).2⟩⟩
      refine ⟨v, TM 30 1 31 N' l, TM 49 36 68 (hf_sI (TM 30 1 31 N' l) 49 36 0) l, ecl e1, e2 (hf_sI (TM 30 1 31 N' l) 49 36 0) ⟨?_, by omega, ?_, ?_⟩ (TM_id gI0), ?_⟩
      · exact fun k j hk => (n2.1 k j hk)
      · rw [gI (by omega), TM_o (by omega) (by decide), (n1.2 52 p (by unfold Ga; omega)).1]; exact (hr.2.1 p hp).1
      · rw [gI (by omega), TM_o (by omega) (by decide), (n1.2 53 p (by unfold Ga; omega)).1]; exact (hr.2.1 p hp).2
      · rw [eK]
        exact act_fin hJ hRe gK hl
    have k49 : ∀ l, (TM 30 1 31 N' l).1 49 1 = M.1 49 1 := fun l => by
      rw [TM_o (by omega) (by decide), (n1.2 49 1 (by unfold Ga; omega)).1]
    obtain ⟨z, hz, rfl⟩ := nI_of2 (M := 2) (n := 2) (by decide) g0 (Int32.not_lt.mp g2)
    have hz3 : z = 0 ∨ z = 1 ∨ z = 2 := by omega
    have lS' := lS_len (yk (uT υ) p)
    have lH' := lH_len (yk (uT υ) p)
    have lK' := lK_len (yk (uT υ) p)
    rcases hz3 with rfl | rfl | rfl
    · refine fin (v := vS (yk (uT υ) p) a3 (nI p) (nI (yc (uT υ) p))) (l := lS (yk (uT υ) p)) (by omega) (run_say n2 hk6 (n := 21) (by omega) (by decide)) (fun K hK eK => hr5 _ (k49 _) ?_)
      rw [if_neg g0, if_pos (show nI 0 ≤ (2 : Int32) by decide), if_pos (show nI 0 = (0 : Int32) from rfl), ← eK, r_saying hK hk6 (by decide), qb1]
    · refine fin (v := vH (yk (uT υ) p) a3 (nI p) (nI (yc (uT υ) p))) (l := lH (yk (uT υ) p)) (by omega) (run_hide n2 hk6 (n := 18) (by omega) (by decide)) (fun K hK eK => hr5 _ (k49 _) ?_)
      rw [if_neg g0, if_pos (show nI 1 ≤ (2 : Int32) by decide), if_neg (show ¬ nI 1 = (0 : Int32) by decide), if_pos (show nI 1 = (1 : Int32) from rfl), ← eK, r_hiding hK hk6 (by decide), qb1]
    · refine fin (v := vK (yk (uT υ) p) a3 (nI p) (nI (yc (uT υ) p))) (l := lK (yk (uT υ) p)) (by omega) (run_know n2 hk6 (n := 16) (by omega) (by decide)) (fun K hK eK => hr5 _ (k49 _) ?_)
      rw [if_neg g0, if_pos (show nI 2 ≤ (2 : Int32) by decide), if_neg (show ¬ nI 2 = (0 : Int32) by decide), if_neg (show ¬ nI 2 = (1 : Int32) by decide), ← eK, r_knowing hK hk6 (by decide), qb1]
