/-! trust -/
theorem q_ar (x y a b : Int32) : (x - y) + a - b = (x + a) - (y + b) := by
  simp only [Int32.sub_eq_add_neg, Int32.neg_add, Int32.add_assoc]
  ac_rfl
theorem r_tr_loop {υ : hU} {p : Nat} (hp : p < yP (uT υ)) (hu : yFu (uT υ) p = false) : ∀ (k v fu : Nat) (M : hf_M), Jv υ M → 2 ^ yF (uT υ) = v + k → k < fu → ∃ K, s_X5_trust_71 49 (nI p) (yWd (uT υ) yA1 99) fu (nI (ypc (ycg (uT υ) p true) v) - nI (ypc (ycg (uT υ) p false) v)) (nI v) M = some (nI (ypc (ycg (uT υ) p true) (2 ^ yF (uT υ))) - nI (ypc (ycg (uT υ) p false) (2 ^ yF (uT υ))), K) ∧ gG (GG (yS (uT υ))) M K := by
  intro k
  induction k with
  | zero =>
    intro v fu M hJ hk hfu
    have hF := (jw hJ).1.1
    have h64 := q_pow64 hF
    obtain ⟨fu, rfl⟩ : ∃ u, fu = u + 1 := ⟨fu - 1, by omega⟩
    refine ⟨M, ?_, gG_refl _ _⟩
    rw [s_X5_trust_71, (jr hJ).1.1.1, q_pow hF, qi_le rfl rfl (by omega) (by omega), if_pos (by omega), hk, Nat.add_zero]
  | succ k ih =>
    intro v fu M hJ hk hfu
    have hF := (jw hJ).1.1
    have h64 := q_pow64 hF
    obtain ⟨fu, rfl⟩ : ∃ u, fu = u + 1 := ⟨fu - 1, by omega⟩
    rw [s_X5_trust_71, (jr hJ).1.1.1, q_pow hF, qi_le rfl rfl (by omega) (by omega), if_neg (by omega), qlshr1 _ (by omega), q_if_lg, nI_1]
    have eT : ∀ t, ypc (ycg (uT υ) p t) (v + 1) = ypc (ycg (uT υ) p t) v + (if ycg (uT υ) p t v = true then 1 else 0) := fun t => rfl
    cases hW : qlb (yWd (uT υ) yA1 99) v
    · obtain ⟨K, k1, k2⟩ := ih (v + 1) fu M hJ (by omega) (by omega)
      have e0 : ∀ t, ycg (uT υ) p t v = false := fun t => by unfold ycg; rw [hW]; rfl
      rw [eT, eT, e0, e0, if_neg (by decide), Nat.add_zero, Nat.add_zero] at k1
      refine ⟨K, ?_, k2⟩
      rw [if_neg (by decide)]
      exact k1
    · obtain ⟨K, k1, k2⟩ := j_lets hJ hp hu true (w := v) (by omega)
      have hK := Jv_GG hJ k2
      obtain ⟨L, l1, l2⟩ := j_lets hK hp hu false (w := v) (by omega)
      obtain ⟨N, n1, n2⟩ := ih (v + 1) fu L (Jv_GG hK l2) (by omega) (by omega)
      have e0 : ∀ t, ycg (uT υ) p t v = yok (yad (uT υ) p 0 (v.testBit 0 == t)) p yA1 v := fun t => by unfold ycg; rw [hW]; rfl
      have k1' : s_X5_lets 49 (nI p) (nI v) 1 M = some (qbI (yok (yad (uT υ) p 0 (v.testBit 0 == true)) p yA1 v), K) := k1
      have l1' : s_X5_lets 49 (nI p) (nI v) 0 K = some (qbI (yok (yad (uT υ) p 0 (v.testBit 0 == false)) p yA1 v), L) := l1
      have eI : ∀ t, nI (ypc (ycg (uT υ) p t) (v + 1)) = nI (ypc (ycg (uT υ) p t) v) + qbI (yok (yad (uT υ) p 0 (v.testBit 0 == t)) p yA1 v) := fun t => by
        rw [eT, e0]
        cases yok (yad (uT υ) p 0 (v.testBit 0 == t)) p yA1 v
        · rw [if_neg (by decide), qbI_f, Int32.add_zero, Nat.add_zero]
        · rw [if_pos rfl, qbI_t, nI_1]
      rw [eI, eI] at n1
      refine ⟨N, ?_, gG_tr (gG_tr k2 l2) n2⟩
      rw [if_pos rfl, k1', qb1, l1', qb1, qb1, q_ar, q_ar, q_ar, q_ar]
      cases hb1 : yok (yad (uT υ) p 0 (v.testBit 0 == true)) p yA1 v <;> cases hb2 : yok (yad (uT υ) p 0 (v.testBit 0 == false)) p yA1 v <;> rw [hb1, hb2] at n1 <;> simp only [qbI_t, qbI_f] at n1
      · rw [qb_ifF, qb_ifF]; exact n1
      · rw [qb_ifF, qb_ifT]; exact n1
      · rw [qb_ifT, qb_ifF]; exact n1
      · rw [qb_ifT, qb_ifT]; exact n1
theorem ypc_ext {g : Nat → Bool} {n m : Nat} (h : ∀ w, n ≤ w → w < n + m → g w = false) : ypc g (n + m) = ypc g n := by
  rw [ypc_split, ypc_all (fun k hk => h (n + k) (by omega) (by omega)), Nat.add_zero]
theorem ypop_cg {υ : hU} {M : hf_M} (hJ : Jv υ M) (p : Nat) (t : Bool) : ypop (yWd (uT υ) yA1 99 &&& yNx (uT υ) p t) = ypc (ycg (uT υ) p t) (2 ^ yF (uT υ)) := by
  have hF := (jw hJ).1.1
  have h64 := q_pow64 hF
  unfold ypop
  have e1 : ypc (qlb (yWd (uT υ) yA1 99 &&& yNx (uT υ) p t)) 64 = ypc (ycg (uT υ) p t) 64 := ypc_cong (fun w hw => by
    unfold yNx ycg
    rw [qlb_and, qof_b _ hw])
  rw [e1, show 64 = 2 ^ yF (uT υ) + (64 - 2 ^ yF (uT υ)) by omega]
  refine ypc_ext (fun w h1 h2 => ?_)
  unfold ycg
  cases hq : qlb (yWd (uT υ) yA1 99) w
  · rfl
  · have := yWd_lt (jw hJ) (w := w) (by omega) hq
    omega
theorem c_mustN {υ : hU} {M : hf_M} (hJ : Jv υ M) {p : Nat} (hp : p < yP (uT υ)) (hf : yfr (uT υ) p = false) : s_X3_mustBeTrue 1 (nI p) (nI (ycn (yw (uT υ)) p (yS (uT υ)))) M = some (qbI (ymu (uT υ) p (ycn (yw (uT υ)) p (yS (uT υ)))), M) := by
  have h1 := (jw hJ).2.2.2.1 p
  have h2 := (jw hJ).1.2.2.2.2.1
  exact c_must hJ.1 q1 (jw hJ) (jc hJ).1 hp (by omega) hf
theorem r_mustN {υ : hU} {M : hf_M} (hJ : Jv υ M) {p : Nat} (hp : p < yP (uT υ)) : s_X5_isTrue 49 (nI p) (nI (ycn (yw (uT υ)) p (yS (uT υ)))) M = some (qbI (ymu (uT υ) p (ycn (yw (uT υ)) p (yS (uT υ)))), M) := by
  have h1 := (jw hJ).2.2.2.1 p
  have h2 := (jw hJ).1.2.2.2.2.1
  exact r_isTrue hJ.1 (jw hJ) (jr hJ).1 hp (by omega)
theorem p_trust : hs_trust Inv := by
  intro M ⟨υ, hJ, hRe⟩ a1
  have hF := (jw hJ).1.1
  have hP := (jw hJ).1.2.1
  have h64 := q_pow64 hF
  cases hb : yin a1 (yP (uT υ))
  · refine ⟨-1000001, bC 1 M, bR 1 (bC 1 M), ?_, ?_, Inv_ref0 hJ hRe⟩
    · unfold s_X4_trust
      rw [j0 hJ, qrs, j_cS hJ, qb1, hb, qb_ifF, c_ref_ hJ.1 (j := 1) rfl (by decide) (by decide), qb1]
    · unfold s_X5_trust
      rw [j_rS (Jv_bC hJ), qb1, hb, qb_ifF, r_noLow (M := bC _ M) hJ.1 (j := 1) rfl (by decide), qb1, show (-1 : Int32) - 1000000 = -1000001 by decide]
  · obtain ⟨p, hp, rfl⟩ := yin_T hb (by omega)
    cases hu : yFu (uT υ) p
    · cases hfr : yfr (uT υ) p
      · refine ⟨if ymu (uT υ) p (ycn (yw (uT υ)) p (yS (uT υ))) = true then nI (ypop (yWd (uT υ) yA1 99)) else 0, M, M, ?_, ?_, υ, hJ, hRe⟩
        · unfold s_X4_trust
          rw [j0 hJ, qrs, j_cS hJ, qb1, hb, qb_ifT, j0 hJ, qrs, j_cU hJ hp, qb1, hu, qb_ifF, j0 hJ, qrs, j_poss hJ, qb1, j0 hJ, qrs, c_free hJ.1 q1 (jw hJ) (jc hJ).1 hp, qb1, hfr, qb_ifF, j0 hJ, qrs, qrs, cr3 hJ.1 q1, qrs, qlI M (by show p < 6; omega), ((jc hJ).1.2.1 p hp).2.2, c_mustN hJ hp hfr, qb1, c_pop, qb1]
          cases ymu (uT υ) p (ycn (yw (uT υ)) p (yS (uT υ))) <;> rfl
        · unfold s_X5_trust
          rw [j_rS hJ, qb1, hb, qb_ifT, j_rU hJ hp, qb1, hu, qb_ifF, j_now hJ, qb1, r_isFree hJ.1 (jw hJ) (jr hJ).1 hp, qb1, hfr, qb_ifF, r_saidBy hJ.1 (jw hJ) (jr hJ).1 hp, qb1, r_mustN hJ hp, qb1, r_count, qb1]
          cases ymu (uT υ) p (ycn (yw (uT υ)) p (yS (uT υ))) <;> rfl
      · obtain ⟨K, k1, k2⟩ := j_nx hJ hp hu true
        have hK := Jv_GG hJ k2
        obtain ⟨L, l1, l2⟩ := j_nx hK hp hu false
        have hL := Jv_GG hK l2
        obtain ⟨N, n1, n2⟩ := r_tr_loop hp hu (2 ^ yF (uT υ)) 0 2000 L hL (by omega) (by omega)
        have k1' : s_X3_allowedNext 1 (nI p) 1 M = some (yNx (uT υ) p true, K) := k1
        have l1' : s_X3_allowedNext 1 (nI p) 0 K = some (yNx (uT υ) p false, L) := l1
        refine ⟨nI (ypc (ycg (uT υ) p true) (2 ^ yF (uT υ))) - nI (ypc (ycg (uT υ) p false) (2 ^ yF (uT υ))), L, N, ?_, ?_, Inv_GG hJ hRe (gG_tr (gG_tr k2 l2) n2)⟩
        · unfold s_X4_trust
          rw [j0 hJ, qrs, j_cS hJ, qb1, hb, qb_ifT, j0 hJ, qrs, j_cU hJ hp, qb1, hu, qb_ifF, j0 hJ, qrs, j_poss hJ, qb1, j0 hJ, qrs, c_free hJ.1 q1 (jw hJ) (jc hJ).1 hp, qb1, hfr, qb_ifT, j0 hJ, qrs, k1', qb1, j0 hK, qrs, l1', qb1, c_pop, qb1, c_pop, qb1, ypop_cg hJ, ypop_cg hJ]
        · have e0 : nI (ypc (ycg (uT υ) p true) 0) - nI (ypc (ycg (uT υ) p false) 0) = 0 := Int32.sub_self (nI 0)
          rw [e0, nI_0] at n1
          unfold s_X5_trust
          rw [j_rS hL, qb1, hb, qb_ifT, j_rU hL hp, qb1, hu, qb_ifF, j_now hL, qb1, r_isFree hL.1 (jw hL) (jr hL).1 hp, qb1, hfr, qb_ifT]
          exact n1
    · refine ⟨-1000006, bC 6 M, bR 6 (bC 6 M), ?_, ?_, Inv_ref0 hJ hRe⟩
      · unfold s_X4_trust
        rw [j0 hJ, qrs, j_cS hJ, qb1, hb, qb_ifT, j0 hJ, qrs, j_cU hJ hp, qb1, hu, qb_ifT, c_ref_ hJ.1 (j := 6) rfl (by decide) (by decide), qb1]
      · unfold s_X5_trust
        rw [j_rS (Jv_bC hJ), qb1, hb, qb_ifT, j_rU (Jv_bC hJ) hp, qb1, hu, qb_ifT, r_noLow (M := bC _ M) hJ.1 (j := 6) rfl (by decide), qb1, show (-6 : Int32) - 1000000 = -1000006 by decide]
