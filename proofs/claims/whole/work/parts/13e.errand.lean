/-! errands: the reference -/
def G34 (k j : Nat) : Prop := k = 49 ∧ (j = 33 ∨ j = 34)
theorem G34_GG {S : Nat} {M N : hf_M} (h : gG G34 M N) : gG (GG S) M N := gG_mono h (fun k j hk => by unfold G34 at hk; unfold GG; omega)
section RR
variable {υ : hU} {s n : Nat} {v : Nat → Int32}
/-- what the reference sees of the row and the facts -/
def rE (υ : hU) (s n : Nat) (v : Nat → Int32) (M : hf_M) : Prop := yRf M ∧ M.1 49 0 = nI (yF (uT υ)) ∧ M.1 59 s = nI n ∧ (∀ i, i < n → (M.2.1 61 (160 * s + i)).toInt32 = v i) ∧ ∀ j, j < 6 → M.1 51 j = uh υ j
theorem rE_g {M N : hf_M} (h : rE υ s n v M) (hg : gG G34 M N) : rE υ s n v N := by
  obtain ⟨h1, h2, h3, h4, h5⟩ := h
  refine ⟨gG_rf hg h1, ?_, ?_, fun i hi => ?_, fun j hj => ?_⟩
  · rw [(hg.2 49 0 (by unfold G34; omega)).1]; exact h2
  · rw [(hg.2 59 s (by unfold G34; omega)).1]; exact h3
  · rw [(hg.2 61 _ (by unfold G34; omega)).2]; exact h4 i hi
  · rw [(hg.2 51 j (by unfold G34; omega)).1]; exact h5 j hj
theorem r_at {M : hf_M} (hs : s < 8) (hn : n ≤ 10) (h : rE υ s n v M) {i : Nat} (hi : i < n) : s_X5_intAt 49 (nI s) (nI i) M = some (v i, M) := by
  unfold s_X5_intAt
  rw [yrf_49 h.1 (j := 21) rfl, qrs, show (160 : Int32) = nI 160 from rfl, pk_mul, nI_add, qlL M (by show 160 * s + i < 1280; omega), h.2.2.2.1 i hi]
theorem r_hm {M : hf_M} (hF : yF (uT υ) ≤ 6) (h : rE υ s n v M) {i : Nat} (hy : eF υ v i = true) {β : Type} (k : Int32 → Option β) : hf_ldI M 51 (v i) k = k (eh υ v i) := by
  obtain ⟨f, hf6, ef⟩ := yin_T (show yin (v i) (yF (uT υ)) = true from hy) (by omega)
  have e : eh υ v i = uh υ f := by
    unfold eh
    rw [ef, nI_clamp (by omega)]
  rw [ef, qlI M (by show f < 6; omega), h.2.2.2.2 f (by omega), e]
theorem r_143 (hF : yF (uT υ) ≤ 6) (hs : s < 8) (hn : n ≤ 10) {P : Nat} (hP : P < 1024) (k130 : Int32 → hf_M → Option (Int32 × hf_M)) (w : Int32) (kk : Nat) : ∀ (k i fu : Nat) (b : Option Nat) (M : hf_M), rE υ s n v M → M.1 49 34 = nI P → n = i + k → k < fu → (∀ j, b = some j → j < n ∧ eF υ v j = true ∧ P.testBit j = false) → ∀ z, ebst (eF υ v) (eh υ v) P k i b = some z → s_X5_errandsOf_143 k130 49 (nI s) w (nI kk) fu (eob b) (nI i) M = k130 (nI (kk + 1)) (hf_sI (hf_sI M 49 34 (nI (P ||| 2 ^ z))) 49 33 (M.1 49 33 + eh υ v z)) := by
  intro k
  induction k with
  | zero =>
    intro i fu b M h hM hi hf hb z hz
    obtain ⟨fu, rfl⟩ : ∃ u, fu = u + 1 := ⟨fu - 1, by omega⟩
    have hz' : b = some z := hz
    subst hz'
    obtain ⟨z1, z2, z3⟩ := hb z rfl
    have hg : gG G34 M (hf_sI M 49 34 (nI (P ||| 2 ^ z))) := gG_I (by unfold G34; omega)
    have hr := rE_g h hg
    have eo : nI P ||| hn_ishl 1 (eob (some z)) = nI (P ||| 2 ^ z) := q_or10 P hP z (by omega)
    rw [s_X5_errandsOf_143, yrf_49 h.1 (j := 19) rfl, qrs, qlI M (by show s < 8; omega), h.2.2.1, qi_le rfl rfl (by omega) (by omega), if_pos (by omega), hM, eo, qpt, yrf_49 hr.1 (j := 11) rfl, qrs]
    show hf_bd (s_X5_intAt 49 (nI s) (nI z) _) _ = _
    rw [r_at hs hn hr z1, qb1, r_hm hF hr z2, qpt, gI (by omega), nI_1]
  | succ k ih =>
    intro i fu b M h hM hi hf hb z hz
    obtain ⟨fu, rfl⟩ : ∃ u, fu = u + 1 := ⟨fu - 1, by omega⟩
    have est : ebst (eF υ v) (eh υ v) P (k + 1) i b = ebst (eF υ v) (eh υ v) P k (i + 1) (if eF υ v i = true ∧ P.testBit i = false ∧ ecd (eh υ v) i b = true then some i else b) := rfl
    rw [est] at hz
    rw [s_X5_errandsOf_143, yrf_49 h.1 (j := 19) rfl, qrs, qlI M (by show s < 8; omega), h.2.2.1, qi_le rfl rfl (by omega) (by omega), if_neg (by omega), r_at hs hn h (by omega), qb1, r_isFa h.2.1, qb1, hM, qsb (by omega) (by omega), nI_1]
    cases hy : yin (v i) (yF (uT υ))
    · rw [if_neg (fun hh => by have := hh.1; unfold eF at this; rw [hy] at this; cases this)] at hz
      rw [qb_ifF]
      exact ih (i + 1) fu b M h hM (by omega) (by omega) hb z hz
    · have hFi : eF υ v i = true := hy
      rw [qb_ifT]
      cases hbit : P.testBit i
      · rw [if_neg (show ¬ qbI false = 1 by decide)]
        cases b with
        | none =>
          rw [if_pos ⟨hFi, hbit, rfl⟩] at hz
          rw [if_pos (show eob none = -1 from rfl)]
          exact ih (i + 1) fu (some i) M h hM (by omega) (by omega) (fun j hj => by
            have : i = j := Option.some.inj hj
            subst this
            exact ⟨by omega, hFi, hbit⟩) z hz
        | some j =>
          have hj := hb j rfl
          rw [if_neg (show ¬ eob (some j) = -1 from fun e => qm1 j (by omega) e.symm), yrf_49 h.1 (j := 11) rfl, qrs, r_at hs hn h (show i < n by omega), qb1, r_hm hF h hFi, yrf_49 h.1 (j := 11) rfl, qrs]
          show hf_bd (s_X5_intAt 49 (nI s) (nI j) M) _ = _
          rw [r_at hs hn h hj.1, qb1, r_hm hF h hj.2.1]
          by_cases hc : eh υ v i < eh υ v j
          · rw [if_pos ⟨hFi, hbit, decide_eq_true hc⟩] at hz
            rw [if_neg (Int32.not_le.mpr hc)]
            exact ih (i + 1) fu (some i) M h hM (by omega) (by omega) (fun j' hj' => by
              have : i = j' := Option.some.inj hj'
              subst this
              exact ⟨by omega, hFi, hbit⟩) z hz
          · rw [if_neg (fun hh => hc (of_decide_eq_true hh.2.2))] at hz
            rw [if_pos (Int32.not_lt.mp hc)]
            exact ih (i + 1) fu (some j) M h hM (by omega) (by omega) hb z hz
      · rw [if_neg (fun hh => by rw [hbit] at hh; cases hh.2.1)] at hz
        rw [if_pos (show qbI true = 1 from rfl)]
        exact ih (i + 1) fu b M h hM (by omega) (by omega) hb z hz
theorem r_130 (hF : yF (uT υ) ≤ 6) (hs : s < 8) (hn : n ≤ 10) {lies : Nat} (hl : lies ≤ 20) : ∀ (m k fu P : Nat) (M : hf_M), rE υ s n v M → M.1 49 34 = nI P → M.1 49 33 = ehs (eF υ v) (eh υ v) P n → P < 1024 → (lies = k + m ∨ (lies ≤ k ∧ m = 0)) → k ≤ 20 → m < fu → m ≤ eU (eF υ v) n P → ∃ K, s_X5_errandsOf_130 49 (nI s) (nI lies) fu (nI k) M = some (0, K) ∧ gG G34 M K ∧ K.1 49 34 = nI (epk (eF υ v) (eh υ v) n m P) ∧ K.1 49 33 = ehs (eF υ v) (eh υ v) (epk (eF υ v) (eh υ v) n m P) n := by
  intro m
  induction m with
  | zero =>
    intro k fu P M h h34 h33 hP hk hk20 hf hU
    obtain ⟨fu, rfl⟩ : ∃ u, fu = u + 1 := ⟨fu - 1, by omega⟩
    refine ⟨M, ?_, gG_refl _ _, h34, h33⟩
    rw [s_X5_errandsOf_130, qi_le rfl rfl (by omega) (by omega), if_pos (by omega)]
  | succ m ih =>
    intro k fu P M h h34 h33 hP hk hk20 hf hU
    obtain ⟨fu, rfl⟩ : ∃ u, fu = u + 1 := ⟨fu - 1, by omega⟩
    cases hb : ebst (eF υ v) (eh υ v) P n 0 none with
    | none =>
      have := eU_0.mp hb
      omega
    | some i =>
      obtain ⟨g1, g2, g3⟩ := ebst_ok _ _ P n n 0 none (by omega) (fun j hj => by cases hj) i hb
      have e143 := r_143 (υ := υ) (v := v) hF hs hn hP (s_X5_errandsOf_130 49 (nI s) (nI lies) fu) (nI lies) k n 0 2000 none M h h34 (by omega) (by omega) (fun j hj => by cases hj) i hb
      have e143' : s_X5_errandsOf_143 (s_X5_errandsOf_130 49 (nI s) (nI lies) fu) 49 (nI s) (nI lies) (nI k) 2000 (-1) 0 M = _ := e143
      have hg : gG G34 M (hf_sI (hf_sI M 49 34 (nI (P ||| 2 ^ i))) 49 33 (M.1 49 33 + eh υ v i)) := gG_tr (gG_I (by unfold G34; omega)) (gG_I (by unfold G34; omega))
      obtain ⟨K, k1, k2, k3, k4⟩ := ih (k + 1) fu (P ||| 2 ^ i) _ (rE_g h hg) (by rw [gI (by omega), gI0]) (by rw [gI0, h33, ehs_add _ _ g2 g3, if_pos g1]) (q_or_lt hP (by omega)) (by omega) (by omega) (by omega) (by have := eU_dec g1 g2 g3; omega)
      have ee : epk (eF υ v) (eh υ v) n (m + 1) P = epk (eF υ v) (eh υ v) n m (P ||| 2 ^ i) := by
        show (match ebst (eF υ v) (eh υ v) P n 0 none with | none => P | some i => epk (eF υ v) (eh υ v) n m (P ||| 2 ^ i)) = _
        rw [hb]
      refine ⟨K, ?_, gG_tr hg k2, by rw [ee]; exact k3, by rw [ee]; exact k4⟩
      rw [s_X5_errandsOf_130, qi_le rfl rfl (by omega) (by omega), if_neg (by omega), e143']
      exact k1
theorem r_42 (hF : yF (uT υ) ≤ 6) (hs : s < 8) (hn : n ≤ 10) {a x : Nat} (ha : a ≤ 10) {M : hf_M} (h : rE υ s n v M) (hx : M.1 49 3 - M.1 49 4 = nI x) (hx10 : x ≤ 10) : ∀ (k i fu : Nat), n = i + k → k < fu → s_X5_errandsOf_42 49 (nI s) (nI a) fu (nI (ypc (eF υ v) i)) (nI i) M = s_X5_errandsOf_130 49 (nI s) (nI (min (ypc (eF υ v) n + a) x)) 2000 (nI a) (hf_sI (hf_sI M 49 33 0) 49 34 0) := by
  have hle := ypc_le (eF υ v) n
  intro k
  induction k with
  | zero =>
    intro i fu hi hf
    obtain ⟨fu, rfl⟩ : ∃ u, fu = u + 1 := ⟨fu - 1, by omega⟩
    have hin : i = n := by omega
    subst hin
    rw [s_X5_errandsOf_42, yrf_49 h.1 (j := 19) rfl, qrs, qlI M (by show s < 8; omega), h.2.2.1, qi_le rfl rfl (by omega) (by omega), if_pos (Nat.le_refl _), nI_add, hx, qi_le rfl rfl (by omega) (by omega), qpt, qpt, qpt, qpt]
    by_cases hc : ypc (eF υ v) i + a ≤ x
    · rw [if_pos hc, Nat.min_eq_left hc]
    · rw [if_neg hc, Nat.min_eq_right (by omega)]
  | succ k ih =>
    intro i fu hi hf
    obtain ⟨fu, rfl⟩ : ∃ u, fu = u + 1 := ⟨fu - 1, by omega⟩
    have i1 := ih (i + 1) fu (by omega) (by omega)
    have est : ypc (eF υ v) (i + 1) = ypc (eF υ v) i + (if eF υ v i = true then 1 else 0) := rfl
    rw [s_X5_errandsOf_42, yrf_49 h.1 (j := 19) rfl, qrs, qlI M (by show s < 8; omega), h.2.2.1, qi_le rfl rfl (by omega) (by omega), if_neg (by omega), r_at hs hn h (by omega), qb1, r_isFa h.2.1, qb1, nI_1, nI_1, show (0 : Int32) = nI 0 from rfl, nI_add]
    cases hy : yin (v i) (yF (uT υ))
    · rw [if_neg (fun hh => by unfold eF at hh; rw [hy] at hh; cases hh)] at est
      rw [est] at i1
      rw [show (if qbI false = nI 0 then s_X5_errandsOf_42 49 (nI s) (nI a) fu (nI (ypc (eF υ v) i + 0)) (nI (i + 1)) M else s_X5_errandsOf_42 49 (nI s) (nI a) fu (nI (ypc (eF υ v) i + 1)) (nI (i + 1)) M) = s_X5_errandsOf_42 49 (nI s) (nI a) fu (nI (ypc (eF υ v) i + 0)) (nI (i + 1)) M from if_pos rfl]
      exact i1
    · rw [if_pos (show eF υ v i = true from hy)] at est
      rw [est] at i1
      rw [show (if qbI true = nI 0 then s_X5_errandsOf_42 49 (nI s) (nI a) fu (nI (ypc (eF υ v) i + 0)) (nI (i + 1)) M else s_X5_errandsOf_42 49 (nI s) (nI a) fu (nI (ypc (eF υ v) i + 1)) (nI (i + 1)) M) = s_X5_errandsOf_42 49 (nI s) (nI a) fu (nI (ypc (eF υ v) i + 1)) (nI (i + 1)) M from if_neg (by decide)]
      exact i1
end RR
/-- both, of a row that may be -/
theorem err_both {υ : hU} {M : hf_M} (hJ : Jv υ M) {a1 a2 : Int32} : (∃ c j, -c = nI j ∧ 0 < j ∧ j < 8 ∧ c ≠ 0 ∧ s_X4_noErrands 0 a1 a2 M = some (c, M) ∧ ∀ {N : hf_M}, Jv υ N → (∀ k i, k ≠ 32 → N.1 k i = M.1 k i ∧ N.2.1 k i = M.2.1 k i) → s_X5_errandsOf 49 a1 a2 N = some (c, N)) ∨ (∃ P h, P < 1024 ∧ s_X4_noErrands 0 a1 a2 M = some (0, M) ∧ (∃ s, s < 8 ∧ a1 = nI s ∧ s_X4_liesPlaced 0 (33 + 2 * s) a2 M = some (nI P, M) ∧ s_X4_errands_40 0 (33 + 2 * s) (nI P) 2000 0 0 M = some (h, M)) ∧ ∃ K, s_X5_errandsOf 49 a1 a2 M = some (0, K) ∧ gG G34 M K ∧ K.1 49 34 = nI P ∧ K.1 49 33 = h) := by
  have hF := (jw hJ).1.1
  have hn := (jw hJ).1.2.2.2.2.1
  have htn := (jw hJ).1.2.2.2.2.2
  have bad : ∀ (c : Int32) (j : Nat), -c = nI j → 0 < j → j < 8 → c ≠ 0 → s_X4_noRow 0 a1 M = some (c, M) → (∀ {N : hf_M}, Jv υ N → (∀ k i, k ≠ 32 → N.1 k i = M.1 k i ∧ N.2.1 k i = M.2.1 k i) → s_X5_wants 49 a1 N = some (c, N)) → (∃ c j, -c = nI j ∧ 0 < j ∧ j < 8 ∧ c ≠ 0 ∧ s_X4_noErrands 0 a1 a2 M = some (c, M) ∧ ∀ {N : hf_M}, Jv υ N → (∀ k i, k ≠ 32 → N.1 k i = M.1 k i ∧ N.2.1 k i = M.2.1 k i) → s_X5_errandsOf 49 a1 a2 N = some (c, N)) := by
    intro c j h1 h2 h3 h4 h5 h6
    refine ⟨c, j, h1, h2, h3, h4, ?_, fun {N} hN hk => ?_⟩
    · unfold s_X4_noErrands
      rw [h5, qb1, if_neg h4]
    · unfold s_X5_errandsOf
      rw [h6 hN hk, qb1, if_neg h4]
  have nr := noRow_ hJ a1
  have want : ∀ {N : hf_M}, Jv υ N → (∀ k i, k ≠ 32 → N.1 k i = M.1 k i ∧ N.2.1 k i = M.2.1 k i) → ∀ c, s_X5_wants 49 a1 M = some (c, M) → s_X5_wants 49 a1 N = some (c, N) := by
    intro N hN hk c hc
    unfold s_X5_wants at hc ⊢
    rw [r_shelf, qb1] at hc ⊢
    cases hb : yin a1 8
    · rw [hb, qb_ifF] at hc
      rw [qb_ifF]
      have : (-1 : Int32) = c := congrArg Prod.fst (Option.some.inj hc)
      rw [this]
    · obtain ⟨s, hs, rfl⟩ := yin_T hb (by decide)
      have l57 : s < hf_len 57 := hs
      rw [hb, qb_ifT, yrf_49 hJ.1 (j := 17) rfl, qrs, qlI M l57, qrs, qlI M l57] at hc
      rw [qb_ifT, yrf_49 hN.1 (j := 17) rfl, qrs, qlI N l57, qrs, qlI N l57, (hk 57 s (by decide)).1]
      by_cases h2 : M.1 57 s = 2
      · rw [if_pos h2] at hc ⊢
        have : (-2 : Int32) = c := congrArg Prod.fst (Option.some.inj hc)
        rw [this]
      · rw [if_neg h2] at hc ⊢
        by_cases h0 : M.1 57 s = 0
        · rw [if_pos h0] at hc ⊢
          have : (-3 : Int32) = c := congrArg Prod.fst (Option.some.inj hc)
          rw [this]
        · rw [if_neg h0] at hc ⊢
          have : (0 : Int32) = c := congrArg Prod.fst (Option.some.inj hc)
          rw [this]
  rcases nr with ⟨e1, e2⟩ | ⟨e1, e2⟩ | ⟨e1, e2⟩ | ⟨e1, e2, s, hs, rfl, o, n, ho, hn160, u1, u2, u3, u4, u5⟩
  · exact Or.inl (bad (-1) 1 rfl (by decide) (by decide) (by decide) e1 (fun hN hk => want hN hk _ e2))
  · exact Or.inl (bad (-2) 2 rfl (by decide) (by decide) (by decide) e1 (fun hN hk => want hN hk _ e2))
  · exact Or.inl (bad (-3) 3 rfl (by decide) (by decide) (by decide) e1 (fun hN hk => want hN hk _ e2))
  · have h3 : M.2.2 0 3 = some 28 := yr0 hJ.1 rfl
    have l59 : s < hf_len 59 := hs
    by_cases hv : 10 < n ∨ a2 < 0 ∨ 10 < a2
    · left
      refine ⟨-6, 6, rfl, by decide, by decide, by decide, ?_, fun {N} hN hk => ?_⟩
      · unfold s_X4_noErrands s_X4_within
        rw [e1, qb1, if_pos rfl, h3, qrs, sh_ld hJ.1 hs, u2, qi_lt (show (10 : Int32) = nI 10 from rfl) rfl (by omega) (by omega)]
        by_cases g0 : 10 < n
        · rw [if_pos g0]
        · by_cases g1 : a2 < 0
          · rw [if_neg g0, if_pos g1, qb1, if_pos rfl]
          · rw [if_neg g0, if_neg g1, if_pos ((hv.resolve_left g0).resolve_left g1), qb1, if_pos rfl]
      · unfold s_X5_errandsOf
        rw [want hN hk _ e2, qb1, if_pos rfl, yrf_49 hN.1 (j := 19) rfl, qrs, qlI N l59, (hk 59 s (by decide)).1, u4, qi_lt (show (10 : Int32) = nI 10 from rfl) rfl (by omega) (by omega)]
        by_cases g0 : 10 < n
        · rw [if_pos g0]
        · by_cases g1 : a2 < 0
          · rw [if_neg g0, if_pos g1]
          · rw [if_neg g0, if_neg g1, if_neg (Int32.not_le.mpr ((hv.resolve_left g0).resolve_left g1))]
    · right
      have g0 : ¬ 10 < n := fun e => hv (Or.inl e)
      have g1 : ¬ a2 < 0 := fun e => hv (Or.inr (Or.inl e))
      have g2 : ¬ 10 < a2 := fun e => hv (Or.inr (Or.inr e))
      obtain ⟨a, ha, rfl⟩ := nI_of2 (M := 10) (n := 10) (by decide) g1 (Int32.not_lt.mp g2)
      have hn10 : n ≤ 10 := by omega
      have hvc : ∀ i, i < n → (M.2.1 (34 + 2 * s) i).toInt32 = (M.2.1 61 (160 * s + i)).toInt32 := fun i hi => by rw [u5 i hi]
      obtain ⟨P, p1, p2, p3⟩ := c_lp_loop (v := fun i => (M.2.1 61 (160 * s + i)).toInt32) hJ hs hn10 u2 hvc (x := yn (uT υ) - yt (uT υ)) (a := a) (by omega) ha (yn (uT υ) - yt (uT υ) - a) 0 2000 0 (by omega) (by omega) (by omega) (by decide)
      have hsum := c_sum_loop (v := fun i => (M.2.1 61 (160 * s + i)).toInt32) hJ hs hn10 u2 hvc p2 n 0 2000 (by omega) (by omega)
      have hrE : rE υ s n (fun i => (M.2.1 61 (160 * s + i)).toInt32) M := ⟨hJ.1, (jr hJ).1.1.1, u4, fun i hi => rfl, (jr hJ).2.1⟩
      have hx : M.1 49 3 - M.1 49 4 = nI (yn (uT υ) - yt (uT υ)) := by rw [(jr hJ).1.1.2.2.2.1, (jr hJ).1.1.2.2.2.2.1, pk_sub htn]
      have e42 := r_42 (υ := υ) (v := fun i => (M.2.1 61 (160 * s + i)).toInt32) hF hs hn10 ha hrE hx (by omega) n 0 2000 (by omega) (by omega)
      generalize hvv : (fun i => (M.2.1 61 (160 * s + i)).toInt32) = v at *
      have hg : gG G34 M (hf_sI (hf_sI M 49 33 0) 49 34 0) := gG_tr (gG_I (by unfold G34; omega)) (gG_I (by unfold G34; omega))
      have eU0 : eU (eF υ v) n 0 = ypc (eF υ v) n := by
        unfold eU
        exact ypc_cong (fun k hk => by rw [Nat.zero_testBit]; simp)
      have ehs0 : ∀ m, ehs (eF υ v) (eh υ v) 0 m = 0 := by
        intro m
        induction m with
        | zero => rfl
        | succ m ih =>
          show (if (0 : Nat).testBit m = true ∧ eF υ v m = true then _ else ehs (eF υ v) (eh υ v) 0 m) = 0
          rw [if_neg (fun hh => by have := hh.1; rw [Nat.zero_testBit] at this; cases this)]; exact ih
      have hle := ypc_le (eF υ v) n
      obtain ⟨K, k1, k2, k3, k4⟩ := r_130 (υ := υ) (v := v) hF hs hn10 (lies := min (ypc (eF υ v) n + a) (yn (uT υ) - yt (uT υ))) (by omega) (min (ypc (eF υ v) n + a) (yn (uT υ) - yt (uT υ)) - a) a 2000 0 _ (rE_g hrE hg) (by rw [gI0]; rfl) (by rw [gI (by omega), gI0, ehs0]) (by decide) (by omega) (by omega) (by omega) (by rw [eU0]; omega)
      have ePk : epk (eF υ v) (eh υ v) n (min (ypc (eF υ v) n + a) (yn (uT υ) - yt (uT υ)) - a) 0 = P := by
        rw [p1, epk_min _ _ n (yn (uT υ) - yt (uT υ) - a) 0, eU0]
        congr 1
        omega
      rw [ePk] at k3 k4
      refine ⟨P, ehs (eF υ v) (eh υ v) P n, p2, ?_, ⟨s, hs, rfl, ?_, ?_⟩, K, ?_, gG_tr hg k2, k3, k4⟩
      · unfold s_X4_noErrands s_X4_within
        rw [e1, qb1, if_pos rfl, h3, qrs, sh_ld hJ.1 hs, u2, qi_lt (show (10 : Int32) = nI 10 from rfl) rfl (by omega) (by omega), if_neg g0, if_neg g1, if_neg g2, qb1, if_neg q10]
      · unfold s_X4_liesPlaced
        rw [j0 hJ, qrs, qrs, (jc hJ).1.1.2.2.2.1, (jc hJ).1.1.2.2.2.2.1, pk_sub htn]
        exact p3
      · exact hsum
      · unfold s_X5_errandsOf
        rw [e2, qb1, if_pos rfl, yrf_49 hJ.1 (j := 19) rfl, qrs, qlI M l59, u4, qi_lt (show (10 : Int32) = nI 10 from rfl) rfl (by omega) (by omega), if_neg g0, if_neg g1, if_pos (Int32.not_lt.mp g2)]
        exact e42.trans k1
theorem p_errands : hs_errands Inv := by
  intro M ⟨υ, hJ, hRe⟩ a1 a2
  have h3 : M.2.2 0 3 = some 28 := yr0 hJ.1 rfl
  rcases err_both hJ (a1 := a1) (a2 := a2) with ⟨c, j, c1, c2, c3, c4, c5, c6⟩ | ⟨P, h, hP, e1, ⟨s, hs, rfl, e2, e3⟩, K, k1, k2, k3, k4⟩
  · refine ⟨c, bC j M, bR j (bC j M), ?_, ?_, Inv_ref0 hJ hRe⟩
    · unfold s_X4_errands
      rw [c5, qb1, if_neg c4, c_ref hJ.1 c1 c2 c3, qb1]
    · unfold s_X5_errands
      rw [c6 (Jv_bC hJ) (fun k i hk => ⟨by unfold bC; rw [gI (by omega)], rfl⟩), qb1, if_neg c4, r_no (M := bC _ M) hJ.1 c1 c3, qb1]
  · refine ⟨h, M, K, ?_, ?_, Inv_GG hJ hRe (G34_GG k2)⟩
    · unfold s_X4_errands
      rw [e1, qb1, if_pos rfl, h3, qrs, sh_ld hJ.1 hs, e2, qb1]; exact e3
    · unfold s_X5_errands
      rw [k1, qb1, if_pos rfl, k4]
theorem p_placed : hs_placed Inv := by
  intro M ⟨υ, hJ, hRe⟩ a1 a2
  have h3 : M.2.2 0 3 = some 28 := yr0 hJ.1 rfl
  rcases err_both hJ (a1 := a1) (a2 := a2) with ⟨c, j, c1, c2, c3, c4, c5, c6⟩ | ⟨P, h, hP, e1, ⟨s, hs, rfl, e2, e3⟩, K, k1, k2, k3, k4⟩
  · refine ⟨c, bC j M, bR j (bC j M), ?_, ?_, Inv_ref0 hJ hRe⟩
    · unfold s_X4_placed
      rw [c5, qb1, if_neg c4, c_ref hJ.1 c1 c2 c3, qb1]
    · unfold s_X5_placed
      rw [c6 (Jv_bC hJ) (fun k i hk => ⟨by unfold bC; rw [gI (by omega)], rfl⟩), qb1, if_neg c4, r_no (M := bC _ M) hJ.1 c1 c3, qb1]
  · refine ⟨nI P, M, K, ?_, ?_, Inv_GG hJ hRe (G34_GG k2)⟩
    · unfold s_X4_placed
      rw [e1, qb1, if_pos rfl, h3, qrs, sh_ld hJ.1 hs, e2, qb1]
    · unfold s_X5_placed
      rw [k1, qb1, if_pos rfl, k3]
