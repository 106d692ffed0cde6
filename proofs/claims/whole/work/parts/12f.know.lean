/-! known in k questions -/
def ylk (kn : hT → Bool) (τ : hT) (p g : Nat) (b : Bool) : Bool := decide (yWa τ p g b = 0) || kn (yad τ p g b)
def ykg (kn : hT → Bool) (τ : hT) (p : Nat) : Nat → Nat → Bool
  | 0, _ => false
  | k + 1, g => (ylk kn τ p g true && ylk kn τ p g false) || ykg kn τ p k (g + 1)
def ykp (kn : hT → Bool) (τ : hT) : Nat → Nat → Bool
  | 0, _ => false
  | k + 1, p => (!yFu τ p && ykg kn τ p (yF τ) 0) || ykp kn τ k (p + 1)
def yKn (f : Nat) : Nat → hT → Bool
  | 0, τ => !decide (ySu f (yWd τ yA1 99) = -1)
  | k + 1, τ => !decide (ySu f (yWd τ yA1 99) = -1) || ykp (yKn f k) τ (yP τ) 0
def cBV (τ : hT) (M : hf_M) : Prop := yRf M ∧ cB 1 τ M ∧ ∀ w, w < 64 → cV 1 τ w M
theorem cBV_g {τ : hT} {M K : hf_M} (h : cBV τ M) (hg : gG (Gc 1 (yS τ)) M K) : cBV τ K := ⟨gG_rf hg h.1, cB_ag (ag_g hg (fun k j hk hn => by unfold Zb at hk; unfold Gc at hn; omega)) h.2.1, fun w hw => cV_ag (fun j hj => (hg.2 (1 + 8) j (by unfold Gc; omega)).2) (h.2.2 w hw)⟩
theorem yR_g {τ : hT} {M K : hf_M} (h : yR τ M) (hg : gG (Gr (yS τ)) M K) : yR τ K := yR_ag (ag_g hg (fun k j hk hn => by unfold Zy at hk; unfold Gr at hn; omega)) h
def KC (f k : Nat) : Prop := ∀ (τ : hT) (M : hf_M) (n : Nat), cBV τ M → yWF τ → yS τ + k ≤ 26 → k < n → k ≤ 2 → f < yF τ → ∃ K, s_X4_isKnownIn n 0 (nI k) (nI f) (yWd τ yA1 99) M = some (qbI (yKn f k τ), K) ∧ gG (Gc 1 (yS τ)) M K
def KR (f k : Nat) : Prop := ∀ (τ : hT) (M : hf_M) (n : Nat), yRf M → yR τ M → yWF τ → yS τ + k ≤ 26 → k < n → k ≤ 2 → f < yF τ → ∃ K, s_X5_isKnown n 49 (nI f) (nI k) M = some (qbI (yKn f k τ), K) ∧ gG (Gr (yS τ)) M K
section KN
variable {f k : Nat}
theorem c_lk (ih : KC f k) {τ : hT} {M : hf_M} (h : cBV τ M) (hw : yWF τ) (hS : yS τ + (k + 1) ≤ 26) {n : Nat} (hn : k < n) (hk2 : k ≤ 2) (hf : f < yF τ) {p g : Nat} (hp : p < yP τ) (hg : g < yF τ) (hu : yFu τ p = false) (b : Bool) : ∃ K, s_X4_leavesKnown (s_X4_isKnownIn n) 0 (nI (k + 1)) (nI f) (yWd τ yA1 99) (nI p) (nI g) (qbI b) M = some (qbI (ylk (yKn f k) τ p g b), K) ∧ gG (Gc 1 (yS τ)) M K := by
  have hP := hw.1.2.1
  have hF := hw.1.1
  have h0 : ∀ N : hf_M, yRf N → N.2.2 0 0 = some 1 := fun N hN => yr0 hN rfl
  have hp1 : yRf (cPu 1 p (yS τ) (nI (ycn (yw τ) p (yS τ))) (nI (100 * p + 10 * g + b.toNat)) (yTr g b) M) := h.1
  have hB1 : cB 1 (yad τ p g b) (cPu 1 p (yS τ) (nI (ycn (yw τ) p (yS τ))) (nI (100 * p + 10 * g + b.toNat)) (yTr g b) M) := cPu_B h.2.1 (by omega) hp _ _
  have hV1 : ∀ w, w < 64 → cV 1 (yad τ p g b) w (cPu 1 p (yS τ) (nI (ycn (yw τ) p (yS τ))) (nI (100 * p + 10 * g + b.toNat)) (yTr g b) M) := fun w hww => cPu_V (h.2.2 w hww) (yTr_b b (by omega) hww)
  have hw1 : yWF (yad τ p g b) := yad_WF hw hp (by omega) (yFu_f hu) (by omega)
  have ea := c_allowed hp1 q1 hw1 hB1 (by show yS τ + 1 ≤ 48; omega) hp hV1 (x := -1) (ch := yA1) (fun i hi => qlb_m1 (by have hi' : i < yS τ + 1 := hi; omega))
  have hwa : yWd τ yA1 99 &&& yAl (yad τ p g b) p yA1 = yWa τ p g b := (yWd_add hp hP).symm
  unfold s_X4_leavesKnown
  rw [h0 M h.1, qrs, c_put h.1 q1 h.2.1 (by omega) hp hP (by omega), qb1, h0 _ hp1, qrs, ea, qb1, hwa, nI_pred]
  by_cases e0 : yWa τ p g b = 0
  · obtain ⟨K, k1, k2⟩ := c_backG h.1 q1 h.2.1 (by omega) hp hP (wd := nI (100 * p + 10 * g + b.toNat)) (tr := yTr g b) (gG_refl _ _)
    refine ⟨K, ?_, k2⟩
    rw [if_pos ((qcmp0 _).mpr e0), h0 _ hp1, qrs, k1, qb1]
    unfold ylk
    rw [decide_eq_true e0]; rfl
  · obtain ⟨L, l1, l2⟩ := ih (yad τ p g b) _ n ⟨hp1, hB1, hV1⟩ hw1 (by show yS τ + 1 + k ≤ 26; omega) hn hk2 hf
    obtain ⟨K, k1, k2⟩ := c_backG h.1 q1 h.2.1 (by omega) hp hP (wd := nI (100 * p + 10 * g + b.toNat)) (tr := yTr g b) l2
    have hL : yRf L := gG_rf l2 hp1
    refine ⟨K, ?_, k2⟩
    have l1' : s_X4_isKnownIn n 0 (nI k) (nI f) (yWa τ p g b) (cPu 1 p (yS τ) (nI (ycn (yw τ) p (yS τ))) (nI (100 * p + 10 * g + b.toNat)) (yTr g b) M) = some (qbI (yKn f k (yad τ p g b)), L) := l1
    rw [if_neg (fun e => e0 ((qcmp0 _).mp e)), l1', qb1, h0 L hL, qrs, qrs, k1, qb1, qb1]
    unfold ylk
    rw [decide_eq_false e0, Bool.false_or]
    cases yKn f k (yad τ p g b) <;> rfl
theorem c_kg (ih : KC f k) {τ : hT} (hw : yWF τ) (hS : yS τ + (k + 1) ≤ 26) {n : Nat} (hn : k < n) (hk2 : k ≤ 2) (hf : f < yF τ) {p : Nat} (hp : p < yP τ) (k25 : Int32 → hf_M → Option (Int32 × hf_M)) (hu : yFu τ p = false) : ∀ (m g fu : Nat) (M : hf_M), cBV τ M → yF τ = g + m → m < fu → ∃ K, s_X4_isKnownIn_40 (s_X4_isKnownIn n) k25 0 (nI (k + 1)) (nI f) (yWd τ yA1 99) (nI p) fu (nI g) M = (if ykg (yKn f k) τ p m g = true then some (1, K) else k25 (nI (p + 1)) K) ∧ gG (Gc 1 (yS τ)) M K := by
  have hF := hw.1.1
  have h0 : ∀ N : hf_M, yRf N → N.2.2 0 0 = some 1 := fun N hN => yr0 hN rfl
  intro m
  induction m with
  | zero =>
    intro g fu M h hm hfu
    obtain ⟨fu, rfl⟩ : ∃ u, fu = u + 1 := ⟨fu - 1, by omega⟩
    refine ⟨M, ?_, gG_refl _ _⟩
    rw [s_X4_isKnownIn_40, h0 M h.1, qrs, h.2.1.1.1, qi_le rfl rfl (by omega) (by omega), if_pos (by omega), nI_1]; rfl
  | succ m ihm =>
    intro g fu M h hm hfu
    obtain ⟨fu, rfl⟩ : ∃ u, fu = u + 1 := ⟨fu - 1, by omega⟩
    obtain ⟨K, k1, k2⟩ := c_lk ih h hw hS hn hk2 hf hp (g := g) (by omega) hu true
    have hK := cBV_g h k2
    obtain ⟨L, l1, l2⟩ := c_lk ih hK hw hS hn hk2 hf hp (g := g) (by omega) hu false
    have hL := cBV_g hK l2
    have k1' : s_X4_leavesKnown (s_X4_isKnownIn n) 0 (nI (k + 1)) (nI f) (yWd τ yA1 99) (nI p) (nI g) 1 M = some (qbI (ylk (yKn f k) τ p g true), K) := k1
    have l1' : s_X4_leavesKnown (s_X4_isKnownIn n) 0 (nI (k + 1)) (nI f) (yWd τ yA1 99) (nI p) (nI g) 0 K = some (qbI (ylk (yKn f k) τ p g false), L) := l1
    have ef := c_full h.1 q1 hw h.2.1 hp
    have hu' : decide (yn τ ≤ ycn (yw τ) p (yS τ)) = false := hu
    rw [hu'] at ef
    have e : ykg (yKn f k) τ p (m + 1) g = ((ylk (yKn f k) τ p g true && ylk (yKn f k) τ p g false) || ykg (yKn f k) τ p m (g + 1)) := rfl
    rw [s_X4_isKnownIn_40, h0 M h.1, qrs, h.2.1.1.1, qi_le rfl rfl (by omega) (by omega), if_neg (by omega), qrs, ef, qb1, qb_ifF, k1', qb1, nI_1, l1', qb1, e]
    cases hb1 : ylk (yKn f k) τ p g true
    · obtain ⟨N, n1, n2⟩ := ihm (g + 1) fu K hK (by omega) (by omega)
      exact ⟨N, n1, gG_tr k2 n2⟩
    · cases hb2 : ylk (yKn f k) τ p g false
      · obtain ⟨N, n1, n2⟩ := ihm (g + 1) fu L hL (by omega) (by omega)
        exact ⟨N, n1, gG_tr (gG_tr k2 l2) n2⟩
      · exact ⟨L, rfl, gG_tr k2 l2⟩
theorem c_kp (ih : KC f k) {τ : hT} (hw : yWF τ) (hS : yS τ + (k + 1) ≤ 26) {n : Nat} (hn : k < n) (hk2 : k ≤ 2) (hf : f < yF τ) : ∀ (m p fu : Nat) (M : hf_M), cBV τ M → yP τ = p + m → m < fu → ∃ K, s_X4_isKnownIn_25 (s_X4_isKnownIn n) 0 (nI (k + 1)) (nI f) (yWd τ yA1 99) fu (nI p) M = some (qbI (ykp (yKn f k) τ m p), K) ∧ gG (Gc 1 (yS τ)) M K := by
  have hF := hw.1.1
  have hP := hw.1.2.1
  have h0 : ∀ N : hf_M, yRf N → N.2.2 0 0 = some 1 := fun N hN => yr0 hN rfl
  intro m
  induction m with
  | zero =>
    intro p fu M h hm hfu
    obtain ⟨fu, rfl⟩ : ∃ u, fu = u + 1 := ⟨fu - 1, by omega⟩
    refine ⟨M, ?_, gG_refl _ _⟩
    rw [s_X4_isKnownIn_25, h0 M h.1, qrs, h.2.1.1.2.1, qi_le rfl rfl (by omega) (by omega), if_pos (by omega)]; rfl
  | succ m ihm =>
    intro p fu M h hm hfu
    obtain ⟨fu, rfl⟩ : ∃ u, fu = u + 1 := ⟨fu - 1, by omega⟩
    have e : ykp (yKn f k) τ (m + 1) p = ((!yFu τ p && ykg (yKn f k) τ p (yF τ) 0) || ykp (yKn f k) τ m (p + 1)) := rfl
    rw [s_X4_isKnownIn_25, h0 M h.1, qrs, h.2.1.1.2.1, qi_le rfl rfl (by omega) (by omega), if_neg (by omega), e]
    cases hu : yFu τ p
    · obtain ⟨K, k1, k2⟩ := c_kg ih hw hS hn hk2 hf (p := p) (by omega) (s_X4_isKnownIn_25 (s_X4_isKnownIn n) 0 (nI (k + 1)) (nI f) (yWd τ yA1 99) fu) hu (yF τ) 0 2000 M h (by omega) (by omega)
      have k1' : s_X4_isKnownIn_40 (s_X4_isKnownIn n) (s_X4_isKnownIn_25 (s_X4_isKnownIn n) 0 (nI (k + 1)) (nI f) (yWd τ yA1 99) fu) 0 (nI (k + 1)) (nI f) (yWd τ yA1 99) (nI p) 2000 0 M = _ := k1
      rw [k1']
      cases hb : ykg (yKn f k) τ p (yF τ) 0
      · obtain ⟨N, n1, n2⟩ := ihm (p + 1) fu K (cBV_g h k2) (by omega) (by omega)
        exact ⟨N, n1, gG_tr k2 n2⟩
      · exact ⟨K, rfl, k2⟩
    · obtain ⟨N, n1, n2⟩ := ihm (p + 1) fu M h (by omega) (by omega)
      have ef := c_full h.1 q1 hw h.2.1 (p := p) (by omega)
      have hu' : decide (yn τ ≤ ycn (yw τ) p (yS τ)) = true := hu
      rw [hu'] at ef
      refine ⟨N, ?_, n2⟩
      have hfa : s_X4_isKnownIn_40 (s_X4_isKnownIn n) (s_X4_isKnownIn_25 (s_X4_isKnownIn n) 0 (nI (k + 1)) (nI f) (yWd τ yA1 99) fu) 0 (nI (k + 1)) (nI f) (yWd τ yA1 99) (nI p) (1999 + 1) (nI 0) M = s_X4_isKnownIn_25 (s_X4_isKnownIn n) 0 (nI (k + 1)) (nI f) (yWd τ yA1 99) fu (nI (p + 1)) M := by
        rw [s_X4_isKnownIn_40, h0 M h.1, qrs, h.2.1.1.1, qi_le rfl rfl (by omega) (by omega)]
        by_cases hF0 : yF τ ≤ 0
        · rw [if_pos hF0, nI_1]
        · rw [if_neg hF0, qrs, ef, qb1, qb_ifT, nI_1]
      refine Eq.trans hfa (n1.trans ?_)
      rfl
theorem KC_all : ∀ k, KC f k
  | 0 => by
    intro τ M n h hw hS hn hk2 hf
    have hF := hw.1.1
    obtain ⟨n, rfl⟩ : ∃ u, n = u + 1 := ⟨n - 1, by omega⟩
    refine ⟨M, ?_, gG_refl _ _⟩
    rw [s_X4_isKnownIn]
    unfold s_X4_isKnownIn_b yKn
    rw [c_surety (by omega), qb1]
    by_cases e : ySu f (yWd τ yA1 99) = -1
    · rw [if_pos e, decide_eq_true e, if_pos (show nI 0 ≤ 0 by decide)]; rfl
    · rw [if_neg e, decide_eq_false e]; rfl
  | k + 1 => by
    intro τ M n h hw hS hn hk2 hf
    have hF := hw.1.1
    have hP := hw.1.2.1
    obtain ⟨n, rfl⟩ : ∃ u, n = u + 1 := ⟨n - 1, by omega⟩
    obtain ⟨K, k1, k2⟩ := c_kp (KC_all k) hw hS (n := n) (by omega) (by omega) hf (yP τ) 0 2000 M h (by omega) (by omega)
    have k1' : s_X4_isKnownIn_25 (s_X4_isKnownIn n) 0 (nI (k + 1)) (nI f) (yWd τ yA1 99) 2000 0 M = _ := k1
    rw [s_X4_isKnownIn]
    unfold s_X4_isKnownIn_b
    have e1 : yKn f (k + 1) τ = (!decide (ySu f (yWd τ yA1 99) = -1) || ykp (yKn f k) τ (yP τ) 0) := rfl
    rw [c_surety (by omega), qb1, qi_le rfl (show (0 : Int32) = nI 0 from rfl) (by omega) (by omega), if_neg (show ¬ k + 1 ≤ 0 by omega), qi_le rfl (show (2 : Int32) = nI 2 from rfl) (by omega) (by omega), if_pos hk2, e1]
    by_cases e : ySu f (yWd τ yA1 99) = -1
    · refine ⟨K, ?_, k2⟩
      rw [if_pos e, decide_eq_true e, k1']; rfl
    · refine ⟨M, ?_, gG_refl _ _⟩
      rw [if_neg e, decide_eq_false e]; rfl
theorem r_l1 (ih : KR f k) {τ : hT} {M : hf_M} (hR : yRf M) (h : yR τ M) (hw : yWF τ) (hS : yS τ + (k + 1) ≤ 26) {n : Nat} (hn : k < n) (hk2 : k ≤ 2) (hf : f < yF τ) {p g : Nat} (hp : p < yP τ) (hg : g < yF τ) (hu : yFu τ p = false) (b : Bool) (k45 : Int32 → hf_M → Option (Int32 × hf_M)) (fu : Nat) : ∃ K, s_X5_isKnown_60 (s_X5_isKnown n) k45 49 (nI f) (nI (k + 1)) (nI p) (nI g) (fu + 1) 1 (qbI b) M = s_X5_isKnown_60 (s_X5_isKnown n) k45 49 (nI f) (nI (k + 1)) (nI p) (nI g) fu (qbI (ylk (yKn f k) τ p g b)) (qbI b + 1) K ∧ gG (Gr (yS τ)) M K := by
  have hF := hw.1.1
  obtain ⟨L, l1, l2⟩ := r_leaves (b := b) hR hw h hp (show g < 6 by omega) (yFu_f hu) (by omega)
  have hRL := gG_rf l2 hR
  have hL := yR_g h l2
  have e2 : ¬ (2 : Int32) ≤ qbI b := by cases b <;> decide
  have l1 : s_X5_leaves 49 (nI p) (nI g) (qbI b) M = some (nI (ypop (yWa τ p g b)), L) := l1
  rw [s_X5_isKnown_60, if_neg e2, if_neg q10, l1, qb1]
  by_cases e0 : yWa τ p g b = 0
  · refine ⟨L, ?_, l2⟩
    rw [if_pos (nI_ne0'.mpr e0)]
    unfold ylk
    rw [decide_eq_true e0]; rfl
  · obtain ⟨K, k1, k2⟩ := ih (yad τ p g b) (rPu p g (yS τ) (qbI b) L) n (rPu_Rf hRL) (rPu_R hL) (yad_WF hw hp (by omega) (yFu_f hu) (by omega)) (by show yS τ + 1 + k ≤ 26; omega) hn hk2 hf
    obtain ⟨d1, d2⟩ := r_dropG hL k2
    refine ⟨_, ?_, gG_tr l2 d2⟩
    rw [if_neg (fun e => e0 (nI_ne0'.mp e)), r_adds hRL hL (by omega) _ _ _ p g rfl rfl, qb1, nI_pred, k1, qb1, qpt, d1]
    unfold ylk
    rw [decide_eq_false e0, Bool.false_or]
theorem r_kg (ih : KR f k) {τ : hT} (hw : yWF τ) (hS : yS τ + (k + 1) ≤ 26) {n : Nat} (hn : k < n) (hk2 : k ≤ 2) (hf : f < yF τ) {p : Nat} (hp : p < yP τ) (k23 : Int32 → hf_M → Option (Int32 × hf_M)) (hu : yFu τ p = false) : ∀ (m g fu : Nat) (M : hf_M), yRf M → yR τ M → yF τ = g + m → m < fu → ∃ K, s_X5_isKnown_45 (s_X5_isKnown n) k23 49 (nI f) (nI (k + 1)) (nI p) fu (nI g) M = (if ykg (yKn f k) τ p m g = true then some (1, K) else k23 (nI (p + 1)) K) ∧ gG (Gr (yS τ)) M K := by
  have hF := hw.1.1
  intro m
  induction m with
  | zero =>
    intro g fu M hR h hm hfu
    obtain ⟨fu, rfl⟩ : ∃ u, fu = u + 1 := ⟨fu - 1, by omega⟩
    refine ⟨M, ?_, gG_refl _ _⟩
    rw [s_X5_isKnown_45, h.1.1, qi_le rfl rfl (by omega) (by omega), if_pos (by omega), nI_1]; rfl
  | succ m ihm =>
    intro g fu M hR h hm hfu
    obtain ⟨fu, rfl⟩ : ∃ u, fu = u + 1 := ⟨fu - 1, by omega⟩
    have e : ykg (yKn f k) τ p (m + 1) g = ((ylk (yKn f k) τ p g true && ylk (yKn f k) τ p g false) || ykg (yKn f k) τ p m (g + 1)) := rfl
    rw [s_X5_isKnown_45, h.1.1, qi_le rfl rfl (by omega) (by omega), if_neg (by omega), e]
    obtain ⟨K, k1, k2⟩ := r_l1 ih hR h hw hS hn hk2 hf hp (g := g) (by omega) hu false (s_X5_isKnown_45 (s_X5_isKnown n) k23 49 (nI f) (nI (k + 1)) (nI p) fu) 1999
    have hRK := gG_rf k2 hR
    have hK := yR_g h k2
    have k1' : s_X5_isKnown_60 (s_X5_isKnown n) (s_X5_isKnown_45 (s_X5_isKnown n) k23 49 (nI f) (nI (k + 1)) (nI p) fu) 49 (nI f) (nI (k + 1)) (nI p) (nI g) 2000 1 0 M = _ := k1
    rw [k1']
    cases hb1 : ylk (yKn f k) τ p g false
    · obtain ⟨N, n1, n2⟩ := ihm (g + 1) fu K hRK hK (by omega) (by omega)
      refine ⟨N, ?_, gG_tr k2 n2⟩
      have : s_X5_isKnown_60 (s_X5_isKnown n) (s_X5_isKnown_45 (s_X5_isKnown n) k23 49 (nI f) (nI (k + 1)) (nI p) fu) 49 (nI f) (nI (k + 1)) (nI p) (nI g) (1998 + 1) (qbI false) (qbI false + 1) K = s_X5_isKnown_45 (s_X5_isKnown n) k23 49 (nI f) (nI (k + 1)) (nI p) fu (nI g + 1) K := by
        rw [s_X5_isKnown_60, if_neg (show ¬ (2 : Int32) ≤ qbI false + 1 by decide), qb_ifF, qb_ifF]
      rw [Bool.and_false, Bool.false_or]
      refine Eq.trans this ?_
      rw [nI_1]
      exact n1
    · obtain ⟨L, l1, l2⟩ := r_l1 ih hRK hK hw hS hn hk2 hf hp (g := g) (by omega) hu true (s_X5_isKnown_45 (s_X5_isKnown n) k23 49 (nI f) (nI (k + 1)) (nI p) fu) 1998
      have hRL := gG_rf l2 hRK
      have hL := yR_g hK l2
      have l1' : s_X5_isKnown_60 (s_X5_isKnown n) (s_X5_isKnown_45 (s_X5_isKnown n) k23 49 (nI f) (nI (k + 1)) (nI p) fu) 49 (nI f) (nI (k + 1)) (nI p) (nI g) 1999 (qbI true) (qbI false + 1) K = _ := l1
      rw [l1', Bool.and_true]
      have hend : ∀ b : Bool, s_X5_isKnown_60 (s_X5_isKnown n) (s_X5_isKnown_45 (s_X5_isKnown n) k23 49 (nI f) (nI (k + 1)) (nI p) fu) 49 (nI f) (nI (k + 1)) (nI p) (nI g) (1997 + 1) (qbI b) (qbI true + 1) L = if b = true then some (1, L) else s_X5_isKnown_45 (s_X5_isKnown n) k23 49 (nI f) (nI (k + 1)) (nI p) fu (nI g + 1) L := by
        intro b
        rw [s_X5_isKnown_60, if_pos (show (2 : Int32) ≤ qbI true + 1 by decide), qb_if]
      cases hb2 : ylk (yKn f k) τ p g true
      · obtain ⟨N, n1, n2⟩ := ihm (g + 1) fu L hRL hL (by omega) (by omega)
        refine ⟨N, ?_, gG_tr (gG_tr k2 l2) n2⟩
        refine Eq.trans (hend false) ?_
        rw [if_neg (by decide), nI_1, Bool.false_or]
        exact n1
      · exact ⟨L, hend true, gG_tr k2 l2⟩
theorem r_kp (ih : KR f k) {τ : hT} (hw : yWF τ) (hS : yS τ + (k + 1) ≤ 26) {n : Nat} (hn : k < n) (hk2 : k ≤ 2) (hf : f < yF τ) : ∀ (m p fu : Nat) (M : hf_M), yRf M → yR τ M → yP τ = p + m → m < fu → ∃ K, s_X5_isKnown_23 (s_X5_isKnown n) 49 (nI f) (nI (k + 1)) fu (nI p) M = some (qbI (ykp (yKn f k) τ m p), K) ∧ gG (Gr (yS τ)) M K := by
  have hF := hw.1.1
  have hP := hw.1.2.1
  intro m
  induction m with
  | zero =>
    intro p fu M hR h hm hfu
    obtain ⟨fu, rfl⟩ : ∃ u, fu = u + 1 := ⟨fu - 1, by omega⟩
    refine ⟨M, ?_, gG_refl _ _⟩
    rw [s_X5_isKnown_23, h.1.2.1, qi_le rfl rfl (by omega) (by omega), if_pos (by omega)]; rfl
  | succ m ihm =>
    intro p fu M hR h hm hfu
    obtain ⟨fu, rfl⟩ : ∃ u, fu = u + 1 := ⟨fu - 1, by omega⟩
    have e : ykp (yKn f k) τ (m + 1) p = ((!yFu τ p && ykg (yKn f k) τ p (yF τ) 0) || ykp (yKn f k) τ m (p + 1)) := rfl
    have ef : s_X5_isFull 49 (nI p) M = some (qbI (yFu τ p), M) := r_full hR hw h (p := p) (by omega)
    rw [s_X5_isKnown_23, h.1.2.1, qi_le rfl rfl (by omega) (by omega), if_neg (by omega), ef, qb1, e]
    cases hu : yFu τ p
    · obtain ⟨K, k1, k2⟩ := r_kg ih hw hS hn hk2 hf (p := p) (by omega) (s_X5_isKnown_23 (s_X5_isKnown n) 49 (nI f) (nI (k + 1)) fu) hu (yF τ) 0 2000 M hR h (by omega) (by omega)
      have k1' : s_X5_isKnown_45 (s_X5_isKnown n) (s_X5_isKnown_23 (s_X5_isKnown n) 49 (nI f) (nI (k + 1)) fu) 49 (nI f) (nI (k + 1)) (nI p) 2000 0 M = _ := k1
      rw [qb_ifF, k1']
      cases hb : ykg (yKn f k) τ p (yF τ) 0
      · obtain ⟨N, n1, n2⟩ := ihm (p + 1) fu K (gG_rf k2 hR) (yR_g h k2) (by omega) (by omega)
        exact ⟨N, n1, gG_tr k2 n2⟩
      · exact ⟨K, rfl, k2⟩
    · obtain ⟨N, n1, n2⟩ := ihm (p + 1) fu M hR h (by omega) (by omega)
      refine ⟨N, ?_, n2⟩
      rw [qb_ifT, nI_1]
      exact n1
theorem KR_all : ∀ k, KR f k
  | 0 => by
    intro τ M n hR h hw hS hn hk2 hf
    have hF := hw.1.1
    obtain ⟨n, rfl⟩ : ∃ u, n = u + 1 := ⟨n - 1, by omega⟩
    refine ⟨M, ?_, gG_refl _ _⟩
    rw [s_X5_isKnown]
    unfold s_X5_isKnown_b yKn
    rw [r_worldsNow hR hw h, qb1, r_sureBy h.1.1 hF (by omega) (fun w hw1 h1 => yWd_lt hw hw1 h1), qb1]
    by_cases e : ySu f (yWd τ yA1 99) = -1
    · rw [if_pos e, decide_eq_true e, if_pos (show nI 0 = 0 from rfl)]; rfl
    · rw [if_neg e, decide_eq_false e]; rfl
  | k + 1 => by
    intro τ M n hR h hw hS hn hk2 hf
    have hF := hw.1.1
    have hP := hw.1.2.1
    obtain ⟨n, rfl⟩ : ∃ u, n = u + 1 := ⟨n - 1, by omega⟩
    obtain ⟨K, k1, k2⟩ := r_kp (KR_all k) hw hS (n := n) (by omega) (by omega) hf (yP τ) 0 2000 M hR h (by omega) (by omega)
    have k1' : s_X5_isKnown_23 (s_X5_isKnown n) 49 (nI f) (nI (k + 1)) 2000 0 M = _ := k1
    rw [s_X5_isKnown]
    unfold s_X5_isKnown_b
    have e1 : yKn f (k + 1) τ = (!decide (ySu f (yWd τ yA1 99) = -1) || ykp (yKn f k) τ (yP τ) 0) := rfl
    rw [r_worldsNow hR hw h, qb1, r_sureBy h.1.1 hF (by omega) (fun w hw1 h1 => yWd_lt hw hw1 h1), qb1, if_neg (nI_ne0 (n := k + 1) (by omega) (by omega)), e1]
    by_cases e : ySu f (yWd τ yA1 99) = -1
    · refine ⟨K, ?_, k2⟩
      rw [if_pos e, decide_eq_true e, k1']; rfl
    · refine ⟨M, ?_, gG_refl _ _⟩
      rw [if_neg e, decide_eq_false e]; rfl
end KN
theorem j_kn {υ : hU} {M : hf_M} (hJ : Jv υ M) {f k : Nat} (hf : f < yF (uT υ)) (hk : k ≤ 2) : ∃ K, s_X4_isKnownIn 4 0 (nI k) (nI f) (yWd (uT υ) yA1 99) M = some (qbI (yKn f k (uT υ)), K) ∧ gG (GG (yS (uT υ))) M K := by
  have hS := jS hJ
  obtain ⟨K, k1, k2⟩ := KC_all (f := f) k (uT υ) M 4 ⟨hJ.1, (jc hJ).1, (jc hJ).2.1⟩ (jw hJ) (by omega) (by omega) hk hf
  exact ⟨K, k1, gc_GG k2 (Nat.le_refl _)⟩
theorem j_kr {υ : hU} {M : hf_M} (hJ : Jv υ M) {f k : Nat} (hf : f < yF (uT υ)) (hk : k ≤ 2) : ∃ K, s_X5_isKnown 4 49 (nI f) (nI k) M = some (qbI (yKn f k (uT υ)), K) ∧ gG (GG (yS (uT υ))) M K := by
  have hS := jS hJ
  obtain ⟨K, k1, k2⟩ := KR_all (f := f) k (uT υ) M 4 hJ.1 (jr hJ).1 (jw hJ) (by omega) (by omega) hk hf
  exact ⟨K, k1, gr_GG k2 (Nat.le_refl _)⟩
theorem p_knows : hs_knows Inv := by
  intro M ⟨υ, hJ, hRe⟩ a1 a2
  have hF := (jw hJ).1.1
  cases hb : yin a1 (yF (uT υ))
  · refine ⟨-1, bC 1 M, bR 1 (bC 1 M), ?_, ?_, Inv_ref0 hJ hRe⟩
    · unfold s_X4_knows
      rw [j0 hJ, qrs, j_cF hJ, qb1, hb, qb_ifF, c_ref hJ.1 (j := 1) rfl (by decide) (by decide), qb1]
    · unfold s_X5_knows
      rw [j_rF (Jv_bC hJ), qb1, hb, qb_ifF, r_no (M := bC _ M) hJ.1 (j := 1) rfl (by decide), qb1]
  · obtain ⟨f, hf, rfl⟩ := yin_T hb (by omega)
    by_cases hv : a2 < 0 ∨ 2 < a2
    · refine ⟨-6, bC 6 M, bR 6 (bC 6 M), ?_, ?_, Inv_ref0 hJ hRe⟩
      · unfold s_X4_knows s_X4_within
        rw [j0 hJ, qrs, j_cF hJ, qb1, hb, qb_ifT]
        by_cases h1 : a2 < 0
        · rw [if_pos h1, qb1, if_pos rfl, c_ref hJ.1 (j := 6) rfl (by decide) (by decide), qb1]
        · rw [if_neg h1, if_pos (hv.resolve_left h1), qb1, if_pos rfl, c_ref hJ.1 (j := 6) rfl (by decide) (by decide), qb1]
      · unfold s_X5_knows
        rw [j_rF (Jv_bC hJ), qb1, hb, qb_ifT]
        by_cases h1 : a2 < 0
        · rw [if_pos h1, r_no (M := bC _ M) hJ.1 (j := 6) rfl (by decide), qb1]
        · rw [if_neg h1, if_neg (Int32.not_le.mpr (hv.resolve_left h1)), r_no (M := bC _ M) hJ.1 (j := 6) rfl (by decide), qb1]
    · have h1 : ¬ a2 < 0 := fun e => hv (Or.inl e)
      have h2 : ¬ 2 < a2 := fun e => hv (Or.inr e)
      obtain ⟨k, hk, rfl⟩ := nI_of2 (M := 2) (n := 2) (by decide) h1 (Int32.not_lt.mp h2)
      obtain ⟨K, k1, k2⟩ := j_kn hJ hf hk
      have hK := Jv_GG hJ k2
      obtain ⟨L, l1, l2⟩ := j_kr hK hf hk
      refine ⟨qbI (yKn f k (uT υ)), K, L, ?_, ?_, Inv_GG hJ hRe (gG_tr k2 l2)⟩
      · unfold s_X4_knows s_X4_within
        rw [j0 hJ, qrs, j_cF hJ, qb1, hb, qb_ifT, if_neg h1, if_neg h2, qb1, if_neg q10, j0 hJ, qrs, j_poss hJ, qb1, k1, qb1]
        cases yKn f k (uT υ) <;> rfl
      · unfold s_X5_knows
        rw [j_rF hK, qb1, hb, qb_ifT, if_neg h1, if_pos (Int32.not_lt.mp h2), l1, qb1]
        cases yKn f k (uT υ) <;> rfl
def ytk (f : Nat) (τ : hT) : Nat → Nat → Int32
  | 0, _ => -1
  | m + 1, k => if yKn f k τ = true then nI k else ytk f τ m (k + 1)
theorem c_tr {υ : hU} {f : Nat} (hf : f < yF (uT υ)) : ∀ (m k fu : Nat) (M : hf_M), Jv υ M → 3 = k + m → m < fu → ∃ K, s_X4_tree_33 0 (nI f) (yWd (uT υ) yA1 99) fu (nI k) M = some (ytk f (uT υ) m k, K) ∧ gG (GG (yS (uT υ))) M K := by
  intro m
  induction m with
  | zero =>
    intro k fu M hJ hm hfu
    obtain ⟨fu, rfl⟩ : ∃ u, fu = u + 1 := ⟨fu - 1, by omega⟩
    refine ⟨M, ?_, gG_refl _ _⟩
    rw [s_X4_tree_33, qi_lt (show (2 : Int32) = nI 2 from rfl) rfl (by omega) (by omega), if_pos (by omega)]; rfl
  | succ m ih =>
    intro k fu M hJ hm hfu
    obtain ⟨fu, rfl⟩ : ∃ u, fu = u + 1 := ⟨fu - 1, by omega⟩
    obtain ⟨K, k1, k2⟩ := j_kn hJ hf (k := k) (by omega)
    obtain ⟨L, l1, l2⟩ := ih (k + 1) fu K (Jv_GG hJ k2) (by omega) (by omega)
    have e : ytk f (uT υ) (m + 1) k = if yKn f k (uT υ) = true then nI k else ytk f (uT υ) m (k + 1) := rfl
    rw [s_X4_tree_33, qi_lt (show (2 : Int32) = nI 2 from rfl) rfl (by omega) (by omega), if_neg (by omega), k1, qb1, nI_1, e]
    cases hb : yKn f k (uT υ)
    · exact ⟨L, l1, gG_tr k2 l2⟩
    · exact ⟨K, rfl, k2⟩
theorem r_tr {υ : hU} {f : Nat} (hf : f < yF (uT υ)) : ∀ (m k fu : Nat) (M : hf_M), Jv υ M → 3 = k + m → m < fu → ∃ K, s_X5_tree_16 49 (nI f) fu (nI k) M = some (ytk f (uT υ) m k, K) ∧ gG (GG (yS (uT υ))) M K := by
  intro m
  induction m with
  | zero =>
    intro k fu M hJ hm hfu
    obtain ⟨fu, rfl⟩ : ∃ u, fu = u + 1 := ⟨fu - 1, by omega⟩
    refine ⟨M, ?_, gG_refl _ _⟩
    rw [s_X5_tree_16, qi_le (show (3 : Int32) = nI 3 from rfl) rfl (by omega) (by omega), if_pos (by omega)]; rfl
  | succ m ih =>
    intro k fu M hJ hm hfu
    obtain ⟨fu, rfl⟩ : ∃ u, fu = u + 1 := ⟨fu - 1, by omega⟩
    obtain ⟨K, k1, k2⟩ := j_kr hJ hf (k := k) (by omega)
    obtain ⟨L, l1, l2⟩ := ih (k + 1) fu K (Jv_GG hJ k2) (by omega) (by omega)
    have e : ytk f (uT υ) (m + 1) k = if yKn f k (uT υ) = true then nI k else ytk f (uT υ) m (k + 1) := rfl
    rw [s_X5_tree_16, qi_le (show (3 : Int32) = nI 3 from rfl) rfl (by omega) (by omega), if_neg (by omega), k1, qb1, nI_1, e]
    cases hb : yKn f k (uT υ)
    · exact ⟨L, l1, gG_tr k2 l2⟩
    · exact ⟨K, rfl, k2⟩
theorem p_tree : hs_tree Inv := by
  intro M ⟨υ, hJ, hRe⟩ a1
  have hF := (jw hJ).1.1
  cases hb : yin a1 (yF (uT υ))
  · refine ⟨-11, bC 1 M, bR 1 (bC 1 M), ?_, ?_, Inv_ref0 hJ hRe⟩
    · unfold s_X4_tree
      rw [j0 hJ, qrs, j_cF hJ, qb1, hb, qb_ifF, c_ref_ hJ.1 (j := 1) rfl (by decide) (by decide), qb1]
    · unfold s_X5_tree
      rw [j_rF (Jv_bC hJ), qb1, hb, qb_ifF, r_noTen (M := bC _ M) hJ.1 (j := 1) rfl (by decide), qb1]; rfl
  · obtain ⟨f, hf, rfl⟩ := yin_T hb (by omega)
    obtain ⟨K, k1, k2⟩ := c_tr hf 3 0 2000 M hJ (by omega) (by omega)
    have hK := Jv_GG hJ k2
    obtain ⟨L, l1, l2⟩ := r_tr hf 3 0 2000 K hK (by omega) (by omega)
    refine ⟨ytk f (uT υ) 3 0, K, L, ?_, ?_, Inv_GG hJ hRe (gG_tr k2 l2)⟩
    · unfold s_X4_tree
      rw [j0 hJ, qrs, j_cF hJ, qb1, hb, qb_ifT, j0 hJ, qrs, j_poss hJ, qb1]; exact k1
    · unfold s_X5_tree
      rw [j_rF hK, qb1, hb, qb_ifT]; exact l1
