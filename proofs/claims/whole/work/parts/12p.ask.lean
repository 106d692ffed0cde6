/-! asked in truth -/
def uSe (υ : hU) (z : Int32) : hU := (uT υ, uh υ, ud υ, z, uw υ)
def Gc15 (S k j : Nat) : Prop := Gc 1 S k j ∨ (k = 1 ∧ j = 15)
def Gr6 (S k j : Nat) : Prop := Gr S k j ∨ (k = 49 ∧ j = 6)
theorem cU_se {υ : hU} {M K : hf_M} {z : Int32} (h : cU 1 υ M) (g : gG (Gc15 (yS (uT υ))) M K) (hz : K.1 1 15 = z) : cU 1 (uSe υ z) K := by
  obtain ⟨h1, h2, h3, h4, h5, h6, h7⟩ := h
  have e : ∀ k j, ¬ Gc15 (yS (uT υ)) k j → K.1 k j = M.1 k j := fun k j hk => (g.2 k j hk).1
  have g1 : cB 1 (uT υ) K := cB_ag (ag_g g (fun k j hk hn => by unfold Zb at hk; unfold Gc15 Gc at hn; omega)) h1
  have g2 : ∀ w, w < 64 → cV 1 (uT υ) w K := fun w hw => cV_ag (fun j hj => (g.2 (1 + 8) j (by unfold Gc15 Gc; omega)).2) (h2 w hw)
  have g3 : cW 1 (uT υ) K := cW_ag (fun j hj => e _ _ (by unfold Gc15 Gc; omega)) h3
  refine ⟨g1, g2, g3, fun j hj => ?_, ?_, ?_, ?_⟩
  · rw [e _ _ (by unfold Gc15 Gc; omega)]; exact h4 j hj
  · rw [e _ _ (by unfold Gc15 Gc; omega)]; exact h5
  · exact hz
  · rw [e _ _ (by unfold Gc15 Gc; omega)]; exact h7
theorem rU_se {υ : hU} {M K : hf_M} {z : Int32} (h : rU υ M) (g : gG (Gr6 (yS (uT υ))) M K) (hz : K.1 49 6 = z) : rU (uSe υ z) K := by
  obtain ⟨h1, h4, h5, h6, h7⟩ := h
  have e : ∀ k j, ¬ Gr6 (yS (uT υ)) k j → K.1 k j = M.1 k j := fun k j hk => (g.2 k j hk).1
  have g1 : yR (uT υ) K := yR_ag (ag_g g (fun k j hk hn => by unfold Zy at hk; unfold Gr6 Gr at hn; omega)) h1
  refine ⟨g1, fun j hj => ?_, ?_, ?_, ?_⟩
  · rw [e _ _ (by unfold Gr6 Gr; omega)]; exact h4 j hj
  · rw [e _ _ (by unfold Gr6 Gr; omega)]; exact h5
  · exact hz
  · rw [e _ _ (by unfold Gr6 Gr; omega)]; exact h7
def yys (τ : hT) (p d : Nat) (t : Bool) : Bool := yok (yad τ p 0 (d.testBit 0 == t)) p yA1 d
def yAs (υ : hU) (p d : Nat) : Option (Bool × Int32) :=
  if yfr (uT υ) p = false then some (ymu (uT υ) p (ycn (yw (uT υ)) p (yS (uT υ))), us υ)
  else if yys (uT υ) p d true = true ∧ yys (uT υ) p d false = true then some (decide (ylo (us υ) 2 = 1), ylt (us υ))
  else if yys (uT υ) p d true = false ∧ yys (uT υ) p d false = false then none
  else some (yys (uT υ) p d true, us υ)
def yA1v (o : Option (Bool × Int32)) : Int32 := match o with | none => -1 | some q => qbI q.1
def yA2v (s : Int32) (o : Option (Bool × Int32)) : Int32 := match o with | none => s | some q => q.2
theorem lo2 (s : Int32) : nI (ylo s 2) = qbI (decide (ylo s 2 = 1)) := by
  have h : ylo s 2 < 2 := Nat.mod_lt _ (by decide)
  generalize ylo s 2 = y at *
  have h2 : y = 0 ∨ y = 1 := by omega
  rcases h2 with rfl | rfl <;> rfl
theorem c_tit {υ : hU} {M : hf_M} (hJ : Jv υ M) {p d : Nat} (hp : p < yP (uT υ)) (hu : yFu (uT υ) p = false) (hd : d < 64) (hdw : uw υ = nI d) : ∃ K, s_X4_truthInTruth 0 (nI p) M = some (yA1v (yAs υ p d), K) ∧ gG (Gc15 (yS (uT υ))) M K ∧ K.1 1 15 = yA2v (us υ) (yAs υ p d) ∧ K.2.1 1 15 = M.2.1 1 15 := by
  have hS := jS hJ
  have hP := (jw hJ).1.2.1
  unfold yAs
  cases hfr : yfr (uT υ) p
  · refine ⟨M, ?_, gG_refl _ _, ?_, rfl⟩
    · unfold s_X4_truthInTruth
      rw [j0 hJ, qrs, c_free hJ.1 q1 (jw hJ) (jc hJ).1 hp, qb1, hfr, qb_ifF, j0 hJ, qrs, qrs, cr3 hJ.1 q1, qrs, qlI M (by show p < 6; omega), ((jc hJ).1.2.1 p hp).2.2, c_mustN hJ hp hfr, qb1, if_pos rfl]
      show _ = some (qbI (ymu (uT υ) p (ycn (yw (uT υ)) p (yS (uT υ)))), M)
      cases ymu (uT υ) p (ycn (yw (uT υ)) p (yS (uT υ))) <;> rfl
    · rw [if_pos rfl]
      exact (jc hJ).2.2.2.2.2.1
  · obtain ⟨K, k1, k2⟩ := c_next (b := true) hJ.1 q1 (jw hJ) (jc hJ).1 (by omega) (jc hJ).2.1 hp (yFu_f hu)
    have hK := Jv_GG hJ (gc_GG k2 (Nat.le_refl _))
    obtain ⟨L, l1, l2⟩ := c_next (b := false) hK.1 q1 (jw hK) (jc hK).1 (by omega) (jc hK).2.1 hp (yFu_f hu)
    have hL := Jv_GG hK (gc_GG l2 (Nat.le_refl _))
    have k1' : s_X3_allowedNext 1 (nI p) 1 M = some (yNx (uT υ) p true, K) := k1
    have l1' : s_X3_allowedNext 1 (nI p) 0 K = some (yNx (uT υ) p false, L) := l1
    have ky : qlb (yNx (uT υ) p true) d = yys (uT υ) p d true := qof_b _ hd
    have kn : qlb (yNx (uT υ) p false) d = yys (uT υ) p d false := qof_b _ hd
    have kd : K.1 1 16 = nI d := ((jc hK).2.2.2.2.2.2).trans hdw
    have ld : L.1 1 16 = nI d := ((jc hL).2.2.2.2.2.2).trans hdw
    have gL : gG (Gc15 (yS (uT υ))) M L := gG_mono (gG_tr k2 l2) (fun _ _ h => Or.inl h)
    have lL : L.2.1 1 15 = M.2.1 1 15 := ((gG_tr k2 l2).2 1 15 (by unfold Gc; omega)).2
    have s15 : L.1 1 15 = us υ := (jc hL).2.2.2.2.2.1
    have elo := c_lot (q := 1) (M := L) s15 (n := 2) (by decide) (by decide)
    have elo' : s_X3_drawBelow 1 2 L = some (nI (ylo (us υ) 2), hf_sI L 1 15 (ylt (us υ))) := elo
    have ebase : ∀ {x}, (if qbI (yys (uT υ) p d true) = 1 then if qbI (yys (uT υ) p d false) = 1 then hf_rf (L.2.2 0 0) (fun q16 => hf_bd (s_X3_drawBelow q16 2 L) (fun r17 M18 => some (r17, M18))) else if qbI (yys (uT υ) p d true) = 0 then if qbI (yys (uT υ) p d false) = 0 then some (-1, L) else some (qbI (yys (uT υ) p d true), L) else some (qbI (yys (uT υ) p d true), L) else if qbI (yys (uT υ) p d true) = 0 then if qbI (yys (uT υ) p d false) = 0 then some (-1, L) else some (qbI (yys (uT υ) p d true), L) else some (qbI (yys (uT υ) p d true), L)) = x → s_X4_truthInTruth 0 (nI p) M = x := by
      intro x hx
      rw [← hx]
      unfold s_X4_truthInTruth
      rw [j0 hJ, qrs, c_free hJ.1 q1 (jw hJ) (jc hJ).1 hp, qb1, hfr, qb_ifT, j0 hJ, qrs, k1', qb1, j0 hK, qrs, kd, c_bit _ hd, qb1, j0 hK, qrs, l1', qb1, j0 hL, qrs, ld, c_bit _ hd, qb1, ky, kn, j0 hL]
    rw [if_neg (show ¬ true = false by decide)]
    cases hy : yys (uT υ) p d true <;> cases hn : yys (uT υ) p d false
    · refine ⟨L, ebase ?_, gL, ?_, lL⟩
      · rw [hy, hn, if_neg (show ¬ (false = true ∧ false = true) by decide), if_pos (show false = false ∧ false = false from ⟨rfl, rfl⟩)]; rfl
      · rw [if_neg (show ¬ (false = true ∧ false = true) by decide), if_pos (show false = false ∧ false = false from ⟨rfl, rfl⟩)]; exact s15
    · refine ⟨L, ebase ?_, gL, ?_, lL⟩
      · rw [hy, hn, if_neg (show ¬ (false = true ∧ true = true) by decide), if_neg (show ¬ (false = false ∧ true = false) by decide)]; rfl
      · rw [if_neg (show ¬ (false = true ∧ true = true) by decide), if_neg (show ¬ (false = false ∧ true = false) by decide)]; exact s15
    · refine ⟨L, ebase ?_, gL, ?_, lL⟩
      · rw [hy, hn, if_neg (show ¬ (true = true ∧ false = true) by decide), if_neg (show ¬ (true = false ∧ false = false) by decide)]; rfl
      · rw [if_neg (show ¬ (true = true ∧ false = true) by decide), if_neg (show ¬ (true = false ∧ false = false) by decide)]; exact s15
    · refine ⟨hf_sI L 1 15 (ylt (us υ)), ebase ?_, gG_tr gL (gG_I (Or.inr ⟨rfl, rfl⟩)), ?_, lL⟩
      · rw [hy, hn, if_pos (show true = true ∧ true = true from ⟨rfl, rfl⟩), if_pos (show qbI true = 1 from rfl), if_pos (show qbI true = 1 from rfl), j0 hL, qrs, elo', qb1, lo2]; rfl
      · rw [if_pos (show true = true ∧ true = true from ⟨rfl, rfl⟩), gI0]; rfl
theorem ask142 {N : hf_M} {d f : Nat} (hd : d < 64) (hf : f < 6) (h7 : N.1 49 7 = nI d) (p own : Int32) (t : Bool) : s_X5_ask_142 49 p (nI f) own (qbI t) N = s_X5_ask_169 49 p (nI f) own (qbI (d.testBit f == t)) N := by
  unfold s_X5_ask_142 s_X5_ask_159
  rw [h7, qsb (by omega) (by omega)]
  cases d.testBit f <;> cases t <;> rfl
/-- the reference's last part -/
theorem r_169 {υ : hU} {N : hf_M} (hR : yRf N) (hw : yWF (uT υ)) (hS : yS (uT υ) ≤ 24) {p f : Nat} (hp : p < yP (uT υ)) (hf : f < yF (uT υ)) (hu : yFu (uT υ) p = false) {z : Int32} (h : rU (uSe υ z) N) (own : Int32) (b : Bool) : (yWa (uT υ) p f b = 0 → ∃ L, s_X5_ask_169 49 (nI p) (nI f) own (qbI b) N = hf_bd (s_X5_no 49 (-6) (hf_sI L 49 6 own)) (fun r M => some (r, M)) ∧ gG (Gr (yS (uT υ))) N L) ∧ (yWa (uT υ) p f b ≠ 0 → yS (uT υ) = 24 → ∃ L, s_X5_ask_169 49 (nI p) (nI f) own (qbI b) N = hf_bd (s_X5_no 49 (-7) (hf_sI L 49 6 own)) (fun r M => some (r, M)) ∧ gG (Gr (yS (uT υ))) N L) ∧ (yWa (uT υ) p f b ≠ 0 → yS (uT υ) < 24 → ∃ L, s_X5_ask_169 49 (nI p) (nI f) own (qbI b) N = some (qbI b, L) ∧ rU (uS (uSe υ z) p f b) L ∧ gG GrT N L) := by
  have hF := hw.1.1
  obtain ⟨L, l1, l2⟩ := r_leaves (τ := uT υ) (b := b) hR hw h.1 hp (show f < 6 by omega) (yFu_f hu) (by omega)
  have l1' : s_X5_leaves 49 (nI p) (nI f) (qbI b) N = some (nI (ypop (yWa (uT υ) p f b)), L) := l1
  have hRL := gG_rf l2 hR
  have hL : rU (uSe υ z) L := rU_ag (ag_g l2 (fun k j hk hn => by
    have hk' : Zr (yS (uT υ)) k j := hk
    unfold Zr at hk'; unfold Gr at hn; omega)) h
  have h2 : L.1 49 2 = nI (yS (uT υ)) := hL.1.1.2.2.1
  clear l1
  refine ⟨fun h0 => ⟨L, ?_, l2⟩, fun h0 h24 => ⟨L, ?_, l2⟩, fun h0 h24 => ?_⟩
  · unfold s_X5_ask_169
    rw [l1', qb1, if_pos (nI_ne0'.mpr h0), qpt]
  · unfold s_X5_ask_169
    rw [l1', qb1, if_neg (fun e => h0 (nI_ne0'.mp e)), h2, h24, if_pos (by decide), qpt]
  · obtain ⟨K, k1, k2, k3⟩ := r_addU (υ := uSe υ z) hRL hL (by show yS (uT υ) < 52; omega) p f b
    refine ⟨K, ?_, k2, gG_tr (gG_mono l2 (fun _ _ h => by unfold Gr at h; unfold GrT; omega)) k3⟩
    unfold s_X5_ask_169
    rw [l1', qb1, if_neg (fun e => h0 (nI_ne0'.mp e)), h2, qi_eq rfl (show (24 : Int32) = nI 24 from rfl) (by omega) (by omega), if_neg (by omega), k1, qb1]
/-- the reference up to that -/
theorem r_askto {υ : hU} {N : hf_M} (hR : yRf N) (hw : yWF (uT υ)) (hS : yS (uT υ) ≤ 24) {p f d : Nat} (hp : p < yP (uT υ)) (hf : f < yF (uT υ)) (hu : yFu (uT υ) p = false) (hd : d < 64) (hdw : uw υ = nI d) (h : rU υ N) : ∃ L, gG (Gr6 (yS (uT υ))) N L ∧ L.1 49 6 = yA2v (us υ) (yAs υ p d) ∧ L.2.1 49 6 = N.2.1 49 6 ∧ s_X5_ask 49 (nI p) (nI f) N = (match yAs υ p d with | none => hf_bd (s_X5_no 49 (-6) L) (fun r M => some (r, M)) | some q => s_X5_ask_169 49 (nI p) (nI f) (us υ) (qbI (d.testBit f == q.1)) L) := by
  have hF := hw.1.1
  have hP := hw.1.2.1
  have hyp : yin (nI p) (yP (uT υ)) = true := by rw [yin_nI (by omega) (by omega), decide_eq_true hp]
  have hyf : yin (nI f) (yF (uT υ)) = true := by rw [yin_nI (by omega) (by omega), decide_eq_true hf]
  have h7 : N.1 49 7 = nI d := h.2.2.2.2.trans hdw
  have h6 : N.1 49 6 = us υ := h.2.2.2.1
  have eu : s_X5_isFull 49 (nI p) N = some (qbI (yFu (uT υ) p), N) := r_full hR hw h.1 hp
  have ebase : ∀ {x}, (if qbI (yfr (uT υ) p) = 0 then hf_bd (s_X5_saidBy 49 (nI p) N) (fun r19 M20 => hf_bd (s_X5_isTrue 49 (nI p) r19 M20) (fun r21 M22 => s_X5_ask_142 49 (nI p) (nI f) (us υ) r21 M22)) else hf_bd (s_X5_lets 49 (nI p) (nI d) 1 N) (fun r13 M14 => hf_bd (s_X5_lets 49 (nI p) (M14.1 49 7) 0 M14) (fun r15 M16 => if r13 = 0 then if r15 = 0 then hf_bd (s_X5_no 49 (-6) M16) (fun r17 M18 => some (r17, M18)) else s_X5_ask_114 49 (nI p) (nI f) (us υ) r13 r15 M16 else s_X5_ask_114 49 (nI p) (nI f) (us υ) r13 r15 M16))) = x → s_X5_ask 49 (nI p) (nI f) N = x := by
    intro x hx
    rw [← hx]
    unfold s_X5_ask
    rw [r_isSp h.1.1.2.1, qb1, hyp, qb_ifT, r_isFa h.1.1.1, qb1, hyf, qb_ifT, eu, qb1, hu, qb_ifF, h7, if_neg (fun e => qm1 d (by omega) e.symm), r_isFree hR hw h.1 hp, qb1, h6, h7]
  unfold yAs
  cases hfr : yfr (uT υ) p
  · have h1 := hw.2.2.2.1 p
    have h2 := hw.1.2.2.2.2.1
    refine ⟨N, gG_refl _ _, ?_, rfl, ebase ?_⟩
    · rw [if_pos rfl]; exact h6
    · rw [hfr, qb_ifF, r_saidBy hR hw h.1 hp, qb1, r_isTrue hR hw h.1 hp (by omega), qb1, ask142 hd (by omega) h7, if_pos rfl]
  · obtain ⟨K, k1, k2⟩ := r_lets (τ := uT υ) (b := true) hR hw h.1 hp (yFu_f hu) (by omega) hd
    have hRK := gG_rf k2 hR
    have hK : rU υ K := rU_ag (ag_g k2 (fun k j hk hn => by unfold Zr at hk; unfold Gr at hn; omega)) h
    obtain ⟨L, l1, l2⟩ := r_lets (τ := uT υ) (b := false) hRK hw hK.1 hp (yFu_f hu) (by omega) hd
    have hRL := gG_rf l2 hRK
    have hL : rU υ L := rU_ag (ag_g l2 (fun k j hk hn => by unfold Zr at hk; unfold Gr at hn; omega)) hK
    have k1' : s_X5_lets 49 (nI p) (nI d) 1 N = some (qbI (yys (uT υ) p d true), K) := k1
    have l1' : s_X5_lets 49 (nI p) (nI d) 0 K = some (qbI (yys (uT υ) p d false), L) := l1
    have kd : K.1 49 7 = nI d := hK.2.2.2.2.trans hdw
    have ld : L.1 49 7 = nI d := hL.2.2.2.2.trans hdw
    have lL : L.2.1 49 6 = N.2.1 49 6 := ((gG_tr k2 l2).2 49 6 (by unfold Gr; omega)).2
    have s6 : L.1 49 6 = us υ := hL.2.2.2.1
    have gL : gG (Gr6 (yS (uT υ))) N L := gG_mono (gG_tr k2 l2) (fun _ _ h => Or.inl h)
    have elo := r_lot (M := L) s6 (n := 2) (by decide) (by decide)
    have elo' : s_X5_lot 49 2 L = some (nI (ylo (us υ) 2), hf_sI L 49 6 (ylt (us υ))) := elo
    have e142 : ∀ t, s_X5_ask_142 49 (nI p) (nI f) (us υ) (qbI t) L = s_X5_ask_169 49 (nI p) (nI f) (us υ) (qbI (d.testBit f == t)) L := fun t => ask142 hd (by omega) ld _ _ t
    have e142b : ∀ t, s_X5_ask_142 49 (nI p) (nI f) (us υ) (qbI t) (hf_sI L 49 6 (ylt (us υ))) = s_X5_ask_169 49 (nI p) (nI f) (us υ) (qbI (d.testBit f == t)) (hf_sI L 49 6 (ylt (us υ))) := fun t => ask142 hd (by omega) (by rw [gI (by omega)]; exact ld) _ _ t
    rw [if_neg (show ¬ true = false by decide)]
    cases hy : yys (uT υ) p d true <;> cases hn : yys (uT υ) p d false <;> rw [hy] at k1' <;> rw [hn] at l1'
    · refine ⟨L, gL, ?_, lL, ebase ?_⟩
      · rw [if_neg (show ¬ (false = true ∧ false = true) by decide), if_pos (show false = false ∧ false = false from ⟨rfl, rfl⟩)]; exact s6
      · rw [hfr, qb_ifT, k1', qb1, kd, l1', qb1, qb_ifF, qb_ifF, if_neg (show ¬ (false = true ∧ false = true) by decide), if_pos (show false = false ∧ false = false from ⟨rfl, rfl⟩)]
    · refine ⟨L, gL, ?_, lL, ebase ?_⟩
      · rw [if_neg (show ¬ (false = true ∧ true = true) by decide), if_neg (show ¬ (false = false ∧ true = false) by decide)]; exact s6
      · rw [hfr, qb_ifT, k1', qb1, kd, l1', qb1, qb_ifF, qb_ifT, if_neg (show ¬ (false = true ∧ true = true) by decide), if_neg (show ¬ (false = false ∧ true = false) by decide)]
        unfold s_X5_ask_114 s_X5_ask_140
        rw [if_neg (show ¬ qbI false = qbI true by decide), e142]
    · refine ⟨L, gL, ?_, lL, ebase ?_⟩
      · rw [if_neg (show ¬ (true = true ∧ false = true) by decide), if_neg (show ¬ (true = false ∧ false = false) by decide)]; exact s6
      · rw [hfr, qb_ifT, k1', qb1, kd, l1', qb1, qb_ifT, if_neg (show ¬ (true = true ∧ false = true) by decide), if_neg (show ¬ (true = false ∧ false = false) by decide)]
        unfold s_X5_ask_114 s_X5_ask_140
        rw [if_neg (show ¬ qbI true = qbI false by decide), e142]
    · refine ⟨hf_sI L 49 6 (ylt (us υ)), gG_tr gL (gG_I (Or.inr ⟨rfl, rfl⟩)), ?_, lL, ebase ?_⟩
      · rw [if_pos (show true = true ∧ true = true from ⟨rfl, rfl⟩), gI0]; rfl
      · rw [hfr, qb_ifT, k1', qb1, kd, l1', qb1, qb_ifT, if_pos (show true = true ∧ true = true from ⟨rfl, rfl⟩)]
        unfold s_X5_ask_114 s_X5_ask_140
        rw [if_pos (show qbI true = qbI true from rfl), elo', qb1, lo2]
        have e0 := e142b false
        have e1 := e142b true
        cases decide (ylo (us υ) 2 = 1)
        · rw [if_neg (show ¬ qbI false = 1 by decide)]; exact e0
        · rw [if_pos (show qbI true = 1 from rfl)]; exact e1
