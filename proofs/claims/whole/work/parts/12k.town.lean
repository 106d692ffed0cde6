/-! a fact, a speaker, a law, a saying, a thing known: on the town, in both -/
theorem qlb_shl (x : Int64) {k w : Nat} (hk : k < 64) (hw : w < 64) : qlb (hn_lshl x (nI k)) w = (decide (k ≤ w) && qlb x (w - k)) := by
  unfold hn_lshl
  rw [qshift64 hk]
  unfold qlb
  rw [Int64.toBitVec_shiftLeft]
  have e3 : (lN k).toBitVec.smod 64 = BitVec.ofNat 64 k := by
    have : ∀ w, w < 64 → (lN w).toBitVec.smod 64 = BitVec.ofNat 64 w := by decide +kernel
    exact this k hk
  rw [e3]
  show (x.toBitVec <<< (BitVec.ofNat 64 k).toNat).getLsbD w = _
  rw [BitVec.getLsbD_shiftLeft, BitVec.toNat_ofNat, Nat.mod_eq_of_lt (by omega), decide_eq_true hw, Bool.true_and]
  congr 1
  by_cases h : k ≤ w
  · rw [decide_eq_true h, decide_eq_false (by omega)]; rfl
  · rw [decide_eq_false h, decide_eq_true (by omega)]; rfl
def ylf (τ : hT) : Int64 := yl τ ||| hn_lshl (yl τ) (nI (2 ^ yF τ))
def uF (υ : hU) (a : Int32) : hU := (((yF (uT υ) + 1, yP (uT υ), yS (uT υ), yn (uT υ), yt (uT υ)), yk (uT υ), yc (uT υ), yw (uT υ), yf (uT υ), yb (uT υ), ylf (uT υ)), (fun i => if i = yF (uT υ) then a else uh υ i), ud υ, us υ, uw υ)
def uP (υ : hU) (k c : Nat) : hU := (((yF (uT υ), yP (uT υ) + 1, yS (uT υ), yn (uT υ), yt (uT υ)), (fun i => if i = yP (uT υ) then k else yk (uT υ) i), (fun i => if i = yP (uT υ) then c else yc (uT υ) i), yw (uT υ), yf (uT υ), yb (uT υ), yl (uT υ)), uh υ, ud υ, us υ, uw υ)
def uL (υ : hU) (n t : Nat) : hU := (((yF (uT υ), yP (uT υ), yS (uT υ), n, t), yk (uT υ), yc (uT υ), yw (uT υ), yf (uT υ), yb (uT υ), yl (uT υ)), uh υ, ud υ, us υ, uw υ)
def uS (υ : hU) (p f : Nat) (b : Bool) : hU := (yad (uT υ) p f b, uh υ, ud υ, us υ, uw υ)
def uK (υ : hU) (x : Int64) : hU := (((yF (uT υ), yP (uT υ), yS (uT υ), yn (uT υ), yt (uT υ)), yk (uT υ), yc (uT υ), yw (uT υ), yf (uT υ), yb (uT υ), x), uh υ, ud υ, us υ, uw υ)
def Gq (q k j : Nat) : Prop := (q ≤ k ∧ k ≤ q + 8) ∧ 0 ≤ j
def GrT (k j : Nat) : Prop := (k = 49 ∧ (j ≤ 7 ∨ j = 9)) ∨ (51 ≤ k ∧ k ≤ 56)
theorem gG_I {G : Nat → Nat → Prop} {M : hf_M} {k j : Nat} {v : Int32} (h : G k j) : gG G M (hf_sI M k j v) := ⟨rfl, fun a b hn => ⟨by
  rw [gI]
  by_cases e : a = k
  · right
    intro e2
    subst e e2
    exact hn h
  · exact Or.inl e, rfl⟩⟩
theorem gG_L {G : Nat → Nat → Prop} {M : hf_M} {k j : Nat} {v : Int64} (h : G k j) : gG G M (hf_sL M k j v) := ⟨rfl, fun a b hn => ⟨rfl, by
  rw [gL]
  by_cases e : a = k
  · right
    intro e2
    subst e e2
    exact hn h
  · exact Or.inl e⟩⟩
section TO
variable {υ : hU} {M : hf_M} {q : Nat}
theorem c_addF (hR : yRf M) (hq : cq q) (h : cU q υ M) (hF : yF (uT υ) < 6) (a : Int32) : ∃ N, s_X3_addFact q a M = some ((), N) ∧ cU q (uF υ a) N ∧ gG (Gq q) M N ∧ N.1 q 8 = nI (yF (uT υ) + 1) := by
  have h8 := h.1.1.1
  have h11 := h.1.1.2.2.2.2.2
  refine ⟨hf_sI (hf_sL (hf_sI M (q + 1) (yF (uT υ)) a) q 11 (ylf (uT υ))) q 8 (nI (yF (uT υ) + 1)), ?_, ?_, ?_, gI0⟩
  · unfold s_X3_addFact
    rw [h8, qi_le (show (6 : Int32) = nI 6 from rfl) rfl (by omega) (by omega), if_neg (by omega), cr0 hR hq, qrs, qsI M _ (cl6 hq (by decide) (by decide) hF), qpt, gIL, h11, gI (by omega), h8, q_pow (by omega), qpt, gLI, gI (by omega), h8, nI_1]
    rfl
  · obtain ⟨⟨⟨b8, b9, b10, b12, b13, b11⟩, hk, hs⟩, hv, hw, hh, h14, h15, h16⟩ := h
    refine ⟨⟨⟨gI0, ?_, ?_, ?_, ?_, ?_⟩, fun p hp => ⟨?_, ?_, ?_⟩, fun i hi => ⟨?_, ?_⟩⟩, fun w hww i hi => ?_, fun i hi => ?_, fun j hj => ?_, ?_, ?_, ?_⟩
    · rw [gI (by omega), gLI, gI (by omega)]; exact b9
    · rw [gI (by omega), gLI, gI (by omega)]; exact b10
    · rw [gI (by omega), gLI, gI (by omega)]; exact b12
    · rw [gI (by omega), gLI, gI (by omega)]; exact b13
    · rw [gIL, gL0]; rfl
    · rw [gI (by omega), gLI, gI (by omega)]; exact (hk p hp).1
    · rw [gI (by omega), gLI, gI (by omega)]; exact (hk p hp).2.1
    · rw [gI (by omega), gLI, gI (by omega)]; exact (hk p hp).2.2
    · rw [gI (by omega), gLI, gI (by omega)]; exact (hs i hi).1
    · rw [gI (by omega), gLI, gI (by omega)]; exact (hs i hi).2
    · rw [gIL, gL (by omega), gIL]; exact hv w hww i hi
    · rw [gI (by omega), gLI, gI (by omega)]; exact hw i hi
    · rw [gI (by omega), gLI]
      show _ = if j = yF (uT υ) then a else uh υ j
      by_cases e : j = yF (uT υ)
      · subst e; rw [gI0, if_pos rfl]
      · rw [gI (by omega), if_neg e]; exact hh j hj
    · rw [gI (by omega), gLI, gI (by omega)]; exact h14
    · rw [gI (by omega), gLI, gI (by omega)]; exact h15
    · rw [gI (by omega), gLI, gI (by omega)]; exact h16
  · exact gG_tr (gG_I (by unfold Gq; omega)) (gG_tr (gG_L (by unfold Gq; omega)) (gG_I (by unfold Gq; omega)))
theorem r_addF (hR : yRf M) (h : rU υ M) (hF : yF (uT υ) < 6) (a : Int32) : ∃ N, s_X5_facts 49 a M = some (nI (yF (uT υ)), N) ∧ rU (uF υ a) N ∧ gG GrT M N := by
  have h0 := h.1.1.1
  have h9 := h.1.1.2.2.2.2.2
  refine ⟨hf_sI (hf_sL (hf_sI M 51 (yF (uT υ)) a) 49 9 (ylf (uT υ))) 49 0 (nI (yF (uT υ) + 1)), ?_, ?_, ?_⟩
  · unfold s_X5_facts
    rw [yrf_49 hR (j := 11) rfl, qrs, h0, qsI M _ (by show yF (uT υ) < 6; omega), qpt, gIL, h9, gI (by omega), h0, q_pow (by omega), qpt, gLI, gI (by omega), h0, nI_1]
    rfl
  · obtain ⟨⟨⟨b0, b1, b2, b3, b4, b9⟩, hk, hs⟩, hh, h5, h6, h7⟩ := h
    refine ⟨⟨⟨gI0, ?_, ?_, ?_, ?_, ?_⟩, fun p hp => ⟨?_, ?_⟩, fun i hi => ⟨?_, ?_, ?_⟩⟩, fun j hj => ?_, ?_, ?_, ?_⟩
    · rw [gI (by omega), gLI, gI (by omega)]; exact b1
    · rw [gI (by omega), gLI, gI (by omega)]; exact b2
    · rw [gI (by omega), gLI, gI (by omega)]; exact b3
    · rw [gI (by omega), gLI, gI (by omega)]; exact b4
    · rw [gIL, gL0]; rfl
    · rw [gI (by omega), gLI, gI (by omega)]; exact (hk p hp).1
    · rw [gI (by omega), gLI, gI (by omega)]; exact (hk p hp).2
    · rw [gI (by omega), gLI, gI (by omega)]; exact (hs i hi).1
    · rw [gI (by omega), gLI, gI (by omega)]; exact (hs i hi).2.1
    · rw [gI (by omega), gLI, gI (by omega)]; exact (hs i hi).2.2
    · rw [gI (by omega), gLI]
      show _ = if j = yF (uT υ) then a else uh υ j
      by_cases e : j = yF (uT υ)
      · subst e; rw [gI0, if_pos rfl]
      · rw [gI (by omega), if_neg e]; exact hh j hj
    · rw [gI (by omega), gLI, gI (by omega)]; exact h5
    · rw [gI (by omega), gLI, gI (by omega)]; exact h6
    · rw [gI (by omega), gLI, gI (by omega)]; exact h7
  · exact gG_tr (gG_I (by unfold GrT; omega)) (gG_tr (gG_L (by unfold GrT; omega)) (gG_I (by unfold GrT; omega)))
theorem uWF_F (h : uWF υ) (hF : yF (uT υ) < 6) (a : Int32) : uWF (uF υ a) := by
  obtain ⟨⟨⟨w1, w2, w3, w4, w5, w6⟩, wk, ws, wc, wl⟩, hS, hW, hf, hd⟩ := h
  have hp2 : 2 ^ (yF (uT υ) + 1) = 2 ^ yF (uT υ) * 2 := Nat.pow_succ ..
  have h64 := q_pow64 (F := yF (uT υ)) (by omega)
  have h32 : 2 ^ yF (uT υ) ≤ 2 ^ 5 := Nat.pow_le_pow_right (by decide) (by omega)
  refine ⟨⟨⟨by show yF (uT υ) + 1 ≤ 6; omega, w2, w3, w4, w5, w6⟩, wk, ws, wc, fun w hw => ?_⟩, hS, ?_, fun i hi => ?_, ?_⟩
  · show w < 2 ^ (yF (uT υ) + 1)
    have hw' : qlb (ylf (uT υ)) w = true := hw
    by_cases hww : w < 64
    · unfold ylf at hw'
      rw [qlb_or, qlb_shl _ (by omega) hww, Bool.or_eq_true, Bool.and_eq_true] at hw'
      rcases hw' with h | ⟨h1, h2⟩
      · have := wl w h
        omega
      · have := wl _ h2
        have := of_decide_eq_true h1
        omega
    · rw [qlb_ge (by omega)] at hw'; cases hw'
  · obtain ⟨w, hww, hb⟩ := qlb_ne hW
    rw [yWd_bit hww] at hb
    refine y_ne0 (w := w) ((yWd_bit hww).mpr ⟨?_, fun p hp hp9 => ?_⟩)
    · show qlb (ylf (uT υ)) w = true
      unfold ylf
      rw [qlb_or, hb.1, Bool.true_or]
    · rw [yok_same (τ := uT υ) (σ := uT (uF υ a)) rfl rfl rfl rfl rfl (fun j hj => ⟨rfl, rfl⟩)]
      exact hb.2 p hp hp9
  · have := hf i hi
    show yf (uT υ) i < yF (uT υ) + 1
    omega
  · rcases hd with h | ⟨d, h1, h2⟩
    · exact Or.inl h
    · refine Or.inr ⟨d, ?_, h2⟩
      show d < 2 ^ (yF (uT υ) + 1)
      omega
theorem c_addP (hR : yRf M) (hq : cq q) (hw : yWF (uT υ)) (h : cU q υ M) (hP : yP (uT υ) < 6) (k c : Nat) : ∃ N, s_X3_addSpeaker q (nI k) (nI c) M = some ((), N) ∧ cU q (uP υ k c) N ∧ gG (Gq q) M N ∧ N.1 q 9 = nI (yP (uT υ) + 1) := by
  have h9 := h.1.1.2.1
  refine ⟨hf_sI (hf_sI (hf_sI (hf_sI M (q + 2) (yP (uT υ)) (nI k)) (q + 3) (yP (uT υ)) (nI c)) (q + 4) (yP (uT υ)) 0) q 9 (nI (yP (uT υ) + 1)), ?_, ?_, ?_, gI0⟩
  · unfold s_X3_addSpeaker
    rw [h9, qi_le (show (6 : Int32) = nI 6 from rfl) rfl (by omega) (by omega), if_neg (by omega), cr1 hR hq, qrs, qsI M _ (cl6 hq (by decide) (by decide) hP), cr2 (yrf_I hR) hq, qrs, gI (by omega), h9, qsI _ _ (cl6 hq (by decide) (by decide) hP), cr3 (yrf_I (yrf_I hR)) hq, qrs, gI (by omega), gI (by omega), h9, qsI _ _ (cl6 hq (by decide) (by decide) hP), qpt, gI (by omega), gI (by omega), gI (by omega), h9, nI_1]
  · obtain ⟨⟨⟨b8, b9, b10, b12, b13, b11⟩, hk, hs⟩, hv, hw2, hh, h14, h15, h16⟩ := h
    refine ⟨⟨⟨?_, gI0, ?_, ?_, ?_, b11⟩, fun p hp => ⟨?_, ?_, ?_⟩, fun i hi => ⟨?_, ?_⟩⟩, hv, fun i hi => ?_, fun j hj => ?_, ?_, ?_, ?_⟩
    · rw [gI (by omega), gI (by omega), gI (by omega), gI (by omega)]; exact b8
    · rw [gI (by omega), gI (by omega), gI (by omega), gI (by omega)]; exact b10
    · rw [gI (by omega), gI (by omega), gI (by omega), gI (by omega)]; exact b12
    · rw [gI (by omega), gI (by omega), gI (by omega), gI (by omega)]; exact b13
    · have hp' : p < yP (uT υ) + 1 := hp
      rw [gI (by omega), gI (by omega), gI (by omega)]
      show _ = nI (if p = yP (uT υ) then k else yk (uT υ) p)
      by_cases e : p = yP (uT υ)
      · subst e; rw [gI0, if_pos rfl]
      · rw [gI (by omega), if_neg e]; exact (hk p (by omega)).1
    · have hp' : p < yP (uT υ) + 1 := hp
      rw [gI (by omega), gI (by omega)]
      show _ = nI (if p = yP (uT υ) then c else yc (uT υ) p)
      by_cases e : p = yP (uT υ)
      · subst e; rw [gI0, if_pos rfl]
      · rw [gI (by omega), gI (by omega), if_neg e]; exact (hk p (by omega)).2.1
    · have hp' : p < yP (uT υ) + 1 := hp
      rw [gI (by omega)]
      show _ = nI (ycn (yw (uT υ)) p (yS (uT υ)))
      by_cases e : p = yP (uT υ)
      · subst e
        rw [gI0, ycn_0 (fun j hj => by have := (hw.2.2.1 j hj).1; omega)]; rfl
      · rw [gI (by omega), gI (by omega), gI (by omega)]; exact (hk p (by omega)).2.2
    · rw [gI (by omega), gI (by omega), gI (by omega), gI (by omega)]; exact (hs i hi).1
    · rw [gI (by omega), gI (by omega), gI (by omega), gI (by omega)]; exact (hs i hi).2
    · rw [gI (by omega), gI (by omega), gI (by omega), gI (by omega)]; exact hw2 i hi
    · rw [gI (by omega), gI (by omega), gI (by omega), gI (by omega)]; exact hh j hj
    · rw [gI (by omega), gI (by omega), gI (by omega), gI (by omega)]; exact h14
    · rw [gI (by omega), gI (by omega), gI (by omega), gI (by omega)]; exact h15
    · rw [gI (by omega), gI (by omega), gI (by omega), gI (by omega)]; exact h16
  · exact gG_tr (gG_I (by unfold Gq; omega)) (gG_tr (gG_I (by unfold Gq; omega)) (gG_tr (gG_I (by unfold Gq; omega)) (gG_I (by unfold Gq; omega))))
theorem r_addP (hR : yRf M) (h : rU υ M) (hP : yP (uT υ) < 6) (k c : Nat) : ∃ N, s_X5_speakers 49 (nI k) (nI c) M = some (nI (yP (uT υ)), N) ∧ rU (uP υ k c) N ∧ gG GrT M N := by
  have h1 := h.1.1.2.1
  refine ⟨hf_sI (hf_sI (hf_sI M 52 (yP (uT υ)) (nI k)) 53 (yP (uT υ)) (nI c)) 49 1 (nI (yP (uT υ) + 1)), ?_, ?_, ?_⟩
  · unfold s_X5_speakers
    rw [yrf_49 hR (j := 12) rfl, qrs, h1, qsI M _ (by show yP (uT υ) < 6; omega), yrf_49 (yrf_I hR) (j := 13) rfl, qrs, gI (by omega), h1, qsI _ _ (by show yP (uT υ) < 6; omega), qpt, gI (by omega), gI (by omega), h1, nI_1]
  · obtain ⟨⟨⟨b0, b1, b2, b3, b4, b9⟩, hk, hs⟩, hh, h5, h6, h7⟩ := h
    refine ⟨⟨⟨?_, gI0, ?_, ?_, ?_, b9⟩, fun p hp => ⟨?_, ?_⟩, fun i hi => ⟨?_, ?_, ?_⟩⟩, fun j hj => ?_, ?_, ?_, ?_⟩
    · rw [gI (by omega), gI (by omega), gI (by omega)]; exact b0
    · rw [gI (by omega), gI (by omega), gI (by omega)]; exact b2
    · rw [gI (by omega), gI (by omega), gI (by omega)]; exact b3
    · rw [gI (by omega), gI (by omega), gI (by omega)]; exact b4
    · have hp' : p < yP (uT υ) + 1 := hp
      rw [gI (by omega), gI (by omega)]
      show _ = nI (if p = yP (uT υ) then k else yk (uT υ) p)
      by_cases e : p = yP (uT υ)
      · subst e; rw [gI0, if_pos rfl]
      · rw [gI (by omega), if_neg e]; exact (hk p (by omega)).1
    · have hp' : p < yP (uT υ) + 1 := hp
      rw [gI (by omega)]
      show _ = nI (if p = yP (uT υ) then c else yc (uT υ) p)
      by_cases e : p = yP (uT υ)
      · subst e; rw [gI0, if_pos rfl]
      · rw [gI (by omega), gI (by omega), if_neg e]; exact (hk p (by omega)).2
    · rw [gI (by omega), gI (by omega), gI (by omega)]; exact (hs i hi).1
    · rw [gI (by omega), gI (by omega), gI (by omega)]; exact (hs i hi).2.1
    · rw [gI (by omega), gI (by omega), gI (by omega)]; exact (hs i hi).2.2
    · rw [gI (by omega), gI (by omega), gI (by omega)]; exact hh j hj
    · rw [gI (by omega), gI (by omega), gI (by omega)]; exact h5
    · rw [gI (by omega), gI (by omega), gI (by omega)]; exact h6
    · rw [gI (by omega), gI (by omega), gI (by omega)]; exact h7
  · exact gG_tr (gG_I (by unfold GrT; omega)) (gG_tr (gG_I (by unfold GrT; omega)) (gG_I (by unfold GrT; omega)))
theorem uWF_P (h : uWF υ) (hP : yP (uT υ) < 6) {k c : Nat} (hk6 : k ≤ 6) (hc : c ≤ 1023) : uWF (uP υ k c) := by
  obtain ⟨⟨⟨w1, w2, w3, w4, w5, w6⟩, wk, ws, wc, wl⟩, hS, hW, hf, hd⟩ := h
  refine ⟨⟨⟨w1, by show yP (uT υ) + 1 ≤ 6; omega, w3, w4, w5, w6⟩, fun p hp => ?_, fun i hi => ?_, wc, wl⟩, hS, ?_, hf, hd⟩
  · have hp' : p < yP (uT υ) + 1 := hp
    show (if p = yP (uT υ) then k else yk (uT υ) p) ≤ 6 ∧ (if p = yP (uT υ) then c else yc (uT υ) p) ≤ 1023
    by_cases e : p = yP (uT υ)
    · rw [if_pos e, if_pos e]; exact ⟨hk6, hc⟩
    · rw [if_neg e, if_neg e]; exact wk p (by omega)
  · have := ws i hi
    exact ⟨by show yw (uT υ) i < yP (uT υ) + 1; omega, this.2⟩
  · obtain ⟨w, hww, hb⟩ := qlb_ne hW
    rw [yWd_bit hww] at hb
    refine y_ne0 (w := w) ((yWd_bit hww).mpr ⟨hb.1, fun p hp hp9 => ?_⟩)
    have hp' : p < yP (uT υ) + 1 := hp
    by_cases e : p = yP (uT υ)
    · exact yok_none (fun j hj => by
        have h1 := (ws j hj).1
        show yw (uT υ) j ≠ p
        omega)
    · rw [yok_same (τ := uT υ) (σ := uT (uP υ k c)) (show (if p = yP (uT υ) then k else yk (uT υ) p) = _ from if_neg e) (show (if p = yP (uT υ) then c else yc (uT υ) p) = _ from if_neg e) rfl rfl rfl (fun j hj => ⟨rfl, rfl⟩)]
      exact hb.2 p (by omega) hp9
theorem c_setL (h : cU q υ M) (n t : Nat) : cU q (uL υ n t) (hf_sI (hf_sI M q 12 (nI n)) q 13 (nI t)) ∧ gG (Gq q) M (hf_sI (hf_sI M q 12 (nI n)) q 13 (nI t)) := by
  obtain ⟨⟨⟨b8, b9, b10, b12, b13, b11⟩, hk, hs⟩, hv, hw, hh, h14, h15, h16⟩ := h
  refine ⟨⟨⟨⟨?_, ?_, ?_, ?_, gI0, b11⟩, fun p hp => ⟨?_, ?_, ?_⟩, fun i hi => ⟨?_, ?_⟩⟩, hv, fun i hi => ?_, fun j hj => ?_, ?_, ?_, ?_⟩, gG_tr (gG_I (by unfold Gq; omega)) (gG_I (by unfold Gq; omega))⟩
  · rw [gI (by omega), gI (by omega)]; exact b8
  · rw [gI (by omega), gI (by omega)]; exact b9
  · rw [gI (by omega), gI (by omega)]; exact b10
  · rw [gI (by omega), gI0]; rfl
  · rw [gI (by omega), gI (by omega)]; exact (hk p hp).1
  · rw [gI (by omega), gI (by omega)]; exact (hk p hp).2.1
  · rw [gI (by omega), gI (by omega)]; exact (hk p hp).2.2
  · rw [gI (by omega), gI (by omega)]; exact (hs i hi).1
  · rw [gI (by omega), gI (by omega)]; exact (hs i hi).2
  · rw [gI (by omega), gI (by omega)]; exact hw i hi
  · rw [gI (by omega), gI (by omega)]; exact hh j hj
  · rw [gI (by omega), gI (by omega)]; exact h14
  · rw [gI (by omega), gI (by omega)]; exact h15
  · rw [gI (by omega), gI (by omega)]; exact h16
theorem r_setL (h : rU υ M) (n t : Nat) : rU (uL υ n t) (hf_sI (hf_sI M 49 3 (nI n)) 49 4 (nI t)) ∧ gG GrT M (hf_sI (hf_sI M 49 3 (nI n)) 49 4 (nI t)) := by
  obtain ⟨⟨⟨b0, b1, b2, b3, b4, b9⟩, hk, hs⟩, hh, h5, h6, h7⟩ := h
  refine ⟨⟨⟨⟨?_, ?_, ?_, ?_, gI0, b9⟩, fun p hp => ⟨?_, ?_⟩, fun i hi => ⟨?_, ?_, ?_⟩⟩, fun j hj => ?_, ?_, ?_, ?_⟩, gG_tr (gG_I (by unfold GrT; omega)) (gG_I (by unfold GrT; omega))⟩
  · rw [gI (by omega), gI (by omega)]; exact b0
  · rw [gI (by omega), gI (by omega)]; exact b1
  · rw [gI (by omega), gI (by omega)]; exact b2
  · rw [gI (by omega), gI0]; rfl
  · rw [gI (by omega), gI (by omega)]; exact (hk p hp).1
  · rw [gI (by omega), gI (by omega)]; exact (hk p hp).2
  · rw [gI (by omega), gI (by omega)]; exact (hs i hi).1
  · rw [gI (by omega), gI (by omega)]; exact (hs i hi).2.1
  · rw [gI (by omega), gI (by omega)]; exact (hs i hi).2.2
  · rw [gI (by omega), gI (by omega)]; exact hh j hj
  · rw [gI (by omega), gI (by omega)]; exact h5
  · rw [gI (by omega), gI (by omega)]; exact h6
  · rw [gI (by omega), gI (by omega)]; exact h7
theorem uWF_L (h : uWF υ) (hS0 : yS (uT υ) = 0) {n t : Nat} (hn : 2 ≤ n) (hn10 : n ≤ 10) (ht : t ≤ n) : uWF (uL υ n t) := by
  obtain ⟨⟨⟨w1, w2, w3, w4, w5, w6⟩, wk, ws, wc, wl⟩, hS, hW, hf, hd⟩ := h
  refine ⟨⟨⟨w1, w2, w3, hn, hn10, ht⟩, wk, ws, fun p => ?_, wl⟩, hS, ?_, hf, hd⟩
  · show ycn (yw (uT υ)) p (yS (uT υ)) ≤ n
    rw [hS0]
    exact Nat.zero_le _
  · rw [yWd_0 hS0] at hW
    rw [yWd_0 (τ := uT (uL υ n t)) hS0]
    exact hW
theorem c_putU (hR : yRf M) (hq : cq q) (hw : yWF (uT υ)) (h : cU q υ M) (hS : yS (uT υ) < 48) {p f : Nat} (hp : p < yP (uT υ)) (hf : f < 6) (b : Bool) : ∃ N, s_X3_put q (nI p) (nI f) (qbI b) M = some ((), N) ∧ cU q (uS υ p f b) N ∧ gG (Gq q) M N := by
  have hP := hw.1.2.1
  refine ⟨_, c_put hR hq h.1 hS hp hP hf, ?_, rfl, fun k j hk => ⟨?_, ?_⟩⟩
  · exact cU_of h (cPu_B h.1 hS hp _ _) (fun w hww => cPu_V (h.2.1 w hww) (yTr_b b hf hww)) (cPu_W h.2.2.1) (fun j => cPu_1 (by omega) (by omega) (by omega)) (cPu_1 (by omega) (by omega) (by omega)) (cPu_1 (by omega) (by omega) (by omega)) (cPu_1 (by omega) (by omega) (by omega))
  · unfold Gq at hk
    rw [cPu_1 (by omega) (by omega) (by omega)]
  · unfold Gq at hk
    rw [cPu_L (by omega)]
theorem r_addU (hR : yRf M) (h : rU υ M) (hS : yS (uT υ) < 52) (p f : Nat) (b : Bool) : ∃ N, s_X5_adds 49 (nI p) (nI f) (qbI b) M = some ((), N) ∧ rU (uS υ p f b) N ∧ gG GrT M N := by
  refine ⟨_, r_adds hR h.1 hS _ _ _ p f rfl rfl, ?_, rfl, fun k j hk => ⟨?_, rfl⟩⟩
  · exact rU_of h (rPu_R h.1) (fun j => rPu_1 (by omega) (by omega)) (rPu_1 (by omega) (by omega)) (rPu_1 (by omega) (by omega)) (rPu_1 (by omega) (by omega))
  · unfold GrT at hk
    rw [rPu_1 (by omega) (by omega)]
theorem uWF_S (h : uWF υ) {p f : Nat} (hp : p < yP (uT υ)) (hf : f < yF (uT υ)) (hu : yFu (uT υ) p = false) (hS : yS (uT υ) < 24) {b : Bool} (h0 : yWa (uT υ) p f b ≠ 0) : uWF (uS υ p f b) := by
  obtain ⟨hw, hS', hW, hff, hd⟩ := h
  have hF := hw.1.1
  refine ⟨yad_WF hw hp (by omega) (yFu_f hu) (by omega), by show yS (uT υ) + 1 ≤ 24; omega, h0, fun i hi => ?_, hd⟩
  have hi' : i < yS (uT υ) + 1 := hi
  show (if i = yS (uT υ) then f else yf (uT υ) i) < yF (uT υ)
  by_cases e : i = yS (uT υ)
  · rw [if_pos e]; exact hf
  · rw [if_neg e]; exact hff i (by omega)
theorem c_left (h : cU q υ M) (x : Int64) : cU q (uK υ x) (hf_sL M q 11 x) ∧ gG (Gq q) M (hf_sL M q 11 x) := by
  obtain ⟨⟨⟨b8, b9, b10, b12, b13, b11⟩, hk, hs⟩, hv, hw, hh, h14, h15, h16⟩ := h
  refine ⟨⟨⟨⟨b8, b9, b10, b12, b13, gL0⟩, hk, hs⟩, fun w hww i hi => ?_, hw, hh, h14, h15, h16⟩, gG_L (by unfold Gq; omega)⟩
  rw [gL (by omega)]; exact hv w hww i hi
theorem r_left (h : rU υ M) (x : Int64) : rU (uK υ x) (hf_sL M 49 9 x) ∧ gG GrT M (hf_sL M 49 9 x) := by
  obtain ⟨⟨⟨b0, b1, b2, b3, b4, b9⟩, hk, hs⟩, hh, h5, h6, h7⟩ := h
  exact ⟨⟨⟨⟨b0, b1, b2, b3, b4, gL0⟩, hk, hs⟩, hh, h5, h6, h7⟩, gG_L (by unfold GrT; omega)⟩
theorem yWd_K (x : Int64) : yWd (uT (uK υ (yl (uT υ) &&& x))) yA1 99 = yWd (uT υ) yA1 99 &&& x := by
  apply qlb_ext
  intro w hw
  rw [qlb_and, Bool.eq_iff_iff, Bool.and_eq_true, yWd_bit hw, yWd_bit hw]
  have e : ∀ p, yok (uT (uK υ (yl (uT υ) &&& x))) p yA1 w = yok (uT υ) p yA1 w := fun p => yok_same rfl rfl rfl rfl rfl (fun j hj => ⟨rfl, rfl⟩)
  simp only [e]
  have e2 : qlb (yl (uT (uK υ (yl (uT υ) &&& x)))) w = (qlb (yl (uT υ)) w && qlb x w) := qlb_and _ _ _
  rw [e2, Bool.and_eq_true]
  constructor
  · rintro ⟨⟨h1, h2⟩, h3⟩
    exact ⟨⟨h1, h3⟩, h2⟩
  · rintro ⟨⟨h1, h3⟩, h2⟩
    exact ⟨⟨h1, h2⟩, h3⟩
theorem uWF_K (h : uWF υ) {x : Int64} (h0 : yWd (uT υ) yA1 99 &&& x ≠ 0) : uWF (uK υ (yl (uT υ) &&& x)) := by
  obtain ⟨⟨w1, wk, ws, wc, wl⟩, hS, hW, hf, hd⟩ := h
  refine ⟨⟨w1, wk, ws, wc, fun w hw => ?_⟩, hS, ?_, hf, hd⟩
  · have hw' : qlb (yl (uT υ) &&& x) w = true := hw
    rw [qlb_and, Bool.and_eq_true] at hw'
    exact wl w hw'.1
  · rw [yWd_K]; exact h0
theorem c_learn (h : cU q υ M) {f : Nat} (hf : f < 6) (b : Bool) : s_X3_learn q (nI f) (qbI b) M = some ((), hf_sL M q 11 (yl (uT υ) &&& yTr f b)) := by
  unfold s_X3_learn
  rw [c_truth hf, qb1, h.1.1.2.2.2.2.2, qpt]
theorem r_isLeft (hR : yRf M) (hw : yWF (uT υ)) (h : rU υ M) {f : Nat} (hf : f < 6) (b : Bool) : (yWd (uT υ) yA1 99 &&& yTr f b ≠ 0 → ∃ N, s_X5_isLeft 49 (nI f) (qbI b) M = some (1, N) ∧ rU (uK υ (yl (uT υ) &&& yTr f b)) N ∧ gG GrT M N) ∧ (yWd (uT υ) yA1 99 &&& yTr f b = 0 → ∃ N, s_X5_isLeft 49 (nI f) (qbI b) M = some (0, N) ∧ rU υ N ∧ gG GrT M N) := by
  have hF := hw.1.1
  have e1 : yl (uT υ) &&& yTh (yF (uT υ)) f b = yl (uT υ) &&& yTr f b := by
    apply qlb_ext
    intro w hww
    rw [qlb_and, qlb_and, yTh_b b hF hww, yTr_b b hf hww]
    cases hl : qlb (yl (uT υ)) w
    · rfl
    · rw [decide_eq_true (hw.2.2.2.2 w hl)]; rfl
  obtain ⟨k1, k2⟩ := r_left h (yl (uT υ) &&& yTr f b)
  have hwk : yWF (uT (uK υ (yl (uT υ) &&& yTr f b))) := by
    obtain ⟨w1, wk, ws, wc, wl⟩ := hw
    refine ⟨w1, wk, ws, wc, fun w hww => ?_⟩
    have hw' : qlb (yl (uT υ) &&& yTr f b) w = true := hww
    rw [qlb_and, Bool.and_eq_true] at hw'
    exact wl w hw'.1
  have en := r_worldsNow (yrf_L hR) hwk k1.1
  have base : s_X5_isLeft 49 (nI f) (qbI b) M = if yWd (uT υ) yA1 99 &&& yTr f b = 0 then some (0, hf_sL (hf_sL M 49 9 (yl (uT υ) &&& yTr f b)) 49 9 (yl (uT υ))) else some (1, hf_sL M 49 9 (yl (uT υ) &&& yTr f b)) := by
    unfold s_X5_isLeft
    rw [r_those h.1.1.1 hF hf, qb1, h.1.1.2.2.2.2.2, e1, qpt, en, qb1, yWd_K, qpt]
    by_cases h0 : yWd (uT υ) yA1 99 &&& yTr f b = 0
    · rw [if_pos h0, if_pos ((qcmp0 _).mpr h0)]
    · rw [if_neg h0, if_neg (fun e => h0 ((qcmp0 _).mp e))]
  constructor
  · intro h0
    exact ⟨_, by rw [base, if_neg h0], k1, k2⟩
  · intro h0
    refine ⟨_, by rw [base, if_pos h0], ?_, gG_tr k2 (gG_L (by unfold GrT; omega))⟩
    obtain ⟨⟨⟨b0, b1, b2, b3, b4, b9⟩, hk, hs⟩, hh, h5, h6, h7⟩ := h
    exact ⟨⟨⟨b0, b1, b2, b3, b4, gL0⟩, hk, hs⟩, hh, h5, h6, h7⟩
end TO
