/-! all that an image keeps: the town, harms, days, the seed, the world drawn -/
abbrev hU : Type := hT × (Nat → Int32) × Int32 × Int32 × Int32
abbrev uT (υ : hU) : hT := υ.1
abbrev uh (υ : hU) : Nat → Int32 := υ.2.1
abbrev ud (υ : hU) : Int32 := υ.2.2.1
abbrev us (υ : hU) : Int32 := υ.2.2.2.1
abbrev uw (υ : hU) : Int32 := υ.2.2.2.2
def cU (q : Nat) (υ : hU) (M : hf_M) : Prop := cB q (uT υ) M ∧ (∀ w, w < 64 → cV q (uT υ) w M) ∧ cW q (uT υ) M ∧ (∀ j, j < 6 → M.1 (q + 1) j = uh υ j) ∧ M.1 q 14 = ud υ ∧ M.1 q 15 = us υ ∧ M.1 q 16 = uw υ
def rU (υ : hU) (M : hf_M) : Prop := yR (uT υ) M ∧ (∀ j, j < 6 → M.1 51 j = uh υ j) ∧ M.1 49 5 = ud υ ∧ M.1 49 6 = us υ ∧ M.1 49 7 = uw υ
def kU (c n : Nat) (υ : hU) (M : hf_M) : Prop := (M.1 c 102 = nI (yF (uT υ)) ∧ M.1 c 103 = nI (yP (uT υ)) ∧ M.1 c 104 = nI (yS (uT υ)) ∧ M.1 c 105 = nI (yn (uT υ)) ∧ M.1 c 106 = nI (yt (uT υ)) ∧ M.2.1 67 n = yl (uT υ)) ∧ (∀ p, p < yP (uT υ) → M.1 c (6 + p) = nI (yk (uT υ) p) ∧ M.1 c (12 + p) = nI (yc (uT υ) p)) ∧ (∀ i, i < yS (uT υ) → M.1 c (18 + i) = nI (yw (uT υ) i) ∧ M.1 c (46 + i) = nI (yf (uT υ) i) ∧ M.1 c (74 + i) = qbI (yb (uT υ) i)) ∧ (∀ j, j < 6 → M.1 c j = uh υ j) ∧ M.1 c 107 = ud υ ∧ M.1 c 108 = us υ ∧ M.1 c 109 = uw υ
def uWF (υ : hU) : Prop := yWF (uT υ) ∧ yS (uT υ) ≤ 24 ∧ yWd (uT υ) yA1 99 ≠ 0 ∧ (∀ i, i < yS (uT υ) → yf (uT υ) i < yF (uT υ)) ∧ (uw υ = -1 ∨ ∃ d, d < 2 ^ yF (uT υ) ∧ uw υ = nI d)
def iSh (P : Nat) (M : hf_M) : Prop := ∀ s, s < 8 → (M.1 (33 + 2 * s) 1 = -1 ∧ M.1 57 s = 0) ∨ (∃ p, p < P ∧ M.1 (33 + 2 * s) 1 = nI p ∧ M.1 57 s = 2 ∧ M.1 60 s = nI p) ∨ (∃ o n, o < 4 ∧ n ≤ 160 ∧ M.1 (33 + 2 * s) 1 = nI (100 + o) ∧ M.1 (33 + 2 * s) 2 = nI n ∧ M.1 57 s = 1 ∧ M.1 58 s = nI o ∧ M.1 59 s = nI n ∧ ∀ i, i < n → M.2.1 (34 + 2 * s) i = M.2.1 61 (160 * s + i))
def iIm (M : hf_M) : Prop := (M.1 0 7 = 0 ∧ M.1 49 37 = 0) ∨ (M.1 0 7 = 1 ∧ M.1 49 37 = 1 ∧ ∃ υ, uWF υ ∧ cU 10 υ M ∧ kU 66 1 υ M)
def iRe (M : hf_M) : Prop := ∀ j, 1 ≤ j → j ≤ 7 → M.1 32 j = M.1 50 j
def iFa (M : hf_M) : Prop := M.1 0 8 = M.1 49 8
def iTr (M : hf_M) : Prop := ∃ n, n < 2 ^ 20 ∧ M.1 30 1 = nI n ∧ M.1 49 36 = nI n ∧ ∀ i, i < n → i < 20 → M.1 31 i = M.1 68 i
def iWo (M : hf_M) : Prop := ∀ j, M.1 63 j = hm_end.1 63 j
/-- all but that the refusals are alike -/
def Jv (υ : hU) (M : hf_M) : Prop := yRf M ∧ uWF υ ∧ cU 1 υ M ∧ rU υ M ∧ iSh (yP (uT υ)) M ∧ iIm M ∧ iFa M ∧ iTr M ∧ iWo M
def Inv (M : hf_M) : Prop := ∃ υ, Jv υ M ∧ iRe M
/-! what each piece stands on -/
def agZ (Z : Nat → Nat → Prop) (M N : hf_M) : Prop := ∀ k j, Z k j → N.1 k j = M.1 k j ∧ N.2.1 k j = M.2.1 k j
theorem ag_g {G Z : Nat → Nat → Prop} {M N : hf_M} (h : gG G M N) (hz : ∀ k j, Z k j → ¬ G k j) : agZ Z M N := fun k j hk => h.2 k j (hz k j hk)
def Zc (q S k j : Nat) : Prop := (q ≤ k ∧ k ≤ q + 4) ∨ ((q + 5 ≤ k ∧ k ≤ q + 8) ∧ j < S)
def Zr (S k j : Nat) : Prop := (k = 49 ∧ (j ≤ 7 ∨ j = 9)) ∨ (51 ≤ k ∧ k ≤ 53) ∨ ((54 ≤ k ∧ k ≤ 56) ∧ j < S)
def Zb (q S k j : Nat) : Prop := (k = q ∧ 8 ≤ j ∧ j ≤ 13) ∨ (q + 2 ≤ k ∧ k ≤ q + 4) ∨ ((k = q + 5 ∨ k = q + 6) ∧ j < S)
def Zy (S k j : Nat) : Prop := (k = 49 ∧ (j ≤ 4 ∨ j = 9)) ∨ (52 ≤ k ∧ k ≤ 53) ∨ ((54 ≤ k ∧ k ≤ 56) ∧ j < S)
theorem cB_ag {q : Nat} {τ : hT} {M N : hf_M} (h : agZ (Zb q (yS τ)) M N) (hc : cB q τ M) : cB q τ N := by
  obtain ⟨⟨a8, a9, a10, a12, a13, a11⟩, hk, hs⟩ := hc
  refine ⟨⟨?_, ?_, ?_, ?_, ?_, ?_⟩, fun p hp => ⟨?_, ?_, ?_⟩, fun i hi => ⟨?_, ?_⟩⟩
  · rw [(h q 8 (by unfold Zb; omega)).1]; exact a8
  · rw [(h q 9 (by unfold Zb; omega)).1]; exact a9
  · rw [(h q 10 (by unfold Zb; omega)).1]; exact a10
  · rw [(h q 12 (by unfold Zb; omega)).1]; exact a12
  · rw [(h q 13 (by unfold Zb; omega)).1]; exact a13
  · rw [(h q 11 (by unfold Zb; omega)).2]; exact a11
  · rw [(h (q + 2) p (by unfold Zb; omega)).1]; exact (hk p hp).1
  · rw [(h (q + 3) p (by unfold Zb; omega)).1]; exact (hk p hp).2.1
  · rw [(h (q + 4) p (by unfold Zb; omega)).1]; exact (hk p hp).2.2
  · rw [(h (q + 5) i (by unfold Zb; omega)).1]; exact (hs i hi).1
  · rw [(h (q + 6) i (by unfold Zb; omega)).1]; exact (hs i hi).2
theorem cV_ag {q : Nat} {τ : hT} {M N : hf_M} (h : ∀ j, j < yS τ → N.2.1 (q + 8) j = M.2.1 (q + 8) j) {w : Nat} (hc : cV q τ w M) : cV q τ w N := fun i hi => by
  rw [h i hi]; exact hc i hi
theorem cW_ag {q : Nat} {τ : hT} {M N : hf_M} (h : ∀ j, j < yS τ → N.1 (q + 7) j = M.1 (q + 7) j) (hc : cW q τ M) : cW q τ N := fun i hi => by
  rw [h i hi]; exact hc i hi
theorem cU_ag {q : Nat} {υ : hU} {M N : hf_M} (h : agZ (Zc q (yS (uT υ))) M N) (hc : cU q υ M) : cU q υ N := by
  obtain ⟨h1, h2, h3, h4, h5, h6, h7⟩ := hc
  refine ⟨cB_ag (fun k j hk => h k j (by unfold Zb at hk; unfold Zc; omega)) h1, fun w hw => cV_ag (fun j hj => (h (q + 8) j (by unfold Zc; omega)).2) (h2 w hw), cW_ag (fun j hj => (h (q + 7) j (by unfold Zc; omega)).1) h3, fun j hj => ?_, ?_, ?_, ?_⟩
  · rw [(h (q + 1) j (by unfold Zc; omega)).1]; exact h4 j hj
  · rw [(h q 14 (by unfold Zc; omega)).1]; exact h5
  · rw [(h q 15 (by unfold Zc; omega)).1]; exact h6
  · rw [(h q 16 (by unfold Zc; omega)).1]; exact h7
theorem yR_ag {τ : hT} {M N : hf_M} (h : agZ (Zy (yS τ)) M N) (hc : yR τ M) : yR τ N := by
  obtain ⟨⟨a0, a1, a2, a3, a4, a9⟩, hk, hs⟩ := hc
  refine ⟨⟨?_, ?_, ?_, ?_, ?_, ?_⟩, fun p hp => ⟨?_, ?_⟩, fun i hi => ⟨?_, ?_, ?_⟩⟩
  · rw [(h 49 0 (by unfold Zy; omega)).1]; exact a0
  · rw [(h 49 1 (by unfold Zy; omega)).1]; exact a1
  · rw [(h 49 2 (by unfold Zy; omega)).1]; exact a2
  · rw [(h 49 3 (by unfold Zy; omega)).1]; exact a3
  · rw [(h 49 4 (by unfold Zy; omega)).1]; exact a4
  · rw [(h 49 9 (by unfold Zy; omega)).2]; exact a9
  · rw [(h 52 p (by unfold Zy; omega)).1]; exact (hk p hp).1
  · rw [(h 53 p (by unfold Zy; omega)).1]; exact (hk p hp).2
  · rw [(h 54 i (by unfold Zy; omega)).1]; exact (hs i hi).1
  · rw [(h 55 i (by unfold Zy; omega)).1]; exact (hs i hi).2.1
  · rw [(h 56 i (by unfold Zy; omega)).1]; exact (hs i hi).2.2
theorem rU_ag {υ : hU} {M N : hf_M} (h : agZ (Zr (yS (uT υ))) M N) (hc : rU υ M) : rU υ N := by
  obtain ⟨h1, h2, h3, h4, h5⟩ := hc
  refine ⟨yR_ag (fun k j hk => h k j (by unfold Zy at hk; unfold Zr; omega)) h1, fun j hj => ?_, ?_, ?_, ?_⟩
  · rw [(h 51 j (by unfold Zr; omega)).1]; exact h2 j hj
  · rw [(h 49 5 (by unfold Zr; omega)).1]; exact h3
  · rw [(h 49 6 (by unfold Zr; omega)).1]; exact h4
  · rw [(h 49 7 (by unfold Zr; omega)).1]; exact h5
theorem kU_ag {c n : Nat} {υ : hU} {M N : hf_M} (h1 : ∀ j, N.1 c j = M.1 c j) (h2 : N.2.1 67 n = M.2.1 67 n) (hc : kU c n υ M) : kU c n υ N := by
  unfold kU at hc ⊢
  simp only [h1, h2]
  exact hc
theorem iSh_ag {P : Nat} {M N : hf_M} (h : ∀ k j, (33 ≤ k ∧ k ≤ 48) ∨ (57 ≤ k ∧ k ≤ 61) → N.1 k j = M.1 k j ∧ N.2.1 k j = M.2.1 k j) (hc : iSh P M) : iSh P N := by
  intro s hs
  have e1 := fun j => (h (33 + 2 * s) j (by omega)).1
  have e2 := fun j => (h 57 j (by omega)).1
  have e3 := fun j => (h 58 j (by omega)).1
  have e4 := fun j => (h 59 j (by omega)).1
  have e5 := fun j => (h 60 j (by omega)).1
  have e6 := fun j => (h 61 j (by omega)).2
  have e7 := fun j => (h (34 + 2 * s) j (by omega)).2
  have := hc s hs
  simp only [e1, e2, e3, e4, e5, e6, e7]
  exact this
theorem iSh_mono {P Q : Nat} {M : hf_M} (h : P ≤ Q) (hc : iSh P M) : iSh Q M := by
  intro s hs
  rcases hc s hs with a | ⟨p, hp, a⟩ | a
  · exact Or.inl a
  · exact Or.inr (Or.inl ⟨p, by omega, a⟩)
  · exact Or.inr (Or.inr a)
theorem iIm_ag {M N : hf_M} (h : ∀ k j, (k = 0 ∧ j = 7) ∨ (k = 49 ∧ j = 37) ∨ (10 ≤ k ∧ k ≤ 18) ∨ k = 66 ∨ (k = 67 ∧ j = 1) → N.1 k j = M.1 k j ∧ N.2.1 k j = M.2.1 k j) (hc : iIm M) : iIm N := by
  have e1 := (h 0 7 (by omega)).1
  have e2 := (h 49 37 (by omega)).1
  rcases hc with ⟨a, b⟩ | ⟨a, b, υ, c, d, e⟩
  · exact Or.inl ⟨e1.trans a, e2.trans b⟩
  · refine Or.inr ⟨e1.trans a, e2.trans b, υ, c, cU_ag (fun k j hk => h k j (by unfold Zc at hk; omega)) d, kU_ag (fun j => (h 66 j (by omega)).1) (h 67 1 (by omega)).2 e⟩
theorem iTr_ag {M N : hf_M} (h : ∀ k j, k = 30 ∨ k = 31 ∨ k = 68 ∨ (k = 49 ∧ j = 36) → N.1 k j = M.1 k j) (hc : iTr M) : iTr N := by
  obtain ⟨n, a, b, c, d⟩ := hc
  refine ⟨n, a, ?_, ?_, fun i h1 h2 => ?_⟩
  · rw [h 30 1 (by omega)]; exact b
  · rw [h 49 36 (by omega)]; exact c
  · rw [h 31 i (by omega), h 68 i (by omega)]; exact d i h1 h2
/-- what questions leave behind -/
def GG (S k j : Nat) : Prop := (19 ≤ k ∧ k ≤ 27) ∨ ((6 ≤ k ∧ k ≤ 9) ∧ S ≤ j) ∨ ((54 ≤ k ∧ k ≤ 56) ∧ S ≤ j) ∨ k = 29 ∨ k = 62 ∨ k = 64 ∨ k = 65 ∨ (k = 67 ∧ j = 0) ∨ (k = 49 ∧ ((25 ≤ j ∧ j ≤ 29) ∨ j = 33 ∨ j = 34))
/-- what the town's calls change -/
def GT (S k j : Nat) : Prop := GG S k j ∨ (1 ≤ k ∧ k ≤ 9) ∨ (k = 49 ∧ (j ≤ 7 ∨ j = 9)) ∨ (51 ≤ k ∧ k ≤ 56) ∨ k = 32 ∨ k = 50
theorem Gc_GG {S S' k j : Nat} (h : Gc 1 S' k j) (hS : S ≤ S') : GG S k j := by
  unfold Gc at h
  unfold GG
  omega
theorem Gr_GG {S S' k j : Nat} (h : Gr S' k j) (hS : S ≤ S') : GG S k j := by
  unfold Gr at h
  unfold GG
  omega
theorem gc_GG {S S' : Nat} {M N : hf_M} (h : gG (Gc 1 S') M N) (hS : S ≤ S') : gG (GG S) M N := gG_mono h (fun _ _ hk => Gc_GG hk hS)
theorem gr_GG {S S' : Nat} {M N : hf_M} (h : gG (Gr S') M N) (hS : S ≤ S') : gG (GG S) M N := gG_mono h (fun _ _ hk => Gr_GG hk hS)
theorem Jv_town {υ υ' : hU} {M N : hf_M} (hJ : Jv υ M) (S : Nat) (hg : gG (GT S) M N) (h1 : uWF υ') (h2 : cU 1 υ' N) (h3 : rU υ' N) (h4 : yP (uT υ) ≤ yP (uT υ')) : Jv υ' N := by
  obtain ⟨j1, j2, j3, j4, j5, j6, j7, j8, j9⟩ := hJ
  refine ⟨gG_rf hg j1, h1, h2, h3, iSh_mono h4 (iSh_ag (fun k j hk => hg.2 k j ?_) j5), iIm_ag (fun k j hk => hg.2 k j ?_) j6, ?_, iTr_ag (fun k j hk => (hg.2 k j ?_).1) j8, fun j => ?_⟩
  · unfold GT GG; omega
  · unfold GT GG; omega
  · unfold iFa
    rw [(hg.2 0 8 (by unfold GT GG; omega)).1, (hg.2 49 8 (by unfold GT GG; omega)).1]; exact j7
  · unfold GT GG; omega
  · rw [(hg.2 63 j (by unfold GT GG; omega)).1]; exact j9 j
theorem Jv_g {υ : hU} {M N : hf_M} (hJ : Jv υ M) (hg : gG (fun k j => GG (yS (uT υ)) k j ∨ k = 32 ∨ k = 50) M N) : Jv υ N := by
  refine Jv_town hJ (yS (uT υ)) (gG_mono hg (fun k j hk => ?_)) hJ.2.1 (cU_ag (ag_g hg (fun k j hk hn => ?_)) hJ.2.2.1) (rU_ag (ag_g hg (fun k j hk hn => ?_)) hJ.2.2.2.1) (Nat.le_refl _)
  · unfold GT; rcases hk with h | h | h
    · exact Or.inl h
    · omega
    · omega
  · unfold Zc at hk
    unfold GG at hn
    omega
  · unfold Zr at hk
    unfold GG at hn
    omega
theorem Jv_GG {υ : hU} {M N : hf_M} (hJ : Jv υ M) (hg : gG (GG (yS (uT υ))) M N) : Jv υ N := Jv_g hJ (gG_mono hg (fun _ _ h => Or.inl h))
theorem iRe_GG {S : Nat} {M N : hf_M} (h : iRe M) (hg : gG (GG S) M N) : iRe N := fun j h1 h2 => by
  rw [(hg.2 32 j (by unfold GG; omega)).1, (hg.2 50 j (by unfold GG; omega)).1]; exact h j h1 h2
theorem Inv_GG {υ : hU} {M N : hf_M} (hJ : Jv υ M) (hR : iRe M) (hg : gG (GG (yS (uT υ))) M N) : Inv N := ⟨υ, Jv_GG hJ hg, iRe_GG hR hg⟩
/-! refusals -/
def bC (j : Nat) (M : hf_M) : hf_M := hf_sI M 32 j (M.1 32 j + 1)
def bR (j : Nat) (M : hf_M) : hf_M := hf_sI M 50 j (M.1 50 j + 1)
theorem yr0 {M : hf_M} (h : yRf M) {j q : Nat} (e : hm_end.2.2 0 j = some q) : M.2.2 0 j = some q := (h 0 j (by decide)).trans e
theorem c_ref_ {M : hf_M} (hR : yRf M) {c : Int32} {j : Nat} (h : -c = nI j) (h0 : 0 < j) (h8 : j < 8) (a : Int32) : s_X4_refuse_ 0 c a M = some (a, bC j M) := by
  unfold s_X4_refuse_ bC
  have e8 : Int32.ofNat (hf_len 32) = nI 8 := rfl
  rw [h, qi_le rfl (show (0 : Int32) = nI 0 from rfl) (by omega) (by omega), if_neg (by omega), yr0 hR (j := 6) rfl, qrs, e8, qi_le rfl rfl (by omega) (by omega), if_neg (by omega), qrs, qlI M (by show j < 8; omega), qsI M _ (by show j < 8; omega)]
theorem c_ref {M : hf_M} (hR : yRf M) {c : Int32} {j : Nat} (h : -c = nI j) (h0 : 0 < j) (h8 : j < 8) : s_X4_refuse 0 c M = some (c, bC j M) := by
  unfold s_X4_refuse
  rw [c_ref_ hR h h0 h8, qb1]
theorem r_no {M : hf_M} (hR : yRf M) {c : Int32} {j : Nat} (h : -c = nI j) (h8 : j < 8) : s_X5_no 49 c M = some (c, bR j M) := by
  unfold s_X5_no bR
  rw [yrf_49 hR (j := 10) rfl, qrs, h, qlI M (by show j < 8; omega), qsI M _ (by show j < 8; omega)]
theorem r_noTen {M : hf_M} (hR : yRf M) {c : Int32} {j : Nat} (h : -c = nI j) (h8 : j < 8) : s_X5_noTen 49 c M = some (c - 10, bR j M) := by
  unfold s_X5_noTen bR
  rw [yrf_49 hR (j := 10) rfl, qrs, h, qlI M (by show j < 8; omega), qsI M _ (by show j < 8; omega)]
theorem r_noLow {M : hf_M} (hR : yRf M) {c : Int32} {j : Nat} (h : -c = nI j) (h8 : j < 8) : s_X5_noLow 49 c M = some (c - 1000000, bR j M) := by
  unfold s_X5_noLow bR
  rw [yrf_49 hR (j := 10) rfl, qrs, h, qlI M (by show j < 8; omega), qsI M _ (by show j < 8; omega)]
theorem bC_g {S j : Nat} {M : hf_M} : gG (fun k j => GG S k j ∨ k = 32 ∨ k = 50) M (bC j M) := ⟨rfl, fun k i hk => ⟨by unfold bC; rw [gI (by omega)], rfl⟩⟩
theorem bR_g {S j : Nat} {M : hf_M} : gG (fun k j => GG S k j ∨ k = 32 ∨ k = 50) M (bR j M) := ⟨rfl, fun k i hk => ⟨by unfold bR; rw [gI (by omega)], rfl⟩⟩
theorem Jv_bC {υ : hU} {M : hf_M} {j : Nat} (hJ : Jv υ M) : Jv υ (bC j M) := Jv_g hJ bC_g
/-- the end of a refused call: the class's part leaves M', the reference goes on to N -/
theorem Inv_ref {υ : hU} {M M' N : hf_M} {j : Nat} (hJ : Jv υ M) (hR : iRe M) (h1 : gG (GG (yS (uT υ))) M M') (h2 : gG (GG (yS (uT υ))) (bC j M') N) : Inv (bR j N) := by
  refine ⟨υ, Jv_g (Jv_GG (Jv_bC (Jv_GG hJ h1)) h2) bR_g, fun i i1 i2 => ?_⟩
  have hR' := iRe_GG hR h1
  have e1 : N.1 32 i = (bC j M').1 32 i := (h2.2 32 i (by unfold GG; omega)).1
  have e2 : N.1 50 i = (bC j M').1 50 i := (h2.2 50 i (by unfold GG; omega)).1
  have e3 : N.1 50 j = (bC j M').1 50 j := (h2.2 50 j (by unfold GG; omega)).1
  have e4 : (bC j M').1 50 i = M'.1 50 i := by unfold bC; rw [gI (by omega)]
  have e5 : (bC j M').1 50 j = M'.1 50 j := by unfold bC; rw [gI (by omega)]
  unfold bR
  rw [gI (by omega), e1, e3, e5]
  by_cases e : i = j
  · subst e
    rw [gI0]
    unfold bC
    rw [gI0, hR' i i1 i2]
  · rw [gI (by omega), e2, e4]
    unfold bC
    rw [gI (by omega)]
    exact hR' i i1 i2
theorem Inv_ref0 {υ : hU} {M : hf_M} {j : Nat} (hJ : Jv υ M) (hR : iRe M) : Inv (bR j (bC j M)) := Inv_ref hJ hR (gG_refl _ _) (gG_refl _ _)
