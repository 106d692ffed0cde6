/-! a town taken over: the class -/
section CPR
variable {M : hf_M} {a b c d n k j : Nat}
theorem gCo (h : k ≠ c) : (hf_cpI M a b c d n).1 k j = M.1 k j := by
  show (if k = c then _ else _) = _
  rw [if_neg h]
theorem gCi (h : j < n) : (hf_cpI M a 0 c 0 n).1 c j = M.1 a j := by
  show (if c = c then va_cpy (M.1 a) (M.1 c) 0 0 n j else _) = _
  rw [if_pos rfl, pk_cpy_in (Nat.zero_le _) (by omega)]
  rw [Nat.zero_add, Nat.sub_zero]
theorem gCLo (h : k ≠ c) : (hf_cpL M a b c d n).2.1 k j = M.2.1 k j := by
  show (if k = c then _ else _) = _
  rw [if_neg h]
theorem gCLi (h : j < n) : (hf_cpL M a 0 c 0 n).2.1 c j = M.2.1 a j := by
  show (if c = c then va_cpy (M.2.1 a) (M.2.1 c) 0 0 n j else _) = _
  rw [if_pos rfl, pk_cpy_in (Nat.zero_le _) (by omega)]
  rw [Nat.zero_add, Nat.sub_zero]
theorem gCL1 : (hf_cpL M a b c d n).1 = M.1 := rfl
theorem gCI2 : (hf_cpI M a b c d n).2 = M.2 := rfl
theorem gCLR : (hf_cpL M a b c d n).2.2 = M.2.2 := rfl
end CPR
theorem qac6 {β : Type} {M : hf_M} {a b : Nat} (ha : hf_len a = 6) (hb : hf_len b = 6) (k : hf_M → Option β) : hf_acI M a 0 b 0 6 k = k (hf_cpI M a 0 b 0 6) := by
  unfold hf_acI
  rw [ha, hb]; rfl
theorem qac48 {β : Type} {M : hf_M} {a b : Nat} (ha : hf_len a = 48) (hb : hf_len b = 48) (k : hf_M → Option β) : hf_acI M a 0 b 0 48 k = k (hf_cpI M a 0 b 0 48) := by
  unfold hf_acI
  rw [ha, hb]; rfl
theorem qacL {β : Type} {M : hf_M} {a b : Nat} (ha : hf_len a = 48) (hb : hf_len b = 48) (k : hf_M → Option β) : hf_acL M a 0 b 0 48 k = k (hf_cpL M a 0 b 0 48) := by
  unfold hf_acL
  rw [ha, hb]; rfl
theorem cln6 {q j : Nat} (hq : cq q) (hj : j < 5) (h0 : 0 < j) : hf_len (q + j) = 6 := by
  have h4 : j = 1 ∨ j = 2 ∨ j = 3 ∨ j = 4 := by omega
  rcases hq with rfl | rfl | rfl <;> rcases h4 with rfl | rfl | rfl | rfl <;> rfl
theorem cln48 {q j : Nat} (hq : cq q) (hj : j < 9) (h0 : 4 < j) : hf_len (q + j) = 48 := by
  have h4 : j = 5 ∨ j = 6 ∨ j = 7 ∨ j = 8 := by omega
  rcases hq with rfl | rfl | rfl <;> rcases h4 with rfl | rfl | rfl | rfl <;> rfl
def tkA (p q : Nat) (M : hf_M) : hf_M := hf_cpI (hf_cpI (hf_cpI (hf_cpI M (q + 1) 0 (p + 1) 0 6) (q + 2) 0 (p + 2) 0 6) (q + 3) 0 (p + 3) 0 6) (q + 4) 0 (p + 4) 0 6
def tkB (p q : Nat) (M : hf_M) : hf_M := hf_cpL (hf_cpI (hf_cpI (hf_cpI M (q + 5) 0 (p + 5) 0 48) (q + 6) 0 (p + 6) 0 48) (q + 7) 0 (p + 7) 0 48) (q + 8) 0 (p + 8) 0 48
def tkF (p : Nat) (x8 x9 x10 : Int32) (l : Int64) (x12 x13 x14 x15 x16 : Int32) (M : hf_M) : hf_M := hf_sI (hf_sI (hf_sI (hf_sI (hf_sI (hf_sL (hf_sI (hf_sI (hf_sI M p 8 x8) p 9 x9) p 10 x10) p 11 l) p 12 x12) p 13 x13) p 14 x14) p 15 x15) p 16 x16
section TK
variable {p q : Nat} {M : hf_M}
theorem tkA_o (h : q + 8 < p ∨ p + 8 < q) {k j : Nat} (hk : k < p + 1 ∨ p + 4 < k) : (tkA p q M).1 k j = M.1 k j := by
  unfold tkA
  rw [gCo (by omega), gCo (by omega), gCo (by omega), gCo (by omega)]
theorem tkA_i (h : q + 8 < p ∨ p + 8 < q) {i j : Nat} (hi : 0 < i) (hi4 : i < 5) (hj : j < 6) : (tkA p q M).1 (p + i) j = M.1 (q + i) j := by
  unfold tkA
  have h4 : i = 1 ∨ i = 2 ∨ i = 3 ∨ i = 4 := by omega
  rcases h4 with rfl | rfl | rfl | rfl
  · rw [gCo (by omega), gCo (by omega), gCo (by omega), gCi hj]
  · rw [gCo (by omega), gCo (by omega), gCi hj, gCo (by omega)]
  · rw [gCo (by omega), gCi hj, gCo (by omega), gCo (by omega)]
  · rw [gCi hj, gCo (by omega), gCo (by omega), gCo (by omega)]
theorem tkB_o (h : q + 8 < p ∨ p + 8 < q) {k j : Nat} (hk : k < p + 5 ∨ p + 7 < k) : (tkB p q M).1 k j = M.1 k j := by
  unfold tkB
  rw [gCL1, gCo (by omega), gCo (by omega), gCo (by omega)]
theorem tkB_i (h : q + 8 < p ∨ p + 8 < q) {i j : Nat} (hi : 4 < i) (hi4 : i < 8) (hj : j < 48) : (tkB p q M).1 (p + i) j = M.1 (q + i) j := by
  unfold tkB
  have h4 : i = 5 ∨ i = 6 ∨ i = 7 := by omega
  rcases h4 with rfl | rfl | rfl
  · rw [gCL1, gCo (by omega), gCo (by omega), gCi hj]
  · rw [gCL1, gCo (by omega), gCi hj, gCo (by omega)]
  · rw [gCL1, gCi hj, gCo (by omega), gCo (by omega)]
theorem tkB_Lo {k j : Nat} (hk : k ≠ p + 8) : (tkB p q M).2.1 k j = M.2.1 k j := by
  unfold tkB
  rw [gCLo hk]; rfl
theorem tkB_Li {j : Nat} (hj : j < 48) : (tkB p q M).2.1 (p + 8) j = M.2.1 (q + 8) j := by
  unfold tkB
  rw [gCLi hj]; rfl
theorem tkF_o {x8 x9 x10 x12 x13 x14 x15 x16 : Int32} {l : Int64} {k j : Nat} (hk : k ≠ p) : (tkF p x8 x9 x10 l x12 x13 x14 x15 x16 M).1 k j = M.1 k j := by
  unfold tkF
  rw [gI (by omega), gI (by omega), gI (by omega), gI (by omega), gI (by omega), gLI, gI (by omega), gI (by omega), gI (by omega)]
theorem tkF_Lo {x8 x9 x10 x12 x13 x14 x15 x16 : Int32} {l : Int64} {k j : Nat} (hk : k ≠ p) : (tkF p x8 x9 x10 l x12 x13 x14 x15 x16 M).2.1 k j = M.2.1 k j := by
  unfold tkF
  rw [gIL, gIL, gIL, gIL, gIL, gL (by omega), gIL, gIL, gIL]
end TK
theorem c_take {p q : Nat} {υ : hU} {M : hf_M} (hR : yRf M) (hp : cq p) (hq : cq q) (hne : q + 8 < p ∨ p + 8 < q) (hS : yS (uT υ) ≤ 48) (h : cU q υ M) (hP : yP (uT υ) ≤ 6) : ∃ N, s_X3_takeOver p q M = some ((), N) ∧ cU p υ N ∧ gG (Gq p) M N := by
  obtain ⟨⟨⟨b8, b9, b10, b12, b13, b11⟩, hk, hs⟩, hv, hw, hh, h14, h15, h16⟩ := h
  have eF : ∀ j, (tkB p q (tkA p q M)).1 q j = M.1 q j := fun j => by rw [tkB_o hne (by omega), tkA_o hne (by omega)]
  have eL : (tkB p q (tkA p q M)).2.1 q 11 = M.2.1 q 11 := by rw [tkB_Lo (by omega)]; rfl
  have eA : ∀ i j, 0 < i → i < 5 → j < 6 → (tkB p q (tkA p q M)).1 (p + i) j = M.1 (q + i) j := fun i j h1 h2 h3 => by rw [tkB_o hne (by omega), tkA_i hne h1 h2 h3]
  have eB : ∀ i j, 4 < i → i < 8 → j < 48 → (tkB p q (tkA p q M)).1 (p + i) j = M.1 (q + i) j := fun i j h1 h2 h3 => by rw [tkB_i hne h1 h2 h3, tkA_o hne (by omega)]
  have eBL : ∀ j, j < 48 → (tkB p q (tkA p q M)).2.1 (p + 8) j = M.2.1 (q + 8) j := fun j h3 => by rw [tkB_Li h3]; rfl
  refine ⟨tkF p (nI (yF (uT υ))) (nI (yP (uT υ))) (nI (yS (uT υ))) (yl (uT υ)) (nI (yn (uT υ))) (nI (yt (uT υ))) (ud υ) (us υ) (uw υ) (tkB p q (tkA p q M)), ?_, ?_, rfl, fun k j hk => ⟨?_, ?_⟩⟩
  · have f8 := (eF 8).trans b8
    have f9 := (eF 9).trans b9
    have f10 := (eF 10).trans b10
    have f12 := (eF 12).trans b12
    have f13 := (eF 13).trans b13
    have f14 := (eF 14).trans h14
    have f15 := (eF 15).trans h15
    have f16 := (eF 16).trans h16
    have f11 := eL.trans b11
    have hRA : yRf (tkA p q M) := hR
    have hRB : yRf (tkB p q (tkA p q M)) := hR
    have step1 : s_X3_takeOver p q M = hf_pt (hf_sI (tkB p q (tkA p q M)) p 8 ((tkB p q (tkA p q M)).1 q 8)) (fun M25 => hf_pt (hf_sI M25 p 9 (M25.1 q 9)) (fun M26 => hf_pt (hf_sI M26 p 10 (M26.1 q 10)) (fun M27 => hf_pt (hf_sL M27 p 11 (M27.2.1 q 11)) (fun M28 => hf_pt (hf_sI M28 p 12 (M28.1 q 12)) (fun M29 => hf_pt (hf_sI M29 p 13 (M29.1 q 13)) (fun M30 => hf_pt (hf_sI M30 p 14 (M30.1 q 14)) (fun M31 => hf_pt (hf_sI M31 p 15 (M31.1 q 15)) (fun M32 => hf_pt (hf_sI M32 p 16 (M32.1 q 16)) (fun M33 => some ((), M33)))))))))) := by
      unfold s_X3_takeOver
      rw [cr0 hR hq, qrs, cr0 hR hp, qrs, qac6 (cln6 hq (by decide) (by decide)) (cln6 hp (by decide) (by decide))]
      generalize e1 : hf_cpI M (q + 1) 0 (p + 1) 0 6 = M1
      have R1 : yRf M1 := by subst e1; exact hR
      rw [cr1 R1 hq, qrs, cr1 R1 hp, qrs, qac6 (cln6 hq (by decide) (by decide)) (cln6 hp (by decide) (by decide))]
      generalize e2 : hf_cpI M1 (q + 2) 0 (p + 2) 0 6 = M2
      have R2 : yRf M2 := by subst e2; exact R1
      rw [cr2 R2 hq, qrs, cr2 R2 hp, qrs, qac6 (cln6 hq (by decide) (by decide)) (cln6 hp (by decide) (by decide))]
      generalize e3 : hf_cpI M2 (q + 3) 0 (p + 3) 0 6 = M3
      have R3 : yRf M3 := by subst e3; exact R2
      rw [cr3 R3 hq, qrs, cr3 R3 hp, qrs, qac6 (cln6 hq (by decide) (by decide)) (cln6 hp (by decide) (by decide))]
      generalize e4 : hf_cpI M3 (q + 4) 0 (p + 4) 0 6 = M4
      have R4 : yRf M4 := by subst e4; exact R3
      rw [cr4 R4 hq, qrs, cr4 R4 hp, qrs, qac48 (cln48 hq (by decide) (by decide)) (cln48 hp (by decide) (by decide))]
      generalize e5 : hf_cpI M4 (q + 5) 0 (p + 5) 0 48 = M5
      have R5 : yRf M5 := by subst e5; exact R4
      rw [cr5 R5 hq, qrs, cr5 R5 hp, qrs, qac48 (cln48 hq (by decide) (by decide)) (cln48 hp (by decide) (by decide))]
      generalize e6 : hf_cpI M5 (q + 6) 0 (p + 6) 0 48 = M6
      have R6 : yRf M6 := by subst e6; exact R5
      rw [cr6 R6 hq, qrs, cr6 R6 hp, qrs, qac48 (cln48 hq (by decide) (by decide)) (cln48 hp (by decide) (by decide))]
      generalize e7 : hf_cpI M6 (q + 7) 0 (p + 7) 0 48 = M7
      have R7 : yRf M7 := by subst e7; exact R6
      rw [cr7 R7 hq, qrs, cr7 R7 hp, qrs, qacL (cln48 hq (by decide) (by decide)) (cln48 hp (by decide) (by decide))]
      subst e7 e6 e5 e4 e3 e2 e1
      rfl
    rw [step1, f8]
    generalize tkB p q (tkA p q M) = B at *
    rw [qpt, gI (by omega), f9, qpt, gI (by omega), gI (by omega), f10, qpt, gIL, gIL, gIL, f11, qpt, gLI, gI (by omega), gI (by omega), gI (by omega), f12, qpt, gI (by omega), gLI, gI (by omega), gI (by omega), gI (by omega), f13, qpt, gI (by omega), gI (by omega), gLI, gI (by omega), gI (by omega), gI (by omega), f14, qpt, gI (by omega), gI (by omega), gI (by omega), gLI, gI (by omega), gI (by omega), gI (by omega), f15, qpt, gI (by omega), gI (by omega), gI (by omega), gI (by omega), gLI, gI (by omega), gI (by omega), gI (by omega), f16, qpt]
    rfl
  · have eo : ∀ {i j}, 0 < i → (tkF p (nI (yF (uT υ))) (nI (yP (uT υ))) (nI (yS (uT υ))) (yl (uT υ)) (nI (yn (uT υ))) (nI (yt (uT υ))) (ud υ) (us υ) (uw υ) (tkB p q (tkA p q M))).1 (p + i) j = (tkB p q (tkA p q M)).1 (p + i) j := fun {i j} hi => tkF_o (by omega)
    refine ⟨⟨⟨?_, ?_, ?_, ?_, ?_, ?_⟩, fun r hr => ⟨?_, ?_, ?_⟩, fun i hi => ⟨?_, ?_⟩⟩, fun w hww i hi => ?_, fun i hi => ?_, fun j hj => ?_, ?_, ?_, ?_⟩
    · unfold tkF
      rw [gI (by omega), gI (by omega), gI (by omega), gI (by omega), gI (by omega), gLI, gI (by omega), gI (by omega), gI0]
    · unfold tkF
      rw [gI (by omega), gI (by omega), gI (by omega), gI (by omega), gI (by omega), gLI, gI (by omega), gI0]
    · unfold tkF
      rw [gI (by omega), gI (by omega), gI (by omega), gI (by omega), gI (by omega), gLI, gI0]
    · unfold tkF
      rw [gI (by omega), gI (by omega), gI (by omega), gI (by omega), gI0]
    · unfold tkF
      rw [gI (by omega), gI (by omega), gI (by omega), gI0]
    · unfold tkF
      rw [gIL, gIL, gIL, gIL, gIL, gL0]
    · rw [eo (by decide), eA 2 r (by decide) (by decide) (by omega)]; exact (hk r hr).1
    · rw [eo (by decide), eA 3 r (by decide) (by decide) (by omega)]; exact (hk r hr).2.1
    · rw [eo (by decide), eA 4 r (by decide) (by decide) (by omega)]; exact (hk r hr).2.2
    · rw [eo (by decide), eB 5 i (by decide) (by decide) (by omega)]; exact (hs i hi).1
    · rw [eo (by decide), eB 6 i (by decide) (by decide) (by omega)]; exact (hs i hi).2
    · rw [tkF_Lo (by omega), eBL i (by omega)]; exact hv w hww i hi
    · rw [eo (by decide), eB 7 i (by decide) (by decide) (by omega)]; exact hw i hi
    · rw [eo (by decide), eA 1 j (by decide) (by decide) hj]; exact hh j hj
    · unfold tkF
      rw [gI (by omega), gI (by omega), gI0]
    · unfold tkF
      rw [gI (by omega), gI0]
    · unfold tkF
      rw [gI0]
  · unfold Gq at hk
    rw [tkF_o (by omega), tkB_o hne (by omega), tkA_o hne (by omega)]
  · unfold Gq at hk
    rw [tkF_Lo (by omega), tkB_Lo (by omega)]; rfl
/-! the reference's keeping -/
theorem r_kp0 {t c f n : Nat} (hne : t ≠ c) (hc : f + n ≤ hf_len c) (ht : n ≤ hf_len t) (hn : f + n < 200) : ∀ (k v fu : Nat) (N : hf_M), n = v + k → k < fu → ∃ K, s_X5_keeps_3 t (nI n) c (nI f) 0 fu (nI v) N = some (nI (f + n), K) ∧ K.2 = N.2 ∧ (∀ a j, (a ≠ c ∨ j < f + v ∨ f + n ≤ j) → K.1 a j = N.1 a j) ∧ ∀ j, v ≤ j → j < n → K.1 c (f + j) = N.1 t j := by
  intro k
  induction k with
  | zero =>
    intro v fu N hv hf
    obtain ⟨fu, rfl⟩ : ∃ u, fu = u + 1 := ⟨fu - 1, by omega⟩
    refine ⟨N, ?_, rfl, fun _ _ _ => rfl, fun j h1 h3 => by omega⟩
    rw [s_X5_keeps_3, qi_le rfl rfl (by omega) (by omega), if_pos (by omega), nI_add]
  | succ k ih =>
    intro v fu N hv hf
    obtain ⟨fu, rfl⟩ : ∃ u, fu = u + 1 := ⟨fu - 1, by omega⟩
    obtain ⟨K, k1, k2, k3, k4⟩ := ih (v + 1) fu (hf_sI N c (f + v) (N.1 t v)) (by omega) (by omega)
    refine ⟨K, ?_, k2, fun a j ha => ?_, fun j h1 h3 => ?_⟩
    · rw [s_X5_keeps_3, qi_le rfl rfl (by omega) (by omega), if_neg (by omega), if_pos rfl, qlI N (by omega), nI_add, qsI N _ (by omega), nI_1]
      exact k1
    · rw [k3 a j (by omega), gI (by omega)]
    · by_cases e : j = v
      · subst e
        rw [k3 c (f + j) (by omega), gI0]
      · rw [k4 j (by omega) h3, gI (Or.inl hne)]
theorem r_kp1 {t c f n : Nat} (hne : t ≠ c) (hc : f + n ≤ hf_len c) (ht : n ≤ hf_len t) (hn : f + n < 200) : ∀ (k v fu : Nat) (N : hf_M), n = v + k → k < fu → ∃ K, s_X5_keeps_3 t (nI n) c (nI f) 1 fu (nI v) N = some (nI (f + n), K) ∧ K.2 = N.2 ∧ (∀ a j, (a ≠ t ∨ j < v ∨ n ≤ j) → K.1 a j = N.1 a j) ∧ ∀ j, v ≤ j → j < n → K.1 t j = N.1 c (f + j) := by
  intro k
  induction k with
  | zero =>
    intro v fu N hv hf
    obtain ⟨fu, rfl⟩ : ∃ u, fu = u + 1 := ⟨fu - 1, by omega⟩
    refine ⟨N, ?_, rfl, fun _ _ _ => rfl, fun j h1 h3 => by omega⟩
    rw [s_X5_keeps_3, qi_le rfl rfl (by omega) (by omega), if_pos (by omega), nI_add]
  | succ k ih =>
    intro v fu N hv hf
    obtain ⟨fu, rfl⟩ : ∃ u, fu = u + 1 := ⟨fu - 1, by omega⟩
    obtain ⟨K, k1, k2, k3, k4⟩ := ih (v + 1) fu (hf_sI N t v (N.1 c (f + v))) (by omega) (by omega)
    refine ⟨K, ?_, k2, fun a j ha => ?_, fun j h1 h3 => ?_⟩
    · rw [s_X5_keeps_3, qi_le rfl rfl (by omega) (by omega), if_neg (by omega), if_neg q10, nI_add, qlI N (by omega), qsI N _ (by omega), nI_1]
      exact k1
    · rw [k3 a j (by omega), gI (by omega)]
    · by_cases e : j = v
      · subst e
        rw [k3 t j (by omega), gI0]
      · rw [k4 j (by omega) h3, gI (Or.inl (Ne.symm hne))]
theorem r_keep0 {t c f n : Nat} (N : hf_M) (hne : t ≠ c) (hc : f + n ≤ hf_len c) (ht : n ≤ hf_len t) (hn : f + n < 200) : ∃ K, s_X5_keeps 49 t (nI n) c (nI f) 0 N = some (nI (f + n), K) ∧ K.2 = N.2 ∧ (∀ a j, (a ≠ c ∨ j < f ∨ f + n ≤ j) → K.1 a j = N.1 a j) ∧ ∀ j, j < n → K.1 c (f + j) = N.1 t j := by
  obtain ⟨K, k1, k2, k3, k4⟩ := r_kp0 hne hc ht hn n 0 2000 N (by omega) (by omega)
  exact ⟨K, k1, k2, fun a j h => k3 a j (by omega), fun j h => k4 j (by omega) h⟩
theorem r_keep1 {t c f n : Nat} (N : hf_M) (hne : t ≠ c) (hc : f + n ≤ hf_len c) (ht : n ≤ hf_len t) (hn : f + n < 200) : ∃ K, s_X5_keeps 49 t (nI n) c (nI f) 1 N = some (nI (f + n), K) ∧ K.2 = N.2 ∧ (∀ a j, (a ≠ t ∨ n ≤ j) → K.1 a j = N.1 a j) ∧ ∀ j, j < n → K.1 t j = N.1 c (f + j) := by
  obtain ⟨K, k1, k2, k3, k4⟩ := r_kp1 hne hc ht hn n 0 2000 N (by omega) (by omega)
  exact ⟨K, k1, k2, fun a j h => k3 a j (by omega), fun j h => k4 j (by omega) h⟩
