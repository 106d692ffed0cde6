/-! numbers -/
def ydg (x : Int32) : Bool := !decide (x < 48) && !decide (57 < x)
theorem ydg_t {x : Int32} (h : ydg x = true) : ∃ m, 48 ≤ m ∧ m ≤ 57 ∧ x = nI m := by
  unfold ydg at h
  rw [Bool.and_eq_true, Bool.not_eq_true', Bool.not_eq_true', decide_eq_false_iff_not, decide_eq_false_iff_not] at h
  obtain ⟨h1, h2⟩ := h
  obtain ⟨m, hm, rfl⟩ := nI_of2 (M := 57) (n := 57) (x := x) (by decide) (fun e => h1 (Int32.lt_trans e (by decide))) (Int32.not_lt.mp h2)
  refine ⟨m, ?_, by omega, rfl⟩
  rcases Nat.lt_or_ge m 48 with g | g
  · exact absurd (show nI m < 48 from nI_lt (b := 48) g (by decide)) h1
  · exact g
def yDg (T : Nat → Int32) (n : Nat) : Nat → Nat → Nat → Nat × Nat
  | 0, p, v => (v, p)
  | k + 1, p, v => if ydg (tl T n p) = true then yDg T n k (p + 1) (10 * v + ((tl T n p).toNatClampNeg - 48)) else (v, p)
def yfin (lo hi : Int32) (f : Nat) (q : Nat × Nat) : Sum Nat (Nat × Nat) := if q.2 ≤ f then .inl f else if nI q.1 < lo then .inl f else if nI q.1 ≤ hi then .inr q else .inl f
def yNm (T : Nat → Int32) (n : Nat) (lo hi : Int32) (pos : Nat) : Sum Nat (Nat × Nat) := yfin lo hi pos (yDg T n 4 pos 0)
section rd
variable {T : Nat → Int32} {n s : Nat} {M K : hf_M} {υ : hU} {c a : Nat}
theorem tl_dg (h : ydg (tl T n a) = true) : a < n := by
  obtain ⟨m, h1, h2, h3⟩ := ydg_t h
  exact tl_lt (fun e => by
    have := qm1 m (by omega)
    exact this e.symm) h3
theorem yDg_b : ∀ (k p v : Nat), (yDg T n k p v).1 + 1 ≤ (v + 1) * 10 ^ k ∧ p ≤ (yDg T n k p v).2 ∧ (p ≤ n → (yDg T n k p v).2 ≤ n) := by
  intro k
  induction k with
  | zero => intro p v; exact ⟨by show v + 1 ≤ (v + 1) * 1; omega, Nat.le_refl _, fun h => h⟩
  | succ k ih =>
    intro p v
    have e : yDg T n (k + 1) p v = if ydg (tl T n p) = true then yDg T n k (p + 1) (10 * v + ((tl T n p).toNatClampNeg - 48)) else (v, p) := rfl
    rw [e]
    by_cases hd : ydg (tl T n p) = true
    · rw [if_pos hd]
      obtain ⟨i1, i2, i3⟩ := ih (p + 1) (10 * v + ((tl T n p).toNatClampNeg - 48))
      have hp := tl_dg hd
      refine ⟨Nat.le_trans i1 ?_, by omega, fun _ => i3 (by omega)⟩
      obtain ⟨m, h1, h2, h3⟩ := ydg_t hd
      rw [h3, nI_clamp (by omega), Nat.pow_succ, Nat.mul_comm (10 ^ k) 10, ← Nat.mul_assoc]
      exact Nat.mul_le_mul_right _ (by omega)
    · rw [if_neg hd]
      refine ⟨?_, Nat.le_refl _, fun h => h⟩
      have : 0 < 10 ^ (k + 1) := Nat.pow_pos (by decide)
      exact Nat.le_mul_of_pos_right _ this
theorem yNm_b {lo hi : Int32} {p : Nat} {q : Nat × Nat} (hp : p ≤ n) (e : yNm T n lo hi p = .inr q) : q.1 < 10000 ∧ p < q.2 ∧ q.2 ≤ n ∧ ¬ nI q.1 < lo ∧ nI q.1 ≤ hi := by
  unfold yNm yfin at e
  obtain ⟨b1, b2, b3⟩ := yDg_b (T := T) (n := n) 4 p 0
  have b1' : (yDg T n 4 p 0).1 < 10000 := by
    have h : (0 + 1) * 10 ^ 4 = 10000 := rfl
    omega
  by_cases h1 : (yDg T n 4 p 0).2 ≤ p
  · rw [if_pos h1] at e; cases e
  · rw [if_neg h1] at e
    by_cases h2 : nI (yDg T n 4 p 0).1 < lo
    · rw [if_pos h2] at e; cases e
    · rw [if_neg h2] at e
      by_cases h3 : nI (yDg T n 4 p 0).1 ≤ hi
      · rw [if_pos h3] at e
        cases e
        exact ⟨b1', by omega, b3 hp, h2, h3⟩
      · rw [if_neg h3] at e; cases e
def cN (M : hf_M) (υ : hU) (n c f : Nat) (o : Sum Nat (Nat × Nat)) (r : Option (Int32 × hf_M)) : Prop := match o with
  | .inl e => cE M c e r
  | .inr q => ∃ L, r = some (1, L) ∧ cT M υ n c q.2 L ∧ L.1 29 5 = nI q.1 ∧ L.1 29 6 = nI f
theorem c_isDg (h : tX T n s M) (hK : cT M υ n c a K) : s_X1_isDigit 29 K = some (qbI (ydg (tl T n a)), K) := by
  obtain ⟨g, hU', h2, h4, ha⟩ := hK
  unfold s_X1_isDigit ydg
  rw [c_letter h g h2 ha, qb1]
  by_cases h1 : tl T n a < 48
  · rw [if_pos h1, decide_eq_true h1]; rfl
  · rw [if_neg h1, c_letter h g h2 ha, qb1, decide_eq_false h1]
    by_cases h3 : 57 < tl T n a
    · rw [if_pos h3, decide_eq_true h3]; rfl
    · rw [if_neg h3, decide_eq_false h3]; rfl
theorem c_num_end {lo hi : Int32} {p v f : Nat} (hK : cT M υ n c p K) (h5 : K.1 29 5 = nI v) (h6 : K.1 29 6 = nI f) (hf : f ≤ n) (hn : n ≤ 160) : cN M υ n c f (yfin lo hi f (v, p)) (if (K.1 29 2) ≤ (K.1 29 6) then hf_bd (s_X1_wrong 29 (K.1 29 6) K) (fun r M => if r = 0 then some (0, M) else some (1, M)) else if (K.1 29 5) < lo then hf_bd (s_X1_wrong 29 (K.1 29 6) K) (fun r M => if r = 0 then some (0, M) else some (1, M)) else if (K.1 29 5) ≤ hi then some (1, K) else hf_bd (s_X1_wrong 29 (K.1 29 6) K) (fun r M => if r = 0 then some (0, M) else some (1, M))) := by
  have hK' := hK
  obtain ⟨g, hU', h2, h4, ha⟩ := hK'
  have w : cE M c f (hf_bd (s_X1_wrong 29 (K.1 29 6) K) (fun r M => if r = 0 then some (0, M) else some (1, M))) := ⟨hf_sI K 29 3 (nI f), by rw [c_wrong, qb1, if_pos rfl, h6], Gt_I g, gI0, by rw [gI (by omega)]; exact h4⟩
  unfold yfin
  rw [qi_le h2 h6 (by omega) (by omega), h5]
  show cN M υ n c f (if p ≤ f then .inl f else if nI v < lo then .inl f else if nI v ≤ hi then .inr (v, p) else .inl f) _
  by_cases e1 : p ≤ f
  · rw [if_pos e1, if_pos e1]; exact w
  · rw [if_neg e1, if_neg e1]
    by_cases e2 : nI v < lo
    · rw [if_pos e2, if_pos e2]; exact w
    · rw [if_neg e2, if_neg e2]
      by_cases e3 : nI v ≤ hi
      · rw [if_pos e3, if_pos e3]
        exact ⟨K, rfl, hK, h5, h6⟩
      · rw [if_neg e3, if_neg e3]; exact w
theorem c_num_loop (h : tX T n s M) {lo hi : Int32} {f : Nat} (hf : f ≤ n) : ∀ (k i fu p v : Nat) (K : hf_M), 4 = i + k → k < fu → cT M υ n c p K → K.1 29 5 = nI v → K.1 29 6 = nI f → cN M υ n c f (yfin lo hi f (yDg T n k p v)) (s_X1_isNumber_15 29 lo hi fu (nI i) K) := by
  have hn := h.2.2.1
  intro k
  induction k with
  | zero =>
    intro i fu p v K hi4 hfu hK h5 h6
    obtain ⟨fu, rfl⟩ : ∃ u, fu = u + 1 := ⟨fu - 1, by omega⟩
    have := c_num_end (lo := lo) (hi := hi) hK h5 h6 hf hn
    rw [s_X1_isNumber_15, qi_le (show (4 : Int32) = nI 4 from rfl) rfl (by omega) (by omega), if_pos (show 4 ≤ i by omega)]
    exact this
  | succ k ih =>
    intro i fu p v K hi4 hfu hK h5 h6
    obtain ⟨fu, rfl⟩ : ∃ u, fu = u + 1 := ⟨fu - 1, by omega⟩
    have e : yDg T n (k + 1) p v = if ydg (tl T n p) = true then yDg T n k (p + 1) (10 * v + ((tl T n p).toNatClampNeg - 48)) else (v, p) := rfl
    rw [e, s_X1_isNumber_15, qi_le (show (4 : Int32) = nI 4 from rfl) rfl (by omega) (by omega), if_neg (show ¬ 4 ≤ i by omega), c_isDg h hK, qb1]
    cases hd : ydg (tl T n p)
    · rw [qb_ifF, if_neg (by decide)]
      exact c_num_end (lo := lo) (hi := hi) hK h5 h6 hf hn
    · rw [qb_ifT, if_pos rfl]
      have hK' := hK
      obtain ⟨g, hU', h2, h4, ha⟩ := hK'
      obtain ⟨m, m1, m2, m3⟩ := ydg_t hd
      rw [c_letter h g h2 ha, qb1, qpt, qpt, gI (by omega), h2, nI_1, h5, nI_1, m3, nI_clamp (by omega), show (10 : Int32) = nI 10 from rfl, show (48 : Int32) = nI 48 from rfl, pk_mul, nI_add, pk_sub (by omega), show 10 * v + m - 48 = 10 * v + (m - 48) by omega]
      refine ih (i + 1) fu (p + 1) (10 * v + (m - 48)) _ (by omega) (by omega) ⟨Gt_I (Gt_I g), cU_29 (cU_29 hU'), gI0, ?_, tl_dg hd⟩ ?_ ?_
      · rw [gI (by omega), gI (by omega)]; exact h4
      · rw [gI (by omega), gI0]
      · rw [gI (by omega), gI (by omega)]; exact h6
theorem c_number (h : tX T n s M) (hK : cT M υ n c a K) (lo hi : Int32) : cN M υ n c a (yNm T n lo hi a) (s_X1_isNumber 29 lo hi K) := by
  obtain ⟨g, hU', h2, h4, ha⟩ := hK
  unfold s_X1_isNumber
  rw [qpt, qpt, h2]
  refine c_num_loop h ha 4 0 2000 a 0 _ (by omega) (by omega) ⟨Gt_I (Gt_I g), cU_29 (cU_29 hU'), ?_, ?_, ha⟩ gI0 ?_
  · rw [gI (by omega), gI (by omega)]; exact h2
  · rw [gI (by omega), gI (by omega)]; exact h4
  · rw [gI (by omega), gI0]
end rd
