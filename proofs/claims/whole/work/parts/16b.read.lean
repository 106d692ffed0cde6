/-! the reference's numbers -/
def vN (M : hf_M) (υ : hU) (n : Nat) (W : Nat → Int32) (o : Sum Nat (Nat × Nat)) (r : Option (Int32 × hf_M)) : Prop := match o with
  | .inl e => vE M e r
  | .inr q => ∃ L, r = some (1, L) ∧ rT M υ n q.2 L ∧ L.1 49 28 = nI q.1 ∧ ∀ j, L.1 64 j = W j
section rd
variable {T : Nat → Int32} {n s : Nat} {M K : hf_M} {υ : hU} {c a : Nat} {W : Nat → Int32}
theorem Gv_I {j : Nat} {v : Int32} (g : gG Gv M K) (hj : j = 26 ∨ j = 28 ∨ j = 29) : gG Gv M (hf_sI K 49 j v) := gG_tr g (gG_I (Or.inr (Or.inl ⟨rfl, hj⟩)))
theorem Gv_64 {j : Nat} {v : Int32} (g : gG Gv M K) : gG Gv M (hf_sI K 64 j v) := gG_tr g (gG_I (Or.inr (Or.inr rfl)))
theorem rU_49 {j : Nat} {v : Int32} (h : rU υ K) (hj : j = 26 ∨ j = 28 ∨ j = 29) : rU υ (hf_sI K 49 j v) := rU_ag (M := K) (N := hf_sI K 49 j v) (fun k i hk => ⟨by unfold Zr at hk; rw [gI (by omega)], rfl⟩) h
theorem rU_64 {j : Nat} {v : Int32} (h : rU υ K) : rU υ (hf_sI K 64 j v) := rU_ag (M := K) (N := hf_sI K 64 j v) (fun k i hk => ⟨by unfold Zr at hk; rw [gI (by omega)], rfl⟩) h
theorem vE_w (hg : gG Gv M K) (e : Nat) : vE M e (s_X5_wrong 49 (nI e) K) := ⟨hf_sI K 49 29 (nI e), rfl, Gv_I hg (by omega), gI0⟩
theorem vE_bz {e : Nat} (hg : gG Gv M K) : vE M e (hf_bd (s_X5_wrong 49 (nI e) K) (fun r M => hf_bz r (some (r, M)))) := vE_w hg e
theorem vE_b1 {e : Nat} (hg : gG Gv M K) : vE M e (hf_bd (s_X5_wrong 49 (nI e) K) (fun r M => if r = 0 then some (0, M) else some (1, M))) := vE_w hg e
theorem r_digit (h : vX T n s M) (hK : rT M υ n a K) : s_X5_isDigit 49 K = some (qbI (ydg (tl T n a)), K) := by
  obtain ⟨g, hU', h2, ha⟩ := hK
  have hn := h.2.2.1
  unfold s_X5_isDigit ydg
  rw [v27 h g, h2, qi_le rfl rfl (by omega) (by omega)]
  by_cases e : n ≤ a
  · have t : tl T n a = -1 := by unfold tl; rw [if_neg (by omega)]
    rw [if_pos e, t]; rfl
  · obtain ⟨t1, t2⟩ := r_txt h g (b := a) (by omega)
    rw [if_neg e, t2, t1, t2, t1]
    by_cases h1 : tl T n a < 48
    · rw [if_pos h1, decide_eq_true h1]; rfl
    · rw [if_neg h1, decide_eq_false h1]
      by_cases h3 : 57 < tl T n a
      · rw [if_pos h3, decide_eq_true h3]; rfl
      · rw [if_neg h3, decide_eq_false h3]; rfl
theorem r_num_end {lo hi : Int32} {p v f : Nat} (hK : rT M υ n p K) (h5 : K.1 49 28 = nI v) (hW : ∀ j, K.1 64 j = W j) (hf : f < p) : vN M υ n W (yfin lo hi f (v, p)) (if (K.1 49 28) < lo then hf_bd (s_X5_wrong 49 (nI f) K) (fun r M => if r = 0 then some (0, M) else some (1, M)) else if (K.1 49 28) ≤ hi then some (1, K) else hf_bd (s_X5_wrong 49 (nI f) K) (fun r M => if r = 0 then some (0, M) else some (1, M))) := by
  unfold yfin
  rw [h5]
  show vN M υ n W (if p ≤ f then .inl f else if nI v < lo then .inl f else if nI v ≤ hi then .inr (v, p) else .inl f) _
  rw [if_neg (show ¬ p ≤ f by omega)]
  by_cases e2 : nI v < lo
  · rw [if_pos e2, if_pos e2]; exact vE_b1 hK.1
  · rw [if_neg e2, if_neg e2]
    by_cases e3 : nI v ≤ hi
    · rw [if_pos e3, if_pos e3]
      exact ⟨K, rfl, hK, h5, hW⟩
    · rw [if_neg e3, if_neg e3]; exact vE_b1 hK.1
theorem r_num_loop (h : vX T n s M) {lo hi : Int32} {f : Nat} : ∀ (k i fu p v : Nat) (K : hf_M), 4 = i + k → k < fu → rT M υ n p K → K.1 49 28 = nI v → (∀ j, K.1 64 j = W j) → (f < p ∨ (f ≤ p ∧ 0 < k ∧ ydg (tl T n p) = true)) → vN M υ n W (yfin lo hi f (yDg T n k p v)) (s_X5_number_29 49 lo hi (nI f) fu (nI i) K) := by
  have hn := h.2.2.1
  intro k
  induction k with
  | zero =>
    intro i fu p v K hi4 hfu hK h5 hW hf
    obtain ⟨fu, rfl⟩ : ∃ u, fu = u + 1 := ⟨fu - 1, by omega⟩
    have hf' : f < p := by
      rcases hf with e | ⟨_, e, _⟩
      · exact e
      · omega
    have := r_num_end (lo := lo) (hi := hi) hK h5 hW hf'
    rw [s_X5_number_29, qi_le (show (4 : Int32) = nI 4 from rfl) rfl (by omega) (by omega), if_pos (show 4 ≤ i by omega)]
    exact this
  | succ k ih =>
    intro i fu p v K hi4 hfu hK h5 hW hf
    obtain ⟨fu, rfl⟩ : ∃ u, fu = u + 1 := ⟨fu - 1, by omega⟩
    have e : yDg T n (k + 1) p v = if ydg (tl T n p) = true then yDg T n k (p + 1) (10 * v + ((tl T n p).toNatClampNeg - 48)) else (v, p) := rfl
    rw [e, s_X5_number_29, qi_le (show (4 : Int32) = nI 4 from rfl) rfl (by omega) (by omega), if_neg (show ¬ 4 ≤ i by omega), r_digit h hK, qb1]
    cases hd : ydg (tl T n p)
    · have hf' : f < p := by
        rcases hf with e | ⟨_, _, e⟩
        · exact e
        · rw [hd] at e; cases e
      rw [qb_ifF, if_neg (by decide)]
      exact r_num_end (lo := lo) (hi := hi) hK h5 hW hf'
    · rw [qb_ifT, if_pos rfl]
      have hK' := hK
      obtain ⟨g, hU', h2, ha⟩ := hK'
      obtain ⟨m, m1, m2, m3⟩ := ydg_t hd
      obtain ⟨t1, t2⟩ := r_txt h g (b := p) (tl_dg hd)
      rw [h2, t2, t1, qpt, qpt, gI (by omega), h2, nI_1, h5, nI_1, m3, nI_clamp (by omega), show (10 : Int32) = nI 10 from rfl, show (48 : Int32) = nI 48 from rfl, pk_mul, nI_add, pk_sub (by omega), show 10 * v + m - 48 = 10 * v + (m - 48) by omega]
      refine ih (i + 1) fu (p + 1) (10 * v + (m - 48)) _ (by omega) (by omega) ⟨Gv_I (Gv_I g (by omega)) (by omega), rU_49 (rU_49 hU' (by omega)) (by omega), gI0, tl_dg hd⟩ ?_ (fun j => ?_) (Or.inl (by omega))
      · rw [gI (by omega), gI0]
      · rw [gI (by omega), gI (by omega)]; exact hW j
theorem r_number (h : vX T n s M) (hK : rT M υ n a K) (hW : ∀ j, K.1 64 j = W j) (lo hi : Int32) : vN M υ n W (yNm T n lo hi a) (s_X5_number 49 lo hi K) := by
  obtain ⟨g, hU', h2, ha⟩ := hK
  have h0 : rT M υ n a (hf_sI K 49 28 0) := ⟨Gv_I g (by omega), rU_49 hU' (by omega), by rw [gI (by omega)]; exact h2, ha⟩
  unfold s_X5_number
  rw [qpt, r_digit h h0, qb1, h2, h0.2.2.1]
  unfold yNm
  cases hd : ydg (tl T n a)
  · rw [qb_ifF]
    have e : yDg T n 4 a 0 = (0, a) := by
      show (if ydg (tl T n a) = true then _ else (0, a)) = _
      rw [hd, if_neg (by decide)]
    rw [e]
    show vN M υ n W (if a ≤ a then .inl a else _) _
    rw [if_pos (Nat.le_refl a)]
    exact vE_bz h0.1
  · rw [qb_ifT]
    exact r_num_loop h 4 0 2000 a 0 _ (by omega) (by omega) h0 gI0 (fun j => by rw [gI (by omega)]; exact hW j) (Or.inr ⟨Nat.le_refl _, by omega, hd⟩)
/-- one number, kept -/
theorem r_225 (h : vX T n s M) (hK : rT M υ n a K) {k142 : Int32 → Int32 → hf_M → Option (Int32 × hf_M)} {w v5 : Nat} {v4 lo hi : Int32} (hh : s_X5_high 49 (nI w) (nI v5) K = some (hi, K)) (hw : w < 5) (h5 : v5 < 3) (h3 : ¬ (w = 3 ∧ v5 = 0)) : match yNm T n lo hi a with
    | .inl e => vE M e (s_X5_item_225 k142 49 (nI w) (nI a) v4 (nI v5) 49 lo K)
    | .inr q => ∃ L, s_X5_item_225 k142 49 (nI w) (nI a) v4 (nI v5) 49 lo K = k142 (nI a) (nI (v5 + 1)) L ∧ rT M υ n q.2 L ∧ L.1 64 v5 = nI q.1 ∧ ∀ j, j ≠ v5 → L.1 64 j = K.1 64 j := by
  have x := r_number (W := K.1 64) h hK (fun _ => rfl) lo hi
  unfold s_X5_item_225
  rw [hh, qb1]
  cases hx : yNm T n lo hi a with
  | inl e =>
    rw [hx] at x
    obtain ⟨L, l1, l2⟩ := x
    exact ⟨L, by rw [l1, qb1, if_pos rfl], l2⟩
  | inr q =>
    rw [hx] at x
    obtain ⟨L, l1, l2, l3, l4⟩ := x
    have r24 : L.2.2 49 24 = some 64 := yrf_49 (vR h l2.1) (j := 24) rfl
    have st : ∀ {r}, hf_rf (L.2.2 49 24) (fun q5 => hf_stI L q5 (nI v5) (L.1 49 28) (fun M6 => k142 (nI a) (nI v5 + 1) M6)) = r → k142 (nI a) (nI (v5 + 1)) (hf_sI L 64 v5 (nI q.1)) = r := by
      intro r hr
      rw [← hr, r24, qrs, qsI _ _ (by show v5 < 3; exact h5), l3, nI_1]
    refine ⟨hf_sI L 64 v5 (nI q.1), ?_, ⟨Gv_64 l2.1, rU_64 l2.2.1, by rw [gI (by omega)]; exact l2.2.2.1, l2.2.2.2⟩, gI0, fun j hj => by rw [gI (by omega)]; exact l4 j⟩
    rw [l1, qb1, if_neg q10, qi_eq (x := nI w) (y := 3) (c := 3) rfl rfl (by omega) (by omega)]
    by_cases e3 : w = 3
    · rw [if_pos e3, qi_eq (x := nI v5) (y := 0) (c := 0) rfl rfl (by omega) (by omega), if_neg (fun e => h3 ⟨e3, e⟩)]
      exact (st rfl).symm
    · rw [if_neg e3]
      exact (st rfl).symm
end rd
