section rd
variable {T : Nat → Int32} {n s : Nat} {M K : hf_M} {υ : hU} {c a : Nat}
theorem ymm_le {w : Nat} : ∀ (k v : Nat), ymm T n w a k v ≤ v + k := by
  intro k
  induction k with
  | zero => intro v; exact Nat.le_refl _
  | succ k ih =>
    intro v
    have e : ymm T n w a (k + 1) v = if tl T n (a + v) = hf_chr w v then ymm T n w a k (v + 1) else v := rfl
    rw [e]
    split
    · have := ih (v + 1)
      omega
    · omega
theorem chr_ne : ∀ w, w < 5 → ∀ i, i < 5 → i ≠ w → ¬ hf_chr w 0 = hf_chr i 0 := by decide +kernel
theorem wl_pos : ∀ w, w < 5 → 0 < wl w := by decide +kernel
theorem itl_e (hK : rT M υ n a K) {e : Nat} (hw : s_X5_word 49 K = some (-1, hf_sI K 49 29 (nI e))) : vE M e (itl K) := by
  refine ⟨hf_sI K 49 29 (nI e), ?_, Gv_I hK.1 (by omega), gI0⟩
  unfold itl
  rw [hw, qb1, if_pos rfl]
theorem r_itw (h : vX T n s M) (hu : uWF υ) (hK : rT M υ n a K) {w : Nat} (hw : w < 5) (e0 : tl T n a = hf_chr w 0) (J : Nat → Sum Nat (hU × Nat)) (hJ : yRm υ w = true → ∀ p K', rT M υ n p K' → ∀ v3, vO M n (J p) (s_X5_item_119 49 (nI w) v3 K')) : vO M n (sb (yW T n w (yRm υ w) a) J) (s_X5_item 49 K) := by
  have oth : ∀ i, i < 5 → i ≠ w → ymm T n i a (wl i) 0 = 0 ∧ ymx T n i a (wl i + 1) 0 = 0 := fun i hi hne => ymm_0 hi (by rw [e0]; exact chr_ne w hw i hi hne)
  obtain ⟨i1, i2⟩ := r_i2 h hu hK 5 0 2000 (by omega) (by omega)
  have hb := yBs_w hw (fun i hi hne => (oth i hi hne).2)
  have hx := ymx_e (T := T) (n := n) (a := a) hw (wl w) 0 (by omega)
  have hwd := r_word h hK
  have eit : s_X5_item 49 K = s_X5_item_2 49 2000 (nI 0) K := rfl
  rw [eit]
  unfold yW
  by_cases m : ymm T n w a (wl w) 0 = wl w
  · rw [if_pos m]
    cases r : yRm υ w
    · rw [if_neg (by decide)]
      exact i2 ⟨w, Nat.zero_le _, hw, m, r⟩
    · have ei := i1 (fun i _ hi mi => by
        by_cases g : i = w
        · rw [g]; exact r
        · have := (oth i hi g).1
          have := wl_pos i hi
          omega)
      rw [if_pos rfl, ei]
      rw [if_pos m] at hx
      by_cases t : tl T n (a + wl w) = 32
      · rw [if_pos t] at hx
        rw [if_pos hx] at hb
        rw [hb] at hwd
        have hwd' : s_X5_word 49 K = some (nI w, hf_sI K 49 26 (nI (a + wl w + 1))) := hwd
        have k2 : rT M υ n (a + wl w + 1) (hf_sI K 49 26 (nI (a + wl w + 1))) := ⟨Gv_I hK.1 (by omega), rU_49 hK.2.1 (by omega), gI0, tl_lt (by decide) t⟩
        rw [if_pos t]
        show vO M n (J (a + wl w + 1)) (itl K)
        unfold itl
        have e73 := fun v1 v3 => r_73 hu k2 hw r v1 v3
        rw [hwd', qb1, if_neg (show ¬ nI w = -1 from fun e => qm1 w (by omega) e.symm), e73]
        by_cases w0 : w = 0
        · subst w0
          have hF : yF (uT υ) < 6 := of_decide_eq_true r
          rw [if_pos (show nI 0 = (0 : Int32) from rfl), k2.2.1.1.1.1, if_neg (show ¬ nI (yF (uT υ)) = 6 from fun e => absurd ((nI_eq (b := 6) (by omega) (by decide)).mp e) (by omega))]
          exact hJ r _ _ k2 _
        · rw [if_neg (show ¬ nI w = (0 : Int32) from fun e => w0 ((nI_eq (b := 0) (by omega) (by decide)).mp e))]
          exact hJ r _ _ k2 _
      · rw [if_neg t] at hx
        rw [if_neg (by omega), hx] at hb
        rw [hb] at hwd
        rw [if_neg t]
        exact itl_e hK hwd
  · have ei := i1 (fun i _ hi mi => by
      by_cases g : i = w
      · rw [g] at mi; exact absurd mi m
      · have := (oth i hi g).1
        have := wl_pos i hi
        omega)
    have hle := ymm_le (T := T) (n := n) (a := a) (w := w) (wl w) 0
    rw [if_neg m] at hx
    rw [if_neg (by omega), hx] at hb
    rw [hb] at hwd
    rw [if_neg m, ei]
    exact itl_e hK hwd
theorem r_item (h : vX T n s M) (hu : uWF υ) (hK : rT M υ n a K) : vO M n (yIt T n υ a) (s_X5_item 49 K) := by
  unfold yIt
  by_cases h1 : tl T n a = 102
  · rw [if_pos h1]
    exact r_itw h hu hK (w := 0) (by omega) h1 (yJ0 T n υ) (fun hr p K' k v3 => r_item0 h hu k (of_decide_eq_true hr) v3)
  rw [if_neg h1]
  by_cases h2 : tl T n a = 107
  · rw [if_pos h2]
    exact r_itw h hu hK (w := 4) (by omega) h2 (yJ4 T n υ) (fun hr p K' k v3 => r_item4 h hu k v3)
  rw [if_neg h2]
  by_cases h3 : tl T n a = 108
  · rw [if_pos h3]
    exact r_itw h hu hK (w := 2) (by omega) h3 (yJ2 T n υ) (fun hr p K' k v3 => r_item2 h hu k (Nat.lt_one_iff.mp (of_decide_eq_true hr)) v3)
  rw [if_neg h3]
  by_cases h4 : tl T n a = 109
  · rw [if_pos h4]
    exact r_itw h hu hK (w := 1) (by omega) h4 (yJ1 T n υ) (fun hr p K' k v3 => r_item1 h hu k (of_decide_eq_true hr) v3)
  rw [if_neg h4]
  by_cases h5 : tl T n a = 115
  · rw [if_pos h5]
    exact r_itw h hu hK (w := 3) (by omega) h5 (yJ3 T n υ) (fun hr p K' k v3 => r_item3 h hu k (of_decide_eq_true hr) v3)
  rw [if_neg h5]
  have oth : ∀ i, i < 5 → ymm T n i a (wl i) 0 = 0 ∧ ymx T n i a (wl i + 1) 0 = 0 := fun i hi => ymm_0 hi (by
    have g : i = 0 ∨ i = 1 ∨ i = 2 ∨ i = 3 ∨ i = 4 := by omega
    rcases g with rfl | rfl | rfl | rfl | rfl
    · exact h1
    · exact h4
    · exact h3
    · exact h5
    · exact h2)
  obtain ⟨i1, -⟩ := r_i2 h hu hK 5 0 2000 (by omega) (by omega)
  have ei := i1 (fun i _ hi mi => by
    have := (oth i hi).1
    have := wl_pos i hi
    omega)
  have hwd := r_word h hK
  rw [yBs_n (fun i hi => (oth i hi).2)] at hwd
  have eit : s_X5_item 49 K = s_X5_item_2 49 2000 (nI 0) K := rfl
  rw [eit, ei]
  exact itl_e hK hwd
def vL (M : hf_M) (o : Sum Nat (hU × Nat)) (r : Option (Int32 × hf_M)) : Prop := match o with
  | .inl e => ∃ L v3 fu, r = s_X5_town_63 49 (fu + 1) v3 0 L ∧ gG Gv M L ∧ L.1 49 29 = nI e
  | .inr q => ∃ L, r = some (nI q.2, L) ∧ gG Gv M L ∧ rU q.1 L ∧ uWF q.1
theorem r_lp (h : vX T n s M) : ∀ (k fu p c : Nat) (υ : hU) (K : hf_M), n < p + k → k + 1 < fu → rT M υ n p K → uWF υ → vL M (yLp T n k υ p c) (s_X5_town_63 49 fu (nI c) 1 K) := by
  have hn := h.2.2.1
  intro k
  induction k with
  | zero =>
    intro fu p c υ K hp hf hK hu
    exact absurd hK.2.2.2 (by omega)
  | succ k ih =>
    intro fu p c υ K hp hf hK hu
    obtain ⟨fu, rfl⟩ : ∃ u, fu = u + 2 := ⟨fu - 2, by omega⟩
    have hpn := hK.2.2.2
    have e0 : yLp T n (k + 1) υ p c = if n ≤ p then .inr (υ, c) else if tl T n p = 59 then sb (yIt T n υ (p + 1)) fun q => yLp T n k q.1 q.2 (c + 1) else .inl p := rfl
    rw [e0, s_X5_town_63, if_neg q10, v27 h hK.1, hK.2.2.1, qi_le rfl rfl (by omega) (by omega)]
    by_cases g1 : n ≤ p
    · rw [if_pos g1, if_pos g1, if_neg q10]
      exact ⟨K, rfl, hK.1, hK.2.1, hu⟩
    · obtain ⟨t1, t2⟩ := r_txt h hK.1 (b := p) (by omega)
      rw [if_neg g1, if_neg g1, t2, t1]
      by_cases g2 : tl T n p = 59
      · have k2 : rT M υ n (p + 1) (hf_sI K 49 26 (nI (p + 1))) := ⟨Gv_I hK.1 (by omega), rU_49 hK.2.1 (by omega), gI0, by omega⟩
        rw [if_pos g2, if_pos g2, qpt, nI_1]
        have it := r_item h hu k2
        cases hi : yIt T n υ (p + 1) with
        | inl e =>
          rw [hi] at it
          obtain ⟨N, n1, n2, n3⟩ := it
          exact ⟨N, nI c + 1, fu, by rw [n1, qb1], n2, n3⟩
        | inr q =>
          rw [hi] at it
          obtain ⟨N, n1, n2, n3⟩ := it
          obtain ⟨q1, q2⟩ := yIt_lt k2.2.2.2 hi
          rw [n1, qb1, nI_1]
          exact ih (fu + 1) q.2 (c + 1) q.1 N (by omega) (by omega) n2 n3
      · rw [if_neg g2, if_neg g2]
        exact ⟨hf_sI K 49 29 (nI p), nI c, fu, rfl, Gv_I hK.1 (by omega), gI0⟩
theorem r_read (h : vX T n s M) (hu : uWF υ) (h26 : M.1 49 26 = 0) (hr : rU υ M) : vL M (yRd T n υ) (hf_bd (s_X5_item 49 M) (fun r12 M13 => s_X5_town_63 49 2000 1 r12 M13)) := by
  have k0 : rT M υ n 0 M := ⟨gG_refl _ _, hr, h26, Nat.zero_le _⟩
  have hn := h.2.2.1
  unfold yRd
  have it := r_item h hu k0
  cases hi : yIt T n υ 0 with
  | inl e =>
    rw [hi] at it
    obtain ⟨N, n1, n2, n3⟩ := it
    exact ⟨N, 1, 1999, by rw [n1, qb1], n2, n3⟩
  | inr q =>
    rw [hi] at it
    obtain ⟨N, n1, n2, n3⟩ := it
    rw [n1, qb1]
    exact r_lp h 170 2000 q.2 1 q.1 N (by omega) (by omega) n2 n3
end rd
