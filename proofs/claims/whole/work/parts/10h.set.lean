/-! sets of worlds -/
def qofI (f : Nat → Bool) : Nat → Int64
  | 0 => 0
  | n + 1 => if f n = true then qofI f n ||| hn_lshl 1 (nI n) else qofI f n
theorem qofI_s (f : Nat → Bool) (n : Nat) : qofI f (n + 1) = if f n = true then qofI f n ||| hn_lshl 1 (nI n) else qofI f n := rfl
theorem q_if_lg {α : Type} (b : Bool) (s t : α) : (if lg_cmp (if b = true then (1 : Int64) else 0) 0 = 0 then s else t) = if b = true then t else s := by cases b <;> rfl
theorem q_if_lg1 {α : Type} (b : Bool) (s t : α) : (if lg_cmp (if b = true then (1 : Int64) else 0) 1 = 0 then s else t) = if b = true then s else t := by cases b <;> rfl
theorem qofI_b (f : Nat → Bool) {w : Nat} (hw : w < 64) : ∀ n, n ≤ 64 → qlb (qofI f n) w = (decide (w < n) && f w)
  | 0, _ => by
    show qlb 0 w = _
    rw [qlb_0]; simp
  | n + 1, hn => by
    have ih := qofI_b f hw n (by omega)
    unfold qofI
    by_cases e : w = n
    · subst e
      rw [decide_eq_false (Nat.lt_irrefl w), Bool.false_and] at ih
      rw [decide_eq_true (show w < w + 1 by omega), Bool.true_and]
      cases hf : f w
      · rw [if_neg (by decide), ih]
      · rw [if_pos rfl, qlb_or, ih, qlshl1 hw hw]; simp
    · have ed : decide (w < n + 1) = decide (w < n) := decide_eq_decide.mpr (by omega)
      rw [ed, ← ih]
      cases hf : f n
      · rw [if_neg (by decide)]
      · rw [if_pos rfl, qlb_or, qlshl1 (show n < 64 by omega) hw, decide_eq_false e, Bool.or_false]
def qof (f : Nat → Bool) : Int64 := qofI f 64
theorem qof_b (f : Nat → Bool) {w : Nat} (hw : w < 64) : qlb (qof f) w = f w := by
  unfold qof
  rw [qofI_b f hw 64 (Nat.le_refl _), decide_eq_true hw, Bool.true_and]
theorem q_all {c : Option (Int64 × hf_M)} {M : hf_M} {f : Nat → Bool} (h : ∀ w, w < 64 → ∃ z, c = some (z, M) ∧ qlb z w = f w) : c = some (qof f, M) := by
  obtain ⟨z, h1, -⟩ := h 0 (by decide)
  rw [h1]
  congr 2
  apply qlb_ext
  intro w hw
  obtain ⟨z2, h3, h4⟩ := h w hw
  rw [h1] at h3
  have : z = z2 := congrArg Prod.fst (Option.some.inj h3)
  rw [this, h4, qof_b f hw]
def yal (τ : hT) (ch : Nat → Bool) (b w : Nat) : Nat → Bool
  | 0 => true
  | p + 1 => yal τ ch b w p && (decide (p = b) || yok τ p ch w)
theorem yal_f {τ : hT} {ch : Nat → Bool} {b w p : Nat} (h : yal τ ch b w p = false) : ∀ r, p ≤ r → yal τ ch b w r = false
  | 0, hr => by rw [← Nat.le_zero.mp hr]; exact h
  | r + 1, hr => by
    by_cases e : p = r + 1
    · rw [← e]; exact h
    · show (_ && _) = false
      rw [yal_f h r (by omega)]; rfl
theorem yal_iff {τ : hT} {ch : Nat → Bool} {b w : Nat} : ∀ r, yal τ ch b w r = true ↔ ∀ p, p < r → p ≠ b → yok τ p ch w = true
  | 0 => by simp [yal]
  | r + 1 => by
    show (_ && _) = true ↔ _
    rw [Bool.and_eq_true, yal_iff r]
    constructor
    · rintro ⟨h1, h2⟩ p hp hb
      by_cases e : p = r
      · subst e
        rw [decide_eq_false hb, Bool.false_or] at h2
        exact h2
      · exact h1 p (by omega) hb
    · intro h
      refine ⟨fun p hp hb => h p (by omega) hb, ?_⟩
      by_cases e : r = b
      · rw [decide_eq_true e]; rfl
      · rw [h r (by omega) e]; simp
def yWd (τ : hT) (ch : Nat → Bool) (b : Nat) : Int64 := qof (fun w => qlb (yl τ) w && yal τ ch b w (yP τ))
def yAl (τ : hT) (p : Nat) (ch : Nat → Bool) : Int64 := qof (fun w => yok τ p ch w)
def yA1 : Nat → Bool := fun _ => true
/-! memories that agree -/
def gG (G : Nat → Nat → Prop) (M N : hf_M) : Prop := N.2.2 = M.2.2 ∧ ∀ k j, ¬ G k j → N.1 k j = M.1 k j ∧ N.2.1 k j = M.2.1 k j
theorem gG_refl (G : Nat → Nat → Prop) (M : hf_M) : gG G M M := ⟨rfl, fun _ _ _ => ⟨rfl, rfl⟩⟩
theorem gG_tr {G : Nat → Nat → Prop} {M N K : hf_M} (h1 : gG G M N) (h2 : gG G N K) : gG G M K := ⟨h2.1.trans h1.1, fun k j h => ⟨(h2.2 k j h).1.trans (h1.2 k j h).1, (h2.2 k j h).2.trans (h1.2 k j h).2⟩⟩
theorem gG_mono {G G' : Nat → Nat → Prop} {M N : hf_M} (h : gG G M N) (hs : ∀ k j, G k j → G' k j) : gG G' M N := ⟨h.1, fun k j hn => h.2 k j (fun hg => hn (hs k j hg))⟩
theorem gG_rf {G : Nat → Nat → Prop} {M N : hf_M} (h : gG G M N) (hR : yRf M) : yRf N := fun k j hk => by rw [h.1]; exact hR k j hk
def Gc (q S : Nat) (k j : Nat) : Prop := (q + 5 ≤ k ∧ k ≤ q + 8) ∧ S ≤ j
def Gr (S : Nat) (k j : Nat) : Prop := (54 ≤ k ∧ k ≤ 56) ∧ S ≤ j
theorem gI {M : hf_M} {k j a b : Nat} {v : Int32} (h : a ≠ k ∨ b ≠ j) : (hf_sI M k j v).1 a b = M.1 a b := by
  show hf_u M.1 k j v a b = _
  unfold hf_u
  rw [if_neg (fun e => h.elim (fun n => n e.1) (fun n => n e.2))]
theorem gI0 {M : hf_M} {k j : Nat} {v : Int32} : (hf_sI M k j v).1 k j = v := by
  show hf_u M.1 k j v k j = _
  unfold hf_u
  rw [if_pos ⟨rfl, rfl⟩]
theorem gL {M : hf_M} {k j a b : Nat} {v : Int64} (h : a ≠ k ∨ b ≠ j) : (hf_sL M k j v).2.1 a b = M.2.1 a b := by
  show hf_u M.2.1 k j v a b = _
  unfold hf_u
  rw [if_neg (fun e => h.elim (fun n => n e.1) (fun n => n e.2))]
theorem gL0 {M : hf_M} {k j : Nat} {v : Int64} : (hf_sL M k j v).2.1 k j = v := by
  show hf_u M.2.1 k j v k j = _
  unfold hf_u
  rw [if_pos ⟨rfl, rfl⟩]
section CD
variable {τ : hT} {M : hf_M} {q : Nat}
theorem c_allowed (hR : yRf M) (hq : cq q) (hw : yWF τ) (h : cB q τ M) (hS : yS τ ≤ 48) {p : Nat} (hp : p < yP τ) (hv : ∀ w, w < 64 → cV q τ w M) {x : Int64} {ch : Nat → Bool} (hx : ∀ i, i < yS τ → qlb x i = ch i) : s_X3_allowed q (nI p) x M = some (yAl τ p ch, M) := q_all (fun w hww => c_allowed1 hR hq hw h hS hp (hv w hww) hww hx)
theorem c_poss_loop (hR : yRf M) (hq : cq q) (hw : yWF τ) (h : cB q τ M) (hS : yS τ ≤ 48) (hv : ∀ w, w < 64 → cV q τ w M) {x : Int64} {ch : Nat → Bool} (hx : ∀ i, i < yS τ → qlb x i = ch i) : ∀ (k p fuel : Nat) (a : Int64), yP τ = p + k → k < fuel → (∀ w, w < 64 → qlb a w = (qlb (yl τ) w && yal τ ch 99 w p)) → s_X3_possible_8 q x fuel a (nI p) M = some (yWd τ ch 99, M) := by
  have hP := hw.1.2.1
  intro k
  induction k with
  | zero =>
    intro p fuel a hp hf ha
    obtain ⟨fuel, rfl⟩ : ∃ u, fuel = u + 1 := ⟨fuel - 1, by omega⟩
    rw [s_X3_possible_8, h.1.2.1, qi_le rfl rfl (by omega) (by omega), if_pos (by omega)]
    congr 2
    apply qlb_ext
    intro w hww
    unfold yWd
    rw [ha w hww, qof_b _ hww, hp]; rfl
  | succ k ih =>
    intro p fuel a hp hf ha
    obtain ⟨fuel, rfl⟩ : ∃ u, fuel = u + 1 := ⟨fuel - 1, by omega⟩
    rw [s_X3_possible_8, h.1.2.1, qi_le rfl rfl (by omega) (by omega), if_neg (by omega), c_allowed hR hq hw h hS (by omega) hv hx, qb1, nI_1]
    refine ih (p + 1) fuel _ (by omega) (by omega) (fun w hww => ?_)
    unfold yAl
    rw [qlb_and, ha w hww, qof_b _ hww]
    show _ = (_ && (_ && (decide (p = 99) || _)))
    rw [decide_eq_false (show ¬ p = 99 by omega), Bool.false_or, Bool.and_assoc]
theorem c_poss (hR : yRf M) (hq : cq q) (hw : yWF τ) (h : cB q τ M) (hS : yS τ ≤ 48) (hv : ∀ w, w < 64 → cV q τ w M) {x : Int64} {ch : Nat → Bool} (hx : ∀ i, i < yS τ → qlb x i = ch i) : s_X3_possible q x M = some (yWd τ ch 99, M) := by
  have hP := hw.1.2.1
  unfold s_X3_possible
  rw [h.1.2.2.2.2.2]
  exact c_poss_loop hR hq hw h hS hv hx (yP τ) 0 2000 _ (by omega) (by omega) (fun w _ => by
    show _ = (_ && true)
    rw [Bool.and_true])
theorem c_wout_loop (hR : yRf M) (hq : cq q) (hw : yWF τ) (h : cB q τ M) (hS : yS τ ≤ 48) (hv : ∀ w, w < 64 → cV q τ w M) {b : Nat} (hb : b < 6) : ∀ (k p fuel : Nat) (a : Int64), yP τ = p + k → k < fuel → (∀ w, w < 64 → qlb a w = (qlb (yl τ) w && yal τ yA1 b w p)) → s_X3_possibleWithout_8 q (nI b) fuel a (nI p) M = some (yWd τ yA1 b, M) := by
  have hP := hw.1.2.1
  intro k
  induction k with
  | zero =>
    intro p fuel a hp hf ha
    obtain ⟨fuel, rfl⟩ : ∃ u, fuel = u + 1 := ⟨fuel - 1, by omega⟩
    rw [s_X3_possibleWithout_8, h.1.2.1, qi_le rfl rfl (by omega) (by omega), if_pos (by omega)]
    congr 2
    apply qlb_ext
    intro w hww
    unfold yWd
    rw [ha w hww, qof_b _ hww, hp]; rfl
  | succ k ih =>
    intro p fuel a hp hf ha
    obtain ⟨fuel, rfl⟩ : ∃ u, fuel = u + 1 := ⟨fuel - 1, by omega⟩
    rw [s_X3_possibleWithout_8, h.1.2.1, qi_le rfl rfl (by omega) (by omega), if_neg (by omega), qi_eq rfl rfl (by omega) (by omega), nI_1, c_allowed hR hq hw h hS (by omega) hv (x := -1) (ch := yA1) (fun i hi => qlb_m1 (by omega)), qb1]
    by_cases e : p = b
    · rw [if_pos e]
      refine ih (p + 1) fuel _ (by omega) (by omega) (fun w hww => ?_)
      rw [ha w hww]
      show _ = (_ && (_ && (decide (p = b) || _)))
      rw [decide_eq_true e, Bool.true_or, Bool.and_true]
    · rw [if_neg e]
      refine ih (p + 1) fuel _ (by omega) (by omega) (fun w hww => ?_)
      unfold yAl
      rw [qlb_and, ha w hww, qof_b _ hww]
      show _ = (_ && (_ && (decide (p = b) || _)))
      rw [decide_eq_false e, Bool.false_or, Bool.and_assoc]
theorem c_wout (hR : yRf M) (hq : cq q) (hw : yWF τ) (h : cB q τ M) (hS : yS τ ≤ 48) (hv : ∀ w, w < 64 → cV q τ w M) {b : Nat} (hb : b < 6) : s_X3_possibleWithout q (nI b) M = some (yWd τ yA1 b, M) := by
  have hP := hw.1.2.1
  unfold s_X3_possibleWithout
  rw [h.1.2.2.2.2.2]
  exact c_wout_loop hR hq hw h hS hv hb (yP τ) 0 2000 _ (by omega) (by omega) (fun w _ => by
    show _ = (_ && true)
    rw [Bool.and_true])
end CD
/-! a saying more -/
def yad (τ : hT) (p f : Nat) (b : Bool) : hT := ((yF τ, yP τ, yS τ + 1, yn τ, yt τ), yk τ, yc τ, (fun i => if i = yS τ then p else yw τ i), (fun i => if i = yS τ then f else yf τ i), (fun i => if i = yS τ then b else yb τ i), yl τ)
theorem y_cong {τ σ : hT} (r : Nat) (h1 : yk σ r = yk τ r) (h2 : yc σ r = yc τ r) (h3 : yn σ = yn τ) (h4 : yt σ = yt τ) {w : Nat} {ch : Nat → Bool} : ∀ (i : Nat), (∀ j, j < i → yw σ j = yw τ j ∧ ytr σ w j = ytr τ w j) → ycn (yw σ) r i = ycn (yw τ) r i ∧ yts σ r ch w i = yts τ r ch w i ∧ yfs σ r ch w i = yfs τ r ch w i ∧ ypr σ r ch w i = ypr τ r ch w i ∧ ygd σ r ch w i = ygd τ r ch w i
  | 0, _ => ⟨rfl, rfl, rfl, rfl, rfl⟩
  | i + 1, h => by
    obtain ⟨a1, a2, a3, a4, a5⟩ := y_cong r h1 h2 h3 h4 (w := w) (ch := ch) i (fun j hj => h j (by omega))
    obtain ⟨b1, b2⟩ := h i (by omega)
    have e : ∀ tr k pr, yst σ r tr k pr = yst τ r tr k pr := by
      intro tr k pr
      unfold yst yfr ymu
      rw [h1, h2, h3, h4]
    refine ⟨?_, ?_, ?_, ?_, ?_⟩
    · show _ + _ = _ + _
      rw [a1, b1]
    · show _ + _ = _ + _
      rw [a2, b1, b2]
    · show _ + _ = _ + _
      rw [a3, b1, b2]
    · show (if _ then _ else _) = (if _ then _ else _)
      rw [a1, a4, b1, b2]
    · show (_ && _) = (_ && _)
      rw [a5, e, a1, a4, b1, b2]
section YAD
variable {τ : hT} {p f : Nat} {b : Bool}
theorem yad_w {i : Nat} (h : i < yS τ) : yw (yad τ p f b) i = yw τ i := if_neg (by omega)
theorem yad_f {i : Nat} (h : i < yS τ) : yf (yad τ p f b) i = yf τ i := if_neg (by omega)
theorem yad_b {i : Nat} (h : i < yS τ) : yb (yad τ p f b) i = yb τ i := if_neg (by omega)
theorem yad_w0 : yw (yad τ p f b) (yS τ) = p := if_pos rfl
theorem yad_f0 : yf (yad τ p f b) (yS τ) = f := if_pos rfl
theorem yad_b0 : yb (yad τ p f b) (yS τ) = b := if_pos rfl
theorem yad_tr {i w : Nat} (h : i < yS τ) : ytr (yad τ p f b) w i = ytr τ w i := by
  unfold ytr
  rw [yad_f h, yad_b h]
theorem yad_tr0 {w : Nat} : ytr (yad τ p f b) w (yS τ) = (w.testBit f == b) := by
  unfold ytr
  rw [yad_f0, yad_b0]
theorem yad_cong (r w : Nat) (ch : Nat → Bool) {i : Nat} (h : i ≤ yS τ) : ycn (yw (yad τ p f b)) r i = ycn (yw τ) r i ∧ yts (yad τ p f b) r ch w i = yts τ r ch w i ∧ yfs (yad τ p f b) r ch w i = yfs τ r ch w i ∧ ypr (yad τ p f b) r ch w i = ypr τ r ch w i ∧ ygd (yad τ p f b) r ch w i = ygd τ r ch w i := y_cong (τ := τ) (σ := yad τ p f b) r rfl rfl rfl rfl i (fun j hj => ⟨yad_w (Nat.lt_of_lt_of_le hj h), yad_tr (Nat.lt_of_lt_of_le hj h)⟩)
theorem yad_cn (r : Nat) {i : Nat} (h : i ≤ yS τ) : ycn (yw (yad τ p f b)) r i = ycn (yw τ) r i := (yad_cong r 0 yA1 h).1
theorem yad_cnS (r : Nat) : ycn (yw (yad τ p f b)) r (yS τ + 1) = ycn (yw τ) r (yS τ) + (if p = r then 1 else 0) := by
  show ycn (yw (yad τ p f b)) r (yS τ) + (if yw (yad τ p f b) (yS τ) = r then 1 else 0) = _
  rw [yad_cn r (Nat.le_refl _), yad_w0]
theorem yok_ne {r w : Nat} {ch : Nat → Bool} (h : r ≠ p) : yok (yad τ p f b) r ch w = yok τ r ch w := by
  obtain ⟨a1, a2, a3, a4, a5⟩ := yad_cong (τ := τ) (p := p) (f := f) (b := b) r w ch (Nat.le_refl _)
  have hs : (decide (yw (yad τ p f b) (yS τ) = r) && ch (yS τ)) = false := by
    rw [yad_w0, decide_eq_false (fun e => h e.symm)]; rfl
  have e1 := ygd_skip (w := w) hs
  obtain ⟨e2, e3⟩ := yts_skip (w := w) hs
  show (ygd (yad τ p f b) r ch w (yS τ + 1) && (!decide (yk τ r = 0) || (decide (yts (yad τ p f b) r ch w (yS τ + 1) ≤ yt τ) && decide (yfs (yad τ p f b) r ch w (yS τ + 1) ≤ yn τ - yt τ)))) = _
  rw [e1, e2, e3, a2, a3, a5]; rfl
theorem yok_mono {w : Nat} (h : yok (yad τ p f b) p yA1 w = true) : yok τ p yA1 w = true := by
  obtain ⟨a1, a2, a3, a4, a5⟩ := yad_cong (τ := τ) (p := p) (f := f) (b := b) p w yA1 (Nat.le_refl _)
  have e1 := ygd_hit (τ := yad τ p f b) (w := w) (ch := yA1) (i := yS τ) yad_w0 rfl
  obtain ⟨e2, e3⟩ := yts_hit (τ := yad τ p f b) (w := w) (ch := yA1) (i := yS τ) yad_w0 rfl
  have h2 : (ygd (yad τ p f b) p yA1 w (yS τ + 1) && (!decide (yk τ p = 0) || (decide (yts (yad τ p f b) p yA1 w (yS τ + 1) ≤ yt τ) && decide (yfs (yad τ p f b) p yA1 w (yS τ + 1) ≤ yn τ - yt τ)))) = true := h
  rw [e1, e2, e3, a2, a3, a5, Bool.and_eq_true, Bool.and_eq_true] at h2
  unfold yok
  rw [h2.1.1, Bool.true_and]
  have h3 := h2.2
  by_cases h0 : yk τ p = 0
  · rw [decide_eq_true h0, Bool.not_true, Bool.false_or, Bool.and_eq_true] at h3 ⊢
    have b1 := of_decide_eq_true h3.1
    have b2 := of_decide_eq_true h3.2
    exact ⟨decide_eq_true (by omega), decide_eq_true (by omega)⟩
  · rw [decide_eq_false h0]; rfl
theorem yWd_add (hp : p < yP τ) (hP : yP τ ≤ 6) : yWd (yad τ p f b) yA1 99 = yWd τ yA1 99 &&& yAl (yad τ p f b) p yA1 := by
  apply qlb_ext
  intro w hw
  unfold yWd yAl
  rw [qlb_and, qof_b _ hw, qof_b _ hw, qof_b _ hw]
  show (qlb (yl τ) w && yal (yad τ p f b) yA1 99 w (yP τ)) = _
  rw [Bool.and_assoc]
  congr 1
  rw [Bool.eq_iff_iff, Bool.and_eq_true, yal_iff, yal_iff]
  constructor
  · intro h
    have h1 := h p hp (by omega)
    refine ⟨fun r hr hb => ?_, h1⟩
    by_cases e : r = p
    · subst e; exact yok_mono h1
    · rw [← yok_ne (f := f) (b := b) e]; exact h r hr hb
  · rintro ⟨h1, h2⟩ r hr hb
    by_cases e : r = p
    · subst e; exact h2
    · rw [yok_ne e]; exact h1 r hr hb
theorem yad_WF (hw : yWF τ) (hp : p < yP τ) (hf : f < 6) (hc : ycn (yw τ) p (yS τ) < yn τ) (hS : yS τ < 50) : yWF (yad τ p f b) := by
  obtain ⟨⟨w1, w2, w3, w4, w5, w6⟩, wk, ws, wc, wl⟩ := hw
  refine ⟨⟨w1, w2, by show yS τ + 1 ≤ 50; omega, w4, w5, w6⟩, wk, fun i hi => ?_, fun r => ?_, wl⟩
  · have hi' : i < yS τ + 1 := hi
    by_cases e : i = yS τ
    · subst e
      rw [yad_w0, yad_f0]
      exact ⟨hp, hf⟩
    · rw [yad_w (by omega), yad_f (by omega)]
      exact ws i (by omega)
  · show ycn (yw (yad τ p f b)) r (yS τ + 1) ≤ yn τ
    rw [yad_cnS]
    have := wc r
    by_cases e : p = r
    · subst e; rw [if_pos rfl]; omega
    · rw [if_neg e]; omega
end YAD
