/-! rows that the law lets -/
def yrg (τ : hT) (p : Nat) (r : Nat → Bool) : Nat → Bool
  | 0 => true
  | i + 1 => yrg τ p r i && ((yfr τ p || r i == ymu τ p i) && !(decide (yk τ p = 6) && decide (i % 2 = 1) && r i == r (i - 1)))
def yrow (τ : hT) (p m : Nat) (r : Nat → Bool) : Bool := yrg τ p r m && (!decide (yk τ p = 0) || (decide (ypc r m ≤ yt τ) && decide (m - ypc r m ≤ yn τ - yt τ)))
theorem yrg_f {τ : hT} {p : Nat} {r : Nat → Bool} {i : Nat} (h : yrg τ p r i = false) : ∀ j, i ≤ j → yrg τ p r j = false
  | 0, hj => by rw [← Nat.le_zero.mp hj]; exact h
  | j + 1, hj => by
    by_cases e : i = j + 1
    · rw [← e]; exact h
    · show (_ && _) = false
      rw [yrg_f h j (by omega)]; rfl
section RW
variable {τ : hT} {M : hf_M}
theorem r_row_loop (hR : yRf M) (hw : yWF τ) (h : yR τ M) {p : Nat} (hp : p < yP τ) {row m : Nat} (hm : m ≤ 10) (hrow : row < 1024) : ∀ (k i fu : Nat), m = i + k → k < fu → yrg τ p row.testBit i = true → s_X5_isRow_6 49 (nI p) (nI row) (nI m) fu (nI (ypc row.testBit i)) (nI i) M = some (qbI (yrow τ p m row.testBit), M) := by
  have hP := hw.1.2.1
  have hn := hw.1.2.2.2.2.1
  have htn := hw.1.2.2.2.2.2
  have hk6 := (hw.2.1 p hp).1
  have r12 : M.2.2 49 12 = some 52 := yrf_49 hR rfl
  have l52 : p < hf_len 52 := by show p < 6; omega
  intro k
  induction k with
  | zero =>
    intro i fu hi hf hg
    obtain ⟨fu, rfl⟩ : ∃ u, fu = u + 1 := ⟨fu - 1, by omega⟩
    have him : i = m := by omega
    subst him
    have hle := ypc_le row.testBit i
    rw [s_X5_isRow_6, qi_le rfl rfl (by omega) (by omega), if_pos (Nat.le_refl _), r12, qrs, qlI M l52, (h.2.1 p hp).1, qi_eq rfl (show (0 : Int32) = nI 0 from rfl) (by omega) (by omega), h.1.2.2.2.2.1, h.1.2.2.2.1, pk_sub htn, pk_sub hle, qi_lt rfl rfl (by omega) (by omega), qi_lt rfl rfl (by omega) (by omega)]
    unfold yrow
    rw [hg, Bool.true_and]
    by_cases h0 : yk τ p = 0
    · rw [if_pos h0, decide_eq_true h0, Bool.not_true, Bool.false_or]
      by_cases h1 : ypc row.testBit i ≤ yt τ
      · rw [if_neg (by omega), decide_eq_true h1, Bool.true_and]
        by_cases h2 : i - ypc row.testBit i ≤ yn τ - yt τ
        · rw [if_neg (by omega), decide_eq_true h2]; rfl
        · rw [if_pos (by omega), decide_eq_false h2]; rfl
      · rw [if_pos (by omega), decide_eq_false h1]; rfl
    · rw [if_neg h0, decide_eq_false h0]; rfl
  | succ k ih =>
    intro i fu hi hf hg
    obtain ⟨fu, rfl⟩ : ∃ u, fu = u + 1 := ⟨fu - 1, by omega⟩
    have hstep : yrg τ p row.testBit (i + 1) = ((yfr τ p || row.testBit i == ymu τ p i) && !(decide (yk τ p = 6) && decide (i % 2 = 1) && row.testBit i == row.testBit (i - 1))) := by
      show (_ && _) = _
      rw [hg, Bool.true_and]
    have hbad : yrg τ p row.testBit (i + 1) = false → yrow τ p m row.testBit = false := fun hb => by
      unfold yrow
      rw [yrg_f hb m (by omega)]; rfl
    -- the last look
    have h59 : ∀ t : Nat, ypc row.testBit (i + 1) = t → (yfr τ p || row.testBit i == ymu τ p i) = true → s_X5_isRow_59 (s_X5_isRow_6 49 (nI p) (nI row) (nI m) fu) 49 (nI p) (nI row) (nI m) (nI t) (nI i) (qbI (row.testBit i)) M = some (qbI (yrow τ p m row.testBit), M) := by
      intro t ht hok
      subst ht
      rw [hok, Bool.true_and] at hstep
      have i1 := ih (i + 1) fu (by omega) (by omega)
      unfold s_X5_isRow_59
      rw [r12, qrs, qlI M l52, (h.2.1 p hp).1, qi_eq rfl (show (6 : Int32) = nI 6 from rfl) (by omega) (by omega), qrem2 (by omega), qi_eq rfl (show (1 : Int32) = nI 1 from rfl) (by omega) (by omega), nI_1]
      by_cases e6 : yk τ p = 6
      · rw [if_pos e6]
        by_cases eo : i % 2 = 1
        · have e5 : nI i - 1 = nI (i - 1) := pk_sub (a := i) (b := 1) (by omega)
          rw [if_pos eo, e5, qsb (by omega) (by omega)]
          rw [decide_eq_true e6, decide_eq_true eo, Bool.true_and, Bool.true_and] at hstep
          cases hb1 : row.testBit (i - 1) <;> cases hb2 : row.testBit i <;> rw [hb1, hb2] at hstep
          · rw [if_neg (by decide), if_pos (by decide), hbad hstep]; rfl
          · rw [if_neg (by decide), if_neg (by decide)]; exact i1 hstep
          · rw [if_pos (by decide), if_neg (by decide)]; exact i1 hstep
          · rw [if_pos (by decide), if_pos (by decide), hbad hstep]; rfl
        · rw [if_neg eo]
          rw [decide_eq_false eo, Bool.and_false] at hstep
          exact i1 hstep
      · rw [if_neg e6]
        rw [decide_eq_false e6] at hstep
        exact i1 hstep
    have h37 : ∀ t : Nat, ypc row.testBit (i + 1) = t → s_X5_isRow_37 (s_X5_isRow_6 49 (nI p) (nI row) (nI m) fu) 49 (nI p) (nI row) (nI m) (nI t) (nI i) (qbI (row.testBit i)) M = some (qbI (yrow τ p m row.testBit), M) := by
      intro t ht
      unfold s_X5_isRow_37
      rw [r_isFree hR hw h hp, qb1, r_isTrue hR hw h hp (by omega), qb1]
      cases hfr : yfr τ p
      · rw [qb_ifF]
        by_cases e : row.testBit i = ymu τ p i
        · rw [if_pos ((qbI_eq _ _).mpr e)]
          exact h59 t ht (by rw [e]; simp)
        · rw [if_neg (fun q => e ((qbI_eq _ _).mp q))]
          have hb : (row.testBit i == ymu τ p i) = false := by simpa using e
          rw [hfr, hb] at hstep
          rw [hbad hstep]; rfl
      · rw [qb_ifT]
        exact h59 t ht (by rw [hfr]; rfl)
    have e1 : ypc row.testBit (i + 1) = ypc row.testBit i + (if row.testBit i = true then 1 else 0) := rfl
    rw [s_X5_isRow_6, qi_le rfl rfl (by omega) (by omega), if_neg (by omega), qsb (by omega) (by omega)]
    unfold s_X5_isRow_27
    cases hb : row.testBit i
    · rw [hb, if_neg (by decide), Nat.add_zero] at e1
      rw [hb] at h37
      rw [if_neg (by decide), if_pos rfl]
      exact h37 _ e1
    · rw [hb, if_pos rfl] at e1
      rw [hb] at h37
      rw [if_pos (by decide), if_neg q10, nI_1]
      exact h37 _ e1
theorem r_isRow (hR : yRf M) (hw : yWF τ) (h : yR τ M) {p : Nat} (hp : p < yP τ) {row m : Nat} (hm : m ≤ 10) (hrow : row < 1024) : s_X5_isRow 49 (nI p) (nI row) (nI m) M = some (qbI (yrow τ p m row.testBit), M) := r_row_loop hR hw h hp hm hrow m 0 2000 (by omega) (by omega) rfl
theorem r_rowsOf_loop (hR : yRf M) (hw : yWF τ) (h : yR τ M) {p : Nat} (hp : p < yP τ) {m : Nat} (hm : m ≤ 10) : ∀ (k v fu : Nat), 2 ^ m = v + k → k < fu → s_X5_rowsOf_5 49 (nI p) (nI m) fu (nI (ypc (fun row => yrow τ p m row.testBit) v)) (nI v) M = some (nI (ypc (fun row => yrow τ p m row.testBit) (2 ^ m)), M) := by
  have h2 : 2 ^ m ≤ 2 ^ 10 := Nat.pow_le_pow_right (by decide) hm
  have hsh : hn_ishl 1 (nI m) = nI (2 ^ m) := by
    have := qshl (a := 1) (f := m) (by omega) (by omega)
    rw [Nat.one_mul] at this
    exact this
  intro k
  induction k with
  | zero =>
    intro v fu hv hf
    obtain ⟨fu, rfl⟩ : ∃ u, fu = u + 1 := ⟨fu - 1, by omega⟩
    rw [s_X5_rowsOf_5, hsh, qi_le rfl rfl (by omega) (by omega), if_pos (by omega), hv, Nat.add_zero]
  | succ k ih =>
    intro v fu hv hf
    obtain ⟨fu, rfl⟩ : ∃ u, fu = u + 1 := ⟨fu - 1, by omega⟩
    have i1 := ih (v + 1) fu (by omega) (by omega)
    have e1 : ypc (fun row => yrow τ p m row.testBit) (v + 1) = ypc (fun row => yrow τ p m row.testBit) v + (if yrow τ p m v.testBit = true then 1 else 0) := rfl
    rw [s_X5_rowsOf_5, hsh, qi_le rfl rfl (by omega) (by omega), if_neg (by omega), r_isRow hR hw h hp hm (by omega), qb1, nI_1, nI_1]
    cases hb : yrow τ p m v.testBit
    · rw [hb, if_neg (by decide), Nat.add_zero] at e1
      rw [e1] at i1
      rw [qb_ifF]; exact i1
    · rw [hb, if_pos rfl] at e1
      rw [e1] at i1
      rw [qb_ifT]; exact i1
theorem r_rowsOf (hR : yRf M) (hw : yWF τ) (h : yR τ M) {p : Nat} (hp : p < yP τ) {m : Nat} (hm : m ≤ 10) : s_X5_rowsOf 49 (nI p) (nI m) M = some (nI (ypc (fun row => yrow τ p m row.testBit) (2 ^ m)), M) := by
  have h2 : 2 ^ m ≤ 2 ^ 10 := Nat.pow_le_pow_right (by decide) hm
  exact r_rowsOf_loop hR hw h hp hm (2 ^ m) 0 2000 (by omega) (by omega)
end RW
/-! how many they are -/
def ypg (r : Nat → Bool) : Nat → Bool
  | 0 => true
  | i + 1 => ypg r i && !(decide (i % 2 = 1) && r i == r (i - 1))
set_option maxRecDepth 100000 in
theorem cnt_pairs : ∀ m, m < 11 → ypc (fun row => ypg row.testBit m) (2 ^ m) = 2 ^ ((m + 1) / 2) := by decide +kernel
def ych (m : Nat) : Nat → Nat
  | 0 => 1
  | j + 1 => ych m j * (m - j) / (j + 1)
theorem ych_le : ∀ m, m < 11 → ∀ j, j < 13 → ych m j ≤ 252 := by decide +kernel
set_option maxRecDepth 100000 in
theorem cnt_ch : ∀ m, m < 11 → ∀ j, j < 11 → ypc (fun row => decide (ypc row.testBit m = j)) (2 ^ m) = ych m j := by decide +kernel
def ysm (P : Nat → Bool) (c : Nat → Nat) : Nat → Nat
  | 0 => 0
  | j + 1 => ysm P c j + (if P j = true then c j else 0)
theorem ysm_add (P : Nat → Bool) (c d : Nat → Nat) : ∀ j, ysm P (fun i => c i + d i) j = ysm P c j + ysm P d j
  | 0 => rfl
  | j + 1 => by
    unfold ysm
    rw [ysm_add P c d j]
    cases P j <;> simp <;> omega
theorem ysm_one (P : Nat → Bool) (x : Nat) : ∀ j, ysm P (fun i => if x = i then 1 else 0) j = if x < j ∧ P x = true then 1 else 0
  | 0 => by
    rw [if_neg (by omega)]; rfl
  | j + 1 => by
    unfold ysm
    rw [ysm_one P x j]
    by_cases e : x = j
    · subst e
      cases P x <;> simp
    · by_cases h : x < j
      · have h2 : x < j + 1 := by omega
        cases P x <;> cases P j <;> simp [h, e, h2]
      · have h2 : ¬ x < j + 1 := by omega
        cases P j <;> simp [h, e, h2]
theorem ysm_cong {P : Nat → Bool} {c d : Nat → Nat} : ∀ j, (∀ i, i < j → c i = d i) → ysm P c j = ysm P d j
  | 0, _ => rfl
  | j + 1, h => by
    unfold ysm
    rw [ysm_cong j (fun i hi => h i (by omega)), h j (by omega)]
theorem ysm_0 {P : Nat → Bool} : ∀ j, ysm P (fun _ => 0) j = 0
  | 0 => rfl
  | j + 1 => by
    unfold ysm
    rw [ysm_0 j]
    cases P j <;> rfl
theorem cnt_split (P : Nat → Bool) (g : Nat → Nat) (m : Nat) (hg : ∀ row, g row ≤ m) : ∀ n, ypc (fun row => P (g row)) n = ysm P (fun j => ypc (fun row => decide (g row = j)) n) (m + 1)
  | 0 => by
    show 0 = ysm P (fun _ => 0) (m + 1)
    rw [ysm_0]
  | n + 1 => by
    have e : (fun j => ypc (fun row => decide (g row = j)) (n + 1)) = fun j => ypc (fun row => decide (g row = j)) n + (if g n = j then 1 else 0) := by
      funext j
      show _ + (if decide (g n = j) = true then 1 else 0) = _
      by_cases h : g n = j <;> simp [h]
    show ypc (fun row => P (g row)) n + (if P (g n) = true then 1 else 0) = _
    rw [e, ysm_add, ← cnt_split P g m hg n, ysm_one]
    have := hg n
    cases P (g n) <;> simp <;> omega
theorem ypc_is (c : Nat) : ∀ n, ypc (fun row => decide (row = c)) n = if c < n then 1 else 0
  | 0 => by simp [ypc]
  | n + 1 => by
    unfold ypc
    rw [ypc_is c n]
    by_cases h : n = c
    · subst h; simp
    · by_cases h2 : c < n
      · have h3 : c < n + 1 := by omega
        simp [h, h2, h3]
      · have h3 : ¬ c < n + 1 := by omega
        simp [h, h2, h3]
theorem cnt_must (mu : Nat → Bool) {m : Nat} (hm : m ≤ 10) {P : Nat → Bool} (hP : ∀ row, row < 2 ^ m → (P row = true ↔ ∀ i, i < m → row.testBit i = mu i)) : ypc P (2 ^ m) = 1 := by
  have hbit : ∀ i, (qofI mu m).toBitVec.toNat.testBit i = (decide (i < m) && mu i) := by
    intro i
    by_cases hi : i < 64
    · exact qofI_b mu hi m (by omega)
    · rw [decide_eq_false (show ¬ i < m by omega), Bool.false_and]
      exact qlb_ge (x := qofI mu m) (by omega)
  have hlt : (qofI mu m).toBitVec.toNat < 2 ^ m := Nat.lt_pow_two_of_testBit _ (fun i hi => by rw [hbit, decide_eq_false (by omega)]; rfl)
  have e : ypc P (2 ^ m) = ypc (fun row => decide (row = (qofI mu m).toBitVec.toNat)) (2 ^ m) := ypc_cong (fun row hrow => by
    rw [Bool.eq_iff_iff, hP row hrow, decide_eq_true_eq]
    constructor
    · intro h
      apply Nat.eq_of_testBit_eq
      intro i
      rw [hbit]
      by_cases hi : i < m
      · rw [decide_eq_true hi, h i hi]; rfl
      · rw [decide_eq_false hi, Nat.testBit_lt_two_pow (Nat.lt_of_lt_of_le hrow (Nat.pow_le_pow_right (by decide) (by omega)))]; rfl
    · intro h i hi
      rw [h, hbit, decide_eq_true hi]; rfl)
  rw [e, ypc_is, if_pos hlt]
def yrn (τ : hT) (p m : Nat) : Nat := ypc (fun row => yrow τ p m row.testBit) (2 ^ m)
theorem yrn_6 {τ : hT} {p m : Nat} (hm : m ≤ 10) (h6 : yk τ p = 6) : yrn τ p m = 2 ^ ((m + 1) / 2) := by
  unfold yrn
  rw [← cnt_pairs m (by omega)]
  refine ypc_cong (fun row _ => ?_)
  have e : ∀ i, yrg τ p row.testBit i = ypg row.testBit i := by
    intro i
    induction i with
    | zero => rfl
    | succ i ih =>
      show (_ && _) = (_ && _)
      rw [ih, h6]
      have : yfr τ p = true := by unfold yfr; rw [h6]; rfl
      rw [this]; simp
  show (yrg τ p row.testBit m && _) = _
  rw [e, h6]; simp
theorem yrn_must {τ : hT} {p m : Nat} (hm : m ≤ 10) (hf : yfr τ p = false) : yrn τ p m = 1 := by
  unfold yrn
  refine cnt_must (ymu τ p) hm (fun row _ => ?_)
  have hn := yfr_of hf
  have e : ∀ i, yrg τ p row.testBit i = true ↔ ∀ j, j < i → row.testBit j = ymu τ p j := by
    intro i
    induction i with
    | zero => exact ⟨fun _ j hj => by omega, fun _ => rfl⟩
    | succ i ih =>
      show (_ && _) = true ↔ _
      rw [Bool.and_eq_true, ih, hf, decide_eq_false hn.2]
      constructor
      · rintro ⟨h1, h2⟩ j hj
        by_cases ej : j = i
        · subst ej
          simpa using h2
        · exact h1 j (by omega)
      · intro h
        refine ⟨fun j hj => h j (by omega), ?_⟩
        rw [h i (by omega)]; simp
  show (yrg τ p row.testBit m && _) = true ↔ _
  rw [decide_eq_false hn.1, Bool.not_false, Bool.true_or, Bool.and_true, e]
def yPt (τ : hT) (m j : Nat) : Bool := decide (j ≤ yt τ) && decide (m - j ≤ yn τ - yt τ)
theorem yrn_0 {τ : hT} {p m : Nat} (hm : m ≤ 10) (h0 : yk τ p = 0) : yrn τ p m = ysm (yPt τ m) (ych m) (m + 1) := by
  unfold yrn
  have e : ∀ (r : Nat → Bool) (i : Nat), yrg τ p r i = true := by
    intro r i
    induction i with
    | zero => rfl
    | succ i ih =>
      show (_ && _) = true
      have : yfr τ p = true := by unfold yfr; rw [h0]; rfl
      rw [ih, this, h0]; simp
  have e2 : ypc (fun row => yrow τ p m row.testBit) (2 ^ m) = ypc (fun row => yPt τ m (ypc row.testBit m)) (2 ^ m) := ypc_cong (fun row _ => by
    show (yrg τ p row.testBit m && _) = _
    rw [e, h0]; rfl)
  rw [e2, cnt_split (yPt τ m) (fun row => ypc row.testBit m) m (fun row => ypc_le _ _)]
  exact ysm_cong (m + 1) (fun j hj => cnt_ch m (by omega) j (by omega))
theorem c_law_loop {q : Nat} {τ : hT} {M : hf_M} (h : cB q τ M) (hw : yWF τ) {m : Nat} (hm : m ≤ 10) : ∀ (k j fu : Nat), m + 1 = j + k → k < fu → s_X3_lawfulRows_38 q (nI m) fu (nI (ysm (yPt τ m) (ych m) j)) (nI (ych m j)) (nI j) M = some (nI (ysm (yPt τ m) (ych m) (m + 1)), M) := by
  have hn := hw.1.2.2.2.2.1
  have htn := hw.1.2.2.2.2.2
  intro k
  induction k with
  | zero =>
    intro j fu hj hf
    obtain ⟨fu, rfl⟩ : ∃ u, fu = u + 1 := ⟨fu - 1, by omega⟩
    rw [s_X3_lawfulRows_38, qi_lt rfl rfl (by omega) (by omega), if_pos (by omega), hj, Nat.add_zero]
  | succ k ih =>
    intro j fu hj hf
    obtain ⟨fu, rfl⟩ : ∃ u, fu = u + 1 := ⟨fu - 1, by omega⟩
    have i1 := ih (j + 1) fu (by omega) (by omega)
    have hb := ych_le m (by omega) j (by omega)
    have hb2 : ych m j * (m - j) ≤ 252 * 10 := Nat.mul_le_mul hb (by omega)
    have e1 : (nI (ych m j) * (nI m - nI j)) / (nI j + 1) = nI (ych m (j + 1)) := by
      rw [pk_sub (by omega), pk_mul, nI_1, pk_div (by omega) (by omega) (by omega)]; rfl
    have e2 : ysm (yPt τ m) (ych m) (j + 1) = ysm (yPt τ m) (ych m) j + (if yPt τ m j = true then ych m j else 0) := rfl
    have nz : ∀ {β : Type} (x : Option β), hf_nz (nI j + 1) x = x := fun x => by
      unfold hf_nz
      rw [nI_1, if_neg (nI_ne0 (by omega) (by omega))]
    rw [s_X3_lawfulRows_38, qi_lt rfl rfl (by omega) (by omega), if_neg (by omega), nz, nz, e1, h.1.2.2.2.2.1, h.1.2.2.2.1, pk_sub htn, pk_sub (show j ≤ m by omega), qi_lt rfl rfl (by omega) (by omega), qi_lt rfl rfl (by omega) (by omega), nI_1, nI_add]
    by_cases h1 : j ≤ yt τ
    · rw [if_neg (by omega)]
      by_cases h2 : m - j ≤ yn τ - yt τ
      · have : yPt τ m j = true := by unfold yPt; rw [decide_eq_true h1, decide_eq_true h2]; rfl
        rw [this, if_pos rfl] at e2
        rw [if_neg (by omega), ← e2]; exact i1
      · have : yPt τ m j = false := by unfold yPt; rw [decide_eq_false h2, Bool.and_false]
        rw [this, if_neg (by decide)] at e2
        have e3 : ysm (yPt τ m) (ych m) (j + 1) = ysm (yPt τ m) (ych m) j := e2
        rw [e3] at i1
        rw [if_pos (by omega)]; exact i1
    · have : yPt τ m j = false := by unfold yPt; rw [decide_eq_false h1, Bool.false_and]
      rw [this, if_neg (by decide)] at e2
      have e3 : ysm (yPt τ m) (ych m) (j + 1) = ysm (yPt τ m) (ych m) j := e2
      rw [e3] at i1
      rw [if_pos (by omega)]; exact i1
theorem c_lawful {q : Nat} {τ : hT} {M : hf_M} (hR : yRf M) (hq : cq q) (h : cB q τ M) (hw : yWF τ) {p m : Nat} (hp : p < yP τ) (hm : m ≤ 10) : s_X3_lawfulRows q (nI p) (nI m) M = some (nI (yrn τ p m), M) := by
  have hP := hw.1.2.1
  have hk := (hw.2.1 p hp).1
  unfold s_X3_lawfulRows
  rw [cr1 hR hq, qrs, qrs, qlI M (cl6 hq (by decide) (by decide) (by omega)), qlI M (cl6 hq (by decide) (by decide) (by omega)), (h.2.1 p hp).1, qi_eq rfl (show (6 : Int32) = nI 6 from rfl) (by omega) (by omega), qi_eq rfl (show (0 : Int32) = nI 0 from rfl) (by omega) (by omega)]
  by_cases h6 : yk τ p = 6
  · have e2 : (nI m + 1) / 2 = nI ((m + 1) / 2) := by
      rw [nI_1]
      exact pk_div (a := m + 1) (d := 2) (by omega) (by decide) (by decide)
    have e3 : 2 ^ ((m + 1) / 2) ≤ 2 ^ 6 := Nat.pow_le_pow_right (by decide) (by omega)
    have := qshl (a := 1) (f := (m + 1) / 2) (by omega) (by omega)
    rw [Nat.one_mul] at this
    rw [if_pos h6, e2, yrn_6 hm h6]
    exact congrArg (fun x => some (x, M)) this
  · rw [if_neg h6]
    by_cases h0 : yk τ p = 0
    · rw [if_pos h0, yrn_0 hm h0]
      exact c_law_loop h hw hm (m + 1) 0 2000 (by omega) (by omega)
    · have hf : yfr τ p = false := by
        unfold yfr
        exact decide_eq_false (fun e => e.elim h0 h6)
      rw [if_neg h0, yrn_must hm hf]; rfl
theorem p_rows : hs_rows Inv := by
  intro M ⟨υ, hJ, hRe⟩ a1 a2
  have hP := (jw hJ).1.2.1
  have hn := (jw hJ).1.2.2.2.2.1
  cases hb : yin a1 (yP (uT υ))
  · refine ⟨-1, bC 1 M, bR 1 (bC 1 M), ?_, ?_, Inv_ref0 hJ hRe⟩
    · unfold s_X4_rows
      rw [j0 hJ, qrs, j_cS hJ, qb1, hb, qb_ifF, c_ref hJ.1 (j := 1) rfl (by decide) (by decide), qb1]
    · unfold s_X5_rows
      rw [j_rS (Jv_bC hJ), qb1, hb, qb_ifF, r_no (M := bC _ M) hJ.1 (j := 1) rfl (by decide), qb1]
  · obtain ⟨p, hp, rfl⟩ := yin_T hb (by omega)
    by_cases h1 : a2 < 0
    · refine ⟨-6, bC 6 M, bR 6 (bC 6 M), ?_, ?_, Inv_ref0 hJ hRe⟩
      · unfold s_X4_rows s_X4_within
        rw [j0 hJ, qrs, j_cS hJ, qb1, hb, qb_ifT, j0 hJ, qrs, if_pos h1, qb1, if_pos rfl, c_ref hJ.1 (j := 6) rfl (by decide) (by decide), qb1]
      · unfold s_X5_rows
        rw [j_rS (Jv_bC hJ), qb1, hb, qb_ifT, if_pos h1, r_no (M := bC _ M) hJ.1 (j := 6) rfl (by decide), qb1]
    · by_cases h2 : nI (yn (uT υ)) < a2
      · refine ⟨-6, bC 6 M, bR 6 (bC 6 M), ?_, ?_, Inv_ref0 hJ hRe⟩
        · unfold s_X4_rows s_X4_within
          rw [j0 hJ, qrs, j_cS hJ, qb1, hb, qb_ifT, j0 hJ, qrs, if_neg h1, (jc hJ).1.1.2.2.2.1, if_pos h2, qb1, if_pos rfl, c_ref hJ.1 (j := 6) rfl (by decide) (by decide), qb1]
        · unfold s_X5_rows
          rw [j_rS (Jv_bC hJ), qb1, hb, qb_ifT, if_neg h1, (jr (Jv_bC hJ)).1.1.2.2.2.1, if_pos h2, r_no (M := bC _ M) hJ.1 (j := 6) rfl (by decide), qb1]
      · obtain ⟨m, hm, rfl⟩ := nI_of2 (M := nI (yn (uT υ))) (n := yn (uT υ)) (nI_toInt (by omega)) h1 (Int32.not_lt.mp h2)
        refine ⟨nI (yrn (uT υ) p m), M, M, ?_, ?_, υ, hJ, hRe⟩
        · unfold s_X4_rows s_X4_within
          rw [j0 hJ, qrs, j_cS hJ, qb1, hb, qb_ifT, j0 hJ, qrs, if_neg h1, (jc hJ).1.1.2.2.2.1, if_neg h2, qb1, if_neg q10, j0 hJ, qrs, c_lawful hJ.1 q1 (jc hJ).1 (jw hJ) hp (by omega), qb1]
        · unfold s_X5_rows
          rw [j_rS hJ, qb1, hb, qb_ifT, if_neg h1, (jr hJ).1.1.2.2.2.1, if_neg h2, r_rowsOf hJ.1 (jw hJ) (jr hJ).1 hp (by omega), qb1]; rfl
theorem tells_loop {υ : hU} {M : hf_M} (hJ : Jv υ M) {p : Nat} (hp : p < yP (uT υ)) (x : Int32) : ∀ (k m fu1 fu2 : Nat), yn (uT υ) + 1 = m + k → k < fu1 → k < fu2 → ∃ r, s_X4_tells_41 0 (nI p) x fu1 (nI m) M = some (r, M) ∧ s_X5_tells_35 49 (nI p) x fu2 (nI m) M = some (r, M) := by
  have hn := (jw hJ).1.2.2.2.2.1
  intro k
  induction k with
  | zero =>
    intro m fu1 fu2 hk h1 h2
    obtain ⟨fu1, rfl⟩ : ∃ u, fu1 = u + 1 := ⟨fu1 - 1, by omega⟩
    obtain ⟨fu2, rfl⟩ : ∃ u, fu2 = u + 1 := ⟨fu2 - 1, by omega⟩
    refine ⟨-1, ?_, ?_⟩
    · rw [s_X4_tells_41, j0 hJ, qrs, (jc hJ).1.1.2.2.2.1, qi_lt rfl rfl (by omega) (by omega), if_pos (by omega)]
    · rw [s_X5_tells_35, (jr hJ).1.1.2.2.2.1, qi_lt rfl rfl (by omega) (by omega), if_pos (by omega)]
  | succ k ih =>
    intro m fu1 fu2 hk h1 h2
    obtain ⟨fu1, rfl⟩ : ∃ u, fu1 = u + 1 := ⟨fu1 - 1, by omega⟩
    obtain ⟨fu2, rfl⟩ : ∃ u, fu2 = u + 1 := ⟨fu2 - 1, by omega⟩
    obtain ⟨r, r1, r2⟩ := ih (m + 1) fu1 fu2 (by omega) (by omega) (by omega)
    have er := r_rowsOf hJ.1 (jw hJ) (jr hJ).1 hp (m := m) (by omega)
    have er' : s_X5_rowsOf 49 (nI p) (nI m) M = some (nI (yrn (uT υ) p m), M) := er
    refine ⟨if nI (yrn (uT υ) p m) < x then r else nI m, ?_, ?_⟩
    · rw [s_X4_tells_41, j0 hJ, qrs, (jc hJ).1.1.2.2.2.1, qi_lt rfl rfl (by omega) (by omega), if_neg (by omega), qrs, c_lawful hJ.1 q1 (jc hJ).1 (jw hJ) hp (by omega), qb1, nI_1, r1]
      by_cases e : nI (yrn (uT υ) p m) < x
      · rw [if_pos e, if_pos e]
      · rw [if_neg e, if_neg e]
    · rw [s_X5_tells_35, (jr hJ).1.1.2.2.2.1, qi_lt rfl rfl (by omega) (by omega), if_neg (by omega), er', qb1, nI_1, r2]
      by_cases e : nI (yrn (uT υ) p m) < x
      · rw [if_pos e, if_pos e]
      · rw [if_neg e, if_neg e]
theorem p_tells : hs_tells Inv := by
  intro M ⟨υ, hJ, hRe⟩ a1 a2
  have hP := (jw hJ).1.2.1
  have hn := (jw hJ).1.2.2.2.2.1
  cases hb : yin a1 (yP (uT υ))
  · refine ⟨-11, bC 1 M, bR 1 (bC 1 M), ?_, ?_, Inv_ref0 hJ hRe⟩
    · unfold s_X4_tells
      rw [j0 hJ, qrs, j_cS hJ, qb1, hb, qb_ifF, c_ref_ hJ.1 (j := 1) rfl (by decide) (by decide), qb1]
    · unfold s_X5_tells
      rw [j_rS (Jv_bC hJ), qb1, hb, qb_ifF, r_noTen (M := bC _ M) hJ.1 (j := 1) rfl (by decide), qb1, show (-1 : Int32) - 10 = -11 by decide]
  · obtain ⟨p, hp, rfl⟩ := yin_T hb (by omega)
    by_cases hv : a2 < 1 ∨ 1024 < a2
    · refine ⟨-16, bC 6 M, bR 6 (bC 6 M), ?_, ?_, Inv_ref0 hJ hRe⟩
      · unfold s_X4_tells s_X4_within
        rw [j0 hJ, qrs, j_cS hJ, qb1, hb, qb_ifT]
        by_cases h1 : a2 < 1
        · rw [if_pos h1, qb1, if_pos rfl, c_ref_ hJ.1 (j := 6) rfl (by decide) (by decide), qb1]
        · rw [if_neg h1, if_pos (hv.resolve_left h1), qb1, if_pos rfl, c_ref_ hJ.1 (j := 6) rfl (by decide) (by decide), qb1]
      · unfold s_X5_tells
        rw [j_rS (Jv_bC hJ), qb1, hb, qb_ifT, r_noTen (M := bC _ M) hJ.1 (j := 6) rfl (by decide), qb1, show (-6 : Int32) - 10 = -16 by decide]
        by_cases h1 : a2 < 1
        · rw [if_pos h1]
        · rw [if_neg h1, if_neg (Int32.not_le.mpr (hv.resolve_left h1))]
    · have h1 : ¬ a2 < 1 := fun e => hv (Or.inl e)
      have h2 : ¬ 1024 < a2 := fun e => hv (Or.inr e)
      obtain ⟨r, r1, r2⟩ := tells_loop hJ hp a2 (yn (uT υ) + 1) 0 2000 2000 (by omega) (by omega) (by omega)
      refine ⟨r, M, M, ?_, ?_, υ, hJ, hRe⟩
      · unfold s_X4_tells s_X4_within
        rw [j0 hJ, qrs, j_cS hJ, qb1, hb, qb_ifT, if_neg h1, if_neg h2, qb1, if_neg q10]; exact r1
      · unfold s_X5_tells
        rw [j_rS hJ, qb1, hb, qb_ifT, if_neg h1, if_pos (Int32.not_lt.mp h2)]; exact r2
