/-! plain facts: evaluation of the shallow functions, numbers -/
theorem qb1 {α β : Type} (a : α) (M : hf_M) (k : α → hf_M → Option β) : hf_bd (some (a, M)) k = k a M := rfl
theorem qb0 {α β : Type} (k : α → hf_M → Option β) : hf_bd none k = none := rfl
theorem qrs {β : Type} (q : Nat) (k : Nat → Option β) : hf_rf (some q) k = k q := rfl
theorem qpt {β : Type} (M : hf_M) (k : hf_M → Option β) : hf_pt M k = k M := rfl
theorem qix {β : Type} {j n : Nat} (h : j < n) (hb : n < 2 ^ 31) (k : Nat → Option β) : hf_ix (nI j) n k = k j := by
  unfold hf_ix
  rw [if_neg (nI_in h hb), nI_clamp (by omega)]
theorem q_len (q : Nat) : hf_len q < 2 ^ 31 := by
  by_cases h : q < 69
  · revert q
    decide
  · unfold hf_len
    rw [List.getD_eq_getElem?_getD, List.getElem?_eq_none (by simpa using Nat.not_lt.mp h)]
    decide
theorem qlI {β : Type} (M : hf_M) {q j : Nat} (h : j < hf_len q) (k : Int32 → Option β) : hf_ldI M q (nI j) k = k (M.1 q j) := qix h (q_len q) _
theorem qlL {β : Type} (M : hf_M) {q j : Nat} (h : j < hf_len q) (k : Int64 → Option β) : hf_ldL M q (nI j) k = k (M.2.1 q j) := qix h (q_len q) _
theorem qsI {β : Type} (M : hf_M) {q j : Nat} (v : Int32) (h : j < hf_len q) (k : hf_M → Option β) : hf_stI M q (nI j) v k = k (hf_sI M q j v) := qix h (q_len q) _
theorem qsL {β : Type} (M : hf_M) {q j : Nat} (v : Int64) (h : j < hf_len q) (k : hf_M → Option β) : hf_stL M q (nI j) v k = k (hf_sL M q j v) := qix h (q_len q) _
theorem qSO {β : Type} {j : Nat} (h : j < 6) (k : Int64 → Option β) : hf_ldSO (nI j) k = k (hf_SO j) := qix h (by decide) _
theorem qAB {β : Type} {j : Nat} (h : j < 7) (k : Int32 → Option β) : hf_ldAB (nI j) k = k (hf_AB j) := qix h (by decide) _
theorem qBO {β : Type} {j : Nat} (h : j < 21) (k : Int32 → Option β) : hf_ldBO (nI j) k = k (hf_BO j) := qix h (by decide) _
/-- a bit, as an int -/
def qbI (b : Bool) : Int32 := if b then 1 else 0
theorem qbI_t : qbI true = 1 := rfl
theorem qbI_f : qbI false = 0 := rfl
theorem qbI_0 (b : Bool) : qbI b = 0 ↔ b = false := by cases b <;> simp [qbI]
theorem qbI_1 (b : Bool) : qbI b = 1 ↔ b = true := by cases b <;> simp [qbI]
theorem qbI_eq (a b : Bool) : qbI a = qbI b ↔ a = b := by cases a <;> cases b <;> simp [qbI]
theorem qbI_nI (b : Bool) : qbI b = nI b.toNat := by cases b <;> rfl
theorem qand31 {f : Nat} (h : f < 32) : nI f &&& 31 = nI f := by
  rw [pk_andN (by omega) (m := 31) 5 (by decide), Nat.mod_eq_of_lt (by omega)]
theorem qsmod {f : Nat} (h : f < 32) : ((nI f).toBitVec.smod 32).toNat = f := by
  have : ∀ f, f < 32 → ((nI f).toBitVec.smod 32).toNat = f := by decide +kernel
  exact this f h
theorem qshr {a f : Nat} (ha : a < 2 ^ 31) (h : f < 32) : hn_ishr (nI a) (nI f) = nI (a / 2 ^ f) := by
  unfold hn_ishr
  rw [qand31 h, pk_shrN ha _ f (qsmod h)]
theorem qand1 {a : Nat} (ha : a < 2 ^ 31) : nI a &&& 1 = nI (a % 2) := by
  rw [pk_andN (by omega) (m := 1) 1 (by decide)]
theorem qsb {a f : Nat} (ha : a < 2 ^ 31) (h : f < 32) : hn_ishr (nI a) (nI f) &&& 1 = qbI (a.testBit f) := by
  rw [qshr ha h, qand1 (Nat.lt_of_le_of_lt (Nat.div_le_self _ _) ha), qbI_nI, Nat.testBit_eq_decide_div_mod_eq]
  congr 1
  rcases Nat.mod_two_eq_zero_or_one (a / 2 ^ f) with h | h <;> simp [h]
theorem qshl {a f : Nat} (h : f < 32) (ha : a * 2 ^ f < 2 ^ 32) : hn_ishl (nI a) (nI f) = nI (a * 2 ^ f) := by
  unfold hn_ishl
  rw [qand31 h, pk_shlN _ f (qsmod h) ha]
theorem qrem2 {a : Nat} (ha : a < 2 ^ 31) : hn_irem (nI a) 2 = nI (a % 2) := by
  unfold hn_irem
  exact pk_rem ha (d := 2) (by decide) (by decide)
theorem qrem {a d : Nat} (ha : a < 2 ^ 31) (h0 : 0 < d) (hd : d < 2 ^ 31) : hn_irem (nI a) (nI d) = nI (a % d) := pk_rem ha h0 hd
theorem qm1 (b : Nat) (h : b < 2 ^ 31) : ¬ (-1 : Int32) = nI b := by
  intro e
  have := congrArg Int32.toInt e
  rw [nI_toInt h] at this
  have h1 : (-1 : Int32).toInt = -1 := by decide
  omega
/-- bits of a long -/
def qlb (x : Int64) (w : Nat) : Bool := x.toBitVec.getLsbD w
theorem qlb_ext {x y : Int64} (h : ∀ w, w < 64 → qlb x w = qlb y w) : x = y := by
  apply Int64.toBitVec_inj.mp
  apply BitVec.eq_of_getLsbD_eq
  intro i hi
  exact h i hi
theorem qlb_and (x y : Int64) (w : Nat) : qlb (x &&& y) w = (qlb x w && qlb y w) := by simp [qlb]
theorem qlb_or (x y : Int64) (w : Nat) : qlb (x ||| y) w = (qlb x w || qlb y w) := by simp [qlb]
theorem qlb_xor (x y : Int64) (w : Nat) : qlb (x ^^^ y) w = (qlb x w ^^ qlb y w) := by simp [qlb]
theorem qlb_0 (w : Nat) : qlb 0 w = false := by simp [qlb]
theorem qlb_m1 {w : Nat} (h : w < 64) : qlb (-1) w = true := by
  have : ∀ w, w < 64 → qlb (-1) w = true := by decide +kernel
  exact this w h
theorem qlb_ge {x : Int64} {w : Nat} (h : 64 ≤ w) : qlb x w = false := by
  unfold qlb
  exact BitVec.getLsbD_of_ge _ _ h
theorem qlb_not (x : Int64) {w : Nat} (h : w < 64) : qlb (x ^^^ (-1)) w = !qlb x w := by
  rw [qlb_xor, qlb_m1 h]
  cases qlb x w <;> rfl
theorem qlb_zero {x : Int64} (h : ∀ w, w < 64 → qlb x w = false) : x = 0 := qlb_ext (fun w hw => by rw [h w hw, qlb_0])
theorem qlb_ne {x : Int64} (h : x ≠ 0) : ∃ w, w < 64 ∧ qlb x w = true := by
  apply Classical.byContradiction
  intro hn
  apply h
  apply qlb_zero
  intro w hw
  cases hb : qlb x w with
  | false => rfl
  | true => exact absurd ⟨w, hw, hb⟩ hn
theorem qSOb {f w : Nat} (hf : f < 6) (hw : w < 64) : qlb (hf_SO f) w = w.testBit f := by
  have : ∀ f, f < 6 → ∀ w, w < 64 → qlb (hf_SO f) w = w.testBit f := by decide +kernel
  exact this f hf w hw
theorem qcmp0 (x : Int64) : lg_cmp x 0 = 0 ↔ x = 0 := by
  unfold lg_cmp
  by_cases h : x > 0
  · rw [if_pos h]
    constructor
    · intro e; cases e
    · intro e; subst e; exact absurd h (by decide)
  · rw [if_neg h]
    by_cases h2 : x = 0
    · simp [h2]
    · simp [h2]
theorem qcmp (x y : Int64) : lg_cmp x y = 0 ↔ x = y := by
  unfold lg_cmp
  by_cases h : x > y
  · rw [if_pos h]
    constructor
    · intro e; cases e
    · intro e; subst e; exact absurd h Int64.lt_irrefl
  · rw [if_neg h]
    by_cases h2 : x = y
    · simp [h2]
    · simp [h2]
theorem qshift64 {w : Nat} (h : w < 64) : ((nI w).toInt64 &&& 63) = lN w := by
  have : ∀ w, w < 64 → ((nI w).toInt64 &&& 63) = lN w := by decide +kernel
  exact this w h
/-- one bit of a long, shifted down -/
theorem qlshr1 (x : Int64) {w : Nat} (h : w < 64) : hn_lshr x (nI w) &&& 1 = if qlb x w then 1 else 0 := by
  unfold hn_lshr
  rw [qshift64 h]
  apply qlb_ext
  intro i hi
  rw [qlb_and]
  by_cases h0 : i = 0
  · subst h0
    have e1 : qlb 1 0 = true := by decide
    have e2 : qlb (x >>> lN w) 0 = qlb x w := by
      unfold qlb
      rw [Int64.toBitVec_shiftRight]
      have e3 : (lN w).toBitVec.smod 64 = BitVec.ofNat 64 w := by
        have : ∀ w, w < 64 → (lN w).toBitVec.smod 64 = BitVec.ofNat 64 w := by decide +kernel
        exact this w h
      rw [e3]
      show (BitVec.sshiftRight x.toBitVec (BitVec.ofNat 64 w).toNat).getLsbD 0 = _
      rw [BitVec.getLsbD_sshiftRight]
      simp [Nat.mod_eq_of_lt (show w < 2 ^ 64 by omega), h]
    rw [e1, e2]
    cases qlb x w <;> simp [e1, qlb_0]
  · have e1 : qlb 1 i = false := by
      have : ∀ i, i < 64 → i ≠ 0 → qlb 1 i = false := by decide +kernel
      exact this i hi h0
    rw [e1, Bool.and_false]
    cases qlb x w <;> simp [e1, qlb_0]
theorem qlushr1 (x : Int64) {w : Nat} (h : w < 64) : hn_lushr x (nI w) &&& 1 = if qlb x w then 1 else 0 := by
  unfold hn_lushr
  apply qlb_ext
  intro i hi
  rw [qlb_and]
  by_cases h0 : i = 0
  · subst h0
    have e1 : qlb 1 0 = true := by decide
    have e2 : qlb ((x.toUInt64 >>> ((nI w).toInt64.toUInt64 &&& Int64.toUInt64 63)).toInt64) 0 = qlb x w := by
      unfold qlb
      have e3 : ((nI w).toInt64.toUInt64 &&& Int64.toUInt64 63).toBitVec % 64 = BitVec.ofNat 64 w := by
        have : ∀ w, w < 64 → ((nI w).toInt64.toUInt64 &&& Int64.toUInt64 63).toBitVec % 64 = BitVec.ofNat 64 w := by decide +kernel
        exact this w h
      show ((x.toUInt64 >>> ((nI w).toInt64.toUInt64 &&& Int64.toUInt64 63)).toBitVec).getLsbD 0 = _
      rw [UInt64.toBitVec_shiftRight, e3]
      simp [Nat.mod_eq_of_lt (show w < 2 ^ 64 by omega)]
    rw [e1, e2]
    cases qlb x w <;> simp [e1, qlb_0]
  · have e1 : qlb 1 i = false := by
      have : ∀ i, i < 64 → i ≠ 0 → qlb 1 i = false := by decide +kernel
      exact this i hi h0
    rw [e1, Bool.and_false]
    cases qlb x w <;> simp [e1, qlb_0]
theorem qlshl1 {w v : Nat} (h : w < 64) (hv : v < 64) : qlb (hn_lshl 1 (nI w)) v = decide (v = w) := by
  have : ∀ w, w < 64 → ∀ v, v < 64 → qlb (hn_lshl 1 (nI w)) v = decide (v = w) := by decide +kernel
  exact this w h v hv
