/-! how many bits -/
def ypc (f : Nat → Bool) : Nat → Nat
  | 0 => 0
  | n + 1 => ypc f n + (if f n = true then 1 else 0)
theorem ypc_le (f : Nat → Bool) : ∀ n, ypc f n ≤ n
  | 0 => Nat.le_refl 0
  | n + 1 => by
    have := ypc_le f n
    unfold ypc
    split <;> omega
theorem ypc_cong {f g : Nat → Bool} : ∀ {n : Nat}, (∀ k, k < n → f k = g k) → ypc f n = ypc g n
  | 0, _ => rfl
  | n + 1, h => by
    unfold ypc
    rw [ypc_cong (fun k hk => h k (by omega)), h n (by omega)]
theorem ypc_zero {f : Nat → Bool} : ∀ {n : Nat}, ypc f n = 0 → ∀ k, k < n → f k = false
  | 0, _, k, hk => by omega
  | n + 1, h, k, hk => by
    unfold ypc at h
    by_cases e : k = n
    · subst e
      cases hf : f k with
      | false => rfl
      | true => rw [hf] at h; simp at h
    · exact ypc_zero (n := n) (by omega) k (by omega)
theorem ypc_clear {f g : Nat → Bool} {i : Nat} : ∀ {n : Nat}, i < n → f i = true → g i = false → (∀ k, k ≠ i → g k = f k) → ypc f n = ypc g n + 1
  | 0, h, _, _, _ => by omega
  | n + 1, h, h1, h2, h3 => by
    unfold ypc
    by_cases e : i = n
    · subst e
      rw [ypc_cong (fun k hk => (h3 k (by omega)).symm), h1, h2]
      simp
    · rw [ypc_clear (n := n) (by omega) h1 h2 h3, h3 n (Ne.symm e)]
      omega
theorem ypc_all {f : Nat → Bool} : ∀ {n : Nat}, (∀ k, k < n → f k = false) → ypc f n = 0
  | 0, _ => rfl
  | n + 1, h => by
    unfold ypc
    rw [ypc_all (fun k hk => h k (by omega)), h n (by omega)]
    rfl
def ypop (x : Int64) : Nat := ypc (qlb x) 64
theorem ypop_le (x : Int64) : ypop x ≤ 64 := ypc_le _ _
theorem ypop_0 (x : Int64) : ypop x = 0 ↔ x = 0 := by
  constructor
  · intro h
    exact qlb_zero (fun w hw => ypc_zero h w hw)
  · intro h
    subst h
    exact ypc_all (fun k _ => qlb_0 k)
theorem ylow (n : Nat) (h : 0 < n) : ∃ i q, n = 2 ^ (i + 1) * q + 2 ^ i := by
  induction n using Nat.strongRecOn with
  | _ n ih =>
    rcases Nat.mod_two_eq_zero_or_one n with h2 | h2
    · obtain ⟨i, q, e⟩ := ih (n / 2) (by omega) (by omega)
      refine ⟨i + 1, q, ?_⟩
      have : n = 2 * (n / 2) := by omega
      have e2 : 2 ^ (i + 1 + 1) = 2 * 2 ^ (i + 1) := by rw [Nat.pow_succ 2 (i + 1), Nat.mul_comm]
      have e3 : 2 ^ (i + 1) = 2 * 2 ^ i := by rw [Nat.pow_succ, Nat.mul_comm]
      rw [this, e, e2, Nat.mul_add, Nat.mul_assoc, ← e3]
    · exact ⟨0, n / 2, by simp; omega⟩
theorem ylow_bits {n i q : Nat} (e : n = 2 ^ (i + 1) * q + 2 ^ i) : n.testBit i = true ∧ (n - 1).testBit i = false ∧ ∀ j, j ≠ i → (n.testBit j && (n - 1).testBit j) = n.testBit j := by
  have hp : 2 ^ i < 2 ^ (i + 1) := Nat.pow_lt_pow_right (by decide) (by omega)
  have hpos : 0 < 2 ^ i := Nat.pow_pos (by decide)
  have e1 : n - 1 = 2 ^ (i + 1) * q + (2 ^ i - 1) := by omega
  have b1 : ∀ j, n.testBit j = if j < i + 1 then (2 ^ i).testBit j else q.testBit (j - (i + 1)) := fun j => by rw [e, Nat.testBit_two_pow_mul_add _ hp]
  have b2 : ∀ j, (n - 1).testBit j = if j < i + 1 then (2 ^ i - 1).testBit j else q.testBit (j - (i + 1)) := fun j => by rw [e1, Nat.testBit_two_pow_mul_add _ (by omega)]
  refine ⟨?_, ?_, fun j hj => ?_⟩
  · rw [b1, if_pos (by omega), Nat.testBit_two_pow_self]
  · rw [b2, if_pos (by omega), Nat.testBit_two_pow_sub_one]
    simp
  · rw [b1, b2]
    by_cases h : j < i + 1
    · rw [if_pos h, if_pos h, Nat.testBit_two_pow]
      have : ¬ i = j := fun e => hj e.symm
      simp [this]
    · rw [if_neg h, if_neg h, Bool.and_self]
theorem qlb_nat (x : Int64) (w : Nat) : qlb x w = x.toBitVec.toNat.testBit w := rfl
theorem ypop_drop {x : Int64} (h : x ≠ 0) : ypop x = ypop (x &&& (x - 1)) + 1 := by
  have hn : 0 < x.toBitVec.toNat := by
    rcases Nat.eq_zero_or_pos x.toBitVec.toNat with e | e
    · exact absurd (Int64.toBitVec_inj.mp (BitVec.eq_of_toNat_eq e)) h
    · exact e
  have hlt : x.toBitVec.toNat < 2 ^ 64 := x.toBitVec.isLt
  obtain ⟨i, q, e⟩ := ylow _ hn
  obtain ⟨h1, h2, h3⟩ := ylow_bits e
  have hsub : (x - 1).toBitVec.toNat = x.toBitVec.toNat - 1 := by
    rw [Int64.toBitVec_sub, BitVec.toNat_sub]
    have : (1 : Int64).toBitVec.toNat = 1 := by decide
    rw [this]
    omega
  have hi : i < 64 := by
    rcases Nat.lt_or_ge i 64 with c | c
    · exact c
    · have : 2 ^ 64 ≤ 2 ^ i := Nat.pow_le_pow_right (by decide) c
      omega
  refine ypc_clear (i := i) hi h1 ?_ (fun k hk => ?_)
  · rw [qlb_and, qlb_nat (x - 1), hsub, h2, Bool.and_false]
  · rw [qlb_and, qlb_nat (x - 1), hsub]
    exact h3 k hk
theorem r_count_loop (M : hf_M) : ∀ (n fuel a : Nat) (x : Int64), ypop x = n → n < fuel → s_X5_count_5 fuel (nI a) x M = some (nI (a + n), M) := by
  intro n
  induction n with
  | zero =>
    intro fuel a x hx hf
    obtain ⟨fuel, rfl⟩ : ∃ q, fuel = q + 1 := ⟨fuel - 1, by omega⟩
    rw [s_X5_count_5, if_pos ((qcmp0 x).mpr ((ypop_0 x).mp hx))]
    rfl
  | succ n ih =>
    intro fuel a x hx hf
    obtain ⟨fuel, rfl⟩ : ∃ q, fuel = q + 1 := ⟨fuel - 1, by omega⟩
    have hne : x ≠ 0 := fun e => by
      have := (ypop_0 x).mpr e
      omega
    rw [s_X5_count_5, if_neg (fun h => hne ((qcmp0 x).mp h)), nI_1, ih fuel (a + 1) _ (by have := ypop_drop hne; omega) (by omega)]
    rw [show a + 1 + n = a + (n + 1) by omega]
theorem r_count (M : hf_M) (t : Nat) (x : Int64) : s_X5_count t x M = some (nI (ypop x), M) := by
  unfold s_X5_count
  have := r_count_loop M (ypop x) 2000 0 x rfl (by have := ypop_le x; omega)
  rw [Nat.zero_add] at this
  exact this
/-! the machine's own way: by parts of a word -/
theorem yand_split {b m y u : Nat} (hb : b < 256) (hm : m < 256) : (256 * y + b) &&& (256 * u + m) = 256 * (y &&& u) + (b &&& m) := by
  apply Nat.eq_of_testBit_eq
  intro j
  have h1 : (b &&& m) < 2 ^ 8 := Nat.lt_of_le_of_lt Nat.and_le_left hb
  rw [Nat.testBit_and, show 256 = 2 ^ 8 from rfl, Nat.testBit_two_pow_mul_add _ hb, Nat.testBit_two_pow_mul_add _ hm, Nat.testBit_two_pow_mul_add _ h1]
  by_cases h : j < 8
  · simp [h, Nat.testBit_and]
  · simp [h, Nat.testBit_and]
/-- eight bytes -/
def y8 (b : Nat → Nat) : Nat → Nat
  | 0 => 0
  | n + 1 => 256 * y8 (fun k => b (k + 1)) n + b 0
theorem y8_and : ∀ (n : Nat) (b m : Nat → Nat), (∀ k, b k < 256) → (∀ k, m k < 256) → y8 b n &&& y8 m n = y8 (fun k => b k &&& m k) n
  | 0, _, _, _, _ => by simp [y8]
  | n + 1, b, m, hb, hm => by
    show (256 * _ + _) &&& (256 * _ + _) = 256 * _ + _
    rw [yand_split (hb 0) (hm 0), y8_and n _ _ (fun k => hb (k + 1)) (fun k => hm (k + 1))]
theorem y8_lt : ∀ (n : Nat) (b : Nat → Nat), (∀ k, b k < 256) → y8 b n < 256 ^ n
  | 0, _, _ => by simp [y8]
  | n + 1, b, hb => by
    have := y8_lt n _ (fun k => hb (k + 1))
    have h0 := hb 0
    show 256 * _ + _ < _
    rw [Nat.pow_succ]
    omega
theorem y8_of : ∀ (n x : Nat), x < 256 ^ n → y8 (fun k => x / 256 ^ k % 256) n = x
  | 0, x, h => by simp at h; simp [y8, h]
  | n + 1, x, h => by
    have ih := y8_of n (x / 256) (by rw [Nat.pow_succ] at h; omega)
    have e : (fun k => x / 256 ^ (k + 1) % 256) = fun k => x / 256 / 256 ^ k % 256 := by
      funext k
      rw [Nat.pow_succ, Nat.mul_comm, Nat.div_div_eq_div_mul]
    show 256 * y8 (fun k => x / 256 ^ (k + 1) % 256) n + x / 256 ^ 0 % 256 = x
    rw [e, ih]
    simp
    omega
