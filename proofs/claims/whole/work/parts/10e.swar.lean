theorem y8_add : ∀ (n : Nat) (b c : Nat → Nat), y8 b n + y8 c n = y8 (fun k => b k + c k) n
  | 0, _, _ => by simp [y8]
  | n + 1, b, c => by
    have := y8_add n (fun k => b (k + 1)) (fun k => c (k + 1))
    show 256 * _ + _ + (256 * _ + _) = 256 * _ + (b 0 + c 0)
    rw [← this]
    omega
theorem y8_sub : ∀ (n : Nat) (b c : Nat → Nat), (∀ k, c k ≤ b k) → y8 b n - y8 c n = y8 (fun k => b k - c k) n ∧ y8 c n ≤ y8 b n
  | 0, _, _, _ => by simp [y8]
  | n + 1, b, c, h => by
    have := y8_sub n (fun k => b (k + 1)) (fun k => c (k + 1)) (fun k => h (k + 1))
    have h0 := h 0
    show 256 * _ + _ - (256 * _ + _) = 256 * _ + (b 0 - c 0) ∧ 256 * _ + _ ≤ 256 * _ + _
    rw [← this.1]
    omega
theorem y8_cong : ∀ {n : Nat} {b c : Nat → Nat}, (∀ k, b k = c k) → y8 b n = y8 c n := fun h => by rw [funext h]
theorem y8_div {d e : Nat} (hde : d * e = 256) (hd : 0 < d) : ∀ (n : Nat) (b : Nat → Nat), (∀ k, n ≤ k → b k = 0) → y8 b n / d = y8 (fun k => b k / d + e * (b (k + 1) % d)) n
  | 0, b, h => by simp [y8]
  | n + 1, b, h => by
    have ih := y8_div hde hd n (fun k => b (k + 1)) (fun k hk => h (k + 1) (by omega))
    have hm : y8 (fun k => b (k + 1)) n % d = b 1 % d := by
      cases n with
      | zero =>
        show 0 % d = _
        rw [h 1 (by omega)]
      | succ n =>
        show (256 * _ + b (0 + 1)) % d = _
        rw [← hde, Nat.mul_assoc, Nat.mul_add_mod]
    show (256 * y8 (fun k => b (k + 1)) n + b 0) / d = 256 * y8 (fun k => b (k + 1) / d + e * (b (k + 1 + 1) % d)) n + (b 0 / d + e * (b (0 + 1) % d))
    rw [← ih]
    have e1 : 256 * y8 (fun k => b (k + 1)) n + b 0 = d * (e * y8 (fun k => b (k + 1)) n) + b 0 := by rw [← hde, Nat.mul_assoc]
    rw [e1, Nat.mul_add_div hd]
    have e2 := Nat.div_add_mod (y8 (fun k => b (k + 1)) n) d
    rw [hm] at e2
    have e3 : e * y8 (fun k => b (k + 1)) n = 256 * (y8 (fun k => b (k + 1)) n / d) + e * (b 1 % d) := by
      conv => lhs; rw [← e2]
      rw [Nat.mul_add, ← Nat.mul_assoc, Nat.mul_comm e d, hde]
    rw [e3]
    show _ = 256 * _ + (_ + e * (b 1 % d))
    omega
def yA (b : Nat) : Nat := b - (b / 2 &&& 0x55)
def yB (b : Nat) : Nat := (yA b &&& 0x33) + (yA b / 4 &&& 0x33)
def yp8 (b : Nat) : Nat := ypc b.testBit 8
theorem yA_ok : ∀ b, b < 256 → (∀ c, c < 2 → (b / 2 + 128 * c) &&& 0x55 = b / 2 &&& 0x55) ∧ (b / 2 &&& 0x55) ≤ b := by decide +kernel
theorem yB_ok : ∀ b, b < 256 → ∀ c, c < 4 → (yA b / 4 + 64 * c) &&& 0x33 = yA b / 4 &&& 0x33 := by decide +kernel
theorem yC_ok : ∀ b, b < 256 → (yB b ≤ 68 ∧ yB b % 16 ≤ 4 ∧ yp8 b ≤ 8) ∧ ∀ c, c < 5 → (yB b + (yB b / 16 + 16 * c)) &&& 0x0f = yp8 b := by decide +kernel
theorem yA_0 : yA 0 = 0 := by decide
theorem yB_0 : yB 0 = 0 := by decide
theorem yswar {N : Nat} (b : Nat → Nat) (hN : N = y8 b 8) (hb : ∀ k, b k < 256) (h0 : ∀ k, 8 ≤ k → b k = 0) :
    let A := N - (N / 2 &&& 6148914691236517205)
    let B := (A &&& 3689348814741910323) + (A / 4 &&& 3689348814741910323)
    (N / 2 &&& 6148914691236517205) ≤ N ∧ B < 2 ^ 64 ∧ B + B / 16 < 2 ^ 64 ∧ ((B + B / 16) &&& 1085102592571150095) = y8 (fun k => yp8 (b k)) 8 := by
  have m5 : 6148914691236517205 = y8 (fun _ => 0x55) 8 := by decide
  have m3 : 3689348814741910323 = y8 (fun _ => 0x33) 8 := by decide
  have mf : 1085102592571150095 = y8 (fun _ => 0x0f) 8 := by decide
  have hA2 : N / 2 &&& 6148914691236517205 = y8 (fun k => b k / 2 &&& 0x55) 8 := by
    rw [m5, hN, y8_div (d := 2) (e := 128) rfl (by decide) 8 b h0, y8_and 8 _ _ (fun k => by have := hb k; have := Nat.mod_lt (b (k + 1)) (show 0 < 2 by decide); omega) (fun _ => by decide)]
    exact y8_cong (fun k => (yA_ok (b k) (hb k)).1 _ (Nat.mod_lt _ (by decide)))
  have hs := y8_sub 8 b (fun k => b k / 2 &&& 0x55) (fun k => (yA_ok (b k) (hb k)).2)
  have hA : N - (N / 2 &&& 6148914691236517205) = y8 (fun k => yA (b k)) 8 := by rw [hA2, hN]; exact hs.1
  have hAlt : ∀ k, yA (b k) < 256 := fun k => Nat.lt_of_le_of_lt (Nat.sub_le _ _) (hb k)
  have hB : (N - (N / 2 &&& 6148914691236517205) &&& 3689348814741910323) + ((N - (N / 2 &&& 6148914691236517205)) / 4 &&& 3689348814741910323) = y8 (fun k => yB (b k)) 8 := by
    rw [hA, m3, y8_and 8 _ _ hAlt (fun _ => by decide), y8_div (d := 4) (e := 64) rfl (by decide) 8 _ (fun k hk => by rw [h0 k hk, yA_0]), y8_and 8 _ _ (fun k => by have := hAlt k; have := Nat.mod_lt (yA (b (k + 1))) (show 0 < 4 by decide); omega) (fun _ => by decide), y8_add]
    exact y8_cong (fun k => by show _ + _ = yB (b k); unfold yB; rw [yB_ok (b k) (hb k) _ (Nat.mod_lt _ (by decide))])
  have hBl := fun k => (yC_ok (b k) (hb k)).1
  have hC : (y8 (fun k => yB (b k)) 8 + y8 (fun k => yB (b k)) 8 / 16) = y8 (fun k => yB (b k) + (yB (b k) / 16 + 16 * (yB (b (k + 1)) % 16))) 8 := by
    rw [y8_div (d := 16) (e := 16) rfl (by decide) 8 _ (fun k hk => by rw [h0 k hk, yB_0]), y8_add]
  have hCb : ∀ k, yB (b k) + (yB (b k) / 16 + 16 * (yB (b (k + 1)) % 16)) < 256 := fun k => by
    have h1 := hBl k
    have h2 := hBl (k + 1)
    omega
  refine ⟨?_, ?_, ?_, ?_⟩
  · rw [hA2, hN]; exact hs.2
  · rw [hB]; exact y8_lt 8 _ (fun k => by have := hBl k; omega)
  · rw [hB, hC]; exact y8_lt 8 _ hCb
  · rw [hB, hC, mf, y8_and 8 _ _ hCb (fun _ => by decide)]
    exact y8_cong (fun k => (yC_ok (b k) (hb k)).2 _ (by have := (hBl (k + 1)).2.1; omega))
theorem ysum_a {C x p : Nat} (h : C = 256 * x + p) (hp : p ≤ 32) : C / 256 = x := by omega
theorem ysum_b {D d1 d2 a b : Nat} (h : D = 256 * d1 + a) (h1 : d1 = 256 * d2 + b) (ha : a ≤ 32) (hb : b ≤ 32) : D / 65536 = d2 := by
  have e1 := ysum_a h ha
  have e2 := ysum_a h1 hb
  rw [show 65536 = 256 * 256 from rfl, ← Nat.div_div_eq_div_mul, e1, e2]
theorem ysum_c {D d1 d2 d3 d4 a b c d : Nat} (h : D = 256 * d1 + a) (h1 : d1 = 256 * d2 + b) (h2 : d2 = 256 * d3 + c) (h3 : d3 = 256 * d4 + d) (ha : a ≤ 32) (hb : b ≤ 32) (hc : c ≤ 32) (hd : d ≤ 32) : D / 4294967296 = d4 := by
  have e1 := ysum_b h h1 ha hb
  have e2 := ysum_b h2 h3 hc hd
  rw [show 4294967296 = 65536 * 65536 from rfl, ← Nat.div_div_eq_div_mul, e1, e2]
theorem ysum_s {x y a b p q : Nat} (h : x = 256 * a + p) (h1 : y = 256 * b + q) : x + y = 256 * (a + b) + (p + q) := by omega
theorem ysum_l {x a p B : Nat} (h : x = 256 * a + p) (ha : a < 16 * B) (hp : p ≤ 8) : x < 16 * (B * 256) := by omega
theorem ysum_e {E F A B a b : Nat} (hE : E = 256 * A + a) (hF : F = 256 * B + b) (ha : a ≤ 32) (hb : b ≤ 32) : (E + F) % 128 = a + b := by omega
theorem ysum' {C x1 x2 x3 x4 x5 x6 x7 p0 p1 p2 p3 p4 p5 p6 p7 : Nat} (g0 : C = 256 * x1 + p0) (g1 : x1 = 256 * x2 + p1) (g2 : x2 = 256 * x3 + p2) (g3 : x3 = 256 * x4 + p3) (g4 : x4 = 256 * x5 + p4) (g5 : x5 = 256 * x6 + p5) (g6 : x6 = 256 * x7 + p6) (g7 : x7 = 256 * 0 + p7) (h0 : p0 ≤ 8) (h1 : p1 ≤ 8) (h2 : p2 ≤ 8) (h3 : p3 ≤ 8) (h4 : p4 ≤ 8) (h5 : p5 ≤ 8) (h6 : p6 ≤ 8) (h7 : p7 ≤ 8) :
    C + C / 256 < 2 ^ 64 ∧ (C + C / 256) + (C + C / 256) / 65536 < 2 ^ 64 ∧ ((C + C / 256) + (C + C / 256) / 65536) + ((C + C / 256) + (C + C / 256) / 65536) / 4294967296 < 2 ^ 64 ∧ (((C + C / 256) + (C + C / 256) / 65536) + ((C + C / 256) + (C + C / 256) / 65536) / 4294967296) % 128 = p0 + p1 + p2 + p3 + p4 + p5 + p6 + p7 := by
  have l7 : x7 < 16 * 1 := by omega
  have l6 := ysum_l g6 l7 h6
  have l5 := ysum_l g5 l6 h5
  have l4 := ysum_l g4 l5 h4
  have l3 := ysum_l g3 l4 h3
  have l2 := ysum_l g2 l3 h2
  have l1 := ysum_l g1 l2 h1
  have l0 := ysum_l g0 l1 h0
  rw [ysum_a g0 (by omega)]
  have d0 := ysum_s g0 g1
  have d1 := ysum_s g1 g2
  have d2 := ysum_s g2 g3
  have d3 := ysum_s g3 g4
  have d4 := ysum_s g4 g5
  have d5 := ysum_s g5 g6
  have d6 := ysum_s g6 g7
  rw [ysum_b d0 d1 (by omega) (by omega)]
  have e0 := ysum_s d0 d2
  have e1 := ysum_s d1 d3
  have e2 := ysum_s d2 d4
  have e3 := ysum_s d3 d5
  have e4 := ysum_s d4 d6
  rw [ysum_c e0 e1 e2 e3 (by omega) (by omega) (by omega) (by omega), ysum_e e0 e4 (by omega) (by omega)]
  clear e0 e1 e2 e3 e4 d0 d1 d2 d3 d4 d5 d6 g0 g1 g2 g3 g4 g5 g6 g7
  refine ⟨by omega, by omega, by omega, by omega⟩
theorem ysum {C p0 p1 p2 p3 p4 p5 p6 p7 : Nat} (h : C = 256 * (256 * (256 * (256 * (256 * (256 * (256 * (256 * 0 + p7) + p6) + p5) + p4) + p3) + p2) + p1) + p0) (h0 : p0 ≤ 8) (h1 : p1 ≤ 8) (h2 : p2 ≤ 8) (h3 : p3 ≤ 8) (h4 : p4 ≤ 8) (h5 : p5 ≤ 8) (h6 : p6 ≤ 8) (h7 : p7 ≤ 8) :
    C + C / 256 < 2 ^ 64 ∧ (C + C / 256) + (C + C / 256) / 65536 < 2 ^ 64 ∧ ((C + C / 256) + (C + C / 256) / 65536) + ((C + C / 256) + (C + C / 256) / 65536) / 4294967296 < 2 ^ 64 ∧ (((C + C / 256) + (C + C / 256) / 65536) + ((C + C / 256) + (C + C / 256) / 65536) / 4294967296) % 128 = p0 + p1 + p2 + p3 + p4 + p5 + p6 + p7 := ysum' h rfl rfl rfl rfl rfl rfl rfl h0 h1 h2 h3 h4 h5 h6 h7
theorem ypc_split (f : Nat → Bool) (m : Nat) : ∀ n, ypc f (m + n) = ypc f m + ypc (fun j => f (m + j)) n
  | 0 => rfl
  | n + 1 => by
    show ypc f (m + n) + (if f (m + n) = true then 1 else 0) = _ + (ypc _ n + (if f (m + n) = true then 1 else 0))
    rw [ypc_split f m n]
    omega
theorem ypc_bytes (N : Nat) : ypc N.testBit 64 = yp8 (N % 256) + yp8 (N / 256 % 256) + yp8 (N / 256 ^ 2 % 256) + yp8 (N / 256 ^ 3 % 256) + yp8 (N / 256 ^ 4 % 256) + yp8 (N / 256 ^ 5 % 256) + yp8 (N / 256 ^ 6 % 256) + yp8 (N / 256 ^ 7 % 256) := by
  have key : ∀ k, ypc (fun j => N.testBit (8 * k + j)) 8 = yp8 (N / 256 ^ k % 256) := by
    intro k
    refine ypc_cong (fun j hj => ?_)
    rw [show 256 = 2 ^ 8 from rfl, Nat.testBit_mod_two_pow, ← Nat.pow_mul, Nat.testBit_div_two_pow]
    simp [hj, Nat.add_comm]
  have k0 := key 0
  have k1 := key 1
  have k2 := key 2
  have k3 := key 3
  have k4 := key 4
  have k5 := key 5
  have k6 := key 6
  have k7 := key 7
  rw [show 64 = 56 + 8 from rfl, ypc_split, show 56 = 48 + 8 from rfl, ypc_split, show 48 = 40 + 8 from rfl, ypc_split, show 40 = 32 + 8 from rfl, ypc_split, show 32 = 24 + 8 from rfl, ypc_split, show 24 = 16 + 8 from rfl, ypc_split, show 16 = 8 + 8 from rfl, ypc_split]
  simp only [Nat.pow_zero, Nat.div_one, Nat.mul_zero, Nat.zero_add, Nat.pow_one] at k0 k1
  have kk0 : ypc N.testBit 8 = yp8 (N % 256) := by rw [← k0]
  rw [kk0, ← k1, ← k2, ← k3, ← k4, ← k5, ← k6, ← k7]
