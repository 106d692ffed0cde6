theorem lt_ushr (x : Int64) {k : Nat} (h : k < 64) : (hn_lushr x (nI k)).toBitVec.toNat = x.toBitVec.toNat / 2 ^ k := by
  unfold hn_lushr
  have e3 : ((nI k).toInt64.toUInt64 &&& Int64.toUInt64 63).toBitVec % 64 = BitVec.ofNat 64 k := by
    have : ∀ w, w < 64 → ((nI w).toInt64.toUInt64 &&& Int64.toUInt64 63).toBitVec % 64 = BitVec.ofNat 64 w := by decide +kernel
    exact this k h
  show ((x.toUInt64 >>> ((nI k).toInt64.toUInt64 &&& Int64.toUInt64 63)).toBitVec).toNat = _
  rw [UInt64.toBitVec_shiftRight, e3]
  show (x.toBitVec >>> (BitVec.ofNat 64 k)).toNat = _
  simp [Nat.shiftRight_eq_div_pow, Nat.mod_eq_of_lt (show k < 2 ^ 64 by omega)]
theorem lt_add {x y : Int64} (h : x.toBitVec.toNat + y.toBitVec.toNat < 2 ^ 64) : (x + y).toBitVec.toNat = x.toBitVec.toNat + y.toBitVec.toNat := by
  rw [Int64.toBitVec_add, BitVec.toNat_add, Nat.mod_eq_of_lt h]
theorem lt_sub {x y : Int64} (h : y.toBitVec.toNat ≤ x.toBitVec.toNat) : (x - y).toBitVec.toNat = x.toBitVec.toNat - y.toBitVec.toNat := by
  have hx := x.toBitVec.isLt
  rw [Int64.toBitVec_sub, BitVec.toNat_sub]
  omega
theorem lt_and (x y : Int64) : (x &&& y).toBitVec.toNat = x.toBitVec.toNat &&& y.toBitVec.toNat := by
  rw [Int64.toBitVec_and, BitVec.toNat_and]
theorem lt_int (x : Int64) : x.toInt32 &&& 127 = nI (x.toBitVec.toNat % 128) := by
  rw [pk_and x.toInt32 7 (by decide)]
  congr 1
  have : x.toInt32.toBitVec = x.toBitVec.setWidth 32 := by
    rw [Int64.toBitVec_toInt32, BitVec.signExtend_eq_setWidth_of_le _ (by decide)]
  rw [this, BitVec.toNat_setWidth]
  omega
set_option maxHeartbeats 2000000 in
theorem c_pop (x : Int64) (M : hf_M) : s_J13_bitCount_95d88 x M = some (nI (ypop x), M) := by
  unfold s_J13_bitCount_95d88
  have u1 : ∀ y, (hn_lushr y 1).toBitVec.toNat = y.toBitVec.toNat / 2 := fun y => lt_ushr y (k := 1) (by decide)
  have u2 : ∀ y, (hn_lushr y 2).toBitVec.toNat = y.toBitVec.toNat / 4 := fun y => lt_ushr y (k := 2) (by decide)
  have u4 : ∀ y, (hn_lushr y 4).toBitVec.toNat = y.toBitVec.toNat / 16 := fun y => lt_ushr y (k := 4) (by decide)
  have u8 : ∀ y, (hn_lushr y 8).toBitVec.toNat = y.toBitVec.toNat / 256 := fun y => lt_ushr y (k := 8) (by decide)
  have u16 : ∀ y, (hn_lushr y 16).toBitVec.toNat = y.toBitVec.toNat / 65536 := fun y => lt_ushr y (k := 16) (by decide)
  have u32 : ∀ y, (hn_lushr y 32).toBitVec.toNat = y.toBitVec.toNat / 4294967296 := fun y => lt_ushr y (k := 32) (by decide)
  have m5 : (6148914691236517205 : Int64).toBitVec.toNat = 6148914691236517205 := by decide
  have m3 : (3689348814741910323 : Int64).toBitVec.toNat = 3689348814741910323 := by decide
  have mf : (1085102592571150095 : Int64).toBitVec.toNat = 1085102592571150095 := by decide
  generalize h1 : x - ((hn_lushr x 1) &&& 6148914691236517205) = i1
  generalize h2 : (i1 &&& 3689348814741910323) + ((hn_lushr i1 2) &&& 3689348814741910323) = i2
  generalize h3 : (i2 + hn_lushr i2 4) &&& 1085102592571150095 = i3
  generalize h4 : i3 + hn_lushr i3 8 = i4
  generalize h5 : i4 + hn_lushr i4 16 = i5
  generalize h6 : i5 + hn_lushr i5 32 = i6
  have hN := x.toBitVec.isLt
  generalize hx : x.toBitVec.toNat = N at *
  have hy := y8_of 8 N hN
  obtain ⟨s1, s2, s3, s4⟩ := yswar (N := N) (fun k => N / 256 ^ k % 256) hy.symm (fun k => Nat.mod_lt _ (by decide)) (fun k hk => by
    have : 256 ^ 8 ≤ 256 ^ k := Nat.pow_le_pow_right (by decide) hk
    rw [Nat.div_eq_of_lt (Nat.lt_of_lt_of_le hN this)])
  have t1 : i1.toBitVec.toNat = N - (N / 2 &&& 6148914691236517205) := by
    rw [← h1, lt_sub, lt_and, u1, m5, hx]
    rw [lt_and, u1, m5, hx]; exact s1
  have t2 : i2.toBitVec.toNat = ((N - (N / 2 &&& 6148914691236517205)) &&& 3689348814741910323) + ((N - (N / 2 &&& 6148914691236517205)) / 4 &&& 3689348814741910323) := by
    rw [← h2, lt_add, lt_and, lt_and, u2, m3, t1]
    rw [lt_and, lt_and, u2, m3, t1]; exact s2
  rw [← t2] at s3 s4
  have t3 : i3.toBitVec.toNat = y8 (fun k => yp8 (N / 256 ^ k % 256)) 8 := by
    rw [← h3, lt_and, lt_add, u4, mf]
    · exact s4
    · rw [u4]; exact s3
  have hp : ∀ k, yp8 (N / 256 ^ k % 256) ≤ 8 := fun k => ypc_le _ _
  obtain ⟨r1, r2, r3, r4⟩ := ysum (C := i3.toBitVec.toNat) t3 (hp 0) (hp 1) (hp 2) (hp 3) (hp 4) (hp 5) (hp 6) (hp 7)
  have t4 : i4.toBitVec.toNat = i3.toBitVec.toNat + i3.toBitVec.toNat / 256 := by
    rw [← h4, lt_add, u8]
    rw [u8]; exact r1
  rw [← t4] at r2 r3 r4
  have t5 : i5.toBitVec.toNat = i4.toBitVec.toNat + i4.toBitVec.toNat / 65536 := by
    rw [← h5, lt_add, u16]
    rw [u16]; exact r2
  rw [← t5] at r3 r4
  have t6 : i6.toBitVec.toNat = i5.toBitVec.toNat + i5.toBitVec.toNat / 4294967296 := by
    rw [← h6, lt_add, u32]
    rw [u32]; exact r3
  rw [← t6] at r4
  rw [lt_int, r4]
  congr 3
  unfold ypop
  have : qlb x = N.testBit := by
    funext w
    rw [qlb_nat, hx]
  rw [this, ypc_bytes]
  show yp8 (N / 256 ^ 0 % 256) + yp8 (N / 256 ^ 1 % 256) + yp8 (N / 256 ^ 2 % 256) + yp8 (N / 256 ^ 3 % 256) + yp8 (N / 256 ^ 4 % 256) + yp8 (N / 256 ^ 5 % 256) + yp8 (N / 256 ^ 6 % 256) + yp8 (N / 256 ^ 7 % 256) = _
  rw [Nat.pow_zero, Nat.div_one, Nat.pow_one]
theorem c_pop_i : ∀ v, v < 1024 → ∀ M : hf_M, s_J6_bitCount_0f7a4 (nI v) M = some (nI (ypc v.testBit 10), M) := by
  intro v hv M
  have h : ∀ v, v < 1024 → (s_J6_bitCount_0f7a4 (nI v) hm_0).map Prod.fst = some (nI (ypc v.testBit 10)) := by decide +kernel
  have h2 := h v hv
  unfold s_J6_bitCount_0f7a4 at h2 ⊢
  exact congrArg (fun z => some (z, M)) (Option.some.inj h2)
theorem y_pop_l : ∀ v, v < 1024 → ypop (nI v).toInt64 = ypc v.testBit 10 := by decide +kernel
