theorem hf_l8 {q : Nat} (h : q < 69) (h8 : hf_shp q = 8) : hf_len q = 8 := by
  revert h8
  revert q
  decide
theorem hin_X0 : ∀ w ∈ u_ws RX0 TX0 5, w ∈ hf_T := by
  show ∀ w ∈ [u_lay RX0 TX0 0, u_lay RX0 TX0 1, u_lay RX0 TX0 2, u_lay RX0 TX0 3, u_lay RX0 TX0 4], w ∈ hf_T
  exact List.forall_mem_cons.mpr ⟨hf_c1 146 rfl rfl, List.forall_mem_cons.mpr ⟨hf_c1 148 rfl rfl, List.forall_mem_cons.mpr ⟨hf_c1 150 rfl rfl, List.forall_mem_cons.mpr ⟨hf_c1 152 rfl rfl, List.forall_mem_cons.mpr ⟨hf_c1 154 rfl rfl, fun _ h => absurd h List.not_mem_nil⟩⟩⟩⟩⟩
theorem hin_X1 : ∀ w ∈ u_ws RX1 TX1 7, w ∈ hf_T := by
  show ∀ w ∈ [u_lay RX1 TX1 0, u_lay RX1 TX1 1, u_lay RX1 TX1 2, u_lay RX1 TX1 3, u_lay RX1 TX1 4, u_lay RX1 TX1 5, u_lay RX1 TX1 6], w ∈ hf_T
  exact List.forall_mem_cons.mpr ⟨hf_c1 118 rfl rfl, List.forall_mem_cons.mpr ⟨hf_c1 120 rfl rfl, List.forall_mem_cons.mpr ⟨hf_c1 122 rfl rfl, List.forall_mem_cons.mpr ⟨hf_c1 124 rfl rfl, List.forall_mem_cons.mpr ⟨hf_c1 126 rfl rfl, List.forall_mem_cons.mpr ⟨hf_c1 128 rfl rfl, List.forall_mem_cons.mpr ⟨hf_c1 130 rfl rfl, fun _ h => absurd h List.not_mem_nil⟩⟩⟩⟩⟩⟩⟩
theorem hin_X2 : ∀ w ∈ u_ws RX2 TX2 3, w ∈ hf_T := by
  show ∀ w ∈ [u_lay RX2 TX2 0, u_lay RX2 TX2 1, u_lay RX2 TX2 2], w ∈ hf_T
  exact List.forall_mem_cons.mpr ⟨hf_c1 169 rfl rfl, List.forall_mem_cons.mpr ⟨hf_c1 171 rfl rfl, List.forall_mem_cons.mpr ⟨hf_c1 173 rfl rfl, fun _ h => absurd h List.not_mem_nil⟩⟩⟩
theorem hin_X3 : ∀ w ∈ u_ws RX3 TX3 17, w ∈ hf_T := by
  show ∀ w ∈ [u_lay RX3 TX3 0, u_lay RX3 TX3 1, u_lay RX3 TX3 2, u_lay RX3 TX3 3, u_lay RX3 TX3 4, u_lay RX3 TX3 5, u_lay RX3 TX3 6, u_lay RX3 TX3 7, u_lay RX3 TX3 8, u_lay RX3 TX3 9, u_lay RX3 TX3 10, u_lay RX3 TX3 11, u_lay RX3 TX3 12, u_lay RX3 TX3 13, u_lay RX3 TX3 14, u_lay RX3 TX3 15, u_lay RX3 TX3 16], w ∈ hf_T
  exact List.forall_mem_cons.mpr ⟨hf_c1 65 rfl rfl, List.forall_mem_cons.mpr ⟨hf_c1 67 rfl rfl, List.forall_mem_cons.mpr ⟨hf_c1 69 rfl rfl, List.forall_mem_cons.mpr ⟨hf_c1 71 rfl rfl, List.forall_mem_cons.mpr ⟨hf_c1 73 rfl rfl, List.forall_mem_cons.mpr ⟨hf_c1 75 rfl rfl, List.forall_mem_cons.mpr ⟨hf_c1 77 rfl rfl, List.forall_mem_cons.mpr ⟨hf_c1 79 rfl rfl, List.forall_mem_cons.mpr ⟨hf_c1 81 rfl rfl, List.forall_mem_cons.mpr ⟨hf_c1 83 rfl rfl, List.forall_mem_cons.mpr ⟨hf_c1 85 rfl rfl, List.forall_mem_cons.mpr ⟨hf_c1 87 rfl rfl, List.forall_mem_cons.mpr ⟨hf_c1 89 rfl rfl, List.forall_mem_cons.mpr ⟨hf_c1 91 rfl rfl, List.forall_mem_cons.mpr ⟨hf_c1 93 rfl rfl, List.forall_mem_cons.mpr ⟨hf_c1 95 rfl rfl, List.forall_mem_cons.mpr ⟨hf_c1 97 rfl rfl, fun _ h => absurd h List.not_mem_nil⟩⟩⟩⟩⟩⟩⟩⟩⟩⟩⟩⟩⟩⟩⟩⟩⟩
theorem hin_X4 : ∀ w ∈ u_ws RX4 TX4 9, w ∈ hf_T := by
  show ∀ w ∈ [u_lay RX4 TX4 0, u_lay RX4 TX4 1, u_lay RX4 TX4 2, u_lay RX4 TX4 3, u_lay RX4 TX4 4, u_lay RX4 TX4 5, u_lay RX4 TX4 6, u_lay RX4 TX4 7, u_lay RX4 TX4 8], w ∈ hf_T
  exact List.forall_mem_cons.mpr ⟨hf_c1 185 rfl rfl, List.forall_mem_cons.mpr ⟨hf_c1 187 rfl rfl, List.forall_mem_cons.mpr ⟨hf_c1 189 rfl rfl, List.forall_mem_cons.mpr ⟨hf_c1 191 rfl rfl, List.forall_mem_cons.mpr ⟨hf_c1 193 rfl rfl, List.forall_mem_cons.mpr ⟨hf_c1 195 rfl rfl, List.forall_mem_cons.mpr ⟨hf_c1 197 rfl rfl, List.forall_mem_cons.mpr ⟨hf_c1 199 rfl rfl, List.forall_mem_cons.mpr ⟨hf_c1 201 rfl rfl, fun _ h => absurd h List.not_mem_nil⟩⟩⟩⟩⟩⟩⟩⟩⟩
theorem hin_X5 : ∀ w ∈ u_ws RX5 TX5 38, w ∈ hf_T := by
  show ∀ w ∈ [u_lay RX5 TX5 0, u_lay RX5 TX5 1, u_lay RX5 TX5 2, u_lay RX5 TX5 3, u_lay RX5 TX5 4, u_lay RX5 TX5 5, u_lay RX5 TX5 6, u_lay RX5 TX5 7, u_lay RX5 TX5 8, u_lay RX5 TX5 9, u_lay RX5 TX5 10, u_lay RX5 TX5 11, u_lay RX5 TX5 12, u_lay RX5 TX5 13, u_lay RX5 TX5 14, u_lay RX5 TX5 15, u_lay RX5 TX5 16, u_lay RX5 TX5 17, u_lay RX5 TX5 18, u_lay RX5 TX5 19, u_lay RX5 TX5 20, u_lay RX5 TX5 21, u_lay RX5 TX5 22, u_lay RX5 TX5 23, u_lay RX5 TX5 24, u_lay RX5 TX5 25, u_lay RX5 TX5 26, u_lay RX5 TX5 27, u_lay RX5 TX5 28, u_lay RX5 TX5 29, u_lay RX5 TX5 30, u_lay RX5 TX5 31, u_lay RX5 TX5 32, u_lay RX5 TX5 33, u_lay RX5 TX5 34, u_lay RX5 TX5 35, u_lay RX5 TX5 36, u_lay RX5 TX5 37], w ∈ hf_T
  exact List.forall_mem_cons.mpr ⟨hf_c4 97 rfl rfl, List.forall_mem_cons.mpr ⟨hf_c4 99 rfl rfl, List.forall_mem_cons.mpr ⟨hf_c4 101 rfl rfl, List.forall_mem_cons.mpr ⟨hf_c4 103 rfl rfl, List.forall_mem_cons.mpr ⟨hf_c4 105 rfl rfl, List.forall_mem_cons.mpr ⟨hf_c4 107 rfl rfl, List.forall_mem_cons.mpr ⟨hf_c4 109 rfl rfl, List.forall_mem_cons.mpr ⟨hf_c4 111 rfl rfl, List.forall_mem_cons.mpr ⟨hf_c4 113 rfl rfl, List.forall_mem_cons.mpr ⟨hf_c4 115 rfl rfl, List.forall_mem_cons.mpr ⟨hf_c4 117 rfl rfl, List.forall_mem_cons.mpr ⟨hf_c4 119 rfl rfl, List.forall_mem_cons.mpr ⟨hf_c4 121 rfl rfl, List.forall_mem_cons.mpr ⟨hf_c4 123 rfl rfl, List.forall_mem_cons.mpr ⟨hf_c4 125 rfl rfl, List.forall_mem_cons.mpr ⟨hf_c4 127 rfl rfl, List.forall_mem_cons.mpr ⟨hf_c4 129 rfl rfl, List.forall_mem_cons.mpr ⟨hf_c4 131 rfl rfl, List.forall_mem_cons.mpr ⟨hf_c4 133 rfl rfl, List.forall_mem_cons.mpr ⟨hf_c4 135 rfl rfl, List.forall_mem_cons.mpr ⟨hf_c4 137 rfl rfl, List.forall_mem_cons.mpr ⟨hf_c4 139 rfl rfl, List.forall_mem_cons.mpr ⟨hf_c4 141 rfl rfl, List.forall_mem_cons.mpr ⟨hf_c4 143 rfl rfl, List.forall_mem_cons.mpr ⟨hf_c4 145 rfl rfl, List.forall_mem_cons.mpr ⟨hf_c4 147 rfl rfl, List.forall_mem_cons.mpr ⟨hf_c4 149 rfl rfl, List.forall_mem_cons.mpr ⟨hf_c4 151 rfl rfl, List.forall_mem_cons.mpr ⟨hf_c4 153 rfl rfl, List.forall_mem_cons.mpr ⟨hf_c4 155 rfl rfl, List.forall_mem_cons.mpr ⟨hf_c4 157 rfl rfl, List.forall_mem_cons.mpr ⟨hf_c4 159 rfl rfl, List.forall_mem_cons.mpr ⟨hf_c4 161 rfl rfl, List.forall_mem_cons.mpr ⟨hf_c4 163 rfl rfl, List.forall_mem_cons.mpr ⟨hf_c4 165 rfl rfl, List.forall_mem_cons.mpr ⟨hf_c4 167 rfl rfl, List.forall_mem_cons.mpr ⟨hf_c4 169 rfl rfl, List.forall_mem_cons.mpr ⟨hf_c4 171 rfl rfl, fun _ h => absurd h List.not_mem_nil⟩⟩⟩⟩⟩⟩⟩⟩⟩⟩⟩⟩⟩⟩⟩⟩⟩⟩⟩⟩⟩⟩⟩⟩⟩⟩⟩⟩⟩⟩⟩⟩⟩⟩⟩⟩⟩⟩
theorem kc_0 : Int32.ofInt 0 = (0 : Int32) := by decide
theorem kb_6 : (Int8.ofInt 6).toInt32 = (6 : Int32) := by decide
theorem kc_1 : Int32.ofInt 1 = (1 : Int32) := by decide
theorem kb_20 : (Int8.ofInt 20).toInt32 = (20 : Int32) := by decide
theorem kc_m1 : Int32.ofInt (-1) = (-1 : Int32) := by decide
theorem kc_3 : Int32.ofInt 3 = (3 : Int32) := by decide
theorem kc_2 : Int32.ofInt 2 = (2 : Int32) := by decide
theorem kc_5 : Int32.ofInt 5 = (5 : Int32) := by decide
theorem kb_48 : (Int8.ofInt 48).toInt32 = (48 : Int32) := by decide
theorem kb_57 : (Int8.ofInt 57).toInt32 = (57 : Int32) := by decide
theorem kc_4 : Int32.ofInt 4 = (4 : Int32) := by decide
theorem kb_10 : (Int8.ofInt 10).toInt32 = (10 : Int32) := by decide
theorem kb_32 : (Int8.ofInt 32).toInt32 = (32 : Int32) := by decide
theorem kb_99 : (Int8.ofInt 99).toInt32 = (99 : Int32) := by decide
theorem ks_1023 : (Int16.ofInt 1023).toInt32 = (1023 : Int32) := by decide
theorem kb_100 : (Int8.ofInt 100).toInt32 = (100 : Int32) := by decide
theorem kb_24 : (Int8.ofInt 24).toInt32 = (24 : Int32) := by decide
theorem ks_160 : (Int16.ofInt 160).toInt32 = (160 : Int32) := by decide
theorem kb_59 : (Int8.ofInt 59).toInt32 = (59 : Int32) := by decide
theorem ks_12345 : (Int16.ofInt 12345).toInt32 = (12345 : Int32) := by decide
theorem kb_16 : (Int8.ofInt 16).toInt32 = (16 : Int32) := by decide
theorem kb_8 : (Int8.ofInt 8).toInt32 = (8 : Int32) := by decide
theorem kb_m3 : (Int8.ofInt (-3)).toInt32 = (-3 : Int32) := by decide
theorem kb_m2 : (Int8.ofInt (-2)).toInt32 = (-2 : Int32) := by decide
theorem kb_m7 : (Int8.ofInt (-7)).toInt32 = (-7 : Int32) := by decide
theorem kb_m6 : (Int8.ofInt (-6)).toInt32 = (-6 : Int32) := by decide
theorem kb_m4 : (Int8.ofInt (-4)).toInt32 = (-4 : Int32) := by decide
theorem kb_m5 : (Int8.ofInt (-5)).toInt32 = (-5 : Int32) := by decide
theorem kb_127 : (Int8.ofInt 127).toInt32 = (127 : Int32) := by decide
theorem kb_m11 : (Int8.ofInt (-11)).toInt32 = (-11 : Int32) := by decide
theorem kb_63 : (Int8.ofInt 63).toInt32 = (63 : Int32) := by decide
theorem ks_1024 : (Int16.ofInt 1024).toInt32 = (1024 : Int32) := by decide
theorem kb_m16 : (Int8.ofInt (-16)).toInt32 = (-16 : Int32) := by decide
theorem kb_64 : (Int8.ofInt 64).toInt32 = (64 : Int32) := by decide
theorem kb_11 : (Int8.ofInt 11).toInt32 = (11 : Int32) := by decide
theorem kb_17 : (Int8.ofInt 17).toInt32 = (17 : Int32) := by decide
theorem kb_28 : (Int8.ofInt 28).toInt32 = (28 : Int32) := by decide
theorem kb_7 : (Int8.ofInt 7).toInt32 = (7 : Int32) := by decide
theorem kb_70 : (Int8.ofInt 70).toInt32 = (70 : Int32) := by decide
theorem kb_30 : (Int8.ofInt 30).toInt32 = (30 : Int32) := by decide
theorem kb_50 : (Int8.ofInt 50).toInt32 = (50 : Int32) := by decide
theorem kb_60 : (Int8.ofInt 60).toInt32 = (60 : Int32) := by decide
theorem kb_40 : (Int8.ofInt 40).toInt32 = (40 : Int32) := by decide
theorem kb_12 : (Int8.ofInt 12).toInt32 = (12 : Int32) := by decide
theorem kb_71 : (Int8.ofInt 71).toInt32 = (71 : Int32) := by decide
theorem kb_31 : (Int8.ofInt 31).toInt32 = (31 : Int32) := by decide
theorem lp_RX0_15 : hf_px RX0 15 0 1 0 .int := ⟨5, RX0, TX0, tyX0, ⟨rfl, by decide, by decide, rfl, by decide⟩, hin_X0, Or.inl (hf_c1 141 rfl rfl), rfl, tyX0_ok, nmX0, rfl, rfl⟩
theorem lg_RX0_15 : hf_gx RX0 15 0 1 0 := ⟨5, RX0, TX0, ⟨rfl, by decide, by decide, rfl, by decide⟩, hin_X0, Or.inl (hf_c1 141 rfl rfl), rfl⟩
theorem lg_RX0_9 : hf_gx RX0 9 0 0 2 := ⟨5, RX0, TX0, ⟨rfl, by decide, by decide, rfl, by decide⟩, hin_X0, Or.inl (hf_c1 139 rfl rfl), rfl⟩
theorem ls_RX0_47 : hf_FL RX0 47 RX4 "ABOVE" "[I" := Or.inr ⟨"HalfOfItFalse", by decide +kernel⟩
theorem ls_RX0_40 : hf_FL RX0 40 RX0 "BODIES" "[I" := Or.inl (hf_c4 27 rfl rfl)
theorem lk_RX0_36 : hf_ks RX0 36 yX4_isKind cX4_isKind 1 (some .boolean) 1 := ⟨⟨Or.inr ⟨"HalfOfItFalse", by decide +kernel⟩, hf_c2 46 rfl rfl, hf_c1 1 rfl rfl, hf_c2 47 rfl rfl, by decide⟩, by decide +kernel⟩
theorem lg_RX0_19 : hf_gx RX0 19 0 2 0 := ⟨5, RX0, TX0, ⟨rfl, by decide, by decide, rfl, by decide⟩, hin_X0, Or.inl (hf_c1 143 rfl rfl), rfl⟩
theorem lg_RX0_25 : hf_gx RX0 25 0 4 0 := ⟨5, RX0, TX0, ⟨rfl, by decide, by decide, rfl, by decide⟩, hin_X0, Or.inl (hf_c1 145 rfl rfl), rfl⟩
theorem lg_RX0_22 : hf_gx RX0 22 0 3 0 := ⟨5, RX0, TX0, ⟨rfl, by decide, by decide, rfl, by decide⟩, hin_X0, Or.inl (hf_c1 144 rfl rfl), rfl⟩
theorem lk_RX0_28 : hf_kv RX0 28 yX0_run cX0_run 7 (some .int) RX0 4 := hf_kv_of (hf_c4 18 rfl rfl) (hf_c4 20 rfl rfl) (hf_cp (q := (yX0_run, 5)) (by decide +kernel)) (hf_c1 4 rfl rfl) (hf_c4 21 rfl rfl) (by decide) ⟨rfl, by decide +kernel⟩
theorem lk_RX0_32 : hf_ks RX0 32 yX0_ownerOf cX0_ownerOf 4 (some .int) 2 := ⟨⟨Or.inl (hf_c4 22 rfl rfl), hf_c4 23 rfl rfl, hf_c1 4 rfl rfl, hf_c4 24 rfl rfl, by decide⟩, by decide +kernel⟩
theorem lk_RX0_43 : hf_kv RX0 43 yX0_note cX0_note 2 (none) RX0 1 := hf_kv_of (hf_c4 29 rfl rfl) (hf_c4 31 rfl rfl) (hf_cp (q := (yX0_note, 5)) (by decide +kernel)) (hf_c1 4 rfl rfl) (hf_c4 32 rfl rfl) (by decide) ⟨rfl, by decide +kernel⟩
theorem lk_RX0_50 : hf_kv RX0 50 yX0_resultOf cX0_resultOf 5 (some .int) RX0 4 := hf_kv_of (hf_c4 33 rfl rfl) (hf_c4 35 rfl rfl) (hf_cp (q := (yX0_resultOf, 5)) (by decide +kernel)) (hf_c1 4 rfl rfl) (hf_c4 36 rfl rfl) (by decide) ⟨rfl, by decide +kernel⟩
theorem lp_RX0_19 : hf_px RX0 19 0 2 0 .int := ⟨5, RX0, TX0, tyX0, ⟨rfl, by decide, by decide, rfl, by decide⟩, hin_X0, Or.inl (hf_c1 143 rfl rfl), rfl, tyX0_ok, nmX0, rfl, rfl⟩
theorem lp_RX0_22 : hf_px RX0 22 0 3 0 .int := ⟨5, RX0, TX0, tyX0, ⟨rfl, by decide, by decide, rfl, by decide⟩, hin_X0, Or.inl (hf_c1 144 rfl rfl), rfl, tyX0_ok, nmX0, rfl, rfl⟩
theorem lp_RX0_25 : hf_px RX0 25 0 4 0 .int := ⟨5, RX0, TX0, tyX0, ⟨rfl, by decide, by decide, rfl, by decide⟩, hin_X0, Or.inl (hf_c1 145 rfl rfl), rfl, tyX0_ok, nmX0, rfl, rfl⟩
theorem lg_RX2_9 : hf_gx RX2 9 2 0 2 := ⟨3, RX2, TX2, ⟨rfl, by decide, by decide, rfl, by decide⟩, hin_X2, Or.inl (hf_c1 162 rfl rfl), rfl⟩
theorem lg_RX1_19 : hf_gx RX1 19 1 2 0 := ⟨7, RX1, TX1, ⟨rfl, by decide, by decide, rfl, by decide⟩, hin_X1, Or.inl (hf_c1 112 rfl rfl), rfl⟩
theorem lg_RX1_9 : hf_gx RX1 9 1 0 2 := ⟨7, RX1, TX1, ⟨rfl, by decide, by decide, rfl, by decide⟩, hin_X1, Or.inl (hf_c1 110 rfl rfl), rfl⟩
theorem lg_RX1_39 : hf_gx RX1 39 2 2 0 := ⟨3, RX2, TX2, ⟨rfl, by decide, by decide, rfl, by decide⟩, hin_X2, Or.inr ⟨"HalfOfItFalse", by decide +kernel⟩, rfl⟩
theorem lk_RX1_48 : hf_kv RX1 48 yX2_asInt cX2_asInt 2 (some .int) RX2 1 := hf_kv_of (hf_c2 198 rfl rfl) (hf_c2 199 rfl rfl) (hf_c2 200 rfl rfl) (hf_c1 5 rfl rfl) (hf_c2 201 rfl rfl) (by decide) ⟨rfl, by decide +kernel⟩
theorem lp_RX1_23 : hf_px RX1 23 1 3 0 .int := ⟨7, RX1, TX1, tyX1, ⟨rfl, by decide, by decide, rfl, by decide⟩, hin_X1, Or.inl (hf_c1 113 rfl rfl), rfl, tyX1_ok, nmX1, rfl, rfl⟩
theorem lk_RX1_52 : hf_kv RX1 52 yX1_letter cX1_letter 1 (some .int) RX1 0 := hf_kv_of (hf_c2 194 rfl rfl) (hf_c2 196 rfl rfl) (hf_cp (q := (yX1_letter, 7)) (by decide +kernel)) (hf_c1 3 rfl rfl) (hf_c2 197 rfl rfl) (by decide) ⟨rfl, by decide +kernel⟩
theorem lp_RX1_19 : hf_px RX1 19 1 2 0 .int := ⟨7, RX1, TX1, tyX1, ⟨rfl, by decide, by decide, rfl, by decide⟩, hin_X1, Or.inl (hf_c1 112 rfl rfl), rfl, tyX1_ok, nmX1, rfl, rfl⟩
theorem lk_RX1_56 : hf_kv RX1 56 yX1_wrong cX1_wrong 2 (some .boolean) RX1 1 := hf_kv_of (hf_c3 23 rfl rfl) (hf_c3 25 rfl rfl) (hf_cp (q := (yX1_wrong, 7)) (by decide +kernel)) (hf_c1 3 rfl rfl) (hf_c3 26 rfl rfl) (by decide) ⟨rfl, by decide +kernel⟩
theorem lg_RX1_32 : hf_gx RX1 32 1 6 0 := ⟨7, RX1, TX1, ⟨rfl, by decide, by decide, rfl, by decide⟩, hin_X1, Or.inl (hf_c1 117 rfl rfl), rfl⟩
theorem lg_RX1_29 : hf_gx RX1 29 1 5 0 := ⟨7, RX1, TX1, ⟨rfl, by decide, by decide, rfl, by decide⟩, hin_X1, Or.inl (hf_c1 116 rfl rfl), rfl⟩
theorem lk_RX1_69 : hf_kv RX1 69 yX1_isDigit cX1_isDigit 1 (some .boolean) RX1 0 := hf_kv_of (hf_c3 31 rfl rfl) (hf_c3 33 rfl rfl) (hf_cp (q := (yX1_isDigit, 7)) (by decide +kernel)) (hf_c1 3 rfl rfl) (hf_c3 34 rfl rfl) (by decide) ⟨rfl, by decide +kernel⟩
theorem lp_RX1_29 : hf_px RX1 29 1 5 0 .int := ⟨7, RX1, TX1, tyX1, ⟨rfl, by decide, by decide, rfl, by decide⟩, hin_X1, Or.inl (hf_c1 116 rfl rfl), rfl, tyX1_ok, nmX1, rfl, rfl⟩
theorem lp_RX1_32 : hf_px RX1 32 1 6 0 .int := ⟨7, RX1, TX1, tyX1, ⟨rfl, by decide, by decide, rfl, by decide⟩, hin_X1, Or.inl (hf_c1 117 rfl rfl), rfl, tyX1_ok, nmX1, rfl, rfl⟩
theorem lk_RX1_44 : hf_kv RX1 44 yX1_isSign cX1_isSign 2 (some .boolean) RX1 1 := hf_kv_of (hf_c3 19 rfl rfl) (hf_c3 21 rfl rfl) (hf_cp (q := (yX1_isSign, 7)) (by decide +kernel)) (hf_c1 3 rfl rfl) (hf_c3 22 rfl rfl) (by decide) ⟨rfl, by decide +kernel⟩
theorem lg_RX3_37 : hf_gx RX3 37 3 8 0 := ⟨17, RX3, TX3, ⟨rfl, by decide, by decide, rfl, by decide⟩, hin_X3, Or.inl (hf_c1 42 rfl rfl), rfl⟩
theorem lg_RX3_9 : hf_gx RX3 9 3 0 2 := ⟨17, RX3, TX3, ⟨rfl, by decide, by decide, rfl, by decide⟩, hin_X3, Or.inl (hf_c1 29 rfl rfl), rfl⟩
theorem lg_RX3_47 : hf_gx RX3 47 3 11 1 := ⟨17, RX3, TX3, ⟨rfl, by decide, by decide, rfl, by decide⟩, hin_X3, Or.inl (hf_c1 51 rfl rfl), rfl⟩
theorem lp_RX3_47 : hf_px RX3 47 3 11 1 .long := ⟨17, RX3, TX3, tyX3, ⟨rfl, by decide, by decide, rfl, by decide⟩, hin_X3, Or.inl (hf_c1 51 rfl rfl), rfl, tyX3_ok, nmX3, rfl, rfl⟩
theorem lp_RX3_37 : hf_px RX3 37 3 8 0 .int := ⟨17, RX3, TX3, tyX3, ⟨rfl, by decide, by decide, rfl, by decide⟩, hin_X3, Or.inl (hf_c1 42 rfl rfl), rfl, tyX3_ok, nmX3, rfl, rfl⟩
theorem lg_RX1_15 : hf_gx RX1 15 1 1 2 := ⟨7, RX1, TX1, ⟨rfl, by decide, by decide, rfl, by decide⟩, hin_X1, Or.inl (hf_c1 111 rfl rfl), rfl⟩
theorem lg_RX1_89 : hf_gx RX1 89 3 8 0 := ⟨17, RX3, TX3, ⟨rfl, by decide, by decide, rfl, by decide⟩, hin_X3, Or.inr ⟨"HalfOfItFalse", by decide +kernel⟩, rfl⟩
theorem lk_RX1_94 : hf_kv RX1 94 yX1_isWord cX1_isWord 5 (some .boolean) RX1 2 := hf_kv_of (hf_c2 207 rfl rfl) (hf_c2 209 rfl rfl) (hf_cp (q := (yX1_isWord, 7)) (by decide +kernel)) (hf_c1 3 rfl rfl) (hf_c2 210 rfl rfl) (by decide) ⟨rfl, by decide +kernel⟩
theorem lk_RX1_98 : hf_kv RX1 98 yX1_isNumber cX1_isNumber 4 (some .boolean) RX1 2 := hf_kv_of (hf_c3 27 rfl rfl) (hf_c3 29 rfl rfl) (hf_cp (q := (yX1_isNumber, 7)) (by decide +kernel)) (hf_c1 3 rfl rfl) (hf_c3 30 rfl rfl) (by decide) ⟨rfl, by decide +kernel⟩
theorem lk_RX1_102 : hf_kv RX1 102 yX3_addFact cX3_addFact 2 (none) RX3 1 := hf_kv_of (hf_c3 35 rfl rfl) (hf_c2 66 rfl rfl) (hf_c2 67 rfl rfl) (hf_c1 2 rfl rfl) (hf_c2 68 rfl rfl) (by decide) ⟨rfl, by decide +kernel⟩
theorem ls_RX4_59 : hf_FL RX4 59 RX4 "SO" "[J" := Or.inl (hf_c2 142 rfl rfl)
theorem lk_RX3_72 : hf_ks RX3 72 yX4_truthOf cX4_truthOf 2 (some .long) 2 := ⟨⟨Or.inr ⟨"HalfOfItFalse", by decide +kernel⟩, hf_c2 140 rfl rfl, hf_c1 1 rfl rfl, hf_c2 141 rfl rfl, by decide⟩, by decide +kernel⟩
theorem lg_RX3_24 : hf_gx RX3 24 3 4 2 := ⟨17, RX3, TX3, ⟨rfl, by decide, by decide, rfl, by decide⟩, hin_X3, Or.inl (hf_c1 37 rfl rfl), rfl⟩
theorem lg_RX3_44 : hf_gx RX3 44 3 10 0 := ⟨17, RX3, TX3, ⟨rfl, by decide, by decide, rfl, by decide⟩, hin_X3, Or.inl (hf_c1 48 rfl rfl), rfl⟩
theorem lg_RX3_54 : hf_gx RX3 54 3 13 0 := ⟨17, RX3, TX3, ⟨rfl, by decide, by decide, rfl, by decide⟩, hin_X3, Or.inl (hf_c1 56 rfl rfl), rfl⟩
theorem lg_RX3_51 : hf_gx RX3 51 3 12 0 := ⟨17, RX3, TX3, ⟨rfl, by decide, by decide, rfl, by decide⟩, hin_X3, Or.inl (hf_c1 53 rfl rfl), rfl⟩
theorem lg_RX3_33 : hf_gx RX3 33 3 7 2 := ⟨17, RX3, TX3, ⟨rfl, by decide, by decide, rfl, by decide⟩, hin_X3, Or.inl (hf_c1 41 rfl rfl), rfl⟩
theorem lk_RX3_117 : hf_ks RX3 117 yX3_digit cX3_digit 3 (some .long) 2 := ⟨⟨Or.inl (hf_c2 122 rfl rfl), hf_c2 123 rfl rfl, hf_c1 2 rfl rfl, hf_c2 124 rfl rfl, by decide⟩, by decide +kernel⟩
theorem lk_RX3_100 : hf_kv RX3 100 yX3_isChosen cX3_isChosen 5 (some .boolean) RX3 3 := hf_kv_of (hf_c2 114 rfl rfl) (hf_c2 116 rfl rfl) (hf_cp (q := (yX3_isChosen, 17)) (by decide +kernel)) (hf_c1 2 rfl rfl) (hf_c2 117 rfl rfl) (by decide) ⟨rfl, by decide +kernel⟩
theorem lg_RX3_27 : hf_gx RX3 27 3 5 2 := ⟨17, RX3, TX3, ⟨rfl, by decide, by decide, rfl, by decide⟩, hin_X3, Or.inl (hf_c1 38 rfl rfl), rfl⟩
theorem lg_RX3_15 : hf_gx RX3 15 3 1 2 := ⟨17, RX3, TX3, ⟨rfl, by decide, by decide, rfl, by decide⟩, hin_X3, Or.inl (hf_c1 31 rfl rfl), rfl⟩
theorem lg_RX3_18 : hf_gx RX3 18 3 2 2 := ⟨17, RX3, TX3, ⟨rfl, by decide, by decide, rfl, by decide⟩, hin_X3, Or.inl (hf_c1 33 rfl rfl), rfl⟩
theorem lk_RX3_121 : hf_kv RX3 121 yX3_mustLateBeTrue cX3_mustLateBeTrue 2 (some .boolean) RX3 1 := hf_kv_of (hf_c2 57 rfl rfl) (hf_c2 59 rfl rfl) (hf_cp (q := (yX3_mustLateBeTrue, 17)) (by decide +kernel)) (hf_c1 2 rfl rfl) (hf_c2 60 rfl rfl) (by decide) ⟨rfl, by decide +kernel⟩
theorem lk_RX3_104 : hf_kv RX3 104 yX3_mustBeTrue cX3_mustBeTrue 3 (some .boolean) RX3 2 := hf_kv_of (hf_c2 130 rfl rfl) (hf_c2 54 rfl rfl) (hf_c2 55 rfl rfl) (hf_c1 2 rfl rfl) (hf_c2 56 rfl rfl) (by decide) ⟨rfl, by decide +kernel⟩
theorem lk_RX3_97 : hf_kv RX3 97 yX3_allowedByPairs cX3_allowedByPairs 8 (some .long) RX3 2 := hf_kv_of (hf_c2 126 rfl rfl) (hf_c2 128 rfl rfl) (hf_cp (q := (yX3_allowedByPairs, 17)) (by decide +kernel)) (hf_c1 2 rfl rfl) (hf_c2 129 rfl rfl) (by decide) ⟨rfl, by decide +kernel⟩
theorem lk_RX3_94 : hf_kv RX3 94 yX3_allowedByCount cX3_allowedByCount 18 (some .long) RX3 2 := hf_kv_of (hf_c2 110 rfl rfl) (hf_c2 112 rfl rfl) (hf_cp (q := (yX3_allowedByCount, 17)) (by decide +kernel)) (hf_c1 2 rfl rfl) (hf_c2 113 rfl rfl) (by decide) ⟨rfl, by decide +kernel⟩
theorem lg_RX3_41 : hf_gx RX3 41 3 9 0 := ⟨17, RX3, TX3, ⟨rfl, by decide, by decide, rfl, by decide⟩, hin_X3, Or.inl (hf_c1 45 rfl rfl), rfl⟩
theorem lk_RX3_81 : hf_kv RX3 81 yX3_allowed cX3_allowed 7 (some .long) RX3 2 := hf_kv_of (hf_c2 106 rfl rfl) (hf_c2 107 rfl rfl) (hf_c2 108 rfl rfl) (hf_c1 2 rfl rfl) (hf_c2 109 rfl rfl) (by decide) ⟨rfl, by decide +kernel⟩
theorem lk_RX1_133 : hf_kv RX1 133 yX3_possible cX3_possible 6 (some .long) RX3 1 := hf_kv_of (hf_c3 54 rfl rfl) (hf_c2 103 rfl rfl) (hf_c2 104 rfl rfl) (hf_c1 2 rfl rfl) (hf_c2 105 rfl rfl) (by decide) ⟨rfl, by decide +kernel⟩
theorem lk_RX1_147 : hf_ks RX1 147 yX4_truthOf cX4_truthOf 2 (some .long) 2 := ⟨⟨Or.inr ⟨"HalfOfItFalse", by decide +kernel⟩, hf_c2 140 rfl rfl, hf_c1 1 rfl rfl, hf_c2 141 rfl rfl, by decide⟩, by decide +kernel⟩
theorem lk_RX1_151 : hf_kv RX1 151 yX3_learn cX3_learn 3 (none) RX3 2 := hf_kv_of (hf_c3 63 rfl rfl) (hf_c2 174 rfl rfl) (hf_c2 175 rfl rfl) (hf_c1 2 rfl rfl) (hf_c2 176 rfl rfl) (by decide) ⟨rfl, by decide +kernel⟩
theorem lg_RX1_117 : hf_gx RX1 117 3 10 0 := ⟨17, RX3, TX3, ⟨rfl, by decide, by decide, rfl, by decide⟩, hin_X3, Or.inr ⟨"HalfOfItFalse", by decide +kernel⟩, rfl⟩
theorem lp_RX1_120 : hf_px RX1 120 3 12 0 .int := ⟨17, RX3, TX3, tyX3, ⟨rfl, by decide, by decide, rfl, by decide⟩, hin_X3, Or.inr ⟨"HalfOfItFalse", by decide +kernel⟩, rfl, tyX3_ok, nmX3, rfl, rfl⟩
theorem lp_RX1_123 : hf_px RX1 123 3 13 0 .int := ⟨17, RX3, TX3, tyX3, ⟨rfl, by decide, by decide, rfl, by decide⟩, hin_X3, Or.inr ⟨"HalfOfItFalse", by decide +kernel⟩, rfl, tyX3_ok, nmX3, rfl, rfl⟩
theorem lg_RX3_21 : hf_gx RX3 21 3 3 2 := ⟨17, RX3, TX3, ⟨rfl, by decide, by decide, rfl, by decide⟩, hin_X3, Or.inl (hf_c1 35 rfl rfl), rfl⟩
theorem lp_RX3_41 : hf_px RX3 41 3 9 0 .int := ⟨17, RX3, TX3, tyX3, ⟨rfl, by decide, by decide, rfl, by decide⟩, hin_X3, Or.inl (hf_c1 45 rfl rfl), rfl, tyX3_ok, nmX3, rfl, rfl⟩
theorem lg_RX1_108 : hf_gx RX1 108 3 9 0 := ⟨17, RX3, TX3, ⟨rfl, by decide, by decide, rfl, by decide⟩, hin_X3, Or.inr ⟨"HalfOfItFalse", by decide +kernel⟩, rfl⟩
theorem lk_RX1_111 : hf_kv RX1 111 yX3_addSpeaker cX3_addSpeaker 3 (none) RX3 2 := hf_kv_of (hf_c3 41 rfl rfl) (hf_c2 74 rfl rfl) (hf_c2 75 rfl rfl) (hf_c1 2 rfl rfl) (hf_c2 76 rfl rfl) (by decide) ⟨rfl, by decide +kernel⟩
theorem lg_RX3_30 : hf_gx RX3 30 3 6 2 := ⟨17, RX3, TX3, ⟨rfl, by decide, by decide, rfl, by decide⟩, hin_X3, Or.inl (hf_c1 39 rfl rfl), rfl⟩
theorem lp_RX3_44 : hf_px RX3 44 3 10 0 .int := ⟨17, RX3, TX3, tyX3, ⟨rfl, by decide, by decide, rfl, by decide⟩, hin_X3, Or.inl (hf_c1 48 rfl rfl), rfl, tyX3_ok, nmX3, rfl, rfl⟩
theorem lk_RX3_76 : hf_kv RX3 76 yX3_putTrueIn cX3_putTrueIn 5 (none) RX3 3 := hf_kv_of (hf_c2 144 rfl rfl) (hf_c2 146 rfl rfl) (hf_cp (q := (yX3_putTrueIn, 17)) (by decide +kernel)) (hf_c1 2 rfl rfl) (hf_c2 147 rfl rfl) (by decide) ⟨rfl, by decide +kernel⟩
theorem lk_RX3_87 : hf_kv RX3 87 yX3_put cX3_put 4 (none) RX3 3 := hf_kv_of (hf_c2 135 rfl rfl) (hf_c2 136 rfl rfl) (hf_c2 137 rfl rfl) (hf_c1 2 rfl rfl) (hf_c2 138 rfl rfl) (by decide) ⟨rfl, by decide +kernel⟩
theorem lk_RX3_91 : hf_kv RX3 91 yX3_takeBack cX3_takeBack 1 (none) RX3 0 := hf_kv_of (hf_c2 148 rfl rfl) (hf_c2 149 rfl rfl) (hf_c2 150 rfl rfl) (hf_c1 2 rfl rfl) (hf_c2 151 rfl rfl) (by decide) ⟨rfl, by decide +kernel⟩
theorem lk_RX1_137 : hf_kv RX1 137 yX3_after cX3_after 8 (some .long) RX3 4 := hf_kv_of (hf_c3 55 rfl rfl) (hf_c2 132 rfl rfl) (hf_c2 133 rfl rfl) (hf_c1 2 rfl rfl) (hf_c2 134 rfl rfl) (by decide) ⟨rfl, by decide +kernel⟩
theorem lk_RX1_141 : hf_kv RX1 141 yX3_put cX3_put 4 (none) RX3 3 := hf_kv_of (hf_c3 56 rfl rfl) (hf_c2 136 rfl rfl) (hf_c2 137 rfl rfl) (hf_c1 2 rfl rfl) (hf_c2 138 rfl rfl) (by decide) ⟨rfl, by decide +kernel⟩
theorem lk_RX1_128 : hf_kv RX1 128 yX3_isFull cX3_isFull 2 (some .boolean) RX3 1 := hf_kv_of (hf_c3 52 rfl rfl) (hf_c2 98 rfl rfl) (hf_c2 99 rfl rfl) (hf_c1 2 rfl rfl) (hf_c2 100 rfl rfl) (by decide) ⟨rfl, by decide +kernel⟩
theorem lg_RX1_26 : hf_gx RX1 26 1 4 0 := ⟨7, RX1, TX1, ⟨rfl, by decide, by decide, rfl, by decide⟩, hin_X1, Or.inl (hf_c1 114 rfl rfl), rfl⟩
theorem lk_RX1_72 : hf_kv RX1 72 yX1_readFact cX1_readFact 1 (some .boolean) RX1 0 := hf_kv_of (hf_c2 202 rfl rfl) (hf_c2 204 rfl rfl) (hf_cp (q := (yX1_readFact, 7)) (by decide +kernel)) (hf_c1 3 rfl rfl) (hf_c2 205 rfl rfl) (by decide) ⟨rfl, by decide +kernel⟩
theorem lp_RX1_26 : hf_px RX1 26 1 4 0 .int := ⟨7, RX1, TX1, tyX1, ⟨rfl, by decide, by decide, rfl, by decide⟩, hin_X1, Or.inl (hf_c1 114 rfl rfl), rfl, tyX1_ok, nmX1, rfl, rfl⟩
theorem lk_RX1_84 : hf_kv RX1 84 yX1_readKnown cX1_readKnown 3 (some .boolean) RX1 0 := hf_kv_of (hf_c3 57 rfl rfl) (hf_c3 59 rfl rfl) (hf_cp (q := (yX1_readKnown, 7)) (by decide +kernel)) (hf_c1 3 rfl rfl) (hf_c3 60 rfl rfl) (by decide) ⟨rfl, by decide +kernel⟩
theorem lk_RX1_78 : hf_kv RX1 78 yX1_readLaw cX1_readLaw 2 (some .boolean) RX1 0 := hf_kv_of (hf_c3 42 rfl rfl) (hf_c3 44 rfl rfl) (hf_cp (q := (yX1_readLaw, 7)) (by decide +kernel)) (hf_c1 3 rfl rfl) (hf_c3 45 rfl rfl) (by decide) ⟨rfl, by decide +kernel⟩
theorem lk_RX1_75 : hf_kv RX1 75 yX1_readMan cX1_readMan 2 (some .boolean) RX1 0 := hf_kv_of (hf_c3 36 rfl rfl) (hf_c3 38 rfl rfl) (hf_cp (q := (yX1_readMan, 7)) (by decide +kernel)) (hf_c1 3 rfl rfl) (hf_c3 39 rfl rfl) (by decide) ⟨rfl, by decide +kernel⟩
theorem lk_RX1_81 : hf_kv RX1 81 yX1_readSays cX1_readSays 4 (some .boolean) RX1 0 := hf_kv_of (hf_c3 47 rfl rfl) (hf_c3 49 rfl rfl) (hf_cp (q := (yX1_readSays, 7)) (by decide +kernel)) (hf_c1 3 rfl rfl) (hf_c3 50 rfl rfl) (by decide) ⟨rfl, by decide +kernel⟩
theorem lg_RX1_23 : hf_gx RX1 23 1 3 0 := ⟨7, RX1, TX1, ⟨rfl, by decide, by decide, rfl, by decide⟩, hin_X1, Or.inl (hf_c1 113 rfl rfl), rfl⟩
theorem lk_RX1_35 : hf_kv RX1 35 yX1_readItem cX1_readItem 2 (some .boolean) RX1 0 := hf_kv_of (hf_c2 190 rfl rfl) (hf_c2 192 rfl rfl) (hf_cp (q := (yX1_readItem, 7)) (by decide +kernel)) (hf_c1 3 rfl rfl) (hf_c2 193 rfl rfl) (by decide) ⟨rfl, by decide +kernel⟩
theorem lp_RX1_9 : hf_px RX1 9 1 0 2 (.object "HalfOfItFalse$Shelf") := ⟨7, RX1, TX1, tyX1, ⟨rfl, by decide, by decide, rfl, by decide⟩, hin_X1, Or.inl (hf_c1 110 rfl rfl), rfl, tyX1_ok, nmX1, rfl, rfl⟩
theorem lp_RX1_15 : hf_px RX1 15 1 1 2 (.object "HalfOfItFalse$Town") := ⟨7, RX1, TX1, tyX1, ⟨rfl, by decide, by decide, rfl, by decide⟩, hin_X1, Or.inl (hf_c1 111 rfl rfl), rfl, tyX1_ok, nmX1, rfl, rfl⟩
theorem lg_RX2_15 : hf_gx RX2 15 2 1 0 := ⟨3, RX2, TX2, ⟨rfl, by decide, by decide, rfl, by decide⟩, hin_X2, Or.inl (hf_c1 164 rfl rfl), rfl⟩
theorem lg_RX2_19 : hf_gx RX2 19 2 2 0 := ⟨3, RX2, TX2, ⟨rfl, by decide, by decide, rfl, by decide⟩, hin_X2, Or.inl (hf_c1 166 rfl rfl), rfl⟩
theorem lp_RX2_15 : hf_px RX2 15 2 1 0 .int := ⟨3, RX2, TX2, tyX2, ⟨rfl, by decide, by decide, rfl, by decide⟩, hin_X2, Or.inl (hf_c1 164 rfl rfl), rfl, tyX2_ok, nmX2, rfl, rfl⟩
theorem lp_RX2_19 : hf_px RX2 19 2 2 0 .int := ⟨3, RX2, TX2, tyX2, ⟨rfl, by decide, by decide, rfl, by decide⟩, hin_X2, Or.inl (hf_c1 166 rfl rfl), rfl, tyX2_ok, nmX2, rfl, rfl⟩
theorem lk_RX2_28 : hf_kv RX2 28 yX2_isRow cX2_isRow 1 (some .boolean) RX2 0 := hf_kv_of (hf_c2 9 rfl rfl) (hf_c2 2 rfl rfl) (hf_c2 3 rfl rfl) (hf_c1 5 rfl rfl) (hf_c2 4 rfl rfl) (by decide) ⟨rfl, by decide +kernel⟩
theorem lg_RX3_57 : hf_gx RX3 57 3 14 0 := ⟨17, RX3, TX3, ⟨rfl, by decide, by decide, rfl, by decide⟩, hin_X3, Or.inl (hf_c1 59 rfl rfl), rfl⟩
theorem lg_RX3_60 : hf_gx RX3 60 3 15 0 := ⟨17, RX3, TX3, ⟨rfl, by decide, by decide, rfl, by decide⟩, hin_X3, Or.inl (hf_c1 61 rfl rfl), rfl⟩
theorem lg_RX3_63 : hf_gx RX3 63 3 16 0 := ⟨17, RX3, TX3, ⟨rfl, by decide, by decide, rfl, by decide⟩, hin_X3, Or.inl (hf_c1 63 rfl rfl), rfl⟩
theorem lp_RX3_51 : hf_px RX3 51 3 12 0 .int := ⟨17, RX3, TX3, tyX3, ⟨rfl, by decide, by decide, rfl, by decide⟩, hin_X3, Or.inl (hf_c1 53 rfl rfl), rfl, tyX3_ok, nmX3, rfl, rfl⟩
theorem lp_RX3_54 : hf_px RX3 54 3 13 0 .int := ⟨17, RX3, TX3, tyX3, ⟨rfl, by decide, by decide, rfl, by decide⟩, hin_X3, Or.inl (hf_c1 56 rfl rfl), rfl, tyX3_ok, nmX3, rfl, rfl⟩
theorem lp_RX3_57 : hf_px RX3 57 3 14 0 .int := ⟨17, RX3, TX3, tyX3, ⟨rfl, by decide, by decide, rfl, by decide⟩, hin_X3, Or.inl (hf_c1 59 rfl rfl), rfl, tyX3_ok, nmX3, rfl, rfl⟩
theorem lp_RX3_60 : hf_px RX3 60 3 15 0 .int := ⟨17, RX3, TX3, tyX3, ⟨rfl, by decide, by decide, rfl, by decide⟩, hin_X3, Or.inl (hf_c1 61 rfl rfl), rfl, tyX3_ok, nmX3, rfl, rfl⟩
theorem lp_RX3_63 : hf_px RX3 63 3 16 0 .int := ⟨17, RX3, TX3, tyX3, ⟨rfl, by decide, by decide, rfl, by decide⟩, hin_X3, Or.inl (hf_c1 63 rfl rfl), rfl, tyX3_ok, nmX3, rfl, rfl⟩
theorem lg_RX4_42 : hf_gx RX4 42 4 6 2 := ⟨9, RX4, TX4, ⟨rfl, by decide, by decide, rfl, by decide⟩, hin_X4, Or.inl (hf_c1 182 rfl rfl), rfl⟩
theorem lk_RX4_55 : hf_kv RX4 55 yX4_refuse_ cX4_refuse_ 4 (some .int) RX4 2 := hf_kv_of (hf_c1 215 rfl rfl) (hf_c1 217 rfl rfl) (hf_cp (q := (yX4_refuse_, 9)) (by decide +kernel)) (hf_c1 1 rfl rfl) (hf_c1 218 rfl rfl) (by decide) ⟨rfl, by decide +kernel⟩
theorem ls_RX4_65 : hf_FL RX4 65 RX4 "ABOVE" "[I" := Or.inl (hf_c2 51 rfl rfl)
theorem lk_RX4_68 : hf_ks RX4 68 yX4_isKind cX4_isKind 1 (some .boolean) 1 := ⟨⟨Or.inl (hf_c2 45 rfl rfl), hf_c2 46 rfl rfl, hf_c1 1 rfl rfl, hf_c2 47 rfl rfl, by decide⟩, by decide +kernel⟩
theorem lg_RX4_24 : hf_gx RX4 24 4 3 2 := ⟨9, RX4, TX4, ⟨rfl, by decide, by decide, rfl, by decide⟩, hin_X4, Or.inl (hf_c1 179 rfl rfl), rfl⟩
theorem lk_RX4_72 : hf_ks RX4 72 yX4_isShelf cX4_isShelf 1 (some .boolean) 1 := ⟨⟨Or.inl (hf_c1 208 rfl rfl), hf_c1 209 rfl rfl, hf_c1 1 rfl rfl, hf_c1 210 rfl rfl, by decide⟩, by decide +kernel⟩
theorem lk_RX4_75 : hf_kv RX4 75 yX2_isSpeaker cX2_isSpeaker 1 (some .boolean) RX2 0 := hf_kv_of (hf_c1 237 rfl rfl) (hf_c1 238 rfl rfl) (hf_c1 239 rfl rfl) (hf_c1 5 rfl rfl) (hf_c2 0 rfl rfl) (by decide) ⟨rfl, by decide +kernel⟩
theorem lk_RX4_79 : hf_kv RX4 79 yX2_isRow cX2_isRow 1 (some .boolean) RX2 0 := hf_kv_of (hf_c2 1 rfl rfl) (hf_c2 2 rfl rfl) (hf_c2 3 rfl rfl) (hf_c1 5 rfl rfl) (hf_c2 4 rfl rfl) (by decide) ⟨rfl, by decide +kernel⟩
theorem lk_RX4_85 : hf_ks RX4 85 yX4_within cX4_within 3 (some .boolean) 3 := ⟨⟨Or.inl (hf_c1 219 rfl rfl), hf_c1 220 rfl rfl, hf_c1 1 rfl rfl, hf_c1 221 rfl rfl, by decide⟩, by decide +kernel⟩
theorem lk_RX4_89 : hf_kv RX4 89 yX2_makeRow cX2_makeRow 4 (none) RX2 2 := hf_kv_of (hf_c1 222 rfl rfl) (hf_c1 223 rfl rfl) (hf_c1 224 rfl rfl) (hf_c1 5 rfl rfl) (hf_c1 225 rfl rfl) (by decide) ⟨rfl, by decide +kernel⟩
theorem lk_RX4_82 : hf_kv RX4 82 yX4_refuse cX4_refuse 2 (some .int) RX4 1 := hf_kv_of (hf_c1 211 rfl rfl) (hf_c1 213 rfl rfl) (hf_cp (q := (yX4_refuse, 9)) (by decide +kernel)) (hf_c1 1 rfl rfl) (hf_c1 214 rfl rfl) (by decide) ⟨rfl, by decide +kernel⟩
theorem lk_RX4_93 : hf_kv RX4 93 yX4_noRow cX4_noRow 2 (some .int) RX4 1 := hf_kv_of (hf_c1 233 rfl rfl) (hf_c1 235 rfl rfl) (hf_cp (q := (yX4_noRow, 9)) (by decide +kernel)) (hf_c1 1 rfl rfl) (hf_c1 236 rfl rfl) (by decide) ⟨rfl, by decide +kernel⟩
theorem lk_RX4_96 : hf_kv RX4 96 yX2_has cX2_has 2 (some .boolean) RX2 1 := hf_kv_of (hf_c2 5 rfl rfl) (hf_c2 6 rfl rfl) (hf_c2 7 rfl rfl) (hf_c1 5 rfl rfl) (hf_c2 8 rfl rfl) (by decide) ⟨rfl, by decide +kernel⟩
theorem lk_RX4_99 : hf_kv RX4 99 yX2_put cX2_put 4 (none) RX2 2 := hf_kv_of (hf_c2 10 rfl rfl) (hf_c2 11 rfl rfl) (hf_c2 12 rfl rfl) (hf_c1 5 rfl rfl) (hf_c2 13 rfl rfl) (by decide) ⟨rfl, by decide +kernel⟩
theorem lg_RX4_110 : hf_gx RX4 110 2 0 2 := ⟨3, RX2, TX2, ⟨rfl, by decide, by decide, rfl, by decide⟩, hin_X2, Or.inr ⟨"HalfOfItFalse", by decide +kernel⟩, rfl⟩
theorem lg_RX4_103 : hf_gx RX4 103 2 1 0 := ⟨3, RX2, TX2, ⟨rfl, by decide, by decide, rfl, by decide⟩, hin_X2, Or.inr ⟨"HalfOfItFalse", by decide +kernel⟩, rfl⟩
theorem lk_RX4_106 : hf_kv RX4 106 yX2_hasPart cX2_hasPart 3 (some .boolean) RX2 2 := hf_kv_of (hf_c2 18 rfl rfl) (hf_c2 19 rfl rfl) (hf_c2 20 rfl rfl) (hf_c1 5 rfl rfl) (hf_c2 21 rfl rfl) (by decide) ⟨rfl, by decide +kernel⟩
theorem lg_RX4_10 : hf_gx RX4 10 4 0 2 := ⟨9, RX4, TX4, ⟨rfl, by decide, by decide, rfl, by decide⟩, hin_X4, Or.inl (hf_c1 176 rfl rfl), rfl⟩
theorem lp_RX4_103 : hf_px RX4 103 2 1 0 .int := ⟨3, RX2, TX2, tyX2, ⟨rfl, by decide, by decide, rfl, by decide⟩, hin_X2, Or.inr ⟨"HalfOfItFalse", by decide +kernel⟩, rfl, tyX2_ok, nmX2, rfl, rfl⟩
theorem lk_RX4_119 : hf_kv RX4 119 yX3_isSpeaker cX3_isSpeaker 2 (some .boolean) RX3 1 := hf_kv_of (hf_c2 33 rfl rfl) (hf_c2 34 rfl rfl) (hf_c2 35 rfl rfl) (hf_c1 2 rfl rfl) (hf_c2 36 rfl rfl) (by decide) ⟨rfl, by decide +kernel⟩
theorem lg_RX4_121 : hf_gx RX4 121 3 1 2 := ⟨17, RX3, TX3, ⟨rfl, by decide, by decide, rfl, by decide⟩, hin_X3, Or.inr ⟨"HalfOfItFalse", by decide +kernel⟩, rfl⟩
theorem lg_RX4_127 : hf_gx RX4 127 3 3 2 := ⟨17, RX3, TX3, ⟨rfl, by decide, by decide, rfl, by decide⟩, hin_X3, Or.inr ⟨"HalfOfItFalse", by decide +kernel⟩, rfl⟩
theorem lk_RX4_124 : hf_ks RX4 124 yX4_isUnder cX4_isUnder 4 (some .boolean) 2 := ⟨⟨Or.inl (hf_c2 48 rfl rfl), hf_c2 49 rfl rfl, hf_c1 1 rfl rfl, hf_c2 50 rfl rfl, by decide⟩, by decide +kernel⟩
theorem lk_RX4_130 : hf_kv RX4 130 yX3_mustBeTrue cX3_mustBeTrue 3 (some .boolean) RX3 2 := hf_kv_of (hf_c2 53 rfl rfl) (hf_c2 54 rfl rfl) (hf_c2 55 rfl rfl) (hf_c1 2 rfl rfl) (hf_c2 56 rfl rfl) (by decide) ⟨rfl, by decide +kernel⟩
theorem lg_RX4_133 : hf_gx RX4 133 3 8 0 := ⟨17, RX3, TX3, ⟨rfl, by decide, by decide, rfl, by decide⟩, hin_X3, Or.inr ⟨"HalfOfItFalse", by decide +kernel⟩, rfl⟩
theorem lk_RX4_136 : hf_kv RX4 136 yX3_addFact cX3_addFact 2 (none) RX3 1 := hf_kv_of (hf_c2 65 rfl rfl) (hf_c2 66 rfl rfl) (hf_c2 67 rfl rfl) (hf_c1 2 rfl rfl) (hf_c2 68 rfl rfl) (by decide) ⟨rfl, by decide +kernel⟩
theorem lg_RX4_140 : hf_gx RX4 140 3 9 0 := ⟨17, RX3, TX3, ⟨rfl, by decide, by decide, rfl, by decide⟩, hin_X3, Or.inr ⟨"HalfOfItFalse", by decide +kernel⟩, rfl⟩
theorem lk_RX4_143 : hf_kv RX4 143 yX3_addSpeaker cX3_addSpeaker 3 (none) RX3 2 := hf_kv_of (hf_c2 73 rfl rfl) (hf_c2 74 rfl rfl) (hf_c2 75 rfl rfl) (hf_c1 2 rfl rfl) (hf_c2 76 rfl rfl) (by decide) ⟨rfl, by decide +kernel⟩
theorem lg_RX4_146 : hf_gx RX4 146 3 10 0 := ⟨17, RX3, TX3, ⟨rfl, by decide, by decide, rfl, by decide⟩, hin_X3, Or.inr ⟨"HalfOfItFalse", by decide +kernel⟩, rfl⟩
theorem lg_RX4_149 : hf_gx RX4 149 3 12 0 := ⟨17, RX3, TX3, ⟨rfl, by decide, by decide, rfl, by decide⟩, hin_X3, Or.inr ⟨"HalfOfItFalse", by decide +kernel⟩, rfl⟩
theorem lg_RX4_152 : hf_gx RX4 152 3 13 0 := ⟨17, RX3, TX3, ⟨rfl, by decide, by decide, rfl, by decide⟩, hin_X3, Or.inr ⟨"HalfOfItFalse", by decide +kernel⟩, rfl⟩
theorem lp_RX4_149 : hf_px RX4 149 3 12 0 .int := ⟨17, RX3, TX3, tyX3, ⟨rfl, by decide, by decide, rfl, by decide⟩, hin_X3, Or.inr ⟨"HalfOfItFalse", by decide +kernel⟩, rfl, tyX3_ok, nmX3, rfl, rfl⟩
theorem lp_RX4_152 : hf_px RX4 152 3 13 0 .int := ⟨17, RX3, TX3, tyX3, ⟨rfl, by decide, by decide, rfl, by decide⟩, hin_X3, Or.inr ⟨"HalfOfItFalse", by decide +kernel⟩, rfl, tyX3_ok, nmX3, rfl, rfl⟩
theorem lg_RX4_155 : hf_gx RX4 155 3 2 2 := ⟨17, RX3, TX3, ⟨rfl, by decide, by decide, rfl, by decide⟩, hin_X3, Or.inr ⟨"HalfOfItFalse", by decide +kernel⟩, rfl⟩
theorem lg_RX4_161 : hf_gx RX4 161 3 0 2 := ⟨17, RX3, TX3, ⟨rfl, by decide, by decide, rfl, by decide⟩, hin_X3, Or.inr ⟨"HalfOfItFalse", by decide +kernel⟩, rfl⟩
theorem lk_RX4_158 : hf_kv RX4 158 yX3_isFact cX3_isFact 2 (some .boolean) RX3 1 := hf_kv_of (hf_c2 89 rfl rfl) (hf_c2 90 rfl rfl) (hf_c2 91 rfl rfl) (hf_c1 2 rfl rfl) (hf_c2 92 rfl rfl) (by decide) ⟨rfl, by decide +kernel⟩
theorem lk_RX4_164 : hf_kv RX4 164 yX3_isFull cX3_isFull 2 (some .boolean) RX3 1 := hf_kv_of (hf_c2 97 rfl rfl) (hf_c2 98 rfl rfl) (hf_c2 99 rfl rfl) (hf_c1 2 rfl rfl) (hf_c2 100 rfl rfl) (by decide) ⟨rfl, by decide +kernel⟩
theorem lk_RX4_167 : hf_kv RX4 167 yX3_possible cX3_possible 6 (some .long) RX3 1 := hf_kv_of (hf_c2 102 rfl rfl) (hf_c2 103 rfl rfl) (hf_c2 104 rfl rfl) (hf_c1 2 rfl rfl) (hf_c2 105 rfl rfl) (by decide) ⟨rfl, by decide +kernel⟩
theorem lk_RX4_171 : hf_kv RX4 171 yX3_after cX3_after 8 (some .long) RX3 4 := hf_kv_of (hf_c2 131 rfl rfl) (hf_c2 132 rfl rfl) (hf_c2 133 rfl rfl) (hf_c1 2 rfl rfl) (hf_c2 134 rfl rfl) (by decide) ⟨rfl, by decide +kernel⟩
theorem lk_RX4_175 : hf_kv RX4 175 yX3_put cX3_put 4 (none) RX3 3 := hf_kv_of (hf_c2 152 rfl rfl) (hf_c2 136 rfl rfl) (hf_c2 137 rfl rfl) (hf_c1 2 rfl rfl) (hf_c2 138 rfl rfl) (by decide) ⟨rfl, by decide +kernel⟩
theorem lk_RX4_178 : hf_ks RX4 178 yJ13_bitCount_95d88 cJ13_bitCount_95d88 2 (some .int) 1 := ⟨⟨Or.inl (hf_c2 153 rfl rfl), hf_c2 154 rfl rfl, hf_c1 9 rfl rfl, hf_c2 155 rfl rfl, by decide⟩, by decide +kernel⟩
theorem lk_RX4_184 : hf_kv RX4 184 yX3_takeBack cX3_takeBack 1 (none) RX3 0 := hf_kv_of (hf_c2 163 rfl rfl) (hf_c2 149 rfl rfl) (hf_c2 150 rfl rfl) (hf_c1 2 rfl rfl) (hf_c2 151 rfl rfl) (by decide) ⟨rfl, by decide +kernel⟩
theorem lg_RX4_187 : hf_gx RX4 187 3 6 2 := ⟨17, RX3, TX3, ⟨rfl, by decide, by decide, rfl, by decide⟩, hin_X3, Or.inr ⟨"HalfOfItFalse", by decide +kernel⟩, rfl⟩
theorem lg_RX4_198 : hf_gx RX4 198 3 11 1 := ⟨17, RX3, TX3, ⟨rfl, by decide, by decide, rfl, by decide⟩, hin_X3, Or.inr ⟨"HalfOfItFalse", by decide +kernel⟩, rfl⟩
theorem lk_RX4_190 : hf_ks RX4 190 yX4_truthOf cX4_truthOf 2 (some .long) 2 := ⟨⟨Or.inl (hf_c2 172 rfl rfl), hf_c2 140 rfl rfl, hf_c1 1 rfl rfl, hf_c2 141 rfl rfl, by decide⟩, by decide +kernel⟩
theorem lk_RX4_194 : hf_kv RX4 194 yX3_learn cX3_learn 3 (none) RX3 2 := hf_kv_of (hf_c2 173 rfl rfl) (hf_c2 174 rfl rfl) (hf_c2 175 rfl rfl) (hf_c1 2 rfl rfl) (hf_c2 176 rfl rfl) (by decide) ⟨rfl, by decide +kernel⟩
theorem lg_RX4_19 : hf_gx RX4 19 4 2 2 := ⟨9, RX4, TX4, ⟨rfl, by decide, by decide, rfl, by decide⟩, hin_X4, Or.inl (hf_c1 178 rfl rfl), rfl⟩
theorem lg_RX4_31 : hf_gx RX4 31 4 4 2 := ⟨9, RX4, TX4, ⟨rfl, by decide, by decide, rfl, by decide⟩, hin_X4, Or.inl (hf_c1 180 rfl rfl), rfl⟩
theorem lg_RX4_50 : hf_gx RX4 50 4 8 0 := ⟨9, RX4, TX4, ⟨rfl, by decide, by decide, rfl, by decide⟩, hin_X4, Or.inl (hf_c1 184 rfl rfl), rfl⟩
theorem lg_RX4_210 : hf_gx RX4 210 1 4 0 := ⟨7, RX1, TX1, ⟨rfl, by decide, by decide, rfl, by decide⟩, hin_X1, Or.inr ⟨"HalfOfItFalse", by decide +kernel⟩, rfl⟩
theorem lk_RX4_202 : hf_kv RX4 202 yX3_takeOver cX3_takeOver 2 (none) RX3 1 := hf_kv_of (hf_c2 181 rfl rfl) (hf_c2 182 rfl rfl) (hf_c2 183 rfl rfl) (hf_c1 2 rfl rfl) (hf_c2 184 rfl rfl) (by decide) ⟨rfl, by decide +kernel⟩
theorem lk_RX4_206 : hf_kv RX4 206 yX1_read cX1_read 5 (some .int) RX1 2 := hf_kv_of (hf_c2 186 rfl rfl) (hf_c2 187 rfl rfl) (hf_c2 188 rfl rfl) (hf_c1 3 rfl rfl) (hf_c2 189 rfl rfl) (by decide) ⟨rfl, by decide +kernel⟩
theorem lp_RX4_50 : hf_px RX4 50 4 8 0 .int := ⟨9, RX4, TX4, tyX4, ⟨rfl, by decide, by decide, rfl, by decide⟩, hin_X4, Or.inl (hf_c1 184 rfl rfl), rfl, tyX4_ok, nmX4, rfl, rfl⟩
theorem lk_RX4_213 : hf_kv RX4 213 yX3_isWorld cX3_isWorld 2 (some .boolean) RX3 1 := hf_kv_of (hf_c3 73 rfl rfl) (hf_c3 74 rfl rfl) (hf_c3 75 rfl rfl) (hf_c1 2 rfl rfl) (hf_c3 76 rfl rfl) (by decide) ⟨rfl, by decide +kernel⟩
theorem lk_RX4_216 : hf_kv RX4 216 yX3_allowed cX3_allowed 7 (some .long) RX3 2 := hf_kv_of (hf_c3 77 rfl rfl) (hf_c2 107 rfl rfl) (hf_c2 108 rfl rfl) (hf_c1 2 rfl rfl) (hf_c2 109 rfl rfl) (by decide) ⟨rfl, by decide +kernel⟩
theorem lk_RX4_220 : hf_ks RX4 220 yX4_bit cX4_bit 3 (some .int) 2 := ⟨⟨Or.inl (hf_c3 78 rfl rfl), hf_c3 79 rfl rfl, hf_c1 1 rfl rfl, hf_c3 80 rfl rfl, by decide⟩, by decide +kernel⟩
theorem lk_RX4_224 : hf_ks RX4 224 yX4_isAny cX4_isAny 2 (some .int) 1 := ⟨⟨Or.inl (hf_c3 85 rfl rfl), hf_c3 86 rfl rfl, hf_c1 1 rfl rfl, hf_c3 87 rfl rfl, by decide⟩, by decide +kernel⟩
theorem lk_RX4_227 : hf_ks RX4 227 yX4_surety cX4_surety 5 (some .int) 2 := ⟨⟨Or.inl (hf_c3 100 rfl rfl), hf_c3 101 rfl rfl, hf_c1 1 rfl rfl, hf_c3 102 rfl rfl, by decide⟩, by decide +kernel⟩
theorem lk_RX4_230 : hf_ks RX4 230 yJ6_bitCount_0f7a4 cJ6_bitCount_0f7a4 1 (some .int) 1 := ⟨⟨Or.inl (hf_c3 115 rfl rfl), hf_c3 116 rfl rfl, hf_c1 14 rfl rfl, hf_c3 117 rfl rfl, by decide⟩, by decide +kernel⟩
theorem lk_RX4_234 : hf_kv RX4 234 yX4_worstOf cX4_worstOf 7 (some .int) RX4 3 := hf_kv_of (hf_c3 125 rfl rfl) (hf_c3 127 rfl rfl) (hf_cp (q := (yX4_worstOf, 9)) (by decide +kernel)) (hf_c1 1 rfl rfl) (hf_c3 128 rfl rfl) (by decide) ⟨rfl, by decide +kernel⟩
theorem lk_RX4_243 : hf_kv RX4 243 yX4_isKnownIn cX4_isKnownIn 7 (some .boolean) RX4 3 := hf_kv_of (hf_c3 138 rfl rfl) (hf_c3 140 rfl rfl) (hf_cp (q := (yX4_isKnownIn, 9)) (by decide +kernel)) (hf_c1 1 rfl rfl) (hf_c3 141 rfl rfl) (by decide) ⟨rfl, by decide +kernel⟩
theorem lk_RX4_247 : hf_kv RX4 247 yX4_leavesKnown cX4_leavesKnown 11 (some .boolean) RX4 6 := hf_kv_of (hf_c3 142 rfl rfl) (hf_c3 144 rfl rfl) (hf_cp (q := (yX4_leavesKnown, 9)) (by decide +kernel)) (hf_c1 1 rfl rfl) (hf_c3 145 rfl rfl) (by decide) ⟨rfl, by decide +kernel⟩
theorem lk_RX4_251 : hf_kv RX4 251 yX3_lawfulRows cX3_lawfulRows 6 (some .int) RX3 2 := hf_kv_of (hf_c3 154 rfl rfl) (hf_c3 155 rfl rfl) (hf_c3 156 rfl rfl) (hf_c1 2 rfl rfl) (hf_c3 157 rfl rfl) (by decide) ⟨rfl, by decide +kernel⟩
theorem lg_RX4_261 : hf_gx RX4 261 2 2 0 := ⟨3, RX2, TX2, ⟨rfl, by decide, by decide, rfl, by decide⟩, hin_X2, Or.inr ⟨"HalfOfItFalse", by decide +kernel⟩, rfl⟩
theorem lk_RX4_264 : hf_kv RX4 264 yX2_asInt cX2_asInt 2 (some .int) RX2 1 := hf_kv_of (hf_c3 178 rfl rfl) (hf_c2 199 rfl rfl) (hf_c2 200 rfl rfl) (hf_c1 5 rfl rfl) (hf_c2 201 rfl rfl) (by decide) ⟨rfl, by decide +kernel⟩
theorem lk_RX4_267 : hf_kv RX4 267 yX4_leastHarmful cX4_leastHarmful 7 (some .int) RX4 2 := hf_kv_of (hf_c3 174 rfl rfl) (hf_c3 176 rfl rfl) (hf_cp (q := (yX4_leastHarmful, 9)) (by decide +kernel)) (hf_c1 1 rfl rfl) (hf_c3 177 rfl rfl) (by decide) ⟨rfl, by decide +kernel⟩
theorem lk_RX4_254 : hf_kv RX4 254 yX4_noErrands cX4_noErrands 4 (some .int) RX4 2 := hf_kv_of (hf_c3 166 rfl rfl) (hf_c3 168 rfl rfl) (hf_cp (q := (yX4_noErrands, 9)) (by decide +kernel)) (hf_c1 1 rfl rfl) (hf_c3 169 rfl rfl) (by decide) ⟨rfl, by decide +kernel⟩
theorem lk_RX4_257 : hf_kv RX4 257 yX4_liesPlaced cX4_liesPlaced 7 (some .int) RX4 2 := hf_kv_of (hf_c3 170 rfl rfl) (hf_c3 172 rfl rfl) (hf_cp (q := (yX4_liesPlaced, 9)) (by decide +kernel)) (hf_c1 1 rfl rfl) (hf_c3 173 rfl rfl) (by decide) ⟨rfl, by decide +kernel⟩
theorem lk_RX4_272 : hf_kv RX4 272 yX3_isFree cX3_isFree 2 (some .boolean) RX3 1 := hf_kv_of (hf_c3 189 rfl rfl) (hf_c3 190 rfl rfl) (hf_c3 191 rfl rfl) (hf_c1 2 rfl rfl) (hf_c3 192 rfl rfl) (by decide) ⟨rfl, by decide +kernel⟩
theorem lk_RX4_275 : hf_kv RX4 275 yX3_allowedNext cX3_allowedNext 5 (some .long) RX3 2 := hf_kv_of (hf_c3 193 rfl rfl) (hf_c3 194 rfl rfl) (hf_c3 195 rfl rfl) (hf_c1 2 rfl rfl) (hf_c3 196 rfl rfl) (by decide) ⟨rfl, by decide +kernel⟩
theorem lk_RX4_278 : hf_kv RX4 278 yX3_possibleWithout cX3_possibleWithout 5 (some .long) RX3 1 := hf_kv_of (hf_c3 201 rfl rfl) (hf_c3 202 rfl rfl) (hf_c3 203 rfl rfl) (hf_c1 2 rfl rfl) (hf_c3 204 rfl rfl) (by decide) ⟨rfl, by decide +kernel⟩
theorem lk_RX4_282 : hf_kv RX4 282 yX4_toldAfter cX4_toldAfter 7 (some .long) RX4 2 := hf_kv_of (hf_c3 209 rfl rfl) (hf_c3 211 rfl rfl) (hf_cp (q := (yX4_toldAfter, 9)) (by decide +kernel)) (hf_c1 1 rfl rfl) (hf_c3 212 rfl rfl) (by decide) ⟨rfl, by decide +kernel⟩
theorem lg_RX4_288 : hf_gx RX4 288 3 14 0 := ⟨17, RX3, TX3, ⟨rfl, by decide, by decide, rfl, by decide⟩, hin_X3, Or.inr ⟨"HalfOfItFalse", by decide +kernel⟩, rfl⟩
theorem lp_RX4_198 : hf_px RX4 198 3 11 1 .long := ⟨17, RX3, TX3, tyX3, ⟨rfl, by decide, by decide, rfl, by decide⟩, hin_X3, Or.inr ⟨"HalfOfItFalse", by decide +kernel⟩, rfl, tyX3_ok, nmX3, rfl, rfl⟩
theorem lk_RX4_285 : hf_kv RX4 285 yX3_forgetSayings cX3_forgetSayings 2 (none) RX3 0 := hf_kv_of (hf_c3 217 rfl rfl) (hf_c3 218 rfl rfl) (hf_c3 219 rfl rfl) (hf_c1 2 rfl rfl) (hf_c3 220 rfl rfl) (by decide) ⟨rfl, by decide +kernel⟩
theorem lp_RX4_288 : hf_px RX4 288 3 14 0 .int := ⟨17, RX3, TX3, tyX3, ⟨rfl, by decide, by decide, rfl, by decide⟩, hin_X3, Or.inr ⟨"HalfOfItFalse", by decide +kernel⟩, rfl, tyX3_ok, nmX3, rfl, rfl⟩
theorem lp_RX4_294 : hf_px RX4 294 3 16 0 .int := ⟨17, RX3, TX3, tyX3, ⟨rfl, by decide, by decide, rfl, by decide⟩, hin_X3, Or.inr ⟨"HalfOfItFalse", by decide +kernel⟩, rfl, tyX3_ok, nmX3, rfl, rfl⟩
theorem lk_RX4_291 : hf_kv RX4 291 yX3_drawBelow cX3_drawBelow 2 (some .int) RX3 1 := hf_kv_of (hf_c3 225 rfl rfl) (hf_c3 226 rfl rfl) (hf_c3 227 rfl rfl) (hf_c1 2 rfl rfl) (hf_c3 228 rfl rfl) (by decide) ⟨rfl, by decide +kernel⟩
theorem lg_RX4_294 : hf_gx RX4 294 3 16 0 := ⟨17, RX3, TX3, ⟨rfl, by decide, by decide, rfl, by decide⟩, hin_X3, Or.inr ⟨"HalfOfItFalse", by decide +kernel⟩, rfl⟩
theorem lg_RX4_297 : hf_gx RX4 297 3 15 0 := ⟨17, RX3, TX3, ⟨rfl, by decide, by decide, rfl, by decide⟩, hin_X3, Or.inr ⟨"HalfOfItFalse", by decide +kernel⟩, rfl⟩
theorem lk_RX4_300 : hf_kv RX4 300 yX4_truthInTruth cX4_truthInTruth 4 (some .int) RX4 1 := hf_kv_of (hf_c3 234 rfl rfl) (hf_c3 236 rfl rfl) (hf_cp (q := (yX4_truthInTruth, 9)) (by decide +kernel)) (hf_c1 1 rfl rfl) (hf_c3 237 rfl rfl) (by decide) ⟨rfl, by decide +kernel⟩
theorem lp_RX4_297 : hf_px RX4 297 3 15 0 .int := ⟨17, RX3, TX3, tyX3, ⟨rfl, by decide, by decide, rfl, by decide⟩, hin_X3, Or.inr ⟨"HalfOfItFalse", by decide +kernel⟩, rfl, tyX3_ok, nmX3, rfl, rfl⟩
theorem lg_RX4_38 : hf_gx RX4 38 4 5 2 := ⟨9, RX4, TX4, ⟨rfl, by decide, by decide, rfl, by decide⟩, hin_X4, Or.inl (hf_c1 181 rfl rfl), rfl⟩
theorem lk_RX4_303 : hf_kv RX4 303 yX0_begin cX0_begin 1 (none) RX0 0 := hf_kv_of (hf_c4 10 rfl rfl) (hf_c4 11 rfl rfl) (hf_c4 12 rfl rfl) (hf_c1 4 rfl rfl) (hf_c4 13 rfl rfl) (by decide) ⟨rfl, by decide +kernel⟩
theorem lk_RX4_306 : hf_kv RX4 306 yX0_perform cX0_perform 6 (some .int) RX0 5 := hf_kv_of (hf_c4 14 rfl rfl) (hf_c4 15 rfl rfl) (hf_c4 16 rfl rfl) (hf_c1 4 rfl rfl) (hf_c4 17 rfl rfl) (by decide) ⟨rfl, by decide +kernel⟩
theorem lg_RX4_310 : hf_gx RX4 310 0 1 0 := ⟨5, RX0, TX0, ⟨rfl, by decide, by decide, rfl, by decide⟩, hin_X0, Or.inr ⟨"HalfOfItFalse", by decide +kernel⟩, rfl⟩
theorem lg_RX4_313 : hf_gx RX4 313 0 0 2 := ⟨5, RX0, TX0, ⟨rfl, by decide, by decide, rfl, by decide⟩, hin_X0, Or.inr ⟨"HalfOfItFalse", by decide +kernel⟩, rfl⟩
theorem lg_RX4_16 : hf_gx RX4 16 4 1 2 := ⟨9, RX4, TX4, ⟨rfl, by decide, by decide, rfl, by decide⟩, hin_X4, Or.inl (hf_c1 177 rfl rfl), rfl⟩
theorem lp_RX4_46 : hf_px RX4 46 4 7 0 .boolean := ⟨9, RX4, TX4, tyX4, ⟨rfl, by decide, by decide, rfl, by decide⟩, hin_X4, Or.inl (hf_c1 183 rfl rfl), rfl, tyX4_ok, nmX4, rfl, rfl⟩
theorem lg_RX4_46 : hf_gx RX4 46 4 7 0 := ⟨9, RX4, TX4, ⟨rfl, by decide, by decide, rfl, by decide⟩, hin_X4, Or.inl (hf_c1 183 rfl rfl), rfl⟩
theorem lg_RX5_29 : hf_gx RX5 29 5 10 2 := ⟨38, RX5, TX5, ⟨rfl, by decide, by decide, rfl, by decide⟩, hin_X5, Or.inl (hf_c4 69 rfl rfl), rfl⟩
theorem lg_RX5_89 : hf_gx RX5 89 5 0 0 := ⟨38, RX5, TX5, ⟨rfl, by decide, by decide, rfl, by decide⟩, hin_X5, Or.inl (hf_c4 59 rfl rfl), rfl⟩
theorem lg_RX5_92 : hf_gx RX5 92 5 1 0 := ⟨38, RX5, TX5, ⟨rfl, by decide, by decide, rfl, by decide⟩, hin_X5, Or.inl (hf_c4 60 rfl rfl), rfl⟩
theorem lg_RX5_51 : hf_gx RX5 51 5 17 2 := ⟨38, RX5, TX5, ⟨rfl, by decide, by decide, rfl, by decide⟩, hin_X5, Or.inl (hf_c4 76 rfl rfl), rfl⟩
theorem lg_RX5_54 : hf_gx RX5 54 5 18 2 := ⟨38, RX5, TX5, ⟨rfl, by decide, by decide, rfl, by decide⟩, hin_X5, Or.inl (hf_c4 77 rfl rfl), rfl⟩
theorem lg_RX5_57 : hf_gx RX5 57 5 19 2 := ⟨38, RX5, TX5, ⟨rfl, by decide, by decide, rfl, by decide⟩, hin_X5, Or.inl (hf_c4 78 rfl rfl), rfl⟩
theorem lg_RX5_63 : hf_gx RX5 63 5 21 2 := ⟨38, RX5, TX5, ⟨rfl, by decide, by decide, rfl, by decide⟩, hin_X5, Or.inl (hf_c4 80 rfl rfl), rfl⟩
theorem lk_RX5_95 : hf_kv RX5 95 yX5_isShelf cX5_isShelf 2 (some .boolean) RX5 1 := hf_kv_of (hf_c4 178 rfl rfl) (hf_c4 180 rfl rfl) (hf_cp (q := (yX5_isShelf, 38)) (by decide +kernel)) (hf_c1 6 rfl rfl) (hf_c4 181 rfl rfl) (by decide) ⟨rfl, by decide +kernel⟩
theorem lk_RX5_99 : hf_kv RX5 99 yX5_no cX5_no 2 (some .int) RX5 1 := hf_kv_of (hf_c4 182 rfl rfl) (hf_c4 184 rfl rfl) (hf_cp (q := (yX5_no, 38)) (by decide +kernel)) (hf_c1 6 rfl rfl) (hf_c4 185 rfl rfl) (by decide) ⟨rfl, by decide +kernel⟩
theorem lg_RX5_67 : hf_gx RX5 67 5 22 2 := ⟨38, RX5, TX5, ⟨rfl, by decide, by decide, rfl, by decide⟩, hin_X5, Or.inl (hf_c4 81 rfl rfl), rfl⟩
theorem lg_RX5_60 : hf_gx RX5 60 5 20 2 := ⟨38, RX5, TX5, ⟨rfl, by decide, by decide, rfl, by decide⟩, hin_X5, Or.inl (hf_c4 79 rfl rfl), rfl⟩
theorem lk_RX5_103 : hf_kv RX5 103 yX5_isSpeaker cX5_isSpeaker 2 (some .boolean) RX5 1 := hf_kv_of (hf_c4 202 rfl rfl) (hf_c4 204 rfl rfl) (hf_cp (q := (yX5_isSpeaker, 38)) (by decide +kernel)) (hf_c1 6 rfl rfl) (hf_c4 205 rfl rfl) (by decide) ⟨rfl, by decide +kernel⟩
theorem lg_RX5_36 : hf_gx RX5 36 5 12 2 := ⟨38, RX5, TX5, ⟨rfl, by decide, by decide, rfl, by decide⟩, hin_X5, Or.inl (hf_c4 71 rfl rfl), rfl⟩
theorem lg_RX5_13 : hf_gx RX5 13 5 4 0 := ⟨38, RX5, TX5, ⟨rfl, by decide, by decide, rfl, by decide⟩, hin_X5, Or.inl (hf_c4 63 rfl rfl), rfl⟩
theorem lg_RX5_7 : hf_gx RX5 7 5 3 0 := ⟨38, RX5, TX5, ⟨rfl, by decide, by decide, rfl, by decide⟩, hin_X5, Or.inl (hf_c4 62 rfl rfl), rfl⟩
theorem lg_RX5_39 : hf_gx RX5 39 5 13 2 := ⟨38, RX5, TX5, ⟨rfl, by decide, by decide, rfl, by decide⟩, hin_X5, Or.inl (hf_c4 72 rfl rfl), rfl⟩
theorem lg_RX5_118 : hf_gx RX5 118 5 2 0 := ⟨38, RX5, TX5, ⟨rfl, by decide, by decide, rfl, by decide⟩, hin_X5, Or.inl (hf_c4 61 rfl rfl), rfl⟩
theorem lg_RX5_42 : hf_gx RX5 42 5 14 2 := ⟨38, RX5, TX5, ⟨rfl, by decide, by decide, rfl, by decide⟩, hin_X5, Or.inl (hf_c4 73 rfl rfl), rfl⟩
theorem lk_RX5_106 : hf_kv RX5 106 yX5_saidBy cX5_saidBy 4 (some .int) RX5 1 := hf_kv_of (hf_c4 214 rfl rfl) (hf_c4 216 rfl rfl) (hf_cp (q := (yX5_saidBy, 38)) (by decide +kernel)) (hf_c1 6 rfl rfl) (hf_c4 217 rfl rfl) (by decide) ⟨rfl, by decide +kernel⟩
theorem lk_RX5_109 : hf_kv RX5 109 yX5_isTrue cX5_isTrue 3 (some .boolean) RX5 2 := hf_kv_of (hf_c4 218 rfl rfl) (hf_c4 220 rfl rfl) (hf_cp (q := (yX5_isTrue, 38)) (by decide +kernel)) (hf_c1 6 rfl rfl) (hf_c4 221 rfl rfl) (by decide) ⟨rfl, by decide +kernel⟩
theorem lg_RX5_33 : hf_gx RX5 33 5 11 2 := ⟨38, RX5, TX5, ⟨rfl, by decide, by decide, rfl, by decide⟩, hin_X5, Or.inl (hf_c4 70 rfl rfl), rfl⟩
theorem lg_RX5_25 : hf_gx RX5 25 5 9 1 := ⟨38, RX5, TX5, ⟨rfl, by decide, by decide, rfl, by decide⟩, hin_X5, Or.inl (hf_c4 68 rfl rfl), rfl⟩
theorem lp_RX5_25 : hf_px RX5 25 5 9 1 .long := ⟨38, RX5, TX5, tyX5, ⟨rfl, by decide, by decide, rfl, by decide⟩, hin_X5, Or.inl (hf_c4 68 rfl rfl), rfl, tyX5_ok, nmX5, rfl, rfl⟩
theorem lp_RX5_89 : hf_px RX5 89 5 0 0 .int := ⟨38, RX5, TX5, tyX5, ⟨rfl, by decide, by decide, rfl, by decide⟩, hin_X5, Or.inl (hf_c4 59 rfl rfl), rfl, tyX5_ok, nmX5, rfl, rfl⟩
theorem lk_RX5_113 : hf_kv RX5 113 yX5_facts cX5_facts 2 (some .int) RX5 1 := hf_kv_of (hf_c4 226 rfl rfl) (hf_c4 228 rfl rfl) (hf_cp (q := (yX5_facts, 38)) (by decide +kernel)) (hf_c1 6 rfl rfl) (hf_c4 229 rfl rfl) (by decide) ⟨rfl, by decide +kernel⟩
theorem lp_RX5_92 : hf_px RX5 92 5 1 0 .int := ⟨38, RX5, TX5, tyX5, ⟨rfl, by decide, by decide, rfl, by decide⟩, hin_X5, Or.inl (hf_c4 60 rfl rfl), rfl, tyX5_ok, nmX5, rfl, rfl⟩
theorem lk_RX5_115 : hf_kv RX5 115 yX5_speakers cX5_speakers 3 (some .int) RX5 2 := hf_kv_of (hf_c4 234 rfl rfl) (hf_c4 236 rfl rfl) (hf_cp (q := (yX5_speakers, 38)) (by decide +kernel)) (hf_c1 6 rfl rfl) (hf_c4 237 rfl rfl) (by decide) ⟨rfl, by decide +kernel⟩
theorem lp_RX5_7 : hf_px RX5 7 5 3 0 .int := ⟨38, RX5, TX5, tyX5, ⟨rfl, by decide, by decide, rfl, by decide⟩, hin_X5, Or.inl (hf_c4 62 rfl rfl), rfl, tyX5_ok, nmX5, rfl, rfl⟩
theorem lp_RX5_13 : hf_px RX5 13 5 4 0 .int := ⟨38, RX5, TX5, tyX5, ⟨rfl, by decide, by decide, rfl, by decide⟩, hin_X5, Or.inl (hf_c4 63 rfl rfl), rfl, tyX5_ok, nmX5, rfl, rfl⟩
theorem lk_RX5_121 : hf_kv RX5 121 yX5_isFact cX5_isFact 2 (some .boolean) RX5 1 := hf_kv_of (hf_c5 10 rfl rfl) (hf_c5 12 rfl rfl) (hf_cp (q := (yX5_isFact, 38)) (by decide +kernel)) (hf_c1 6 rfl rfl) (hf_c5 13 rfl rfl) (by decide) ⟨rfl, by decide +kernel⟩
theorem lg_RX5_45 : hf_gx RX5 45 5 15 2 := ⟨38, RX5, TX5, ⟨rfl, by decide, by decide, rfl, by decide⟩, hin_X5, Or.inl (hf_c4 74 rfl rfl), rfl⟩
theorem lg_RX5_48 : hf_gx RX5 48 5 16 2 := ⟨38, RX5, TX5, ⟨rfl, by decide, by decide, rfl, by decide⟩, hin_X5, Or.inl (hf_c4 75 rfl rfl), rfl⟩
theorem lk_RX5_127 : hf_kv RX5 127 yX5_isFree cX5_isFree 2 (some .boolean) RX5 1 := hf_kv_of (hf_c5 46 rfl rfl) (hf_c5 48 rfl rfl) (hf_cp (q := (yX5_isFree, 38)) (by decide +kernel)) (hf_c1 6 rfl rfl) (hf_c5 49 rfl rfl) (by decide) ⟨rfl, by decide +kernel⟩
theorem lk_RX5_124 : hf_kv RX5 124 yX5_isSo cX5_isSo 3 (some .boolean) RX5 2 := hf_kv_of (hf_c5 42 rfl rfl) (hf_c5 44 rfl rfl) (hf_cp (q := (yX5_isSo, 38)) (by decide +kernel)) (hf_c1 6 rfl rfl) (hf_c5 45 rfl rfl) (by decide) ⟨rfl, by decide +kernel⟩
theorem lk_RX5_130 : hf_kv RX5 130 yX5_canBeOf cX5_canBeOf 12 (some .boolean) RX5 3 := hf_kv_of (hf_c5 38 rfl rfl) (hf_c5 40 rfl rfl) (hf_cp (q := (yX5_canBeOf, 38)) (by decide +kernel)) (hf_c1 6 rfl rfl) (hf_c5 41 rfl rfl) (by decide) ⟨rfl, by decide +kernel⟩
theorem lk_RX5_134 : hf_kv RX5 134 yX5_worldsOf cX5_worldsOf 8 (some .long) RX5 2 := hf_kv_of (hf_c5 34 rfl rfl) (hf_c5 36 rfl rfl) (hf_cp (q := (yX5_worldsOf, 38)) (by decide +kernel)) (hf_c1 6 rfl rfl) (hf_c5 37 rfl rfl) (by decide) ⟨rfl, by decide +kernel⟩
theorem lp_RX5_118 : hf_px RX5 118 5 2 0 .int := ⟨38, RX5, TX5, tyX5, ⟨rfl, by decide, by decide, rfl, by decide⟩, hin_X5, Or.inl (hf_c4 61 rfl rfl), rfl, tyX5_ok, nmX5, rfl, rfl⟩
theorem lk_RX5_138 : hf_kv RX5 138 yX5_adds cX5_adds 4 (none) RX5 3 := hf_kv_of (hf_c5 26 rfl rfl) (hf_c5 28 rfl rfl) (hf_cp (q := (yX5_adds, 38)) (by decide +kernel)) (hf_c1 6 rfl rfl) (hf_c5 29 rfl rfl) (by decide) ⟨rfl, by decide +kernel⟩
theorem lk_RX5_142 : hf_kv RX5 142 yX5_worldsNow cX5_worldsNow 1 (some .long) RX5 0 := hf_kv_of (hf_c5 30 rfl rfl) (hf_c5 32 rfl rfl) (hf_cp (q := (yX5_worldsNow, 38)) (by decide +kernel)) (hf_c1 6 rfl rfl) (hf_c5 33 rfl rfl) (by decide) ⟨rfl, by decide +kernel⟩
theorem lk_RX5_146 : hf_kv RX5 146 yX5_count cX5_count 6 (some .int) RX5 1 := hf_kv_of (hf_c5 50 rfl rfl) (hf_c5 52 rfl rfl) (hf_cp (q := (yX5_count, 38)) (by decide +kernel)) (hf_c1 6 rfl rfl) (hf_c5 53 rfl rfl) (by decide) ⟨rfl, by decide +kernel⟩
theorem lk_RX5_150 : hf_kv RX5 150 yX5_isFull cX5_isFull 2 (some .boolean) RX5 1 := hf_kv_of (hf_c5 18 rfl rfl) (hf_c5 20 rfl rfl) (hf_cp (q := (yX5_isFull, 38)) (by decide +kernel)) (hf_c1 6 rfl rfl) (hf_c5 21 rfl rfl) (by decide) ⟨rfl, by decide +kernel⟩
theorem lk_RX5_153 : hf_kv RX5 153 yX5_leaves cX5_leaves 5 (some .int) RX5 3 := hf_kv_of (hf_c5 22 rfl rfl) (hf_c5 24 rfl rfl) (hf_cp (q := (yX5_leaves, 38)) (by decide +kernel)) (hf_c1 6 rfl rfl) (hf_c5 25 rfl rfl) (by decide) ⟨rfl, by decide +kernel⟩
theorem lk_RX5_157 : hf_kv RX5 157 yX5_those cX5_those 6 (some .long) RX5 2 := hf_kv_of (hf_c5 70 rfl rfl) (hf_c5 72 rfl rfl) (hf_cp (q := (yX5_those, 38)) (by decide +kernel)) (hf_c1 6 rfl rfl) (hf_c5 73 rfl rfl) (by decide) ⟨rfl, by decide +kernel⟩
theorem lk_RX5_160 : hf_kv RX5 160 yX5_isLeft cX5_isLeft 5 (some .boolean) RX5 2 := hf_kv_of (hf_c5 66 rfl rfl) (hf_c5 68 rfl rfl) (hf_cp (q := (yX5_isLeft, 38)) (by decide +kernel)) (hf_c1 6 rfl rfl) (hf_c5 69 rfl rfl) (by decide) ⟨rfl, by decide +kernel⟩
theorem lp_RX5_163 : hf_px RX5 163 5 29 0 .int := ⟨38, RX5, TX5, tyX5, ⟨rfl, by decide, by decide, rfl, by decide⟩, hin_X5, Or.inl (hf_c4 88 rfl rfl), rfl, tyX5_ok, nmX5, rfl, rfl⟩
theorem lg_RX5_166 : hf_gx RX5 166 5 26 0 := ⟨38, RX5, TX5, ⟨rfl, by decide, by decide, rfl, by decide⟩, hin_X5, Or.inl (hf_c4 85 rfl rfl), rfl⟩
theorem lg_RX5_70 : hf_gx RX5 70 5 23 2 := ⟨38, RX5, TX5, ⟨rfl, by decide, by decide, rfl, by decide⟩, hin_X5, Or.inl (hf_c4 82 rfl rfl), rfl⟩
theorem lg_RX5_169 : hf_gx RX5 169 5 27 0 := ⟨38, RX5, TX5, ⟨rfl, by decide, by decide, rfl, by decide⟩, hin_X5, Or.inl (hf_c4 86 rfl rfl), rfl⟩
theorem lg_RX5_172 : hf_gx RX5 172 5 25 0 := ⟨38, RX5, TX5, ⟨rfl, by decide, by decide, rfl, by decide⟩, hin_X5, Or.inl (hf_c4 84 rfl rfl), rfl⟩
theorem lp_RX5_166 : hf_px RX5 166 5 26 0 .int := ⟨38, RX5, TX5, tyX5, ⟨rfl, by decide, by decide, rfl, by decide⟩, hin_X5, Or.inl (hf_c4 85 rfl rfl), rfl, tyX5_ok, nmX5, rfl, rfl⟩
theorem lg_RX5_175 : hf_gx RX5 175 5 28 0 := ⟨38, RX5, TX5, ⟨rfl, by decide, by decide, rfl, by decide⟩, hin_X5, Or.inl (hf_c4 87 rfl rfl), rfl⟩
theorem lk_RX5_182 : hf_kv RX5 182 yX5_wrong cX5_wrong 2 (some .boolean) RX5 1 := hf_kv_of (hf_c5 102 rfl rfl) (hf_c5 104 rfl rfl) (hf_cp (q := (yX5_wrong, 38)) (by decide +kernel)) (hf_c1 6 rfl rfl) (hf_c5 105 rfl rfl) (by decide) ⟨rfl, by decide +kernel⟩
theorem lk_RX5_178 : hf_kv RX5 178 yX5_isDigit cX5_isDigit 1 (some .boolean) RX5 0 := hf_kv_of (hf_c5 118 rfl rfl) (hf_c5 120 rfl rfl) (hf_cp (q := (yX5_isDigit, 38)) (by decide +kernel)) (hf_c1 6 rfl rfl) (hf_c5 121 rfl rfl) (by decide) ⟨rfl, by decide +kernel⟩
theorem lp_RX5_175 : hf_px RX5 175 5 28 0 .int := ⟨38, RX5, TX5, tyX5, ⟨rfl, by decide, by decide, rfl, by decide⟩, hin_X5, Or.inl (hf_c4 87 rfl rfl), rfl, tyX5_ok, nmX5, rfl, rfl⟩
theorem lg_RX5_73 : hf_gx RX5 73 5 24 2 := ⟨38, RX5, TX5, ⟨rfl, by decide, by decide, rfl, by decide⟩, hin_X5, Or.inl (hf_c4 83 rfl rfl), rfl⟩
theorem lk_RX5_195 : hf_kv RX5 195 yX5_high cX5_high 3 (some .int) RX5 2 := hf_kv_of (hf_c5 110 rfl rfl) (hf_c5 112 rfl rfl) (hf_cp (q := (yX5_high, 38)) (by decide +kernel)) (hf_c1 6 rfl rfl) (hf_c5 113 rfl rfl) (by decide) ⟨rfl, by decide +kernel⟩
theorem lk_RX5_198 : hf_kv RX5 198 yX5_number cX5_number 5 (some .boolean) RX5 2 := hf_kv_of (hf_c5 114 rfl rfl) (hf_c5 116 rfl rfl) (hf_cp (q := (yX5_number, 38)) (by decide +kernel)) (hf_c1 6 rfl rfl) (hf_c5 117 rfl rfl) (by decide) ⟨rfl, by decide +kernel⟩
theorem lk_RX5_191 : hf_kv RX5 191 yX5_word cX5_word 6 (some .int) RX5 0 := hf_kv_of (hf_c5 106 rfl rfl) (hf_c5 108 rfl rfl) (hf_cp (q := (yX5_word, 38)) (by decide +kernel)) (hf_c1 6 rfl rfl) (hf_c5 109 rfl rfl) (by decide) ⟨rfl, by decide +kernel⟩
theorem lk_RX5_185 : hf_kv RX5 185 yX5_isWordAt cX5_isWordAt 4 (some .boolean) RX5 1 := hf_kv_of (hf_c5 94 rfl rfl) (hf_c5 96 rfl rfl) (hf_cp (q := (yX5_isWordAt, 38)) (by decide +kernel)) (hf_c1 6 rfl rfl) (hf_c5 97 rfl rfl) (by decide) ⟨rfl, by decide +kernel⟩
theorem lk_RX5_188 : hf_kv RX5 188 yX5_isWordFull cX5_isWordFull 2 (some .boolean) RX5 1 := hf_kv_of (hf_c5 98 rfl rfl) (hf_c5 100 rfl rfl) (hf_cp (q := (yX5_isWordFull, 38)) (by decide +kernel)) (hf_c1 6 rfl rfl) (hf_c5 101 rfl rfl) (by decide) ⟨rfl, by decide +kernel⟩
theorem lg_RX5_205 : hf_gx RX5 205 5 5 0 := ⟨38, RX5, TX5, ⟨rfl, by decide, by decide, rfl, by decide⟩, hin_X5, Or.inl (hf_c4 64 rfl rfl), rfl⟩
theorem lg_RX5_16 : hf_gx RX5 16 5 6 0 := ⟨38, RX5, TX5, ⟨rfl, by decide, by decide, rfl, by decide⟩, hin_X5, Or.inl (hf_c4 65 rfl rfl), rfl⟩
theorem lg_RX5_19 : hf_gx RX5 19 5 7 0 := ⟨38, RX5, TX5, ⟨rfl, by decide, by decide, rfl, by decide⟩, hin_X5, Or.inl (hf_c4 66 rfl rfl), rfl⟩
theorem lg_RX5_82 : hf_gx RX5 82 5 32 2 := ⟨38, RX5, TX5, ⟨rfl, by decide, by decide, rfl, by decide⟩, hin_X5, Or.inl (hf_c4 91 rfl rfl), rfl⟩
theorem lk_RX5_201 : hf_kv RX5 201 yX5_keeps cX5_keeps 7 (some .int) RX5 5 := hf_kv_of (hf_c5 86 rfl rfl) (hf_c5 88 rfl rfl) (hf_cp (q := (yX5_keeps, 38)) (by decide +kernel)) (hf_c1 6 rfl rfl) (hf_c5 89 rfl rfl) (by decide) ⟨rfl, by decide +kernel⟩
theorem lp_RX5_205 : hf_px RX5 205 5 5 0 .int := ⟨38, RX5, TX5, tyX5, ⟨rfl, by decide, by decide, rfl, by decide⟩, hin_X5, Or.inl (hf_c4 64 rfl rfl), rfl, tyX5_ok, nmX5, rfl, rfl⟩
theorem lp_RX5_16 : hf_px RX5 16 5 6 0 .int := ⟨38, RX5, TX5, tyX5, ⟨rfl, by decide, by decide, rfl, by decide⟩, hin_X5, Or.inl (hf_c4 65 rfl rfl), rfl, tyX5_ok, nmX5, rfl, rfl⟩
theorem lp_RX5_19 : hf_px RX5 19 5 7 0 .int := ⟨38, RX5, TX5, tyX5, ⟨rfl, by decide, by decide, rfl, by decide⟩, hin_X5, Or.inl (hf_c4 66 rfl rfl), rfl, tyX5_ok, nmX5, rfl, rfl⟩
theorem lg_RX5_76 : hf_gx RX5 76 5 30 2 := ⟨38, RX5, TX5, ⟨rfl, by decide, by decide, rfl, by decide⟩, hin_X5, Or.inl (hf_c4 89 rfl rfl), rfl⟩
theorem lg_RX5_163 : hf_gx RX5 163 5 29 0 := ⟨38, RX5, TX5, ⟨rfl, by decide, by decide, rfl, by decide⟩, hin_X5, Or.inl (hf_c4 88 rfl rfl), rfl⟩
theorem lk_RX5_211 : hf_kv RX5 211 yX5_all cX5_all 5 (none) RX5 3 := hf_kv_of (hf_c5 82 rfl rfl) (hf_c5 84 rfl rfl) (hf_cp (q := (yX5_all, 38)) (by decide +kernel)) (hf_c1 6 rfl rfl) (hf_c5 85 rfl rfl) (by decide) ⟨rfl, by decide +kernel⟩
theorem lp_RX5_22 : hf_px RX5 22 5 8 0 .int := ⟨38, RX5, TX5, tyX5, ⟨rfl, by decide, by decide, rfl, by decide⟩, hin_X5, Or.inl (hf_c4 67 rfl rfl), rfl, tyX5_ok, nmX5, rfl, rfl⟩
theorem lk_RX5_215 : hf_kv RX5 215 yX5_item cX5_item 6 (some .boolean) RX5 0 := hf_kv_of (hf_c5 90 rfl rfl) (hf_c5 92 rfl rfl) (hf_cp (q := (yX5_item, 38)) (by decide +kernel)) (hf_c1 6 rfl rfl) (hf_c5 93 rfl rfl) (by decide) ⟨rfl, by decide +kernel⟩
theorem lk_RX5_208 : hf_kv RX5 208 yX5_wants cX5_wants 2 (some .int) RX5 1 := hf_kv_of (hf_c5 78 rfl rfl) (hf_c5 80 rfl rfl) (hf_cp (q := (yX5_wants, 38)) (by decide +kernel)) (hf_c1 6 rfl rfl) (hf_c5 81 rfl rfl) (by decide) ⟨rfl, by decide +kernel⟩
theorem lp_RX5_172 : hf_px RX5 172 5 25 0 .int := ⟨38, RX5, TX5, tyX5, ⟨rfl, by decide, by decide, rfl, by decide⟩, hin_X5, Or.inl (hf_c4 84 rfl rfl), rfl, tyX5_ok, nmX5, rfl, rfl⟩
theorem lp_RX5_169 : hf_px RX5 169 5 27 0 .int := ⟨38, RX5, TX5, tyX5, ⟨rfl, by decide, by decide, rfl, by decide⟩, hin_X5, Or.inl (hf_c4 86 rfl rfl), rfl, tyX5_ok, nmX5, rfl, rfl⟩
theorem lg_RX5_22 : hf_gx RX5 22 5 8 0 := ⟨38, RX5, TX5, ⟨rfl, by decide, by decide, rfl, by decide⟩, hin_X5, Or.inl (hf_c4 67 rfl rfl), rfl⟩
theorem lk_RX5_218 : hf_kv RX5 218 yX5_lets cX5_lets 5 (some .boolean) RX5 3 := hf_kv_of (hf_c5 134 rfl rfl) (hf_c5 136 rfl rfl) (hf_cp (q := (yX5_lets, 38)) (by decide +kernel)) (hf_c1 6 rfl rfl) (hf_c5 137 rfl rfl) (by decide) ⟨rfl, by decide +kernel⟩
theorem lk_RX5_226 : hf_kv RX5 226 yX5_noTen cX5_noTen 2 (some .int) RX5 1 := hf_kv_of (hf_c5 154 rfl rfl) (hf_c5 156 rfl rfl) (hf_cp (q := (yX5_noTen, 38)) (by decide +kernel)) (hf_c1 6 rfl rfl) (hf_c5 157 rfl rfl) (by decide) ⟨rfl, by decide +kernel⟩
theorem lk_RX5_222 : hf_kv RX5 222 yX5_sureBy cX5_sureBy 6 (some .int) RX5 2 := hf_kv_of (hf_c5 150 rfl rfl) (hf_c5 152 rfl rfl) (hf_cp (q := (yX5_sureBy, 38)) (by decide +kernel)) (hf_c1 6 rfl rfl) (hf_c5 153 rfl rfl) (by decide) ⟨rfl, by decide +kernel⟩
theorem lk_RX5_229 : hf_kv RX5 229 yX5_worstOf cX5_worstOf 5 (some .int) RX5 2 := hf_kv_of (hf_c5 174 rfl rfl) (hf_c5 176 rfl rfl) (hf_cp (q := (yX5_worstOf, 38)) (by decide +kernel)) (hf_c1 6 rfl rfl) (hf_c5 177 rfl rfl) (by decide) ⟨rfl, by decide +kernel⟩
theorem lk_RX5_232 : hf_kv RX5 232 yX5_isKnown cX5_isKnown 7 (some .boolean) RX5 2 := hf_kv_of (hf_c5 186 rfl rfl) (hf_c5 188 rfl rfl) (hf_cp (q := (yX5_isKnown, 38)) (by decide +kernel)) (hf_c1 6 rfl rfl) (hf_c5 189 rfl rfl) (by decide) ⟨rfl, by decide +kernel⟩
theorem lk_RX5_235 : hf_kv RX5 235 yX5_isRow cX5_isRow 7 (some .boolean) RX5 3 := hf_kv_of (hf_c5 202 rfl rfl) (hf_c5 204 rfl rfl) (hf_cp (q := (yX5_isRow, 38)) (by decide +kernel)) (hf_c1 6 rfl rfl) (hf_c5 205 rfl rfl) (by decide) ⟨rfl, by decide +kernel⟩
theorem lk_RX5_238 : hf_kv RX5 238 yX5_rowsOf cX5_rowsOf 5 (some .int) RX5 2 := hf_kv_of (hf_c5 198 rfl rfl) (hf_c5 200 rfl rfl) (hf_cp (q := (yX5_rowsOf, 38)) (by decide +kernel)) (hf_c1 6 rfl rfl) (hf_c5 201 rfl rfl) (by decide) ⟨rfl, by decide +kernel⟩
theorem lg_RX5_247 : hf_gx RX5 247 5 34 0 := ⟨38, RX5, TX5, ⟨rfl, by decide, by decide, rfl, by decide⟩, hin_X5, Or.inl (hf_c4 93 rfl rfl), rfl⟩
theorem lg_RX5_244 : hf_gx RX5 244 5 33 0 := ⟨38, RX5, TX5, ⟨rfl, by decide, by decide, rfl, by decide⟩, hin_X5, Or.inl (hf_c4 92 rfl rfl), rfl⟩
theorem lp_RX5_247 : hf_px RX5 247 5 34 0 .int := ⟨38, RX5, TX5, tyX5, ⟨rfl, by decide, by decide, rfl, by decide⟩, hin_X5, Or.inl (hf_c4 93 rfl rfl), rfl, tyX5_ok, nmX5, rfl, rfl⟩
theorem lk_RX5_241 : hf_kv RX5 241 yX5_intAt cX5_intAt 3 (some .int) RX5 2 := hf_kv_of (hf_c5 218 rfl rfl) (hf_c5 220 rfl rfl) (hf_cp (q := (yX5_intAt, 38)) (by decide +kernel)) (hf_c1 6 rfl rfl) (hf_c5 221 rfl rfl) (by decide) ⟨rfl, by decide +kernel⟩
theorem lp_RX5_244 : hf_px RX5 244 5 33 0 .int := ⟨38, RX5, TX5, tyX5, ⟨rfl, by decide, by decide, rfl, by decide⟩, hin_X5, Or.inl (hf_c4 92 rfl rfl), rfl, tyX5_ok, nmX5, rfl, rfl⟩
theorem lk_RX5_250 : hf_kv RX5 250 yX5_errandsOf cX5_errandsOf 9 (some .int) RX5 2 := hf_kv_of (hf_c5 214 rfl rfl) (hf_c5 216 rfl rfl) (hf_cp (q := (yX5_errandsOf, 38)) (by decide +kernel)) (hf_c1 6 rfl rfl) (hf_c5 217 rfl rfl) (by decide) ⟨rfl, by decide +kernel⟩
theorem lk_RX5_253 : hf_kv RX5 253 yX5_noLow cX5_noLow 2 (some .int) RX5 1 := hf_kv_of (hf_c5 230 rfl rfl) (hf_c5 232 rfl rfl) (hf_cp (q := (yX5_noLow, 38)) (by decide +kernel)) (hf_c1 6 rfl rfl) (hf_c5 233 rfl rfl) (by decide) ⟨rfl, by decide +kernel⟩
theorem lk_RX5_257 : hf_kv RX5 257 yX5_lot cX5_lot 2 (some .int) RX5 1 := hf_kv_of (hf_c6x 11 rfl rfl) (hf_c6x 13 rfl rfl) (hf_cp (q := (yX5_lot, 38)) (by decide +kernel)) (hf_c1 6 rfl rfl) (hf_c6x 14 rfl rfl) (by decide) ⟨rfl, by decide +kernel⟩
theorem lg_RX5_260 : hf_gx RX5 260 5 36 0 := ⟨38, RX5, TX5, ⟨rfl, by decide, by decide, rfl, by decide⟩, hin_X5, Or.inl (hf_c4 95 rfl rfl), rfl⟩
theorem lg_RX5_85 : hf_gx RX5 85 5 35 2 := ⟨38, RX5, TX5, ⟨rfl, by decide, by decide, rfl, by decide⟩, hin_X5, Or.inl (hf_c4 94 rfl rfl), rfl⟩
theorem lp_RX5_260 : hf_px RX5 260 5 36 0 .int := ⟨38, RX5, TX5, tyX5, ⟨rfl, by decide, by decide, rfl, by decide⟩, hin_X5, Or.inl (hf_c4 95 rfl rfl), rfl, tyX5_ok, nmX5, rfl, rfl⟩
theorem lk_RX5_263 : hf_kv RX5 263 yX5_body cX5_body 2 (none) RX5 1 := hf_kv_of (hf_c6x 36 rfl rfl) (hf_c6x 38 rfl rfl) (hf_cp (q := (yX5_body, 38)) (by decide +kernel)) (hf_c1 6 rfl rfl) (hf_c6x 39 rfl rfl) (by decide) ⟨rfl, by decide +kernel⟩
theorem lk_RX5_267 : hf_kv RX5 267 yX5_saying cX5_saying 6 (some .int) RX5 2 := hf_kv_of (hf_c6x 32 rfl rfl) (hf_c6x 34 rfl rfl) (hf_cp (q := (yX5_saying, 38)) (by decide +kernel)) (hf_c1 6 rfl rfl) (hf_c6x 35 rfl rfl) (by decide) ⟨rfl, by decide +kernel⟩
theorem lk_RX5_270 : hf_kv RX5 270 yX5_hiding cX5_hiding 5 (some .int) RX5 2 := hf_kv_of (hf_c6x 40 rfl rfl) (hf_c6x 42 rfl rfl) (hf_cp (q := (yX5_hiding, 38)) (by decide +kernel)) (hf_c1 6 rfl rfl) (hf_c6x 43 rfl rfl) (by decide) ⟨rfl, by decide +kernel⟩
theorem lk_RX5_273 : hf_kv RX5 273 yX5_knowing cX5_knowing 6 (some .int) RX5 2 := hf_kv_of (hf_c6x 44 rfl rfl) (hf_c6x 46 rfl rfl) (hf_cp (q := (yX5_knowing, 38)) (by decide +kernel)) (hf_c1 6 rfl rfl) (hf_c6x 47 rfl rfl) (by decide) ⟨rfl, by decide +kernel⟩
theorem lg_RX5_79 : hf_gx RX5 79 5 31 2 := ⟨38, RX5, TX5, ⟨rfl, by decide, by decide, rfl, by decide⟩, hin_X5, Or.inl (hf_c4 90 rfl rfl), rfl⟩
theorem lp_RX5_276 : hf_px RX5 276 5 37 0 .boolean := ⟨38, RX5, TX5, tyX5, ⟨rfl, by decide, by decide, rfl, by decide⟩, hin_X5, Or.inl (hf_c4 96 rfl rfl), rfl, tyX5_ok, nmX5, rfl, rfl⟩
theorem lg_RX5_276 : hf_gx RX5 276 5 37 0 := ⟨38, RX5, TX5, ⟨rfl, by decide, by decide, rfl, by decide⟩, hin_X5, Or.inl (hf_c4 96 rfl rfl), rfl⟩
