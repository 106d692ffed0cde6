set_option maxRecDepth 100000 in
set_option maxHeartbeats 4000000 in
theorem c_X0_begin  {t0 : Nat} (hl_t0 : t0 < 69) (hs_t0 : hf_shp t0 = 0) (M : hf_M) : hf_CV yX0_begin cX0_begin 1 (none) (1) (fun g => [.ref (hf_a g t0)]) M (s_X0_begin t0 M) := by
  refine hf_metV (by decide +kernel) (fun g => Nat.le_of_ble_eq_true rfl) (fun g p l ev s m args below meth c X => ?_)
  have X : hf_X g p s m args meth c cX0_begin 1 RX0 (none) := X
  show hf_W g p l ev (1) s m args below meth c 1 (hf_QV g below args s) M 0 [some (.ref (hf_a g t0))] [] (s_X0_begin t0 M)
  unfold s_X0_begin
  refine hr_aload_n X dX0_begin_0 rfl ?_
  refine hr_iconst X 0 dX0_begin_1 kc_0 ?_
  refine hr_pI X hl_t0 hs_t0 lp_RX0_15 dX0_begin_2 (fun M1 eM1 => ?_)
  exact hr_vret X dX0_begin_5
set_option maxRecDepth 100000 in
set_option maxHeartbeats 4000000 in
theorem c_X4_isKind  (a0 : Int32) (M : hf_M) : hf_CI yX4_isKind cX4_isKind 1 (some .boolean) (1) (fun g => [.int a0]) M (s_X4_isKind a0 M) := by
  refine hf_metI (by decide +kernel) (fun g => Nat.le_of_ble_eq_true rfl) (fun g p l ev s m args below meth c X => ?_)
  have X : hf_X g p s m args meth c cX4_isKind 1 RX4 (some .boolean) := X
  show hf_W g p l ev (1) s m args below meth c 1 (hf_QI g below args s) M 0 [some (.int a0)] [] (s_X4_isKind a0 M)
  unfold s_X4_isKind
  refine hr_iload_n X dX4_isKind_0 rfl ?_
  refine hr_if_lt X 14 dX4_isKind_1 rfl ?_ ?_
  · refine hr_iconst X 0 dX4_isKind_14 kc_0 ?_
    exact hr_zretC X (Or.inl rfl) dX4_isKind_15
  · refine hr_iload_n X dX4_isKind_4 rfl ?_
    refine hr_bipush X 6 dX4_isKind_5 kb_6 ?_
    refine hr_icmp_gt X 14 dX4_isKind_7 rfl ?_ ?_
    · refine hr_iconst X 0 dX4_isKind_14 kc_0 ?_
      exact hr_zretC X (Or.inl rfl) dX4_isKind_15
    · refine hr_iconst X 1 dX4_isKind_10 kc_1 ?_
      refine hr_goto X 15 dX4_isKind_11 rfl ?_
      exact hr_zretC X (Or.inr rfl) dX4_isKind_15
set_option maxRecDepth 100000 in
set_option maxHeartbeats 4000000 in
theorem c_X0_note  {t0 : Nat} (hl_t0 : t0 < 69) (hs_t0 : hf_shp t0 = 0) (a1 : Int32) (M : hf_M) : hf_CV yX0_note cX0_note 2 (none) (1) (fun g => [.ref (hf_a g t0), .int a1]) M (s_X0_note t0 a1 M) := by
  refine hf_metV (by decide +kernel) (fun g => Nat.le_of_ble_eq_true rfl) (fun g p l ev s m args below meth c X => ?_)
  have X : hf_X g p s m args meth c cX0_note 2 RX0 (none) := X
  show hf_W g p l ev (1) s m args below meth c 2 (hf_QV g below args s) M 0 [some (.ref (hf_a g t0)), some (.int a1)] [] (s_X0_note t0 a1 M)
  unfold s_X0_note
  refine hr_aload_n X dX0_note_0 rfl ?_
  refine hr_gI X hl_t0 hs_t0 lg_RX0_15 dX0_note_1 ?_
  refine hr_bipush X 20 dX0_note_4 kb_20 ?_
  refine hr_icmp_ge X 19 dX0_note_6 rfl ?_ ?_
  · refine hr_aload_n X dX0_note_19 rfl ?_
    refine hr_dup X dX0_note_20 rfl ?_
    refine hr_gI X hl_t0 hs_t0 lg_RX0_15 dX0_note_21 ?_
    refine hr_iconst X 1 dX0_note_24 kc_1 ?_
    refine hr_iadd X dX0_note_25 ?_
    refine hr_pI X hl_t0 hs_t0 lp_RX0_15 dX0_note_26 (fun M1 eM1 => ?_)
    exact hr_vret X dX0_note_29
  · refine hr_aload_n X dX0_note_9 rfl ?_
    refine hr_gR X 6 hl_t0 hs_t0 lg_RX0_9 rfl dX0_note_10 (fun q2 hl_q2 hs_q2 => ?_)
    refine hr_aload_n X dX0_note_13 rfl ?_
    refine hr_gI X hl_t0 hs_t0 lg_RX0_15 dX0_note_14 ?_
    refine hr_iload_n X dX0_note_17 rfl ?_
    refine hr_iast X hl_q2 hs_q2 dX0_note_18 (fun M3 eM3 _ => ?_)
    refine hr_aload_n X dX0_note_19 rfl ?_
    refine hr_dup X dX0_note_20 rfl ?_
    refine hr_gI X hl_t0 hs_t0 lg_RX0_15 dX0_note_21 ?_
    refine hr_iconst X 1 dX0_note_24 kc_1 ?_
    refine hr_iadd X dX0_note_25 ?_
    refine hr_pI X hl_t0 hs_t0 lp_RX0_15 dX0_note_26 (fun M4 eM4 => ?_)
    exact hr_vret X dX0_note_29
set_option maxRecDepth 100000 in
set_option maxHeartbeats 4000000 in
theorem w_X0_ownerOf_4 {g : hf_G} {p : Program} {l : Launch} {ev : Env} {s : State} {m : MethodId} {args : Array Value} {below : List Frame} {meth : Method} {c : Code} (X : hf_X g p s m args meth c cX0_ownerOf 4 RX0 (some .int))    (v1 : Int32) : ∀ (n : Nat) (v2 : Int32) (v3 : Int32) (M : hf_M), hf_W g p l ev (2) s m args below meth c 4 (hf_QI g below args s) M 4 [none, some (.int v1), some (.int v2), some (.int v3)] [] (s_X0_ownerOf_4 v1 n v2 v3 M) := by
  intro n
  induction n with
  | zero =>
    intros
    exact hr_none
  | succ n ih =>
    intro v2 v3 M
    rw [s_X0_ownerOf_4]
    refine hr_iload_n X dX0_ownerOf_4 rfl ?_
    refine hr_gsAB X ls_RX0_47 dX0_ownerOf_5 ?_
    refine hr_glAB X 7 rfl dX0_ownerOf_8 ?_
    refine hr_icmp_ge X 45 dX0_ownerOf_9 rfl ?_ ?_
    · refine hr_iconst X (-1) dX0_ownerOf_45 kc_m1 ?_
      exact hr_iret X dX0_ownerOf_46
    · refine hr_iload_n X dX0_ownerOf_12 rfl ?_
      refine hr_csI X [.int v2] [] (c_X4_isKind v2 M) lk_RX0_36 rfl rfl rfl (by decide) (Nat.le_of_ble_eq_true rfl) dX0_ownerOf_13 (fun r1 M2 _ => ?_)
      refine hr_if_eq X 45 dX0_ownerOf_16 rfl ?_ ?_
      · refine hr_iconst X (-1) dX0_ownerOf_45 kc_m1 ?_
        exact hr_iret X dX0_ownerOf_46
      · refine hr_gsBO X ls_RX0_40 dX0_ownerOf_19 ?_
        refine hr_iconst X 3 dX0_ownerOf_22 kc_3 ?_
        refine hr_iload_n X dX0_ownerOf_23 rfl ?_
        refine hr_imul X dX0_ownerOf_24 ?_
        refine hr_iload_n X dX0_ownerOf_25 rfl ?_
        refine hr_iadd X dX0_ownerOf_26 ?_
        refine hr_ldBO X dX0_ownerOf_27 (fun r3 _ _ => ?_)
        refine hr_if_eq X 33 dX0_ownerOf_28 rfl ?_ ?_
        · refine hr_gsAB X ls_RX0_47 dX0_ownerOf_33 ?_
          refine hr_iload_n X dX0_ownerOf_36 rfl ?_
          refine hr_ldAB X dX0_ownerOf_37 (fun r4 _ _ => ?_)
          refine hr_istore_n X dX0_ownerOf_38 (by decide) rfl ?_
          refine hr_iinc X (v3 + 1) dX0_ownerOf_39 rfl (by rw [kc_1]) (by decide) rfl ?_
          refine hr_goto X 4 dX0_ownerOf_42 rfl ?_
          exact hr_wk (hs_none (hs_some (hs_some (hs_some (hs_nil))))) (ih r4 (v3 + 1) M2)
        · refine hr_iload_n X dX0_ownerOf_31 rfl ?_
          exact hr_iret X dX0_ownerOf_32
set_option maxRecDepth 100000 in
set_option maxHeartbeats 4000000 in
theorem c_X0_ownerOf  (a0 : Int32) (a1 : Int32) (M : hf_M) : hf_CI yX0_ownerOf cX0_ownerOf 4 (some .int) (2) (fun g => [.int a0, .int a1]) M (s_X0_ownerOf a0 a1 M) := by
  refine hf_metI (by decide +kernel) (fun g => Nat.le_of_ble_eq_true rfl) (fun g p l ev s m args below meth c X => ?_)
  have X : hf_X g p s m args meth c cX0_ownerOf 4 RX0 (some .int) := X
  show hf_W g p l ev (2) s m args below meth c 4 (hf_QI g below args s) M 0 [some (.int a0), some (.int a1), none, none] [] (s_X0_ownerOf a0 a1 M)
  unfold s_X0_ownerOf
  refine hr_iload_n X dX0_ownerOf_0 rfl ?_
  refine hr_istore_n X dX0_ownerOf_1 (by decide) rfl ?_
  refine hr_iconst X 0 dX0_ownerOf_2 kc_0 ?_
  refine hr_istore_n X dX0_ownerOf_3 (by decide) rfl ?_
  exact hr_wk (hs_none (hs_some (hs_some (hs_some (hs_nil))))) (w_X0_ownerOf_4 X a1 2000 a0 0 M)
set_option maxRecDepth 100000 in
set_option maxHeartbeats 4000000 in
theorem c_X0_resultOf (fR : Nat → Int32 → Int32 → Int32 → Int32 → hf_M → Option (Int32 × hf_M)) (dR : Nat) (hB : 3 ≤ dR) (hR : ∀ {t0 : Nat} (_ : t0 < 69) (_ : hf_shp t0 = 0) (a1 : Int32) (a2 : Int32) (a3 : Int32) (a4 : Int32) (M : hf_M), hf_CI yX0_run cX0_run 7 (some .int) (dR) (fun g => [.ref (hf_a g t0), .int a1, .int a2, .int a3, .int a4]) M (fR t0 a1 a2 a3 a4 M)) {t0 : Nat} (hl_t0 : t0 < 69) (hs_t0 : hf_shp t0 = 0) (a1 : Int32) (a2 : Int32) (a3 : Int32) (a4 : Int32) (M : hf_M) : hf_CI yX0_resultOf cX0_resultOf 5 (some .int) (dR + 1) (fun g => [.ref (hf_a g t0), .int a1, .int a2, .int a3, .int a4]) M (s_X0_resultOf fR t0 a1 a2 a3 a4 M) := by
  refine hf_metI (by decide +kernel) (fun g => Nat.le_of_ble_eq_true rfl) (fun g p l ev s m args below meth c X => ?_)
  have X : hf_X g p s m args meth c cX0_resultOf 5 RX0 (some .int) := X
  show hf_W g p l ev (dR + 1) s m args below meth c 5 (hf_QI g below args s) M 0 [some (.ref (hf_a g t0)), some (.int a1), some (.int a2), some (.int a3), some (.int a4)] [] (s_X0_resultOf fR t0 a1 a2 a3 a4 M)
  unfold s_X0_resultOf
  refine hr_iload_n X dX0_resultOf_0 rfl ?_
  refine hr_case 10 (fun _ => ?_) (fun n1_10 => ?_)
  · refine hr_lookup X (off := 91) 92 dX0_resultOf_1 (by decide) (by decide) rfl ?_
    refine hr_iload_n X dX0_resultOf_92 rfl ?_
    refine hr_aload_n X dX0_resultOf_93 rfl ?_
    refine hr_gI X hl_t0 hs_t0 lg_RX0_22 dX0_resultOf_94 ?_
    refine hr_iadd X dX0_resultOf_97 ?_
    exact hr_iret X dX0_resultOf_98
  refine hr_case 11 (fun _ => ?_) (fun n1_11 => ?_)
  · refine hr_lookup X (off := 98) 99 dX0_resultOf_1 (by decide) (by decide) rfl ?_
    refine hr_aload_n X dX0_resultOf_99 rfl ?_
    refine hr_aload_n X dX0_resultOf_100 rfl ?_
    refine hr_gI X hl_t0 hs_t0 lg_RX0_19 dX0_resultOf_101 ?_
    refine hr_iconst X 0 dX0_resultOf_104 kc_0 ?_
    refine hr_iload_n X dX0_resultOf_105 rfl ?_
    refine hr_iload X dX0_resultOf_106 rfl ?_
    refine hr_cvI X [.int (M.1 t0 2), .int 0, .int a3, .int a4] [] (hR hl_t0 hs_t0 (M.1 t0 2) 0 a3 a4 M) lk_RX0_28 rfl rfl rfl hl_t0 hs_t0 ⟨by decide, rfl⟩ (by omega) (Nat.le_of_ble_eq_true rfl) dX0_resultOf_108 (fun r1 M2 _ => ?_)
    refine hr_iconst X 2 dX0_resultOf_111 kc_2 ?_
    refine hr_imul X dX0_resultOf_112 ?_
    exact hr_iret X dX0_resultOf_113
  refine hr_case 12 (fun _ => ?_) (fun n1_12 => ?_)
  · refine hr_lookup X (off := 113) 114 dX0_resultOf_1 (by decide) (by decide) rfl ?_
    refine hr_aload_n X dX0_resultOf_114 rfl ?_
    refine hr_aload_n X dX0_resultOf_115 rfl ?_
    refine hr_gI X hl_t0 hs_t0 lg_RX0_19 dX0_resultOf_116 ?_
    refine hr_iconst X 1 dX0_resultOf_119 kc_1 ?_
    refine hr_iload_n X dX0_resultOf_120 rfl ?_
    refine hr_iload X dX0_resultOf_121 rfl ?_
    refine hr_cvI X [.int (M.1 t0 2), .int 1, .int a3, .int a4] [] (hR hl_t0 hs_t0 (M.1 t0 2) 1 a3 a4 M) lk_RX0_28 rfl rfl rfl hl_t0 hs_t0 ⟨by decide, rfl⟩ (by omega) (Nat.le_of_ble_eq_true rfl) dX0_resultOf_123 (fun r3 M4 _ => ?_)
    refine hr_aload_n X dX0_resultOf_126 rfl ?_
    refine hr_aload_n X dX0_resultOf_127 rfl ?_
    refine hr_gI X hl_t0 hs_t0 lg_RX0_19 dX0_resultOf_128 ?_
    refine hr_iconst X 0 dX0_resultOf_131 kc_0 ?_
    refine hr_iload_n X dX0_resultOf_132 rfl ?_
    refine hr_aload_n X dX0_resultOf_133 rfl ?_
    refine hr_gI X hl_t0 hs_t0 lg_RX0_25 dX0_resultOf_134 ?_
    refine hr_isub X dX0_resultOf_137 ?_
    refine hr_iload X dX0_resultOf_138 rfl ?_
    refine hr_cvI X [.int (M4.1 t0 2), .int 0, .int (a3 - (M4.1 t0 4)), .int a4] [.int r3] (hR hl_t0 hs_t0 (M4.1 t0 2) 0 (a3 - (M4.1 t0 4)) a4 M4) lk_RX0_28 rfl rfl rfl hl_t0 hs_t0 ⟨by decide, rfl⟩ (by omega) (Nat.le_of_ble_eq_true rfl) dX0_resultOf_140 (fun r5 M6 _ => ?_)
    refine hr_ixor X dX0_resultOf_143 ?_
    exact hr_iret X dX0_resultOf_144
  refine hr_case 20 (fun _ => ?_) (fun n1_20 => ?_)
  · refine hr_lookup X (off := 144) 145 dX0_resultOf_1 (by decide) (by decide) rfl ?_
    refine hr_aload_n X dX0_resultOf_145 rfl ?_
    refine hr_iload_n X dX0_resultOf_146 rfl ?_
    refine hr_iconst X 0 dX0_resultOf_147 kc_0 ?_
    refine hr_iload_n X dX0_resultOf_148 rfl ?_
    refine hr_iload X dX0_resultOf_149 rfl ?_
    refine hr_cvI X [.int a2, .int 0, .int a3, .int a4] [] (hR hl_t0 hs_t0 a2 0 a3 a4 M) lk_RX0_28 rfl rfl rfl hl_t0 hs_t0 ⟨by decide, rfl⟩ (by omega) (Nat.le_of_ble_eq_true rfl) dX0_resultOf_151 (fun r7 M8 _ => ?_)
    refine hr_aload_n X dX0_resultOf_154 rfl ?_
    refine hr_gI X hl_t0 hs_t0 lg_RX0_25 dX0_resultOf_155 ?_
    refine hr_iadd X dX0_resultOf_158 ?_
    exact hr_iret X dX0_resultOf_159
  refine hr_case 30 (fun _ => ?_) (fun n1_30 => ?_)
  · refine hr_lookup X (off := 159) 160 dX0_resultOf_1 (by decide) (by decide) rfl ?_
    refine hr_aload_n X dX0_resultOf_160 rfl ?_
    refine hr_iload_n X dX0_resultOf_161 rfl ?_
    refine hr_iconst X 0 dX0_resultOf_162 kc_0 ?_
    refine hr_iload_n X dX0_resultOf_163 rfl ?_
    refine hr_iconst X 1 dX0_resultOf_164 kc_1 ?_
    refine hr_iadd X dX0_resultOf_165 ?_
    refine hr_iload X dX0_resultOf_166 rfl ?_
    refine hr_cvI X [.int a2, .int 0, .int (a3 + 1), .int a4] [] (hR hl_t0 hs_t0 a2 0 (a3 + 1) a4 M) lk_RX0_28 rfl rfl rfl hl_t0 hs_t0 ⟨by decide, rfl⟩ (by omega) (Nat.le_of_ble_eq_true rfl) dX0_resultOf_168 (fun r9 M10 _ => ?_)
    exact hr_iret X dX0_resultOf_171
  refine hr_case 31 (fun _ => ?_) (fun n1_31 => ?_)
  · refine hr_lookup X (off := 171) 172 dX0_resultOf_1 (by decide) (by decide) rfl ?_
    refine hr_aload_n X dX0_resultOf_172 rfl ?_
    refine hr_iload_n X dX0_resultOf_173 rfl ?_
    refine hr_iconst X 2 dX0_resultOf_174 kc_2 ?_
    refine hr_iload_n X dX0_resultOf_175 rfl ?_
    refine hr_iload X dX0_resultOf_176 rfl ?_
    refine hr_cvI X [.int a2, .int 2, .int a3, .int a4] [] (hR hl_t0 hs_t0 a2 2 a3 a4 M) lk_RX0_28 rfl rfl rfl hl_t0 hs_t0 ⟨by decide, rfl⟩ (by omega) (Nat.le_of_ble_eq_true rfl) dX0_resultOf_178 (fun r11 M12 _ => ?_)
    refine hr_aload_n X dX0_resultOf_181 rfl ?_
    refine hr_gI X hl_t0 hs_t0 lg_RX0_22 dX0_resultOf_182 ?_
    refine hr_isub X dX0_resultOf_185 ?_
    exact hr_iret X dX0_resultOf_186
  refine hr_case 40 (fun _ => ?_) (fun n1_40 => ?_)
  · refine hr_lookup X (off := 186) 187 dX0_resultOf_1 (by decide) (by decide) rfl ?_
    refine hr_aload_n X dX0_resultOf_187 rfl ?_
    refine hr_iload_n X dX0_resultOf_188 rfl ?_
    refine hr_iconst X 1 dX0_resultOf_189 kc_1 ?_
    refine hr_iload_n X dX0_resultOf_190 rfl ?_
    refine hr_iload X dX0_resultOf_191 rfl ?_
    refine hr_cvI X [.int a2, .int 1, .int a3, .int a4] [] (hR hl_t0 hs_t0 a2 1 a3 a4 M) lk_RX0_28 rfl rfl rfl hl_t0 hs_t0 ⟨by decide, rfl⟩ (by omega) (Nat.le_of_ble_eq_true rfl) dX0_resultOf_193 (fun r13 M14 _ => ?_)
    refine hr_iconst X 3 dX0_resultOf_196 kc_3 ?_
    refine hr_imul X dX0_resultOf_197 ?_
    exact hr_iret X dX0_resultOf_198
  refine hr_case 50 (fun _ => ?_) (fun n1_50 => ?_)
  · refine hr_lookup X (off := 198) 199 dX0_resultOf_1 (by decide) (by decide) rfl ?_
    refine hr_aload_n X dX0_resultOf_199 rfl ?_
    refine hr_iload_n X dX0_resultOf_200 rfl ?_
    refine hr_iconst X 1 dX0_resultOf_201 kc_1 ?_
    refine hr_iload_n X dX0_resultOf_202 rfl ?_
    refine hr_iload X dX0_resultOf_203 rfl ?_
    refine hr_cvI X [.int a2, .int 1, .int a3, .int a4] [] (hR hl_t0 hs_t0 a2 1 a3 a4 M) lk_RX0_28 rfl rfl rfl hl_t0 hs_t0 ⟨by decide, rfl⟩ (by omega) (Nat.le_of_ble_eq_true rfl) dX0_resultOf_205 (fun r15 M16 _ => ?_)
    refine hr_ineg X dX0_resultOf_208 ?_
    exact hr_iret X dX0_resultOf_209
  refine hr_case 60 (fun _ => ?_) (fun n1_60 => ?_)
  · refine hr_lookup X (off := 209) 210 dX0_resultOf_1 (by decide) (by decide) rfl ?_
    refine hr_aload_n X dX0_resultOf_210 rfl ?_
    refine hr_iload_n X dX0_resultOf_211 rfl ?_
    refine hr_iconst X 1 dX0_resultOf_212 kc_1 ?_
    refine hr_iload_n X dX0_resultOf_213 rfl ?_
    refine hr_iload X dX0_resultOf_214 rfl ?_
    refine hr_cvI X [.int a2, .int 1, .int a3, .int a4] [] (hR hl_t0 hs_t0 a2 1 a3 a4 M) lk_RX0_28 rfl rfl rfl hl_t0 hs_t0 ⟨by decide, rfl⟩ (by omega) (Nat.le_of_ble_eq_true rfl) dX0_resultOf_216 (fun r17 M18 _ => ?_)
    refine hr_iconst X 5 dX0_resultOf_219 kc_5 ?_
    refine hr_ixor X dX0_resultOf_220 ?_
    exact hr_iret X dX0_resultOf_221
  refine hr_case 70 (fun _ => ?_) (fun n1_70 => ?_)
  · refine hr_lookup X (off := 221) 222 dX0_resultOf_1 (by decide) (by decide) rfl ?_
    refine hr_aload_n X dX0_resultOf_222 rfl ?_
    refine hr_iload_n X dX0_resultOf_223 rfl ?_
    refine hr_iconst X 0 dX0_resultOf_224 kc_0 ?_
    refine hr_iload_n X dX0_resultOf_225 rfl ?_
    refine hr_iload X dX0_resultOf_226 rfl ?_
    refine hr_cvI X [.int a2, .int 0, .int a3, .int a4] [] (hR hl_t0 hs_t0 a2 0 a3 a4 M) lk_RX0_28 rfl rfl rfl hl_t0 hs_t0 ⟨by decide, rfl⟩ (by omega) (Nat.le_of_ble_eq_true rfl) dX0_resultOf_228 (fun r19 M20 _ => ?_)
    refine hr_iconst X 2 dX0_resultOf_231 kc_2 ?_
    refine hr_imul X dX0_resultOf_232 ?_
    exact hr_iret X dX0_resultOf_233
  · refine hr_lookup X (off := 233) 234 dX0_resultOf_1 (by decide) ((lv_osw n1_10 (by decide)).trans ((lv_osw n1_11 (by decide)).trans ((lv_osw n1_12 (by decide)).trans ((lv_osw n1_20 (by decide)).trans ((lv_osw n1_30 (by decide)).trans ((lv_osw n1_31 (by decide)).trans ((lv_osw n1_40 (by decide)).trans ((lv_osw n1_50 (by decide)).trans ((lv_osw n1_60 (by decide)).trans ((lv_osw n1_70 (by decide)).trans rfl)))))))))) rfl ?_
    refine hr_aload_n X dX0_resultOf_234 rfl ?_
    refine hr_iload_n X dX0_resultOf_235 rfl ?_
    refine hr_iconst X 2 dX0_resultOf_236 kc_2 ?_
    refine hr_iload_n X dX0_resultOf_237 rfl ?_
    refine hr_aload_n X dX0_resultOf_238 rfl ?_
    refine hr_gI X hl_t0 hs_t0 lg_RX0_25 dX0_resultOf_239 ?_
    refine hr_isub X dX0_resultOf_242 ?_
    refine hr_iload X dX0_resultOf_243 rfl ?_
    refine hr_cvI X [.int a2, .int 2, .int (a3 - (M.1 t0 4)), .int a4] [] (hR hl_t0 hs_t0 a2 2 (a3 - (M.1 t0 4)) a4 M) lk_RX0_28 rfl rfl rfl hl_t0 hs_t0 ⟨by decide, rfl⟩ (by omega) (Nat.le_of_ble_eq_true rfl) dX0_resultOf_245 (fun r21 M22 _ => ?_)
    exact hr_iret X dX0_resultOf_248
set_option maxRecDepth 100000 in
set_option maxHeartbeats 4000000 in
theorem c_X0_run_b (fR : Nat → Int32 → Int32 → Int32 → Int32 → hf_M → Option (Int32 × hf_M)) (dR : Nat) (hB : 3 ≤ dR) (hR : ∀ {t0 : Nat} (_ : t0 < 69) (_ : hf_shp t0 = 0) (a1 : Int32) (a2 : Int32) (a3 : Int32) (a4 : Int32) (M : hf_M), hf_CI yX0_run cX0_run 7 (some .int) (dR) (fun g => [.ref (hf_a g t0), .int a1, .int a2, .int a3, .int a4]) M (fR t0 a1 a2 a3 a4 M)) {t0 : Nat} (hl_t0 : t0 < 69) (hs_t0 : hf_shp t0 = 0) (a1 : Int32) (a2 : Int32) (a3 : Int32) (a4 : Int32) (M : hf_M) : hf_CI yX0_run cX0_run 7 (some .int) (dR + 2) (fun g => [.ref (hf_a g t0), .int a1, .int a2, .int a3, .int a4]) M (s_X0_run_b fR t0 a1 a2 a3 a4 M) := by
  refine hf_metI (by decide +kernel) (fun g => Nat.le_of_ble_eq_true rfl) (fun g p l ev s m args below meth c X => ?_)
  have X : hf_X g p s m args meth c cX0_run 7 RX0 (some .int) := X
  show hf_W g p l ev (dR + 2) s m args below meth c 7 (hf_QI g below args s) M 0 [some (.ref (hf_a g t0)), some (.int a1), some (.int a2), some (.int a3), some (.int a4), none, none] [] (s_X0_run_b fR t0 a1 a2 a3 a4 M)
  unfold s_X0_run_b
  refine hr_iload_n X dX0_run_0 rfl ?_
  refine hr_iload_n X dX0_run_1 rfl ?_
  refine hr_csI X [.int a1, .int a2] [] (c_X0_ownerOf a1 a2 M) lk_RX0_32 rfl rfl rfl (by omega) (Nat.le_of_ble_eq_true rfl) dX0_run_2 (fun r1 M2 _ => ?_)
  refine hr_istore X dX0_run_5 (by decide) rfl ?_
  refine hr_iload X dX0_run_7 rfl ?_
  refine hr_csI X [.int r1] [] (c_X4_isKind r1 M2) lk_RX0_36 rfl rfl rfl (by omega) (Nat.le_of_ble_eq_true rfl) dX0_run_9 (fun r3 M4 _ => ?_)
  refine hr_if_eq X 22 dX0_run_12 rfl ?_ ?_
  · refine hr_iconst X 0 dX0_run_22 kc_0 ?_
    exact hr_iret X dX0_run_23
  · refine hr_iload X dX0_run_15 rfl ?_
    refine hr_bipush X 20 dX0_run_17 kb_20 ?_
    refine hr_icmp_le X 24 dX0_run_19 rfl ?_ ?_
    · refine hr_gsBO X ls_RX0_40 dX0_run_24 ?_
      refine hr_iconst X 3 dX0_run_27 kc_3 ?_
      refine hr_iload X dX0_run_28 rfl ?_
      refine hr_imul X dX0_run_30 ?_
      refine hr_iload_n X dX0_run_31 rfl ?_
      refine hr_iadd X dX0_run_32 ?_
      refine hr_ldBO X dX0_run_33 (fun r5 _ _ => ?_)
      refine hr_istore X dX0_run_34 (by decide) rfl ?_
      refine hr_aload_n X dX0_run_36 rfl ?_
      refine hr_iload X dX0_run_37 rfl ?_
      refine hr_cvV X [.int r5] [] (c_X0_note hl_t0 hs_t0 r5 M4) lk_RX0_43 rfl rfl rfl hl_t0 hs_t0 ⟨by decide, rfl⟩ (by omega) (Nat.le_of_ble_eq_true rfl) dX0_run_39 (fun _ M7 _ => ?_)
      refine hr_aload_n X dX0_run_42 rfl ?_
      refine hr_iload X dX0_run_43 rfl ?_
      refine hr_gsAB X ls_RX0_47 dX0_run_45 ?_
      refine hr_iload X dX0_run_48 rfl ?_
      refine hr_ldAB X dX0_run_50 (fun r8 _ _ => ?_)
      refine hr_iload_n X dX0_run_51 rfl ?_
      refine hr_iload X dX0_run_52 rfl ?_
      refine hr_iconst X 1 dX0_run_54 kc_1 ?_
      refine hr_iadd X dX0_run_55 ?_
      refine hr_cvI X [.int r5, .int r8, .int a3, .int (a4 + 1)] [] (c_X0_resultOf fR dR hB hR hl_t0 hs_t0 r5 r8 a3 (a4 + 1) M7) lk_RX0_50 rfl rfl rfl hl_t0 hs_t0 ⟨by decide, rfl⟩ (by omega) (Nat.le_of_ble_eq_true rfl) dX0_run_56 (fun r9 M10 _ => ?_)
      exact hr_iret X dX0_run_59
    · refine hr_iconst X 0 dX0_run_22 kc_0 ?_
      exact hr_iret X dX0_run_23
theorem c_X0_run_n : ∀ (n : Nat), ∀ {t0 : Nat} (_ : t0 < 69) (_ : hf_shp t0 = 0) (a1 : Int32) (a2 : Int32) (a3 : Int32) (a4 : Int32) (M : hf_M), hf_CI yX0_run cX0_run 7 (some .int) (3 + 2 * n) (fun g => [.ref (hf_a g t0), .int a1, .int a2, .int a3, .int a4]) M (s_X0_run n t0 a1 a2 a3 a4 M) := by
  intro n
  induction n with
  | zero => intros; intro l g r M' h; cases h
  | succ n ih => intro t0 hl_t0 hs_t0 a1 a2 a3 a4 M; exact c_X0_run_b (s_X0_run n) (3 + 2 * n) (by omega) ih hl_t0 hs_t0 a1 a2 a3 a4 M
theorem c_X0_run (n : Nat) {t0 : Nat} (hl_t0 : t0 < 69) (hs_t0 : hf_shp t0 = 0) (a1 : Int32) (a2 : Int32) (a3 : Int32) (a4 : Int32) (M : hf_M) : hf_CI yX0_run cX0_run 7 (some .int) (3 + 2 * n) (fun g => [.ref (hf_a g t0), .int a1, .int a2, .int a3, .int a4]) M (s_X0_run n t0 a1 a2 a3 a4 M) := c_X0_run_n n hl_t0 hs_t0 a1 a2 a3 a4 M
set_option maxRecDepth 100000 in
set_option maxHeartbeats 4000000 in
theorem c_X0_perform  {t0 : Nat} (hl_t0 : t0 < 69) (hs_t0 : hf_shp t0 = 0) (a1 : Int32) (a2 : Int32) (a3 : Int32) (a4 : Int32) (a5 : Int32) (M : hf_M) : hf_CI yX0_perform cX0_perform 6 (some .int) (52) (fun g => [.ref (hf_a g t0), .int a1, .int a2, .int a3, .int a4, .int a5]) M (s_X0_perform t0 a1 a2 a3 a4 a5 M) := by
  refine hf_metI (by decide +kernel) (fun g => Nat.le_of_ble_eq_true rfl) (fun g p l ev s m args below meth c X => ?_)
  have X : hf_X g p s m args meth c cX0_perform 6 RX0 (some .int) := X
  show hf_W g p l ev (52) s m args below meth c 6 (hf_QI g below args s) M 0 [some (.ref (hf_a g t0)), some (.int a1), some (.int a2), some (.int a3), some (.int a4), some (.int a5)] [] (s_X0_perform t0 a1 a2 a3 a4 a5 M)
  unfold s_X0_perform
  refine hr_aload_n X dX0_perform_0 rfl ?_
  refine hr_iload_n X dX0_perform_1 rfl ?_
  refine hr_pI X hl_t0 hs_t0 lp_RX0_19 dX0_perform_2 (fun M1 eM1 => ?_)
  refine hr_aload_n X dX0_perform_5 rfl ?_
  refine hr_iload_n X dX0_perform_6 rfl ?_
  refine hr_pI X hl_t0 hs_t0 lp_RX0_22 dX0_perform_7 (fun M2 eM2 => ?_)
  refine hr_aload_n X dX0_perform_10 rfl ?_
  refine hr_iload_n X dX0_perform_11 rfl ?_
  refine hr_pI X hl_t0 hs_t0 lp_RX0_25 dX0_perform_12 (fun M3 eM3 => ?_)
  refine hr_aload_n X dX0_perform_15 rfl ?_
  refine hr_aload_n X dX0_perform_16 rfl ?_
  refine hr_gI X hl_t0 hs_t0 lg_RX0_19 dX0_perform_17 ?_
  refine hr_iload X dX0_perform_20 rfl ?_
  refine hr_iload X dX0_perform_22 rfl ?_
  refine hr_iconst X 0 dX0_perform_24 kc_0 ?_
  refine hr_cvI X [.int (M3.1 t0 2), .int a4, .int a5, .int 0] [] (c_X0_run 24 hl_t0 hs_t0 (M3.1 t0 2) a4 a5 0 M3) lk_RX0_28 rfl rfl rfl hl_t0 hs_t0 ⟨by decide, rfl⟩ (by decide) (Nat.le_of_ble_eq_true rfl) dX0_perform_25 (fun r4 M5 _ => ?_)
  exact hr_iret X dX0_perform_28
set_option maxRecDepth 100000 in
set_option maxHeartbeats 4000000 in
theorem c_X2_asInt  {t0 : Nat} (hl_t0 : t0 < 69) (hs_t0 : hf_shp t0 = 2) (a1 : Int32) (M : hf_M) : hf_CI yX2_asInt cX2_asInt 2 (some .int) (1) (fun g => [.ref (hf_a g t0), .int a1]) M (s_X2_asInt t0 a1 M) := by
  refine hf_metI (by decide +kernel) (fun g => Nat.le_of_ble_eq_true rfl) (fun g p l ev s m args below meth c X => ?_)
  have X : hf_X g p s m args meth c cX2_asInt 2 RX2 (some .int) := X
  show hf_W g p l ev (1) s m args below meth c 2 (hf_QI g below args s) M 0 [some (.ref (hf_a g t0)), some (.int a1)] [] (s_X2_asInt t0 a1 M)
  unfold s_X2_asInt
  refine hr_aload_n X dX2_asInt_0 rfl ?_
  refine hr_gR X 7 hl_t0 hs_t0 lg_RX2_9 rfl dX2_asInt_1 (fun q1 hl_q1 hs_q1 => ?_)
  refine hr_iload_n X dX2_asInt_4 rfl ?_
  refine hr_lald X hl_q1 hs_q1 dX2_asInt_5 (fun r2 _ _ => ?_)
  refine hr_l2i X dX2_asInt_6 ?_
  exact hr_iret X dX2_asInt_7
set_option maxRecDepth 100000 in
set_option maxHeartbeats 4000000 in
theorem c_X1_letter  {t0 : Nat} (hl_t0 : t0 < 69) (hs_t0 : hf_shp t0 = 1) (M : hf_M) : hf_CI yX1_letter cX1_letter 1 (some .int) (2) (fun g => [.ref (hf_a g t0)]) M (s_X1_letter t0 M) := by
  refine hf_metI (by decide +kernel) (fun g => Nat.le_of_ble_eq_true rfl) (fun g p l ev s m args below meth c X => ?_)
  have X : hf_X g p s m args meth c cX1_letter 1 RX1 (some .int) := X
  show hf_W g p l ev (2) s m args below meth c 1 (hf_QI g below args s) M 0 [some (.ref (hf_a g t0))] [] (s_X1_letter t0 M)
  unfold s_X1_letter
  refine hr_aload_n X dX1_letter_0 rfl ?_
  refine hr_gI X hl_t0 hs_t0 lg_RX1_19 dX1_letter_1 ?_
  refine hr_aload_n X dX1_letter_4 rfl ?_
  refine hr_gR X 2 hl_t0 hs_t0 lg_RX1_9 rfl dX1_letter_5 (fun q1 hl_q1 hs_q1 => ?_)
  refine hr_gI X hl_q1 hs_q1 lg_RX1_39 dX1_letter_8 ?_
  refine hr_icmp_ge X 28 dX1_letter_11 rfl ?_ ?_
  · refine hr_iconst X (-1) dX1_letter_28 kc_m1 ?_
    exact hr_iret X dX1_letter_29
  · refine hr_aload_n X dX1_letter_14 rfl ?_
    refine hr_gR X 2 hl_t0 hs_t0 lg_RX1_9 rfl dX1_letter_15 (fun q2 hl_q2 hs_q2 => ?_)
    refine hr_aload_n X dX1_letter_18 rfl ?_
    refine hr_gI X hl_t0 hs_t0 lg_RX1_19 dX1_letter_19 ?_
    refine hr_cvI X [.int (M.1 t0 2)] [] (c_X2_asInt hl_q2 hs_q2 (M.1 t0 2) M) lk_RX1_48 rfl rfl rfl hl_q2 hs_q2 ⟨by decide, rfl⟩ (by decide) (Nat.le_of_ble_eq_true rfl) dX1_letter_22 (fun r3 M4 _ => ?_)
    refine hr_goto X 29 dX1_letter_25 rfl ?_
    exact hr_iret X dX1_letter_29
set_option maxRecDepth 100000 in
set_option maxHeartbeats 4000000 in
theorem c_X1_wrong  {t0 : Nat} (hl_t0 : t0 < 69) (hs_t0 : hf_shp t0 = 1) (a1 : Int32) (M : hf_M) : hf_CI yX1_wrong cX1_wrong 2 (some .boolean) (1) (fun g => [.ref (hf_a g t0), .int a1]) M (s_X1_wrong t0 a1 M) := by
  refine hf_metI (by decide +kernel) (fun g => Nat.le_of_ble_eq_true rfl) (fun g p l ev s m args below meth c X => ?_)
  have X : hf_X g p s m args meth c cX1_wrong 2 RX1 (some .boolean) := X
  show hf_W g p l ev (1) s m args below meth c 2 (hf_QI g below args s) M 0 [some (.ref (hf_a g t0)), some (.int a1)] [] (s_X1_wrong t0 a1 M)
  unfold s_X1_wrong
  refine hr_aload_n X dX1_wrong_0 rfl ?_
  refine hr_iload_n X dX1_wrong_1 rfl ?_
  refine hr_pI X hl_t0 hs_t0 lp_RX1_23 dX1_wrong_2 (fun M1 eM1 => ?_)
  refine hr_iconst X 0 dX1_wrong_5 kc_0 ?_
  exact hr_zretC X (Or.inl rfl) dX1_wrong_6
set_option maxRecDepth 100000 in
set_option maxHeartbeats 4000000 in
theorem c_X1_isSign  {t0 : Nat} (hl_t0 : t0 < 69) (hs_t0 : hf_shp t0 = 1) (a1 : Int32) (M : hf_M) : hf_CI yX1_isSign cX1_isSign 2 (some .boolean) (3) (fun g => [.ref (hf_a g t0), .int a1]) M (s_X1_isSign t0 a1 M) := by
  refine hf_metI (by decide +kernel) (fun g => Nat.le_of_ble_eq_true rfl) (fun g p l ev s m args below meth c X => ?_)
  have X : hf_X g p s m args meth c cX1_isSign 2 RX1 (some .boolean) := X
  show hf_W g p l ev (3) s m args below meth c 2 (hf_QI g below args s) M 0 [some (.ref (hf_a g t0)), some (.int a1)] [] (s_X1_isSign t0 a1 M)
  unfold s_X1_isSign
  refine hr_aload_n X dX1_isSign_0 rfl ?_
  refine hr_cvI X [] [] (c_X1_letter hl_t0 hs_t0 M) lk_RX1_52 rfl rfl rfl hl_t0 hs_t0 ⟨by decide, rfl⟩ (by decide) (Nat.le_of_ble_eq_true rfl) dX1_isSign_1 (fun r1 M2 _ => ?_)
  refine hr_iload_n X dX1_isSign_4 rfl ?_
  refine hr_icmp_eq X 17 dX1_isSign_5 rfl ?_ ?_
  · refine hr_aload_n X dX1_isSign_17 rfl ?_
    refine hr_dup X dX1_isSign_18 rfl ?_
    refine hr_gI X hl_t0 hs_t0 lg_RX1_19 dX1_isSign_19 ?_
    refine hr_iconst X 1 dX1_isSign_22 kc_1 ?_
    refine hr_iadd X dX1_isSign_23 ?_
    refine hr_pI X hl_t0 hs_t0 lp_RX1_19 dX1_isSign_24 (fun M3 eM3 => ?_)
    refine hr_iconst X 1 dX1_isSign_27 kc_1 ?_
    exact hr_zretC X (Or.inr rfl) dX1_isSign_28
  · refine hr_aload_n X dX1_isSign_8 rfl ?_
    refine hr_aload_n X dX1_isSign_9 rfl ?_
    refine hr_gI X hl_t0 hs_t0 lg_RX1_19 dX1_isSign_10 ?_
    refine hr_cvI X [.int (M2.1 t0 2)] [] (c_X1_wrong hl_t0 hs_t0 (M2.1 t0 2) M2) lk_RX1_56 rfl rfl rfl hl_t0 hs_t0 ⟨by decide, rfl⟩ (by decide) (Nat.le_of_ble_eq_true rfl) dX1_isSign_13 (fun r4 M5 _ => ?_)
    exact hr_zret X dX1_isSign_16
set_option maxRecDepth 100000 in
set_option maxHeartbeats 4000000 in
theorem c_X1_isDigit  {t0 : Nat} (hl_t0 : t0 < 69) (hs_t0 : hf_shp t0 = 1) (M : hf_M) : hf_CI yX1_isDigit cX1_isDigit 1 (some .boolean) (3) (fun g => [.ref (hf_a g t0)]) M (s_X1_isDigit t0 M) := by
  refine hf_metI (by decide +kernel) (fun g => Nat.le_of_ble_eq_true rfl) (fun g p l ev s m args below meth c X => ?_)
  have X : hf_X g p s m args meth c cX1_isDigit 1 RX1 (some .boolean) := X
  show hf_W g p l ev (3) s m args below meth c 1 (hf_QI g below args s) M 0 [some (.ref (hf_a g t0))] [] (s_X1_isDigit t0 M)
  unfold s_X1_isDigit
  refine hr_aload_n X dX1_isDigit_0 rfl ?_
  refine hr_cvI X [] [] (c_X1_letter hl_t0 hs_t0 M) lk_RX1_52 rfl rfl rfl hl_t0 hs_t0 ⟨by decide, rfl⟩ (by decide) (Nat.le_of_ble_eq_true rfl) dX1_isDigit_1 (fun r1 M2 _ => ?_)
  refine hr_bipush X 48 dX1_isDigit_4 kb_48 ?_
  refine hr_icmp_lt X 22 dX1_isDigit_6 rfl ?_ ?_
  · refine hr_iconst X 0 dX1_isDigit_22 kc_0 ?_
    exact hr_zretC X (Or.inl rfl) dX1_isDigit_23
  · refine hr_aload_n X dX1_isDigit_9 rfl ?_
    refine hr_cvI X [] [] (c_X1_letter hl_t0 hs_t0 M2) lk_RX1_52 rfl rfl rfl hl_t0 hs_t0 ⟨by decide, rfl⟩ (by decide) (Nat.le_of_ble_eq_true rfl) dX1_isDigit_10 (fun r3 M4 _ => ?_)
    refine hr_bipush X 57 dX1_isDigit_13 kb_57 ?_
    refine hr_icmp_gt X 22 dX1_isDigit_15 rfl ?_ ?_
    · refine hr_iconst X 0 dX1_isDigit_22 kc_0 ?_
      exact hr_zretC X (Or.inl rfl) dX1_isDigit_23
    · refine hr_iconst X 1 dX1_isDigit_18 kc_1 ?_
      refine hr_goto X 23 dX1_isDigit_19 rfl ?_
      exact hr_zretC X (Or.inr rfl) dX1_isDigit_23
set_option maxRecDepth 100000 in
set_option maxHeartbeats 4000000 in
theorem w_X1_isNumber_15 {g : hf_G} {p : Program} {l : Launch} {ev : Env} {s : State} {m : MethodId} {args : Array Value} {below : List Frame} {meth : Method} {c : Code} (X : hf_X g p s m args meth c cX1_isNumber 4 RX1 (some .boolean))    {t0 : Nat} (hl_t0 : t0 < 69) (hs_t0 : hf_shp t0 = 1) (v1 : Int32) (v2 : Int32) : ∀ (n : Nat) (v3 : Int32) (M : hf_M), hf_W g p l ev (4) s m args below meth c 4 (hf_QI g below args s) M 15 [some (.ref (hf_a g t0)), some (.int v1), some (.int v2), some (.int v3)] [] (s_X1_isNumber_15 t0 v1 v2 n v3 M) := by
  intro n
  induction n with
  | zero =>
    intros
    exact hr_none
  | succ n ih =>
    intro v3 M
    rw [s_X1_isNumber_15]
    refine hr_iload_n X dX1_isNumber_15 rfl ?_
    refine hr_iconst X 4 dX1_isNumber_16 kc_4 ?_
    refine hr_icmp_ge X 62 dX1_isNumber_17 rfl ?_ ?_
    · refine hr_aload_n X dX1_isNumber_62 rfl ?_
      refine hr_gI X hl_t0 hs_t0 lg_RX1_19 dX1_isNumber_63 ?_
      refine hr_aload_n X dX1_isNumber_66 rfl ?_
      refine hr_gI X hl_t0 hs_t0 lg_RX1_32 dX1_isNumber_67 ?_
      refine hr_icmp_le X 89 dX1_isNumber_70 rfl ?_ ?_
      · refine hr_aload_n X dX1_isNumber_89 rfl ?_
        refine hr_aload_n X dX1_isNumber_90 rfl ?_
        refine hr_gI X hl_t0 hs_t0 lg_RX1_32 dX1_isNumber_91 ?_
        refine hr_cvI X [.int (M.1 t0 6)] [] (c_X1_wrong hl_t0 hs_t0 (M.1 t0 6) M) lk_RX1_56 rfl rfl rfl hl_t0 hs_t0 ⟨by decide, rfl⟩ (by decide) (Nat.le_of_ble_eq_true rfl) dX1_isNumber_94 (fun r1 M2 _ => ?_)
        refine hr_if_eq X 104 dX1_isNumber_97 rfl ?_ ?_
        · refine hr_iconst X 0 dX1_isNumber_104 kc_0 ?_
          exact hr_zretC X (Or.inl rfl) dX1_isNumber_105
        · refine hr_iconst X 1 dX1_isNumber_100 kc_1 ?_
          refine hr_goto X 105 dX1_isNumber_101 rfl ?_
          exact hr_zretC X (Or.inr rfl) dX1_isNumber_105
      · refine hr_aload_n X dX1_isNumber_73 rfl ?_
        refine hr_gI X hl_t0 hs_t0 lg_RX1_29 dX1_isNumber_74 ?_
        refine hr_iload_n X dX1_isNumber_77 rfl ?_
        refine hr_icmp_lt X 89 dX1_isNumber_78 rfl ?_ ?_
        · refine hr_aload_n X dX1_isNumber_89 rfl ?_
          refine hr_aload_n X dX1_isNumber_90 rfl ?_
          refine hr_gI X hl_t0 hs_t0 lg_RX1_32 dX1_isNumber_91 ?_
          refine hr_cvI X [.int (M.1 t0 6)] [] (c_X1_wrong hl_t0 hs_t0 (M.1 t0 6) M) lk_RX1_56 rfl rfl rfl hl_t0 hs_t0 ⟨by decide, rfl⟩ (by decide) (Nat.le_of_ble_eq_true rfl) dX1_isNumber_94 (fun r3 M4 _ => ?_)
          refine hr_if_eq X 104 dX1_isNumber_97 rfl ?_ ?_
          · refine hr_iconst X 0 dX1_isNumber_104 kc_0 ?_
            exact hr_zretC X (Or.inl rfl) dX1_isNumber_105
          · refine hr_iconst X 1 dX1_isNumber_100 kc_1 ?_
            refine hr_goto X 105 dX1_isNumber_101 rfl ?_
            exact hr_zretC X (Or.inr rfl) dX1_isNumber_105
        · refine hr_aload_n X dX1_isNumber_81 rfl ?_
          refine hr_gI X hl_t0 hs_t0 lg_RX1_29 dX1_isNumber_82 ?_
          refine hr_iload_n X dX1_isNumber_85 rfl ?_
          refine hr_icmp_le X 100 dX1_isNumber_86 rfl ?_ ?_
          · refine hr_iconst X 1 dX1_isNumber_100 kc_1 ?_
            refine hr_goto X 105 dX1_isNumber_101 rfl ?_
            exact hr_zretC X (Or.inr rfl) dX1_isNumber_105
          · refine hr_aload_n X dX1_isNumber_89 rfl ?_
            refine hr_aload_n X dX1_isNumber_90 rfl ?_
            refine hr_gI X hl_t0 hs_t0 lg_RX1_32 dX1_isNumber_91 ?_
            refine hr_cvI X [.int (M.1 t0 6)] [] (c_X1_wrong hl_t0 hs_t0 (M.1 t0 6) M) lk_RX1_56 rfl rfl rfl hl_t0 hs_t0 ⟨by decide, rfl⟩ (by decide) (Nat.le_of_ble_eq_true rfl) dX1_isNumber_94 (fun r5 M6 _ => ?_)
            refine hr_if_eq X 104 dX1_isNumber_97 rfl ?_ ?_
            · refine hr_iconst X 0 dX1_isNumber_104 kc_0 ?_
              exact hr_zretC X (Or.inl rfl) dX1_isNumber_105
            · refine hr_iconst X 1 dX1_isNumber_100 kc_1 ?_
              refine hr_goto X 105 dX1_isNumber_101 rfl ?_
              exact hr_zretC X (Or.inr rfl) dX1_isNumber_105
    · refine hr_aload_n X dX1_isNumber_20 rfl ?_
      refine hr_cvI X [] [] (c_X1_isDigit hl_t0 hs_t0 M) lk_RX1_69 rfl rfl rfl hl_t0 hs_t0 ⟨by decide, rfl⟩ (by decide) (Nat.le_of_ble_eq_true rfl) dX1_isNumber_21 (fun r7 M8 _ => ?_)
      refine hr_if_eq X 62 dX1_isNumber_24 rfl ?_ ?_
      · refine hr_aload_n X dX1_isNumber_62 rfl ?_
        refine hr_gI X hl_t0 hs_t0 lg_RX1_19 dX1_isNumber_63 ?_
        refine hr_aload_n X dX1_isNumber_66 rfl ?_
        refine hr_gI X hl_t0 hs_t0 lg_RX1_32 dX1_isNumber_67 ?_
        refine hr_icmp_le X 89 dX1_isNumber_70 rfl ?_ ?_
        · refine hr_aload_n X dX1_isNumber_89 rfl ?_
          refine hr_aload_n X dX1_isNumber_90 rfl ?_
          refine hr_gI X hl_t0 hs_t0 lg_RX1_32 dX1_isNumber_91 ?_
          refine hr_cvI X [.int (M8.1 t0 6)] [] (c_X1_wrong hl_t0 hs_t0 (M8.1 t0 6) M8) lk_RX1_56 rfl rfl rfl hl_t0 hs_t0 ⟨by decide, rfl⟩ (by decide) (Nat.le_of_ble_eq_true rfl) dX1_isNumber_94 (fun r9 M10 _ => ?_)
          refine hr_if_eq X 104 dX1_isNumber_97 rfl ?_ ?_
          · refine hr_iconst X 0 dX1_isNumber_104 kc_0 ?_
            exact hr_zretC X (Or.inl rfl) dX1_isNumber_105
          · refine hr_iconst X 1 dX1_isNumber_100 kc_1 ?_
            refine hr_goto X 105 dX1_isNumber_101 rfl ?_
            exact hr_zretC X (Or.inr rfl) dX1_isNumber_105
        · refine hr_aload_n X dX1_isNumber_73 rfl ?_
          refine hr_gI X hl_t0 hs_t0 lg_RX1_29 dX1_isNumber_74 ?_
          refine hr_iload_n X dX1_isNumber_77 rfl ?_
          refine hr_icmp_lt X 89 dX1_isNumber_78 rfl ?_ ?_
          · refine hr_aload_n X dX1_isNumber_89 rfl ?_
            refine hr_aload_n X dX1_isNumber_90 rfl ?_
            refine hr_gI X hl_t0 hs_t0 lg_RX1_32 dX1_isNumber_91 ?_
            refine hr_cvI X [.int (M8.1 t0 6)] [] (c_X1_wrong hl_t0 hs_t0 (M8.1 t0 6) M8) lk_RX1_56 rfl rfl rfl hl_t0 hs_t0 ⟨by decide, rfl⟩ (by decide) (Nat.le_of_ble_eq_true rfl) dX1_isNumber_94 (fun r11 M12 _ => ?_)
            refine hr_if_eq X 104 dX1_isNumber_97 rfl ?_ ?_
            · refine hr_iconst X 0 dX1_isNumber_104 kc_0 ?_
              exact hr_zretC X (Or.inl rfl) dX1_isNumber_105
            · refine hr_iconst X 1 dX1_isNumber_100 kc_1 ?_
              refine hr_goto X 105 dX1_isNumber_101 rfl ?_
              exact hr_zretC X (Or.inr rfl) dX1_isNumber_105
          · refine hr_aload_n X dX1_isNumber_81 rfl ?_
            refine hr_gI X hl_t0 hs_t0 lg_RX1_29 dX1_isNumber_82 ?_
            refine hr_iload_n X dX1_isNumber_85 rfl ?_
            refine hr_icmp_le X 100 dX1_isNumber_86 rfl ?_ ?_
            · refine hr_iconst X 1 dX1_isNumber_100 kc_1 ?_
              refine hr_goto X 105 dX1_isNumber_101 rfl ?_
              exact hr_zretC X (Or.inr rfl) dX1_isNumber_105
            · refine hr_aload_n X dX1_isNumber_89 rfl ?_
              refine hr_aload_n X dX1_isNumber_90 rfl ?_
              refine hr_gI X hl_t0 hs_t0 lg_RX1_32 dX1_isNumber_91 ?_
              refine hr_cvI X [.int (M8.1 t0 6)] [] (c_X1_wrong hl_t0 hs_t0 (M8.1 t0 6) M8) lk_RX1_56 rfl rfl rfl hl_t0 hs_t0 ⟨by decide, rfl⟩ (by decide) (Nat.le_of_ble_eq_true rfl) dX1_isNumber_94 (fun r13 M14 _ => ?_)
              refine hr_if_eq X 104 dX1_isNumber_97 rfl ?_ ?_
              · refine hr_iconst X 0 dX1_isNumber_104 kc_0 ?_
                exact hr_zretC X (Or.inl rfl) dX1_isNumber_105
              · refine hr_iconst X 1 dX1_isNumber_100 kc_1 ?_
                refine hr_goto X 105 dX1_isNumber_101 rfl ?_
                exact hr_zretC X (Or.inr rfl) dX1_isNumber_105
      · refine hr_aload_n X dX1_isNumber_27 rfl ?_
        refine hr_bipush X 10 dX1_isNumber_28 kb_10 ?_
        refine hr_aload_n X dX1_isNumber_30 rfl ?_
        refine hr_gI X hl_t0 hs_t0 lg_RX1_29 dX1_isNumber_31 ?_
        refine hr_imul X dX1_isNumber_34 ?_
        refine hr_aload_n X dX1_isNumber_35 rfl ?_
        refine hr_cvI X [] [.int (10 * (M8.1 t0 5)), .ref (hf_a g t0)] (c_X1_letter hl_t0 hs_t0 M8) lk_RX1_52 rfl rfl rfl hl_t0 hs_t0 ⟨by decide, rfl⟩ (by decide) (Nat.le_of_ble_eq_true rfl) dX1_isNumber_36 (fun r15 M16 _ => ?_)
        refine hr_iadd X dX1_isNumber_39 ?_
        refine hr_bipush X 48 dX1_isNumber_40 kb_48 ?_
        refine hr_isub X dX1_isNumber_42 ?_
        refine hr_pI X hl_t0 hs_t0 lp_RX1_29 dX1_isNumber_43 (fun M17 eM17 => ?_)
        refine hr_aload_n X dX1_isNumber_46 rfl ?_
        refine hr_dup X dX1_isNumber_47 rfl ?_
        refine hr_gI X hl_t0 hs_t0 lg_RX1_19 dX1_isNumber_48 ?_
        refine hr_iconst X 1 dX1_isNumber_51 kc_1 ?_
        refine hr_iadd X dX1_isNumber_52 ?_
        refine hr_pI X hl_t0 hs_t0 lp_RX1_19 dX1_isNumber_53 (fun M18 eM18 => ?_)
        refine hr_iinc X (v3 + 1) dX1_isNumber_56 rfl (by rw [kc_1]) (by decide) rfl ?_
        refine hr_goto X 15 dX1_isNumber_59 rfl ?_
        exact hr_wk (hs_some (hs_some (hs_some (hs_some (hs_nil))))) (ih (v3 + 1) M18)
set_option maxRecDepth 100000 in
set_option maxHeartbeats 4000000 in
theorem c_X1_isNumber  {t0 : Nat} (hl_t0 : t0 < 69) (hs_t0 : hf_shp t0 = 1) (a1 : Int32) (a2 : Int32) (M : hf_M) : hf_CI yX1_isNumber cX1_isNumber 4 (some .boolean) (4) (fun g => [.ref (hf_a g t0), .int a1, .int a2]) M (s_X1_isNumber t0 a1 a2 M) := by
  refine hf_metI (by decide +kernel) (fun g => Nat.le_of_ble_eq_true rfl) (fun g p l ev s m args below meth c X => ?_)
  have X : hf_X g p s m args meth c cX1_isNumber 4 RX1 (some .boolean) := X
  show hf_W g p l ev (4) s m args below meth c 4 (hf_QI g below args s) M 0 [some (.ref (hf_a g t0)), some (.int a1), some (.int a2), none] [] (s_X1_isNumber t0 a1 a2 M)
  unfold s_X1_isNumber
  refine hr_aload_n X dX1_isNumber_0 rfl ?_
  refine hr_aload_n X dX1_isNumber_1 rfl ?_
  refine hr_gI X hl_t0 hs_t0 lg_RX1_19 dX1_isNumber_2 ?_
  refine hr_pI X hl_t0 hs_t0 lp_RX1_32 dX1_isNumber_5 (fun M1 eM1 => ?_)
  refine hr_aload_n X dX1_isNumber_8 rfl ?_
  refine hr_iconst X 0 dX1_isNumber_9 kc_0 ?_
  refine hr_pI X hl_t0 hs_t0 lp_RX1_29 dX1_isNumber_10 (fun M2 eM2 => ?_)
  refine hr_iconst X 0 dX1_isNumber_13 kc_0 ?_
  refine hr_istore_n X dX1_isNumber_14 (by decide) rfl ?_
  exact hr_wk (hs_some (hs_some (hs_some (hs_some (hs_nil))))) (w_X1_isNumber_15 X hl_t0 hs_t0 a1 a2 2000 0 M2)
set_option maxRecDepth 100000 in
set_option maxHeartbeats 4000000 in
theorem w_X1_isWord_8 {g : hf_G} {p : Program} {l : Launch} {ev : Env} {s : State} {m : MethodId} {args : Array Value} {below : List Frame} {meth : Method} {c : Code} (X : hf_X g p s m args meth c cX1_isWord 5 RX1 (some .boolean))    {t0 : Nat} (hl_t0 : t0 < 69) (hs_t0 : hf_shp t0 = 1) {t1 : Nat} (hl_t1 : t1 < 5) (v2 : Int32) (v3 : Int32) : ∀ (n : Nat) (v4 : Int32) (M : hf_M), hf_W g p l ev (5) s m args below meth c 5 (hf_QI g below args s) M 8 [some (.ref (hf_a g t0)), some (.ref (hf_aK g t1)), some (.int v2), some (.int v3), some (.int v4)] [] (s_X1_isWord_8 t0 t1 v2 v3 n v4 M) := by
  intro n
  induction n with
  | zero =>
    intros
    exact hr_none
  | succ n ih =>
    intro v4 M
    rw [s_X1_isWord_8]
    refine hr_iload X dX1_isWord_8 rfl ?_
    refine hr_aload_n X dX1_isWord_10 rfl ?_
    refine hr_strlen X hl_t1 lkS_RX1_60 (by decide) (Nat.le_of_ble_eq_true rfl) dX1_isWord_11 ?_
    refine hr_icmp_ge X 38 dX1_isWord_14 rfl ?_ ?_
    · refine hr_iload_n X dX1_isWord_38 rfl ?_
      refine hr_if_eq X 51 dX1_isWord_39 rfl ?_ ?_
      · refine hr_aload_n X dX1_isWord_51 rfl ?_
        refine hr_iload_n X dX1_isWord_52 rfl ?_
        refine hr_cvI X [.int v3] [] (c_X1_wrong hl_t0 hs_t0 v3 M) lk_RX1_56 rfl rfl rfl hl_t0 hs_t0 ⟨by decide, rfl⟩ (by decide) (Nat.le_of_ble_eq_true rfl) dX1_isWord_53 (fun r1 M2 _ => ?_)
        exact hr_zret X dX1_isWord_56
      · refine hr_aload_n X dX1_isWord_42 rfl ?_
        refine hr_bipush X 32 dX1_isWord_43 kb_32 ?_
        refine hr_cvI X [.int 32] [] (c_X1_isSign hl_t0 hs_t0 32 M) lk_RX1_44 rfl rfl rfl hl_t0 hs_t0 ⟨by decide, rfl⟩ (by decide) (Nat.le_of_ble_eq_true rfl) dX1_isWord_45 (fun r3 M4 _ => ?_)
        refine hr_goto X 56 dX1_isWord_48 rfl ?_
        exact hr_zret X dX1_isWord_56
    · refine hr_aload_n X dX1_isWord_17 rfl ?_
      refine hr_aload_n X dX1_isWord_18 rfl ?_
      refine hr_iload X dX1_isWord_19 rfl ?_
      refine hr_charAt X hl_t1 lkS_RX1_65 (by decide) (Nat.le_of_ble_eq_true rfl) dX1_isWord_21 (fun r5 _ => ?_)
      refine hr_cvI X [.int r5] [] (c_X1_isSign hl_t0 hs_t0 r5 M) lk_RX1_44 rfl rfl rfl hl_t0 hs_t0 ⟨by decide, rfl⟩ (by decide) (Nat.le_of_ble_eq_true rfl) dX1_isWord_24 (fun r6 M7 _ => ?_)
      refine hr_if_ne X 32 dX1_isWord_27 rfl ?_ ?_
      · refine hr_iinc X (v4 + 1) dX1_isWord_32 rfl (by rw [kc_1]) (by decide) rfl ?_
        refine hr_goto X 8 dX1_isWord_35 rfl ?_
        exact hr_wk (hs_some (hs_some (hs_some (hs_some (hs_some (hs_nil)))))) (ih (v4 + 1) M7)
      · refine hr_iconst X 0 dX1_isWord_30 kc_0 ?_
        exact hr_zretC X (Or.inl rfl) dX1_isWord_31
set_option maxRecDepth 100000 in
set_option maxHeartbeats 4000000 in
theorem c_X1_isWord  {t0 : Nat} (hl_t0 : t0 < 69) (hs_t0 : hf_shp t0 = 1) {t1 : Nat} (hl_t1 : t1 < 5) (a2 : Int32) (M : hf_M) : hf_CI yX1_isWord cX1_isWord 5 (some .boolean) (5) (fun g => [.ref (hf_a g t0), .ref (hf_aK g t1), .int a2]) M (s_X1_isWord t0 t1 a2 M) := by
  refine hf_metI (by decide +kernel) (fun g => Nat.le_of_ble_eq_true rfl) (fun g p l ev s m args below meth c X => ?_)
  have X : hf_X g p s m args meth c cX1_isWord 5 RX1 (some .boolean) := X
  show hf_W g p l ev (5) s m args below meth c 5 (hf_QI g below args s) M 0 [some (.ref (hf_a g t0)), some (.ref (hf_aK g t1)), some (.int a2), none, none] [] (s_X1_isWord t0 t1 a2 M)
  unfold s_X1_isWord
  refine hr_aload_n X dX1_isWord_0 rfl ?_
  refine hr_gI X hl_t0 hs_t0 lg_RX1_19 dX1_isWord_1 ?_
  refine hr_istore_n X dX1_isWord_4 (by decide) rfl ?_
  refine hr_iconst X 0 dX1_isWord_5 kc_0 ?_
  refine hr_istore X dX1_isWord_6 (by decide) rfl ?_
  exact hr_wk (hs_some (hs_some (hs_some (hs_some (hs_some (hs_nil)))))) (w_X1_isWord_8 X hl_t0 hs_t0 hl_t1 a2 (M.1 t0 2) 2000 0 M)
set_option maxRecDepth 100000 in
set_option maxHeartbeats 4000000 in
theorem c_X3_addFact  {t0 : Nat} (hl_t0 : t0 < 69) (hs_t0 : hf_shp t0 = 3) (a1 : Int32) (M : hf_M) : hf_CV yX3_addFact cX3_addFact 2 (none) (1) (fun g => [.ref (hf_a g t0), .int a1]) M (s_X3_addFact t0 a1 M) := by
  refine hf_metV (by decide +kernel) (fun g => Nat.le_of_ble_eq_true rfl) (fun g p l ev s m args below meth c X => ?_)
  have X : hf_X g p s m args meth c cX3_addFact 2 RX3 (none) := X
  show hf_W g p l ev (1) s m args below meth c 2 (hf_QV g below args s) M 0 [some (.ref (hf_a g t0)), some (.int a1)] [] (s_X3_addFact t0 a1 M)
  unfold s_X3_addFact
  refine hr_aload_n X dX3_addFact_0 rfl ?_
  refine hr_gI X hl_t0 hs_t0 lg_RX3_37 dX3_addFact_1 ?_
  refine hr_bipush X 6 dX3_addFact_4 kb_6 ?_
  refine hr_icmp_ge X 49 dX3_addFact_6 rfl ?_ ?_
  · exact hr_vret X dX3_addFact_49
  · refine hr_aload_n X dX3_addFact_9 rfl ?_
    refine hr_gR X 6 hl_t0 hs_t0 lg_RX3_9 rfl dX3_addFact_10 (fun q1 hl_q1 hs_q1 => ?_)
    refine hr_aload_n X dX3_addFact_13 rfl ?_
    refine hr_gI X hl_t0 hs_t0 lg_RX3_37 dX3_addFact_14 ?_
    refine hr_iload_n X dX3_addFact_17 rfl ?_
    refine hr_iast X hl_q1 hs_q1 dX3_addFact_18 (fun M2 eM2 _ => ?_)
    refine hr_aload_n X dX3_addFact_19 rfl ?_
    refine hr_dup X dX3_addFact_20 rfl ?_
    refine hr_gL X hl_t0 hs_t0 lg_RX3_47 dX3_addFact_21 ?_
    refine hr_aload_n X dX3_addFact_24 rfl ?_
    refine hr_gL X hl_t0 hs_t0 lg_RX3_47 dX3_addFact_25 ?_
    refine hr_iconst X 1 dX3_addFact_28 kc_1 ?_
    refine hr_aload_n X dX3_addFact_29 rfl ?_
    refine hr_gI X hl_t0 hs_t0 lg_RX3_37 dX3_addFact_30 ?_
    refine hr_ishl X dX3_addFact_33 ?_
    refine hr_lshl X dX3_addFact_34 ?_
    refine hr_lor X dX3_addFact_35 ?_
    refine hr_pL X hl_t0 hs_t0 lp_RX3_47 dX3_addFact_36 (fun M3 eM3 => ?_)
    refine hr_aload_n X dX3_addFact_39 rfl ?_
    refine hr_dup X dX3_addFact_40 rfl ?_
    refine hr_gI X hl_t0 hs_t0 lg_RX3_37 dX3_addFact_41 ?_
    refine hr_iconst X 1 dX3_addFact_44 kc_1 ?_
    refine hr_iadd X dX3_addFact_45 ?_
    refine hr_pI X hl_t0 hs_t0 lp_RX3_37 dX3_addFact_46 (fun M4 eM4 => ?_)
    exact hr_vret X dX3_addFact_49
set_option maxRecDepth 100000 in
set_option maxHeartbeats 4000000 in
theorem c_X1_readFact  {t0 : Nat} (hl_t0 : t0 < 69) (hs_t0 : hf_shp t0 = 1) (M : hf_M) : hf_CI yX1_readFact cX1_readFact 1 (some .boolean) (6) (fun g => [.ref (hf_a g t0)]) M (s_X1_readFact t0 M) := by
  refine hf_metI (by decide +kernel) (fun g => Nat.le_of_ble_eq_true rfl) (fun g p l ev s m args below meth c X => ?_)
  have X : hf_X g p s m args meth c cX1_readFact 1 RX1 (some .boolean) := X
  show hf_W g p l ev (6) s m args below meth c 1 (hf_QI g below args s) M 0 [some (.ref (hf_a g t0))] [] (s_X1_readFact t0 M)
  unfold s_X1_readFact
  refine hr_aload_n X dX1_readFact_0 rfl ?_
  refine hr_ldS X (i := 0) (by decide) dX1_readFact_1 ?_
  refine hr_aload_n X dX1_readFact_3 rfl ?_
  refine hr_gR X 3 hl_t0 hs_t0 lg_RX1_15 rfl dX1_readFact_4 (fun q1 hl_q1 hs_q1 => ?_)
  refine hr_gI X hl_q1 hs_q1 lg_RX1_89 dX1_readFact_7 ?_
  refine hr_bipush X 6 dX1_readFact_10 kb_6 ?_
  refine hr_icmp_ge X 19 dX1_readFact_12 rfl ?_ ?_
  · refine hr_iconst X 0 dX1_readFact_19 kc_0 ?_
    refine hr_cvI X [.ref (hf_aK g 0), .int 0] [] (c_X1_isWord hl_t0 hs_t0 (by decide : (0 : Nat) < 5) 0 M) lk_RX1_94 rfl rfl rfl hl_t0 hs_t0 ⟨by decide, rfl⟩ (by decide) (Nat.le_of_ble_eq_true rfl) dX1_readFact_20 (fun r2 M3 _ => ?_)
    refine hr_if_eq X 36 dX1_readFact_23 rfl ?_ ?_
    · refine hr_iconst X 0 dX1_readFact_36 kc_0 ?_
      exact hr_zretC X (Or.inl rfl) dX1_readFact_37
    · refine hr_aload_n X dX1_readFact_26 rfl ?_
      refine hr_iconst X 0 dX1_readFact_27 kc_0 ?_
      refine hr_bipush X 99 dX1_readFact_28 kb_99 ?_
      refine hr_cvI X [.int 0, .int 99] [] (c_X1_isNumber hl_t0 hs_t0 0 99 M3) lk_RX1_98 rfl rfl rfl hl_t0 hs_t0 ⟨by decide, rfl⟩ (by decide) (Nat.le_of_ble_eq_true rfl) dX1_readFact_30 (fun r4 M5 _ => ?_)
      refine hr_if_ne X 38 dX1_readFact_33 rfl ?_ ?_
      · refine hr_aload_n X dX1_readFact_38 rfl ?_
        refine hr_gR X 3 hl_t0 hs_t0 lg_RX1_15 rfl dX1_readFact_39 (fun q6 hl_q6 hs_q6 => ?_)
        refine hr_aload_n X dX1_readFact_42 rfl ?_
        refine hr_gI X hl_t0 hs_t0 lg_RX1_29 dX1_readFact_43 ?_
        refine hr_cvV X [.int (M5.1 t0 5)] [] (c_X3_addFact hl_q6 hs_q6 (M5.1 t0 5) M5) lk_RX1_102 rfl rfl rfl hl_q6 hs_q6 ⟨by decide, rfl⟩ (by decide) (Nat.le_of_ble_eq_true rfl) dX1_readFact_46 (fun _ M8 _ => ?_)
        refine hr_iconst X 1 dX1_readFact_49 kc_1 ?_
        exact hr_zretC X (Or.inr rfl) dX1_readFact_50
      · refine hr_iconst X 0 dX1_readFact_36 kc_0 ?_
        exact hr_zretC X (Or.inl rfl) dX1_readFact_37
  · refine hr_iconst X 1 dX1_readFact_15 kc_1 ?_
    refine hr_goto X 20 dX1_readFact_16 rfl ?_
    refine hr_cvI X [.ref (hf_aK g 0), .int 1] [] (c_X1_isWord hl_t0 hs_t0 (by decide : (0 : Nat) < 5) 1 M) lk_RX1_94 rfl rfl rfl hl_t0 hs_t0 ⟨by decide, rfl⟩ (by decide) (Nat.le_of_ble_eq_true rfl) dX1_readFact_20 (fun r9 M10 _ => ?_)
    refine hr_if_eq X 36 dX1_readFact_23 rfl ?_ ?_
    · refine hr_iconst X 0 dX1_readFact_36 kc_0 ?_
      exact hr_zretC X (Or.inl rfl) dX1_readFact_37
    · refine hr_aload_n X dX1_readFact_26 rfl ?_
      refine hr_iconst X 0 dX1_readFact_27 kc_0 ?_
      refine hr_bipush X 99 dX1_readFact_28 kb_99 ?_
      refine hr_cvI X [.int 0, .int 99] [] (c_X1_isNumber hl_t0 hs_t0 0 99 M10) lk_RX1_98 rfl rfl rfl hl_t0 hs_t0 ⟨by decide, rfl⟩ (by decide) (Nat.le_of_ble_eq_true rfl) dX1_readFact_30 (fun r11 M12 _ => ?_)
      refine hr_if_ne X 38 dX1_readFact_33 rfl ?_ ?_
      · refine hr_aload_n X dX1_readFact_38 rfl ?_
        refine hr_gR X 3 hl_t0 hs_t0 lg_RX1_15 rfl dX1_readFact_39 (fun q13 hl_q13 hs_q13 => ?_)
        refine hr_aload_n X dX1_readFact_42 rfl ?_
        refine hr_gI X hl_t0 hs_t0 lg_RX1_29 dX1_readFact_43 ?_
        refine hr_cvV X [.int (M12.1 t0 5)] [] (c_X3_addFact hl_q13 hs_q13 (M12.1 t0 5) M12) lk_RX1_102 rfl rfl rfl hl_q13 hs_q13 ⟨by decide, rfl⟩ (by decide) (Nat.le_of_ble_eq_true rfl) dX1_readFact_46 (fun _ M15 _ => ?_)
        refine hr_iconst X 1 dX1_readFact_49 kc_1 ?_
        exact hr_zretC X (Or.inr rfl) dX1_readFact_50
      · refine hr_iconst X 0 dX1_readFact_36 kc_0 ?_
        exact hr_zretC X (Or.inl rfl) dX1_readFact_37
set_option maxRecDepth 100000 in
set_option maxHeartbeats 4000000 in
theorem c_X4_truthOf  (a0 : Int32) (a1 : Int32) (M : hf_M) : hf_CJ yX4_truthOf cX4_truthOf 2 (some .long) (1) (fun g => [.int a0, .int a1]) M (s_X4_truthOf a0 a1 M) := by
  refine hf_metJ (by decide +kernel) (fun g => Nat.le_of_ble_eq_true rfl) (fun g p l ev s m args below meth c X => ?_)
  have X : hf_X g p s m args meth c cX4_truthOf 2 RX4 (some .long) := X
  show hf_W g p l ev (1) s m args below meth c 2 (hf_QJ g below args s) M 0 [some (.int a0), some (.int a1)] [] (s_X4_truthOf a0 a1 M)
  unfold s_X4_truthOf
  refine hr_iload_n X dX4_truthOf_0 rfl ?_
  refine hr_if_eq X 12 dX4_truthOf_1 rfl ?_ ?_
  · refine hr_gsSO X ls_RX4_59 dX4_truthOf_12 ?_
    refine hr_iload_n X dX4_truthOf_15 rfl ?_
    refine hr_ldSO X dX4_truthOf_16 (fun r1 _ _ => ?_)
    refine hr_ldc2 X dX4_truthOf_17 (hf_c2 101 rfl rfl) ?_
    refine hr_lxor X dX4_truthOf_20 ?_
    exact hr_lret X dX4_truthOf_21
  · refine hr_gsSO X ls_RX4_59 dX4_truthOf_4 ?_
    refine hr_iload_n X dX4_truthOf_7 rfl ?_
    refine hr_ldSO X dX4_truthOf_8 (fun r2 _ _ => ?_)
    refine hr_goto X 21 dX4_truthOf_9 rfl ?_
    exact hr_lret X dX4_truthOf_21
set_option maxRecDepth 100000 in
set_option maxHeartbeats 4000000 in
theorem c_X3_learn  {t0 : Nat} (hl_t0 : t0 < 69) (hs_t0 : hf_shp t0 = 3) (a1 : Int32) (a2 : Int32) (M : hf_M) : hf_CV yX3_learn cX3_learn 3 (none) (2) (fun g => [.ref (hf_a g t0), .int a1, .int a2]) M (s_X3_learn t0 a1 a2 M) := by
  refine hf_metV (by decide +kernel) (fun g => Nat.le_of_ble_eq_true rfl) (fun g p l ev s m args below meth c X => ?_)
  have X : hf_X g p s m args meth c cX3_learn 3 RX3 (none) := X
  show hf_W g p l ev (2) s m args below meth c 3 (hf_QV g below args s) M 0 [some (.ref (hf_a g t0)), some (.int a1), some (.int a2)] [] (s_X3_learn t0 a1 a2 M)
  unfold s_X3_learn
  refine hr_aload_n X dX3_learn_0 rfl ?_
  refine hr_dup X dX3_learn_1 rfl ?_
  refine hr_gL X hl_t0 hs_t0 lg_RX3_47 dX3_learn_2 ?_
  refine hr_iload_n X dX3_learn_5 rfl ?_
  refine hr_iload_n X dX3_learn_6 rfl ?_
  refine hr_csJ X [.int a1, .int a2] [.long (M.2.1 t0 11), .ref (hf_a g t0)] (c_X4_truthOf a1 a2 M) lk_RX3_72 rfl rfl rfl (by decide) (Nat.le_of_ble_eq_true rfl) dX3_learn_7 (fun r1 M2 _ => ?_)
  refine hr_land X dX3_learn_10 ?_
  refine hr_pL X hl_t0 hs_t0 lp_RX3_47 dX3_learn_11 (fun M3 eM3 => ?_)
  exact hr_vret X dX3_learn_14
set_option maxRecDepth 100000 in
set_option maxHeartbeats 4000000 in
theorem c_X3_digit  (a0 : Int64) (a2 : Int32) (M : hf_M) : hf_CJ yX3_digit cX3_digit 3 (some .long) (1) (fun g => [.long a0, .int a2]) M (s_X3_digit a0 a2 M) := by
  refine hf_metJ (by decide +kernel) (fun g => Nat.le_of_ble_eq_true rfl) (fun g p l ev s m args below meth c X => ?_)
  have X : hf_X g p s m args meth c cX3_digit 3 RX3 (some .long) := X
  show hf_W g p l ev (1) s m args below meth c 3 (hf_QJ g below args s) M 0 [some (.long a0), none, some (.int a2)] [] (s_X3_digit a0 a2 M)
  unfold s_X3_digit
  refine hr_iload_n X dX3_digit_0 rfl ?_
  refine hr_iconst X 1 dX3_digit_1 kc_1 ?_
  refine hr_iand X dX3_digit_2 ?_
  refine hr_iconst X 1 dX3_digit_3 kc_1 ?_
  refine hr_icmp_ne X 11 dX3_digit_4 rfl ?_ ?_
  · refine hr_lload_n X dX3_digit_11 rfl ?_
    refine hr_ldc2 X dX3_digit_12 (hf_c2 125 rfl rfl) ?_
    refine hr_lxor X dX3_digit_15 ?_
    exact hr_lret X dX3_digit_16
  · refine hr_lload_n X dX3_digit_7 rfl ?_
    refine hr_goto X 16 dX3_digit_8 rfl ?_
    exact hr_lret X dX3_digit_16
set_option maxRecDepth 100000 in
set_option maxHeartbeats 4000000 in
theorem c_X3_isChosen  {t0 : Nat} (hl_t0 : t0 < 69) (hs_t0 : hf_shp t0 = 3) (a1 : Int32) (a2 : Int32) (a3 : Int64) (M : hf_M) : hf_CI yX3_isChosen cX3_isChosen 5 (some .boolean) (1) (fun g => [.ref (hf_a g t0), .int a1, .int a2, .long a3]) M (s_X3_isChosen t0 a1 a2 a3 M) := by
  refine hf_metI (by decide +kernel) (fun g => Nat.le_of_ble_eq_true rfl) (fun g p l ev s m args below meth c X => ?_)
  have X : hf_X g p s m args meth c cX3_isChosen 5 RX3 (some .boolean) := X
  show hf_W g p l ev (1) s m args below meth c 5 (hf_QI g below args s) M 0 [some (.ref (hf_a g t0)), some (.int a1), some (.int a2), some (.long a3), none] [] (s_X3_isChosen t0 a1 a2 a3 M)
  unfold s_X3_isChosen
  refine hr_aload_n X dX3_isChosen_0 rfl ?_
  refine hr_gR X 6 hl_t0 hs_t0 lg_RX3_24 rfl dX3_isChosen_1 (fun q1 hl_q1 hs_q1 => ?_)
  refine hr_iload_n X dX3_isChosen_4 rfl ?_
  refine hr_iald X hl_q1 hs_q1 dX3_isChosen_5 (fun r2 _ _ => ?_)
  refine hr_iload_n X dX3_isChosen_6 rfl ?_
  refine hr_icmp_ne X 24 dX3_isChosen_7 rfl ?_ ?_
  · refine hr_iconst X 0 dX3_isChosen_24 kc_0 ?_
    exact hr_zretC X (Or.inl rfl) dX3_isChosen_25
  · refine hr_lload_n X dX3_isChosen_10 rfl ?_
    refine hr_iload_n X dX3_isChosen_11 rfl ?_
    refine hr_lushr X dX3_isChosen_12 ?_
    refine hr_lconst X 1 dX3_isChosen_13 rfl ?_
    refine hr_land X dX3_isChosen_14 ?_
    refine hr_lconst X 1 dX3_isChosen_15 rfl ?_
    refine hr_lcmp X dX3_isChosen_16 ?_
    refine hr_if_ne X 24 dX3_isChosen_17 rfl ?_ ?_
    · refine hr_iconst X 0 dX3_isChosen_24 kc_0 ?_
      exact hr_zretC X (Or.inl rfl) dX3_isChosen_25
    · refine hr_iconst X 1 dX3_isChosen_20 kc_1 ?_
      refine hr_goto X 25 dX3_isChosen_21 rfl ?_
      exact hr_zretC X (Or.inr rfl) dX3_isChosen_25
set_option maxRecDepth 100000 in
set_option maxHeartbeats 4000000 in
theorem w_X3_allowedByCount_134 {g : hf_G} {p : Program} {l : Launch} {ev : Env} {s : State} {m : MethodId} {args : Array Value} {below : List Frame} {meth : Method} {c : Code} (X : hf_X g p s m args meth c cX3_allowedByCount 18 RX3 (some .long))    (v4 : Int64) (v6 : Int64) (v8 : Int64) (v10 : Int64) (v15 : Int32) : ∀ (n : Nat) (v13 : Int64) (v16 : Int32) (M : hf_M), hf_W g p l ev (2) s m args below meth c 18 (hf_QJ g below args s) M 134 [none, none, none, none, some (.long v4), none, some (.long v6), none, some (.long v8), none, some (.long v10), none, none, some (.long v13), none, some (.int v15), some (.int v16), none] [] (s_X3_allowedByCount_134 v4 v6 v8 v10 v15 n v13 v16 M) := by
  intro n
  induction n with
  | zero =>
    intros
    exact hr_none
  | succ n ih =>
    intro v13 v16 M
    rw [s_X3_allowedByCount_134]
    refine hr_iload X dX3_allowedByCount_134 rfl ?_
    refine hr_iload X dX3_allowedByCount_136 rfl ?_
    refine hr_icmp_gt X 189 dX3_allowedByCount_138 rfl ?_ ?_
    · refine hr_lload X dX3_allowedByCount_189 rfl ?_
      exact hr_lret X dX3_allowedByCount_191
    · refine hr_lload X dX3_allowedByCount_141 rfl ?_
      refine hr_lload X dX3_allowedByCount_143 rfl ?_
      refine hr_iload X dX3_allowedByCount_145 rfl ?_
      refine hr_csJ X [.long v4, .int v16] [.long v13] (c_X3_digit v4 v16 M) lk_RX3_117 rfl rfl rfl (by decide) (Nat.le_of_ble_eq_true rfl) dX3_allowedByCount_147 (fun r1 M2 _ => ?_)
      refine hr_lload X dX3_allowedByCount_150 rfl ?_
      refine hr_iload X dX3_allowedByCount_152 rfl ?_
      refine hr_iconst X 1 dX3_allowedByCount_154 kc_1 ?_
      refine hr_ishr X dX3_allowedByCount_155 ?_
      refine hr_csJ X [.long v6, .int (hn_ishr v16 1)] [.long r1, .long v13] (c_X3_digit v6 (hn_ishr v16 1) M2) lk_RX3_117 rfl rfl rfl (by decide) (Nat.le_of_ble_eq_true rfl) dX3_allowedByCount_156 (fun r3 M4 _ => ?_)
      refine hr_land X dX3_allowedByCount_159 ?_
      refine hr_lload X dX3_allowedByCount_160 rfl ?_
      refine hr_iload X dX3_allowedByCount_162 rfl ?_
      refine hr_iconst X 2 dX3_allowedByCount_164 kc_2 ?_
      refine hr_ishr X dX3_allowedByCount_165 ?_
      refine hr_csJ X [.long v8, .int (hn_ishr v16 2)] [.long (r1 &&& r3), .long v13] (c_X3_digit v8 (hn_ishr v16 2) M4) lk_RX3_117 rfl rfl rfl (by decide) (Nat.le_of_ble_eq_true rfl) dX3_allowedByCount_166 (fun r5 M6 _ => ?_)
      refine hr_land X dX3_allowedByCount_169 ?_
      refine hr_lload X dX3_allowedByCount_170 rfl ?_
      refine hr_iload X dX3_allowedByCount_172 rfl ?_
      refine hr_iconst X 3 dX3_allowedByCount_174 kc_3 ?_
      refine hr_ishr X dX3_allowedByCount_175 ?_
      refine hr_csJ X [.long v10, .int (hn_ishr v16 3)] [.long ((r1 &&& r3) &&& r5), .long v13] (c_X3_digit v10 (hn_ishr v16 3) M6) lk_RX3_117 rfl rfl rfl (by decide) (Nat.le_of_ble_eq_true rfl) dX3_allowedByCount_176 (fun r7 M8 _ => ?_)
      refine hr_land X dX3_allowedByCount_179 ?_
      refine hr_lor X dX3_allowedByCount_180 ?_
      refine hr_lstore X dX3_allowedByCount_181 (by decide) rfl ?_
      refine hr_iinc X (v16 + 1) dX3_allowedByCount_183 rfl (by rw [kc_1]) (by decide) rfl ?_
      refine hr_goto X 134 dX3_allowedByCount_186 rfl ?_
      exact hr_wk (hs_none (hs_none (hs_none (hs_none (hs_some (hs_none (hs_some (hs_none (hs_some (hs_none (hs_some (hs_none (hs_none (hs_some (hs_none (hs_some (hs_some (hs_none (hs_nil))))))))))))))))))) (ih (v13 ||| (((r1 &&& r3) &&& r5) &&& r7)) (v16 + 1) M8)
set_option maxRecDepth 100000 in
set_option maxHeartbeats 4000000 in
theorem w_X3_allowedByCount_18 {g : hf_G} {p : Program} {l : Launch} {ev : Env} {s : State} {m : MethodId} {args : Array Value} {below : List Frame} {meth : Method} {c : Code} (X : hf_X g p s m args meth c cX3_allowedByCount 18 RX3 (some .long))    {t0 : Nat} (hl_t0 : t0 < 69) (hs_t0 : hf_shp t0 = 3) (v1 : Int32) (v2 : Int64) : ∀ (n : Nat) (v4 : Int64) (v6 : Int64) (v8 : Int64) (v10 : Int64) (v12 : Int32) (v13 : Int32) (M : hf_M), hf_W g p l ev (2) s m args below meth c 18 (hf_QJ g below args s) M 18 [some (.ref (hf_a g t0)), some (.int v1), some (.long v2), none, some (.long v4), none, some (.long v6), none, some (.long v8), none, some (.long v10), none, some (.int v12), some (.int v13), none, none, none, none] [] (s_X3_allowedByCount_18 t0 v1 v2 n v4 v6 v8 v10 v12 v13 M) := by
  intro n
  induction n with
  | zero =>
    intros
    exact hr_none
  | succ n ih =>
    intro v4 v6 v8 v10 v12 v13 M
    rw [s_X3_allowedByCount_18]
    refine hr_iload X dX3_allowedByCount_18 rfl ?_
    refine hr_aload_n X dX3_allowedByCount_20 rfl ?_
    refine hr_gI X hl_t0 hs_t0 lg_RX3_44 dX3_allowedByCount_21 ?_
    refine hr_icmp_ge X 102 dX3_allowedByCount_24 rfl ?_ ?_
    · refine hr_lconst X 0 dX3_allowedByCount_102 rfl ?_
      refine hr_lstore X dX3_allowedByCount_103 (by decide) rfl ?_
      refine hr_aload_n X dX3_allowedByCount_105 rfl ?_
      refine hr_gI X hl_t0 hs_t0 lg_RX3_54 dX3_allowedByCount_106 ?_
      refine hr_iload X dX3_allowedByCount_109 rfl ?_
      refine hr_mmin X (hf_c2 118 rfl rfl) (hf_c1 227 rfl rfl) (hf_c1 7 rfl rfl) (hf_c1 228 rfl rfl) (by decide) (Nat.le_of_ble_eq_true rfl) dX3_allowedByCount_111 ?_
      refine hr_istore X dX3_allowedByCount_114 (by decide) rfl ?_
      refine hr_iconst X 0 dX3_allowedByCount_116 kc_0 ?_
      refine hr_iload X dX3_allowedByCount_117 rfl ?_
      refine hr_aload_n X dX3_allowedByCount_119 rfl ?_
      refine hr_gI X hl_t0 hs_t0 lg_RX3_51 dX3_allowedByCount_120 ?_
      refine hr_aload_n X dX3_allowedByCount_123 rfl ?_
      refine hr_gI X hl_t0 hs_t0 lg_RX3_54 dX3_allowedByCount_124 ?_
      refine hr_isub X dX3_allowedByCount_127 ?_
      refine hr_isub X dX3_allowedByCount_128 ?_
      refine hr_mmax X (hf_c2 119 rfl rfl) (hf_c2 120 rfl rfl) (hf_c1 7 rfl rfl) (hf_c2 121 rfl rfl) (by decide) (Nat.le_of_ble_eq_true rfl) dX3_allowedByCount_129 ?_
      refine hr_istore X dX3_allowedByCount_132 (by decide) rfl ?_
      exact hr_wk (hs_none (hs_none (hs_none (hs_none (hs_some (hs_none (hs_some (hs_none (hs_some (hs_none (hs_some (hs_none (hs_none (hs_some (hs_none (hs_some (hs_some (hs_none (hs_nil))))))))))))))))))) (w_X3_allowedByCount_134 X v4 v6 v8 v10 (hn_min (M.1 t0 13) v12) 2000 0 (hn_max 0 (v12 - ((M.1 t0 12) - (M.1 t0 13)))) M)
    · refine hr_aload_n X dX3_allowedByCount_27 rfl ?_
      refine hr_iload X dX3_allowedByCount_28 rfl ?_
      refine hr_iload_n X dX3_allowedByCount_30 rfl ?_
      refine hr_lload_n X dX3_allowedByCount_31 rfl ?_
      refine hr_cvI X [.int v13, .int v1, .long v2] [] (c_X3_isChosen hl_t0 hs_t0 v13 v1 v2 M) lk_RX3_100 rfl rfl rfl hl_t0 hs_t0 ⟨by decide, rfl⟩ (by decide) (Nat.le_of_ble_eq_true rfl) dX3_allowedByCount_32 (fun r1 M2 _ => ?_)
      refine hr_if_eq X 96 dX3_allowedByCount_35 rfl ?_ ?_
      · refine hr_iinc X (v13 + 1) dX3_allowedByCount_96 rfl (by rw [kc_1]) (by decide) rfl ?_
        refine hr_goto X 18 dX3_allowedByCount_99 rfl ?_
        exact hr_wk (hs_some (hs_some (hs_some (hs_none (hs_some (hs_none (hs_some (hs_none (hs_some (hs_none (hs_some (hs_none (hs_some (hs_some (hs_none (hs_none (hs_none (hs_none (hs_nil))))))))))))))))))) (ih v4 v6 v8 v10 v12 (v13 + 1) M2)
      · refine hr_lload X dX3_allowedByCount_38 rfl ?_
        refine hr_aload_n X dX3_allowedByCount_40 rfl ?_
        refine hr_gR X 7 hl_t0 hs_t0 lg_RX3_33 rfl dX3_allowedByCount_41 (fun q3 hl_q3 hs_q3 => ?_)
        refine hr_iload X dX3_allowedByCount_44 rfl ?_
        refine hr_lald X hl_q3 hs_q3 dX3_allowedByCount_46 (fun r4 _ _ => ?_)
        refine hr_land X dX3_allowedByCount_47 ?_
        refine hr_lstore X dX3_allowedByCount_48 (by decide) rfl ?_
        refine hr_lload X dX3_allowedByCount_50 rfl ?_
        refine hr_lload X dX3_allowedByCount_52 rfl ?_
        refine hr_land X dX3_allowedByCount_54 ?_
        refine hr_lstore X dX3_allowedByCount_55 (by decide) rfl ?_
        refine hr_lload X dX3_allowedByCount_57 rfl ?_
        refine hr_aload_n X dX3_allowedByCount_59 rfl ?_
        refine hr_gR X 7 hl_t0 hs_t0 lg_RX3_33 rfl dX3_allowedByCount_60 (fun q5 hl_q5 hs_q5 => ?_)
        refine hr_iload X dX3_allowedByCount_63 rfl ?_
        refine hr_lald X hl_q5 hs_q5 dX3_allowedByCount_65 (fun r6 _ _ => ?_)
        refine hr_lxor X dX3_allowedByCount_66 ?_
        refine hr_lstore X dX3_allowedByCount_67 (by decide) rfl ?_
        refine hr_lload X dX3_allowedByCount_69 rfl ?_
        refine hr_lload X dX3_allowedByCount_71 rfl ?_
        refine hr_lxor X dX3_allowedByCount_73 ?_
        refine hr_lstore X dX3_allowedByCount_74 (by decide) rfl ?_
        refine hr_lload X dX3_allowedByCount_76 rfl ?_
        refine hr_lload X dX3_allowedByCount_78 rfl ?_
        refine hr_lload X dX3_allowedByCount_80 rfl ?_
        refine hr_land X dX3_allowedByCount_82 ?_
        refine hr_lxor X dX3_allowedByCount_83 ?_
        refine hr_lstore X dX3_allowedByCount_84 (by decide) rfl ?_
        refine hr_lload X dX3_allowedByCount_86 rfl ?_
        refine hr_lload X dX3_allowedByCount_88 rfl ?_
        refine hr_lxor X dX3_allowedByCount_90 ?_
        refine hr_lstore X dX3_allowedByCount_91 (by decide) rfl ?_
        refine hr_iinc X (v12 + 1) dX3_allowedByCount_93 rfl (by rw [kc_1]) (by decide) rfl ?_
        refine hr_iinc X (v13 + 1) dX3_allowedByCount_96 rfl (by rw [kc_1]) (by decide) rfl ?_
        refine hr_goto X 18 dX3_allowedByCount_99 rfl ?_
        exact hr_wk (hs_some (hs_some (hs_some (hs_none (hs_some (hs_none (hs_some (hs_none (hs_some (hs_none (hs_some (hs_none (hs_some (hs_some (hs_none (hs_none (hs_none (hs_none (hs_nil))))))))))))))))))) (ih (v4 ^^^ r6) (v6 ^^^ (v4 &&& r4)) (v8 ^^^ (v6 &&& (v4 &&& r4))) (v10 ^^^ (v8 &&& (v6 &&& (v4 &&& r4)))) (v12 + 1) (v13 + 1) M2)
set_option maxRecDepth 100000 in
set_option maxHeartbeats 4000000 in
theorem c_X3_allowedByCount  {t0 : Nat} (hl_t0 : t0 < 69) (hs_t0 : hf_shp t0 = 3) (a1 : Int32) (a2 : Int64) (M : hf_M) : hf_CJ yX3_allowedByCount cX3_allowedByCount 18 (some .long) (2) (fun g => [.ref (hf_a g t0), .int a1, .long a2]) M (s_X3_allowedByCount t0 a1 a2 M) := by
  refine hf_metJ (by decide +kernel) (fun g => Nat.le_of_ble_eq_true rfl) (fun g p l ev s m args below meth c X => ?_)
  have X : hf_X g p s m args meth c cX3_allowedByCount 18 RX3 (some .long) := X
  show hf_W g p l ev (2) s m args below meth c 18 (hf_QJ g below args s) M 0 [some (.ref (hf_a g t0)), some (.int a1), some (.long a2), none, none, none, none, none, none, none, none, none, none, none, none, none, none, none] [] (s_X3_allowedByCount t0 a1 a2 M)
  unfold s_X3_allowedByCount
  refine hr_lconst X 0 dX3_allowedByCount_0 rfl ?_
  refine hr_lstore X dX3_allowedByCount_1 (by decide) rfl ?_
  refine hr_lconst X 0 dX3_allowedByCount_3 rfl ?_
  refine hr_lstore X dX3_allowedByCount_4 (by decide) rfl ?_
  refine hr_lconst X 0 dX3_allowedByCount_6 rfl ?_
  refine hr_lstore X dX3_allowedByCount_7 (by decide) rfl ?_
  refine hr_lconst X 0 dX3_allowedByCount_9 rfl ?_
  refine hr_lstore X dX3_allowedByCount_10 (by decide) rfl ?_
  refine hr_iconst X 0 dX3_allowedByCount_12 kc_0 ?_
  refine hr_istore X dX3_allowedByCount_13 (by decide) rfl ?_
  refine hr_iconst X 0 dX3_allowedByCount_15 kc_0 ?_
  refine hr_istore X dX3_allowedByCount_16 (by decide) rfl ?_
  exact hr_wk (hs_some (hs_some (hs_some (hs_none (hs_some (hs_none (hs_some (hs_none (hs_some (hs_none (hs_some (hs_none (hs_some (hs_some (hs_none (hs_none (hs_none (hs_none (hs_nil))))))))))))))))))) (w_X3_allowedByCount_18 X hl_t0 hs_t0 a1 a2 2000 0 0 0 0 0 0 M)
set_option maxRecDepth 100000 in
set_option maxHeartbeats 4000000 in
theorem w_X3_allowedByPairs_11 {g : hf_G} {p : Program} {l : Launch} {ev : Env} {s : State} {m : MethodId} {args : Array Value} {below : List Frame} {meth : Method} {c : Code} (X : hf_X g p s m args meth c cX3_allowedByPairs 8 RX3 (some .long))    {t0 : Nat} (hl_t0 : t0 < 69) (hs_t0 : hf_shp t0 = 3) (v1 : Int32) (v2 : Int64) : ∀ (n : Nat) (v4 : Int64) (v6 : Int32) (v7 : Int32) (M : hf_M), hf_W g p l ev (2) s m args below meth c 8 (hf_QJ g below args s) M 11 [some (.ref (hf_a g t0)), some (.int v1), some (.long v2), none, some (.long v4), none, some (.int v6), some (.int v7)] [] (s_X3_allowedByPairs_11 t0 v1 v2 n v4 v6 v7 M) := by
  intro n
  induction n with
  | zero =>
    intros
    exact hr_none
  | succ n ih =>
    intro v4 v6 v7 M
    rw [s_X3_allowedByPairs_11]
    refine hr_iload X dX3_allowedByPairs_11 rfl ?_
    refine hr_aload_n X dX3_allowedByPairs_13 rfl ?_
    refine hr_gI X hl_t0 hs_t0 lg_RX3_44 dX3_allowedByPairs_14 ?_
    refine hr_icmp_ge X 99 dX3_allowedByPairs_17 rfl ?_ ?_
    · refine hr_lload X dX3_allowedByPairs_99 rfl ?_
      exact hr_lret X dX3_allowedByPairs_101
    · refine hr_aload_n X dX3_allowedByPairs_20 rfl ?_
      refine hr_iload X dX3_allowedByPairs_21 rfl ?_
      refine hr_iload_n X dX3_allowedByPairs_23 rfl ?_
      refine hr_lload_n X dX3_allowedByPairs_24 rfl ?_
      refine hr_cvI X [.int v7, .int v1, .long v2] [] (c_X3_isChosen hl_t0 hs_t0 v7 v1 v2 M) lk_RX3_100 rfl rfl rfl hl_t0 hs_t0 ⟨by decide, rfl⟩ (by decide) (Nat.le_of_ble_eq_true rfl) dX3_allowedByPairs_25 (fun r1 M2 _ => ?_)
      refine hr_if_eq X 93 dX3_allowedByPairs_28 rfl ?_ ?_
      · refine hr_iinc X (v7 + 1) dX3_allowedByPairs_93 rfl (by rw [kc_1]) (by decide) rfl ?_
        refine hr_goto X 11 dX3_allowedByPairs_96 rfl ?_
        exact hr_wk (hs_some (hs_some (hs_some (hs_none (hs_some (hs_none (hs_some (hs_some (hs_nil))))))))) (ih v4 v6 (v7 + 1) M2)
      · refine hr_iload X dX3_allowedByPairs_31 rfl ?_
        refine hr_iconst X (-1) dX3_allowedByPairs_33 kc_m1 ?_
        refine hr_icmp_eq X 89 dX3_allowedByPairs_34 rfl ?_ ?_
        · refine hr_iload X dX3_allowedByPairs_89 rfl ?_
          refine hr_istore X dX3_allowedByPairs_91 (by decide) rfl ?_
          refine hr_iinc X (v7 + 1) dX3_allowedByPairs_93 rfl (by rw [kc_1]) (by decide) rfl ?_
          refine hr_goto X 11 dX3_allowedByPairs_96 rfl ?_
          exact hr_wk (hs_some (hs_some (hs_some (hs_none (hs_some (hs_none (hs_some (hs_some (hs_nil))))))))) (ih v4 v7 (v7 + 1) M2)
        · refine hr_aload_n X dX3_allowedByPairs_37 rfl ?_
          refine hr_gR X 6 hl_t0 hs_t0 lg_RX3_27 rfl dX3_allowedByPairs_38 (fun q3 hl_q3 hs_q3 => ?_)
          refine hr_iload X dX3_allowedByPairs_41 rfl ?_
          refine hr_iald X hl_q3 hs_q3 dX3_allowedByPairs_43 (fun r4 _ _ => ?_)
          refine hr_iconst X 1 dX3_allowedByPairs_44 kc_1 ?_
          refine hr_iand X dX3_allowedByPairs_45 ?_
          refine hr_iconst X 1 dX3_allowedByPairs_46 kc_1 ?_
          refine hr_icmp_ne X 89 dX3_allowedByPairs_47 rfl ?_ ?_
          · refine hr_iload X dX3_allowedByPairs_89 rfl ?_
            refine hr_istore X dX3_allowedByPairs_91 (by decide) rfl ?_
            refine hr_iinc X (v7 + 1) dX3_allowedByPairs_93 rfl (by rw [kc_1]) (by decide) rfl ?_
            refine hr_goto X 11 dX3_allowedByPairs_96 rfl ?_
            exact hr_wk (hs_some (hs_some (hs_some (hs_none (hs_some (hs_none (hs_some (hs_some (hs_nil))))))))) (ih v4 v7 (v7 + 1) M2)
          · refine hr_aload_n X dX3_allowedByPairs_50 rfl ?_
            refine hr_gR X 6 hl_t0 hs_t0 lg_RX3_27 rfl dX3_allowedByPairs_51 (fun q5 hl_q5 hs_q5 => ?_)
            refine hr_iload X dX3_allowedByPairs_54 rfl ?_
            refine hr_iald X hl_q5 hs_q5 dX3_allowedByPairs_56 (fun r6 _ _ => ?_)
            refine hr_aload_n X dX3_allowedByPairs_57 rfl ?_
            refine hr_gR X 6 hl_t0 hs_t0 lg_RX3_27 rfl dX3_allowedByPairs_58 (fun q7 hl_q7 hs_q7 => ?_)
            refine hr_iload X dX3_allowedByPairs_61 rfl ?_
            refine hr_iald X hl_q7 hs_q7 dX3_allowedByPairs_63 (fun r8 _ _ => ?_)
            refine hr_iconst X 1 dX3_allowedByPairs_64 kc_1 ?_
            refine hr_isub X dX3_allowedByPairs_65 ?_
            refine hr_icmp_ne X 89 dX3_allowedByPairs_66 rfl ?_ ?_
            · refine hr_iload X dX3_allowedByPairs_89 rfl ?_
              refine hr_istore X dX3_allowedByPairs_91 (by decide) rfl ?_
              refine hr_iinc X (v7 + 1) dX3_allowedByPairs_93 rfl (by rw [kc_1]) (by decide) rfl ?_
              refine hr_goto X 11 dX3_allowedByPairs_96 rfl ?_
              exact hr_wk (hs_some (hs_some (hs_some (hs_none (hs_some (hs_none (hs_some (hs_some (hs_nil))))))))) (ih v4 v7 (v7 + 1) M2)
            · refine hr_lload X dX3_allowedByPairs_69 rfl ?_
              refine hr_aload_n X dX3_allowedByPairs_71 rfl ?_
              refine hr_gR X 7 hl_t0 hs_t0 lg_RX3_33 rfl dX3_allowedByPairs_72 (fun q9 hl_q9 hs_q9 => ?_)
              refine hr_iload X dX3_allowedByPairs_75 rfl ?_
              refine hr_lald X hl_q9 hs_q9 dX3_allowedByPairs_77 (fun r10 _ _ => ?_)
              refine hr_aload_n X dX3_allowedByPairs_78 rfl ?_
              refine hr_gR X 7 hl_t0 hs_t0 lg_RX3_33 rfl dX3_allowedByPairs_79 (fun q11 hl_q11 hs_q11 => ?_)
              refine hr_iload X dX3_allowedByPairs_82 rfl ?_
              refine hr_lald X hl_q11 hs_q11 dX3_allowedByPairs_84 (fun r12 _ _ => ?_)
              refine hr_lxor X dX3_allowedByPairs_85 ?_
              refine hr_land X dX3_allowedByPairs_86 ?_
              refine hr_lstore X dX3_allowedByPairs_87 (by decide) rfl ?_
              refine hr_iload X dX3_allowedByPairs_89 rfl ?_
              refine hr_istore X dX3_allowedByPairs_91 (by decide) rfl ?_
              refine hr_iinc X (v7 + 1) dX3_allowedByPairs_93 rfl (by rw [kc_1]) (by decide) rfl ?_
              refine hr_goto X 11 dX3_allowedByPairs_96 rfl ?_
              exact hr_wk (hs_some (hs_some (hs_some (hs_none (hs_some (hs_none (hs_some (hs_some (hs_nil))))))))) (ih (v4 &&& (r10 ^^^ r12)) v7 (v7 + 1) M2)
set_option maxRecDepth 100000 in
set_option maxHeartbeats 4000000 in
theorem c_X3_allowedByPairs  {t0 : Nat} (hl_t0 : t0 < 69) (hs_t0 : hf_shp t0 = 3) (a1 : Int32) (a2 : Int64) (M : hf_M) : hf_CJ yX3_allowedByPairs cX3_allowedByPairs 8 (some .long) (2) (fun g => [.ref (hf_a g t0), .int a1, .long a2]) M (s_X3_allowedByPairs t0 a1 a2 M) := by
  refine hf_metJ (by decide +kernel) (fun g => Nat.le_of_ble_eq_true rfl) (fun g p l ev s m args below meth c X => ?_)
  have X : hf_X g p s m args meth c cX3_allowedByPairs 8 RX3 (some .long) := X
  show hf_W g p l ev (2) s m args below meth c 8 (hf_QJ g below args s) M 0 [some (.ref (hf_a g t0)), some (.int a1), some (.long a2), none, none, none, none, none] [] (s_X3_allowedByPairs t0 a1 a2 M)
  unfold s_X3_allowedByPairs
  refine hr_ldc2 X dX3_allowedByPairs_0 (hf_c2 125 rfl rfl) ?_
  refine hr_lstore X dX3_allowedByPairs_3 (by decide) rfl ?_
  refine hr_iconst X (-1) dX3_allowedByPairs_5 kc_m1 ?_
  refine hr_istore X dX3_allowedByPairs_6 (by decide) rfl ?_
  refine hr_iconst X 0 dX3_allowedByPairs_8 kc_0 ?_
  refine hr_istore X dX3_allowedByPairs_9 (by decide) rfl ?_
  exact hr_wk (hs_some (hs_some (hs_some (hs_none (hs_some (hs_none (hs_some (hs_some (hs_nil))))))))) (w_X3_allowedByPairs_11 X hl_t0 hs_t0 a1 a2 2000 (-1) (-1) 0 M)
set_option maxRecDepth 100000 in
set_option maxHeartbeats 4000000 in
theorem c_X3_mustLateBeTrue  {t0 : Nat} (hl_t0 : t0 < 69) (hs_t0 : hf_shp t0 = 3) (a1 : Int32) (M : hf_M) : hf_CI yX3_mustLateBeTrue cX3_mustLateBeTrue 2 (some .boolean) (1) (fun g => [.ref (hf_a g t0), .int a1]) M (s_X3_mustLateBeTrue t0 a1 M) := by
  refine hf_metI (by decide +kernel) (fun g => Nat.le_of_ble_eq_true rfl) (fun g p l ev s m args below meth c X => ?_)
  have X : hf_X g p s m args meth c cX3_mustLateBeTrue 2 RX3 (some .boolean) := X
  show hf_W g p l ev (1) s m args below meth c 2 (hf_QI g below args s) M 0 [some (.ref (hf_a g t0)), some (.int a1)] [] (s_X3_mustLateBeTrue t0 a1 M)
  unfold s_X3_mustLateBeTrue
  refine hr_aload_n X dX3_mustLateBeTrue_0 rfl ?_
  refine hr_gI X hl_t0 hs_t0 lg_RX3_54 dX3_mustLateBeTrue_1 ?_
  refine hr_if_eq X 18 dX3_mustLateBeTrue_4 rfl ?_ ?_
  · refine hr_iload_n X dX3_mustLateBeTrue_18 rfl ?_
    refine hr_aload_n X dX3_mustLateBeTrue_19 rfl ?_
    refine hr_gI X hl_t0 hs_t0 lg_RX3_54 dX3_mustLateBeTrue_20 ?_
    refine hr_icmp_ge X 30 dX3_mustLateBeTrue_23 rfl ?_ ?_
    · refine hr_iconst X 0 dX3_mustLateBeTrue_30 kc_0 ?_
      exact hr_zretC X (Or.inl rfl) dX3_mustLateBeTrue_31
    · refine hr_iconst X 1 dX3_mustLateBeTrue_26 kc_1 ?_
      refine hr_goto X 31 dX3_mustLateBeTrue_27 rfl ?_
      exact hr_zretC X (Or.inr rfl) dX3_mustLateBeTrue_31
  · refine hr_aload_n X dX3_mustLateBeTrue_7 rfl ?_
    refine hr_gI X hl_t0 hs_t0 lg_RX3_54 dX3_mustLateBeTrue_8 ?_
    refine hr_aload_n X dX3_mustLateBeTrue_11 rfl ?_
    refine hr_gI X hl_t0 hs_t0 lg_RX3_51 dX3_mustLateBeTrue_12 ?_
    refine hr_icmp_ne X 32 dX3_mustLateBeTrue_15 rfl ?_ ?_
    · refine hr_iload_n X dX3_mustLateBeTrue_32 rfl ?_
      refine hr_aload_n X dX3_mustLateBeTrue_33 rfl ?_
      refine hr_gI X hl_t0 hs_t0 lg_RX3_54 dX3_mustLateBeTrue_34 ?_
      refine hr_iconst X 1 dX3_mustLateBeTrue_37 kc_1 ?_
      refine hr_isub X dX3_mustLateBeTrue_38 ?_
      refine hr_icmp_lt X 52 dX3_mustLateBeTrue_39 rfl ?_ ?_
      · refine hr_iconst X 1 dX3_mustLateBeTrue_52 kc_1 ?_
        refine hr_goto X 57 dX3_mustLateBeTrue_53 rfl ?_
        exact hr_zretC X (Or.inr rfl) dX3_mustLateBeTrue_57
      · refine hr_iload_n X dX3_mustLateBeTrue_42 rfl ?_
        refine hr_aload_n X dX3_mustLateBeTrue_43 rfl ?_
        refine hr_gI X hl_t0 hs_t0 lg_RX3_51 dX3_mustLateBeTrue_44 ?_
        refine hr_iconst X 1 dX3_mustLateBeTrue_47 kc_1 ?_
        refine hr_isub X dX3_mustLateBeTrue_48 ?_
        refine hr_icmp_ne X 56 dX3_mustLateBeTrue_49 rfl ?_ ?_
        · refine hr_iconst X 0 dX3_mustLateBeTrue_56 kc_0 ?_
          exact hr_zretC X (Or.inl rfl) dX3_mustLateBeTrue_57
        · refine hr_iconst X 1 dX3_mustLateBeTrue_52 kc_1 ?_
          refine hr_goto X 57 dX3_mustLateBeTrue_53 rfl ?_
          exact hr_zretC X (Or.inr rfl) dX3_mustLateBeTrue_57
    · refine hr_iload_n X dX3_mustLateBeTrue_18 rfl ?_
      refine hr_aload_n X dX3_mustLateBeTrue_19 rfl ?_
      refine hr_gI X hl_t0 hs_t0 lg_RX3_54 dX3_mustLateBeTrue_20 ?_
      refine hr_icmp_ge X 30 dX3_mustLateBeTrue_23 rfl ?_ ?_
      · refine hr_iconst X 0 dX3_mustLateBeTrue_30 kc_0 ?_
        exact hr_zretC X (Or.inl rfl) dX3_mustLateBeTrue_31
      · refine hr_iconst X 1 dX3_mustLateBeTrue_26 kc_1 ?_
        refine hr_goto X 31 dX3_mustLateBeTrue_27 rfl ?_
        exact hr_zretC X (Or.inr rfl) dX3_mustLateBeTrue_31
set_option maxRecDepth 100000 in
set_option maxHeartbeats 4000000 in
theorem c_X3_mustBeTrue  {t0 : Nat} (hl_t0 : t0 < 69) (hs_t0 : hf_shp t0 = 3) (a1 : Int32) (a2 : Int32) (M : hf_M) : hf_CI yX3_mustBeTrue cX3_mustBeTrue 3 (some .boolean) (2) (fun g => [.ref (hf_a g t0), .int a1, .int a2]) M (s_X3_mustBeTrue t0 a1 a2 M) := by
  refine hf_metI (by decide +kernel) (fun g => Nat.le_of_ble_eq_true rfl) (fun g p l ev s m args below meth c X => ?_)
  have X : hf_X g p s m args meth c cX3_mustBeTrue 3 RX3 (some .boolean) := X
  show hf_W g p l ev (2) s m args below meth c 3 (hf_QI g below args s) M 0 [some (.ref (hf_a g t0)), some (.int a1), some (.int a2)] [] (s_X3_mustBeTrue t0 a1 a2 M)
  unfold s_X3_mustBeTrue
  refine hr_aload_n X dX3_mustBeTrue_0 rfl ?_
  refine hr_gR X 6 hl_t0 hs_t0 lg_RX3_15 rfl dX3_mustBeTrue_1 (fun q1 hl_q1 hs_q1 => ?_)
  refine hr_iload_n X dX3_mustBeTrue_4 rfl ?_
  refine hr_iald X hl_q1 hs_q1 dX3_mustBeTrue_5 (fun r2 _ _ => ?_)
  refine hr_case 1 (fun _ => ?_) (fun n6_1 => ?_)
  · refine hr_tabIn X 40 dX3_mustBeTrue_6 (by decide) (by decide) rfl rfl ?_
    refine hr_iload_n X dX3_mustBeTrue_40 rfl ?_
    refine hr_aload_n X dX3_mustBeTrue_41 rfl ?_
    refine hr_gI X hl_t0 hs_t0 lg_RX3_54 dX3_mustBeTrue_42 ?_
    refine hr_icmp_ge X 52 dX3_mustBeTrue_45 rfl ?_ ?_
    · refine hr_iconst X 0 dX3_mustBeTrue_52 kc_0 ?_
      exact hr_zretC X (Or.inl rfl) dX3_mustBeTrue_53
    · refine hr_iconst X 1 dX3_mustBeTrue_48 kc_1 ?_
      refine hr_goto X 53 dX3_mustBeTrue_49 rfl ?_
      exact hr_zretC X (Or.inr rfl) dX3_mustBeTrue_53
  refine hr_case 2 (fun _ => ?_) (fun n6_2 => ?_)
  · refine hr_tabIn X 54 dX3_mustBeTrue_6 (by decide) (by decide) rfl rfl ?_
    refine hr_iload_n X dX3_mustBeTrue_54 rfl ?_
    refine hr_aload_n X dX3_mustBeTrue_55 rfl ?_
    refine hr_gI X hl_t0 hs_t0 lg_RX3_51 dX3_mustBeTrue_56 ?_
    refine hr_aload_n X dX3_mustBeTrue_59 rfl ?_
    refine hr_gI X hl_t0 hs_t0 lg_RX3_54 dX3_mustBeTrue_60 ?_
    refine hr_isub X dX3_mustBeTrue_63 ?_
    refine hr_icmp_lt X 71 dX3_mustBeTrue_64 rfl ?_ ?_
    · refine hr_iconst X 0 dX3_mustBeTrue_71 kc_0 ?_
      exact hr_zretC X (Or.inl rfl) dX3_mustBeTrue_72
    · refine hr_iconst X 1 dX3_mustBeTrue_67 kc_1 ?_
      refine hr_goto X 72 dX3_mustBeTrue_68 rfl ?_
      exact hr_zretC X (Or.inr rfl) dX3_mustBeTrue_72
  refine hr_case 3 (fun _ => ?_) (fun n6_3 => ?_)
  · refine hr_tabIn X 73 dX3_mustBeTrue_6 (by decide) (by decide) rfl rfl ?_
    refine hr_aload_n X dX3_mustBeTrue_73 rfl ?_
    refine hr_iload_n X dX3_mustBeTrue_74 rfl ?_
    refine hr_cvI X [.int a2] [] (c_X3_mustLateBeTrue hl_t0 hs_t0 a2 M) lk_RX3_121 rfl rfl rfl hl_t0 hs_t0 ⟨by decide, rfl⟩ (by decide) (Nat.le_of_ble_eq_true rfl) dX3_mustBeTrue_75 (fun r3 M4 _ => ?_)
    exact hr_zret X dX3_mustBeTrue_78
  refine hr_case 4 (fun _ => ?_) (fun n6_4 => ?_)
  · refine hr_tabIn X 79 dX3_mustBeTrue_6 (by decide) (by decide) rfl rfl ?_
    refine hr_aload_n X dX3_mustBeTrue_79 rfl ?_
    refine hr_gR X 6 hl_t0 hs_t0 lg_RX3_18 rfl dX3_mustBeTrue_80 (fun q5 hl_q5 hs_q5 => ?_)
    refine hr_iload_n X dX3_mustBeTrue_83 rfl ?_
    refine hr_iald X hl_q5 hs_q5 dX3_mustBeTrue_84 (fun r6 _ _ => ?_)
    refine hr_iload_n X dX3_mustBeTrue_85 rfl ?_
    refine hr_ishr X dX3_mustBeTrue_86 ?_
    refine hr_iconst X 1 dX3_mustBeTrue_87 kc_1 ?_
    refine hr_iand X dX3_mustBeTrue_88 ?_
    refine hr_iconst X 1 dX3_mustBeTrue_89 kc_1 ?_
    refine hr_icmp_ne X 97 dX3_mustBeTrue_90 rfl ?_ ?_
    · refine hr_iconst X 0 dX3_mustBeTrue_97 kc_0 ?_
      exact hr_zretC X (Or.inl rfl) dX3_mustBeTrue_98
    · refine hr_iconst X 1 dX3_mustBeTrue_93 kc_1 ?_
      refine hr_goto X 98 dX3_mustBeTrue_94 rfl ?_
      exact hr_zretC X (Or.inr rfl) dX3_mustBeTrue_98
  refine hr_case 5 (fun _ => ?_) (fun n6_5 => ?_)
  · refine hr_tabIn X 99 dX3_mustBeTrue_6 (by decide) (by decide) rfl rfl ?_
    refine hr_aload_n X dX3_mustBeTrue_99 rfl ?_
    refine hr_gR X 6 hl_t0 hs_t0 lg_RX3_18 rfl dX3_mustBeTrue_100 (fun q7 hl_q7 hs_q7 => ?_)
    refine hr_iload_n X dX3_mustBeTrue_103 rfl ?_
    refine hr_iald X hl_q7 hs_q7 dX3_mustBeTrue_104 (fun r8 _ _ => ?_)
    refine hr_iload_n X dX3_mustBeTrue_105 rfl ?_
    refine hr_ishr X dX3_mustBeTrue_106 ?_
    refine hr_iconst X 1 dX3_mustBeTrue_107 kc_1 ?_
    refine hr_iand X dX3_mustBeTrue_108 ?_
    refine hr_if_ne X 116 dX3_mustBeTrue_109 rfl ?_ ?_
    · refine hr_iconst X 0 dX3_mustBeTrue_116 kc_0 ?_
      exact hr_zretC X (Or.inl rfl) dX3_mustBeTrue_117
    · refine hr_iconst X 1 dX3_mustBeTrue_112 kc_1 ?_
      refine hr_goto X 117 dX3_mustBeTrue_113 rfl ?_
      exact hr_zretC X (Or.inr rfl) dX3_mustBeTrue_117
  · have e1 := hf_neT 1 n6_1 (by decide)
    have e2 := hf_neT 2 n6_2 (by decide)
    have e3 := hf_neT 3 n6_3 (by decide)
    have e4 := hf_neT 4 n6_4 (by decide)
    have e5 := hf_neT 5 n6_5 (by decide)
    refine hr_tabOut X 118 dX3_mustBeTrue_6 (by omega) rfl ?_
    refine hr_iconst X 0 dX3_mustBeTrue_118 kc_0 ?_
    exact hr_zretC X (Or.inl rfl) dX3_mustBeTrue_119
set_option maxRecDepth 100000 in
set_option maxHeartbeats 4000000 in
theorem w_X3_allowed_42 {g : hf_G} {p : Program} {l : Launch} {ev : Env} {s : State} {m : MethodId} {args : Array Value} {below : List Frame} {meth : Method} {c : Code} (X : hf_X g p s m args meth c cX3_allowed 7 RX3 (some .long))    {t0 : Nat} (hl_t0 : t0 < 69) (hs_t0 : hf_shp t0 = 3) (v1 : Int32) (v2 : Int64) : ∀ (n : Nat) (v4 : Int64) (v6 : Int32) (M : hf_M), hf_W g p l ev (3) s m args below meth c 7 (hf_QJ g below args s) M 42 [some (.ref (hf_a g t0)), some (.int v1), some (.long v2), none, some (.long v4), none, some (.int v6)] [] (s_X3_allowed_42 t0 v1 v2 n v4 v6 M) := by
  intro n
  induction n with
  | zero =>
    intros
    exact hr_none
  | succ n ih =>
    intro v4 v6 M
    rw [s_X3_allowed_42]
    refine hr_iload X dX3_allowed_42 rfl ?_
    refine hr_aload_n X dX3_allowed_44 rfl ?_
    refine hr_gI X hl_t0 hs_t0 lg_RX3_44 dX3_allowed_45 ?_
    refine hr_icmp_ge X 109 dX3_allowed_48 rfl ?_ ?_
    · refine hr_lload X dX3_allowed_109 rfl ?_
      exact hr_lret X dX3_allowed_111
    · refine hr_aload_n X dX3_allowed_51 rfl ?_
      refine hr_iload X dX3_allowed_52 rfl ?_
      refine hr_iload_n X dX3_allowed_54 rfl ?_
      refine hr_lload_n X dX3_allowed_55 rfl ?_
      refine hr_cvI X [.int v6, .int v1, .long v2] [] (c_X3_isChosen hl_t0 hs_t0 v6 v1 v2 M) lk_RX3_100 rfl rfl rfl hl_t0 hs_t0 ⟨by decide, rfl⟩ (by decide) (Nat.le_of_ble_eq_true rfl) dX3_allowed_56 (fun r1 M2 _ => ?_)
      refine hr_if_eq X 103 dX3_allowed_59 rfl ?_ ?_
      · refine hr_iinc X (v6 + 1) dX3_allowed_103 rfl (by rw [kc_1]) (by decide) rfl ?_
        refine hr_goto X 42 dX3_allowed_106 rfl ?_
        exact hr_wk (hs_some (hs_some (hs_some (hs_none (hs_some (hs_none (hs_some (hs_nil)))))))) (ih v4 (v6 + 1) M2)
      · refine hr_lload X dX3_allowed_62 rfl ?_
        refine hr_aload_n X dX3_allowed_64 rfl ?_
        refine hr_iload_n X dX3_allowed_65 rfl ?_
        refine hr_aload_n X dX3_allowed_66 rfl ?_
        refine hr_gR X 6 hl_t0 hs_t0 lg_RX3_27 rfl dX3_allowed_67 (fun q3 hl_q3 hs_q3 => ?_)
        refine hr_iload X dX3_allowed_70 rfl ?_
        refine hr_iald X hl_q3 hs_q3 dX3_allowed_72 (fun r4 _ _ => ?_)
        refine hr_cvI X [.int v1, .int r4] [.long v4] (c_X3_mustBeTrue hl_t0 hs_t0 v1 r4 M2) lk_RX3_104 rfl rfl rfl hl_t0 hs_t0 ⟨by decide, rfl⟩ (by decide) (Nat.le_of_ble_eq_true rfl) dX3_allowed_73 (fun r5 M6 _ => ?_)
        refine hr_if_eq X 89 dX3_allowed_76 rfl ?_ ?_
        · refine hr_aload_n X dX3_allowed_89 rfl ?_
          refine hr_gR X 7 hl_t0 hs_t0 lg_RX3_33 rfl dX3_allowed_90 (fun q7 hl_q7 hs_q7 => ?_)
          refine hr_iload X dX3_allowed_93 rfl ?_
          refine hr_lald X hl_q7 hs_q7 dX3_allowed_95 (fun r8 _ _ => ?_)
          refine hr_ldc2 X dX3_allowed_96 (hf_c2 125 rfl rfl) ?_
          refine hr_lxor X dX3_allowed_99 ?_
          refine hr_land X dX3_allowed_100 ?_
          refine hr_lstore X dX3_allowed_101 (by decide) rfl ?_
          refine hr_iinc X (v6 + 1) dX3_allowed_103 rfl (by rw [kc_1]) (by decide) rfl ?_
          refine hr_goto X 42 dX3_allowed_106 rfl ?_
          exact hr_wk (hs_some (hs_some (hs_some (hs_none (hs_some (hs_none (hs_some (hs_nil)))))))) (ih (v4 &&& (r8 ^^^ (-1))) (v6 + 1) M6)
        · refine hr_aload_n X dX3_allowed_79 rfl ?_
          refine hr_gR X 7 hl_t0 hs_t0 lg_RX3_33 rfl dX3_allowed_80 (fun q9 hl_q9 hs_q9 => ?_)
          refine hr_iload X dX3_allowed_83 rfl ?_
          refine hr_lald X hl_q9 hs_q9 dX3_allowed_85 (fun r10 _ _ => ?_)
          refine hr_goto X 100 dX3_allowed_86 rfl ?_
          refine hr_land X dX3_allowed_100 ?_
          refine hr_lstore X dX3_allowed_101 (by decide) rfl ?_
          refine hr_iinc X (v6 + 1) dX3_allowed_103 rfl (by rw [kc_1]) (by decide) rfl ?_
          refine hr_goto X 42 dX3_allowed_106 rfl ?_
          exact hr_wk (hs_some (hs_some (hs_some (hs_none (hs_some (hs_none (hs_some (hs_nil)))))))) (ih (v4 &&& r10) (v6 + 1) M6)
set_option maxRecDepth 100000 in
set_option maxHeartbeats 4000000 in
theorem c_X3_allowed  {t0 : Nat} (hl_t0 : t0 < 69) (hs_t0 : hf_shp t0 = 3) (a1 : Int32) (a2 : Int64) (M : hf_M) : hf_CJ yX3_allowed cX3_allowed 7 (some .long) (3) (fun g => [.ref (hf_a g t0), .int a1, .long a2]) M (s_X3_allowed t0 a1 a2 M) := by
  refine hf_metJ (by decide +kernel) (fun g => Nat.le_of_ble_eq_true rfl) (fun g p l ev s m args below meth c X => ?_)
  have X : hf_X g p s m args meth c cX3_allowed 7 RX3 (some .long) := X
  show hf_W g p l ev (3) s m args below meth c 7 (hf_QJ g below args s) M 0 [some (.ref (hf_a g t0)), some (.int a1), some (.long a2), none, none, none, none] [] (s_X3_allowed t0 a1 a2 M)
  unfold s_X3_allowed
  refine hr_aload_n X dX3_allowed_0 rfl ?_
  refine hr_gR X 6 hl_t0 hs_t0 lg_RX3_15 rfl dX3_allowed_1 (fun q1 hl_q1 hs_q1 => ?_)
  refine hr_iload_n X dX3_allowed_4 rfl ?_
  refine hr_iald X hl_q1 hs_q1 dX3_allowed_5 (fun r2 _ _ => ?_)
  refine hr_if_ne X 16 dX3_allowed_6 rfl ?_ ?_
  · refine hr_aload_n X dX3_allowed_16 rfl ?_
    refine hr_gR X 6 hl_t0 hs_t0 lg_RX3_15 rfl dX3_allowed_17 (fun q3 hl_q3 hs_q3 => ?_)
    refine hr_iload_n X dX3_allowed_20 rfl ?_
    refine hr_iald X hl_q3 hs_q3 dX3_allowed_21 (fun r4 _ _ => ?_)
    refine hr_bipush X 6 dX3_allowed_22 kb_6 ?_
    refine hr_icmp_ne X 34 dX3_allowed_24 rfl ?_ ?_
    · refine hr_ldc2 X dX3_allowed_34 (hf_c2 125 rfl rfl) ?_
      refine hr_lstore X dX3_allowed_37 (by decide) rfl ?_
      refine hr_iconst X 0 dX3_allowed_39 kc_0 ?_
      refine hr_istore X dX3_allowed_40 (by decide) rfl ?_
      exact hr_wk (hs_some (hs_some (hs_some (hs_none (hs_some (hs_none (hs_some (hs_nil)))))))) (w_X3_allowed_42 X hl_t0 hs_t0 a1 a2 2000 (-1) 0 M)
    · refine hr_aload_n X dX3_allowed_27 rfl ?_
      refine hr_iload_n X dX3_allowed_28 rfl ?_
      refine hr_lload_n X dX3_allowed_29 rfl ?_
      refine hr_cvJ X [.int a1, .long a2] [] (c_X3_allowedByPairs hl_t0 hs_t0 a1 a2 M) lk_RX3_97 rfl rfl rfl hl_t0 hs_t0 ⟨by decide, rfl⟩ (by decide) (Nat.le_of_ble_eq_true rfl) dX3_allowed_30 (fun r5 M6 _ => ?_)
      exact hr_lret X dX3_allowed_33
  · refine hr_aload_n X dX3_allowed_9 rfl ?_
    refine hr_iload_n X dX3_allowed_10 rfl ?_
    refine hr_lload_n X dX3_allowed_11 rfl ?_
    refine hr_cvJ X [.int a1, .long a2] [] (c_X3_allowedByCount hl_t0 hs_t0 a1 a2 M) lk_RX3_94 rfl rfl rfl hl_t0 hs_t0 ⟨by decide, rfl⟩ (by decide) (Nat.le_of_ble_eq_true rfl) dX3_allowed_12 (fun r7 M8 _ => ?_)
    exact hr_lret X dX3_allowed_15
set_option maxRecDepth 100000 in
set_option maxHeartbeats 4000000 in
theorem w_X3_possible_8 {g : hf_G} {p : Program} {l : Launch} {ev : Env} {s : State} {m : MethodId} {args : Array Value} {below : List Frame} {meth : Method} {c : Code} (X : hf_X g p s m args meth c cX3_possible 6 RX3 (some .long))    {t0 : Nat} (hl_t0 : t0 < 69) (hs_t0 : hf_shp t0 = 3) (v1 : Int64) : ∀ (n : Nat) (v3 : Int64) (v5 : Int32) (M : hf_M), hf_W g p l ev (4) s m args below meth c 6 (hf_QJ g below args s) M 8 [some (.ref (hf_a g t0)), some (.long v1), none, some (.long v3), none, some (.int v5)] [] (s_X3_possible_8 t0 v1 n v3 v5 M) := by
  intro n
  induction n with
  | zero =>
    intros
    exact hr_none
  | succ n ih =>
    intro v3 v5 M
    rw [s_X3_possible_8]
    refine hr_iload X dX3_possible_8 rfl ?_
    refine hr_aload_n X dX3_possible_10 rfl ?_
    refine hr_gI X hl_t0 hs_t0 lg_RX3_41 dX3_possible_11 ?_
    refine hr_icmp_ge X 33 dX3_possible_14 rfl ?_ ?_
    · refine hr_lload_n X dX3_possible_33 rfl ?_
      exact hr_lret X dX3_possible_34
    · refine hr_lload_n X dX3_possible_17 rfl ?_
      refine hr_aload_n X dX3_possible_18 rfl ?_
      refine hr_iload X dX3_possible_19 rfl ?_
      refine hr_lload_n X dX3_possible_21 rfl ?_
      refine hr_cvJ X [.int v5, .long v1] [.long v3] (c_X3_allowed hl_t0 hs_t0 v5 v1 M) lk_RX3_81 rfl rfl rfl hl_t0 hs_t0 ⟨by decide, rfl⟩ (by decide) (Nat.le_of_ble_eq_true rfl) dX3_possible_22 (fun r1 M2 _ => ?_)
      refine hr_land X dX3_possible_25 ?_
      refine hr_lstore_n X dX3_possible_26 (by decide) rfl ?_
      refine hr_iinc X (v5 + 1) dX3_possible_27 rfl (by rw [kc_1]) (by decide) rfl ?_
      refine hr_goto X 8 dX3_possible_30 rfl ?_
      exact hr_wk (hs_some (hs_some (hs_none (hs_some (hs_none (hs_some (hs_nil))))))) (ih (v3 &&& r1) (v5 + 1) M2)
set_option maxRecDepth 100000 in
set_option maxHeartbeats 4000000 in
theorem c_X3_possible  {t0 : Nat} (hl_t0 : t0 < 69) (hs_t0 : hf_shp t0 = 3) (a1 : Int64) (M : hf_M) : hf_CJ yX3_possible cX3_possible 6 (some .long) (4) (fun g => [.ref (hf_a g t0), .long a1]) M (s_X3_possible t0 a1 M) := by
  refine hf_metJ (by decide +kernel) (fun g => Nat.le_of_ble_eq_true rfl) (fun g p l ev s m args below meth c X => ?_)
  have X : hf_X g p s m args meth c cX3_possible 6 RX3 (some .long) := X
  show hf_W g p l ev (4) s m args below meth c 6 (hf_QJ g below args s) M 0 [some (.ref (hf_a g t0)), some (.long a1), none, none, none, none] [] (s_X3_possible t0 a1 M)
  unfold s_X3_possible
  refine hr_aload_n X dX3_possible_0 rfl ?_
  refine hr_gL X hl_t0 hs_t0 lg_RX3_47 dX3_possible_1 ?_
  refine hr_lstore_n X dX3_possible_4 (by decide) rfl ?_
  refine hr_iconst X 0 dX3_possible_5 kc_0 ?_
  refine hr_istore X dX3_possible_6 (by decide) rfl ?_
  exact hr_wk (hs_some (hs_some (hs_none (hs_some (hs_none (hs_some (hs_nil))))))) (w_X3_possible_8 X hl_t0 hs_t0 a1 2000 (M.2.1 t0 11) 0 M)
set_option maxRecDepth 100000 in
set_option maxHeartbeats 4000000 in
theorem c_X1_readKnown  {t0 : Nat} (hl_t0 : t0 < 69) (hs_t0 : hf_shp t0 = 1) (M : hf_M) : hf_CI yX1_readKnown cX1_readKnown 3 (some .boolean) (6) (fun g => [.ref (hf_a g t0)]) M (s_X1_readKnown t0 M) := by
  refine hf_metI (by decide +kernel) (fun g => Nat.le_of_ble_eq_true rfl) (fun g p l ev s m args below meth c X => ?_)
  have X : hf_X g p s m args meth c cX1_readKnown 3 RX1 (some .boolean) := X
  show hf_W g p l ev (6) s m args below meth c 3 (hf_QI g below args s) M 0 [some (.ref (hf_a g t0)), none, none] [] (s_X1_readKnown t0 M)
  unfold s_X1_readKnown
  refine hr_aload_n X dX1_readKnown_0 rfl ?_
  refine hr_ldS X (i := 4) (by decide) dX1_readKnown_1 ?_
  refine hr_iconst X 1 dX1_readKnown_3 kc_1 ?_
  refine hr_cvI X [.ref (hf_aK g 4), .int 1] [] (c_X1_isWord hl_t0 hs_t0 (by decide : (4 : Nat) < 5) 1 M) lk_RX1_94 rfl rfl rfl hl_t0 hs_t0 ⟨by decide, rfl⟩ (by decide) (Nat.le_of_ble_eq_true rfl) dX1_readKnown_4 (fun r1 M2 _ => ?_)
  refine hr_if_eq X 27 dX1_readKnown_7 rfl ?_ ?_
  · refine hr_iconst X 0 dX1_readKnown_27 kc_0 ?_
    exact hr_zretC X (Or.inl rfl) dX1_readKnown_28
  · refine hr_aload_n X dX1_readKnown_10 rfl ?_
    refine hr_iconst X 0 dX1_readKnown_11 kc_0 ?_
    refine hr_aload_n X dX1_readKnown_12 rfl ?_
    refine hr_gR X 3 hl_t0 hs_t0 lg_RX1_15 rfl dX1_readKnown_13 (fun q3 hl_q3 hs_q3 => ?_)
    refine hr_gI X hl_q3 hs_q3 lg_RX1_89 dX1_readKnown_16 ?_
    refine hr_iconst X 1 dX1_readKnown_19 kc_1 ?_
    refine hr_isub X dX1_readKnown_20 ?_
    refine hr_cvI X [.int 0, .int ((M2.1 q3 8) - 1)] [] (c_X1_isNumber hl_t0 hs_t0 0 ((M2.1 q3 8) - 1) M2) lk_RX1_98 rfl rfl rfl hl_t0 hs_t0 ⟨by decide, rfl⟩ (by decide) (Nat.le_of_ble_eq_true rfl) dX1_readKnown_21 (fun r4 M5 _ => ?_)
    refine hr_if_ne X 29 dX1_readKnown_24 rfl ?_ ?_
    · refine hr_aload_n X dX1_readKnown_29 rfl ?_
      refine hr_gI X hl_t0 hs_t0 lg_RX1_29 dX1_readKnown_30 ?_
      refine hr_istore_n X dX1_readKnown_33 (by decide) rfl ?_
      refine hr_aload_n X dX1_readKnown_34 rfl ?_
      refine hr_bipush X 32 dX1_readKnown_35 kb_32 ?_
      refine hr_cvI X [.int 32] [] (c_X1_isSign hl_t0 hs_t0 32 M5) lk_RX1_44 rfl rfl rfl hl_t0 hs_t0 ⟨by decide, rfl⟩ (by decide) (Nat.le_of_ble_eq_true rfl) dX1_readKnown_37 (fun r6 M7 _ => ?_)
      refine hr_if_eq X 52 dX1_readKnown_40 rfl ?_ ?_
      · refine hr_iconst X 0 dX1_readKnown_52 kc_0 ?_
        exact hr_zretC X (Or.inl rfl) dX1_readKnown_53
      · refine hr_aload_n X dX1_readKnown_43 rfl ?_
        refine hr_iconst X 0 dX1_readKnown_44 kc_0 ?_
        refine hr_iconst X 1 dX1_readKnown_45 kc_1 ?_
        refine hr_cvI X [.int 0, .int 1] [] (c_X1_isNumber hl_t0 hs_t0 0 1 M7) lk_RX1_98 rfl rfl rfl hl_t0 hs_t0 ⟨by decide, rfl⟩ (by decide) (Nat.le_of_ble_eq_true rfl) dX1_readKnown_46 (fun r8 M9 _ => ?_)
        refine hr_if_ne X 54 dX1_readKnown_49 rfl ?_ ?_
        · refine hr_aload_n X dX1_readKnown_54 rfl ?_
          refine hr_gI X hl_t0 hs_t0 lg_RX1_29 dX1_readKnown_55 ?_
          refine hr_iconst X 1 dX1_readKnown_58 kc_1 ?_
          refine hr_icmp_ne X 66 dX1_readKnown_59 rfl ?_ ?_
          · refine hr_iconst X 0 dX1_readKnown_66 kc_0 ?_
            refine hr_istore_n X dX1_readKnown_67 (by decide) rfl ?_
            refine hr_aload_n X dX1_readKnown_68 rfl ?_
            refine hr_gR X 3 hl_t0 hs_t0 lg_RX1_15 rfl dX1_readKnown_69 (fun q10 hl_q10 hs_q10 => ?_)
            refine hr_ldc2 X dX1_readKnown_72 (hf_c3 53 rfl rfl) ?_
            refine hr_cvJ X [.long (-1)] [] (c_X3_possible hl_q10 hs_q10 (-1) M9) lk_RX1_133 rfl rfl rfl hl_q10 hs_q10 ⟨by decide, rfl⟩ (by decide) (Nat.le_of_ble_eq_true rfl) dX1_readKnown_75 (fun r11 M12 _ => ?_)
            refine hr_iload_n X dX1_readKnown_78 rfl ?_
            refine hr_iload_n X dX1_readKnown_79 rfl ?_
            refine hr_csJ X [.int (M5.1 t0 5), .int 0] [.long r11] (c_X4_truthOf (M5.1 t0 5) 0 M12) lk_RX1_147 rfl rfl rfl (by decide) (Nat.le_of_ble_eq_true rfl) dX1_readKnown_80 (fun r13 M14 _ => ?_)
            refine hr_land X dX1_readKnown_83 ?_
            refine hr_lconst X 0 dX1_readKnown_84 rfl ?_
            refine hr_lcmp X dX1_readKnown_85 ?_
            refine hr_if_ne X 98 dX1_readKnown_86 rfl ?_ ?_
            · refine hr_aload_n X dX1_readKnown_98 rfl ?_
              refine hr_gR X 3 hl_t0 hs_t0 lg_RX1_15 rfl dX1_readKnown_99 (fun q15 hl_q15 hs_q15 => ?_)
              refine hr_iload_n X dX1_readKnown_102 rfl ?_
              refine hr_iload_n X dX1_readKnown_103 rfl ?_
              refine hr_cvV X [.int (M5.1 t0 5), .int 0] [] (c_X3_learn hl_q15 hs_q15 (M5.1 t0 5) 0 M14) lk_RX1_151 rfl rfl rfl hl_q15 hs_q15 ⟨by decide, rfl⟩ (by decide) (Nat.le_of_ble_eq_true rfl) dX1_readKnown_104 (fun _ M17 _ => ?_)
              refine hr_iconst X 1 dX1_readKnown_107 kc_1 ?_
              exact hr_zretC X (Or.inr rfl) dX1_readKnown_108
            · refine hr_aload_n X dX1_readKnown_89 rfl ?_
              refine hr_aload_n X dX1_readKnown_90 rfl ?_
              refine hr_gI X hl_t0 hs_t0 lg_RX1_32 dX1_readKnown_91 ?_
              refine hr_cvI X [.int (M14.1 t0 6)] [] (c_X1_wrong hl_t0 hs_t0 (M14.1 t0 6) M14) lk_RX1_56 rfl rfl rfl hl_t0 hs_t0 ⟨by decide, rfl⟩ (by decide) (Nat.le_of_ble_eq_true rfl) dX1_readKnown_94 (fun r18 M19 _ => ?_)
              exact hr_zret X dX1_readKnown_97
          · refine hr_iconst X 1 dX1_readKnown_62 kc_1 ?_
            refine hr_goto X 67 dX1_readKnown_63 rfl ?_
            refine hr_istore_n X dX1_readKnown_67 (by decide) rfl ?_
            refine hr_aload_n X dX1_readKnown_68 rfl ?_
            refine hr_gR X 3 hl_t0 hs_t0 lg_RX1_15 rfl dX1_readKnown_69 (fun q20 hl_q20 hs_q20 => ?_)
            refine hr_ldc2 X dX1_readKnown_72 (hf_c3 53 rfl rfl) ?_
            refine hr_cvJ X [.long (-1)] [] (c_X3_possible hl_q20 hs_q20 (-1) M9) lk_RX1_133 rfl rfl rfl hl_q20 hs_q20 ⟨by decide, rfl⟩ (by decide) (Nat.le_of_ble_eq_true rfl) dX1_readKnown_75 (fun r21 M22 _ => ?_)
            refine hr_iload_n X dX1_readKnown_78 rfl ?_
            refine hr_iload_n X dX1_readKnown_79 rfl ?_
            refine hr_csJ X [.int (M5.1 t0 5), .int 1] [.long r21] (c_X4_truthOf (M5.1 t0 5) 1 M22) lk_RX1_147 rfl rfl rfl (by decide) (Nat.le_of_ble_eq_true rfl) dX1_readKnown_80 (fun r23 M24 _ => ?_)
            refine hr_land X dX1_readKnown_83 ?_
            refine hr_lconst X 0 dX1_readKnown_84 rfl ?_
            refine hr_lcmp X dX1_readKnown_85 ?_
            refine hr_if_ne X 98 dX1_readKnown_86 rfl ?_ ?_
            · refine hr_aload_n X dX1_readKnown_98 rfl ?_
              refine hr_gR X 3 hl_t0 hs_t0 lg_RX1_15 rfl dX1_readKnown_99 (fun q25 hl_q25 hs_q25 => ?_)
              refine hr_iload_n X dX1_readKnown_102 rfl ?_
              refine hr_iload_n X dX1_readKnown_103 rfl ?_
              refine hr_cvV X [.int (M5.1 t0 5), .int 1] [] (c_X3_learn hl_q25 hs_q25 (M5.1 t0 5) 1 M24) lk_RX1_151 rfl rfl rfl hl_q25 hs_q25 ⟨by decide, rfl⟩ (by decide) (Nat.le_of_ble_eq_true rfl) dX1_readKnown_104 (fun _ M27 _ => ?_)
              refine hr_iconst X 1 dX1_readKnown_107 kc_1 ?_
              exact hr_zretC X (Or.inr rfl) dX1_readKnown_108
            · refine hr_aload_n X dX1_readKnown_89 rfl ?_
              refine hr_aload_n X dX1_readKnown_90 rfl ?_
              refine hr_gI X hl_t0 hs_t0 lg_RX1_32 dX1_readKnown_91 ?_
              refine hr_cvI X [.int (M24.1 t0 6)] [] (c_X1_wrong hl_t0 hs_t0 (M24.1 t0 6) M24) lk_RX1_56 rfl rfl rfl hl_t0 hs_t0 ⟨by decide, rfl⟩ (by decide) (Nat.le_of_ble_eq_true rfl) dX1_readKnown_94 (fun r28 M29 _ => ?_)
              exact hr_zret X dX1_readKnown_97
        · refine hr_iconst X 0 dX1_readKnown_52 kc_0 ?_
          exact hr_zretC X (Or.inl rfl) dX1_readKnown_53
    · refine hr_iconst X 0 dX1_readKnown_27 kc_0 ?_
      exact hr_zretC X (Or.inl rfl) dX1_readKnown_28
set_option maxRecDepth 100000 in
set_option maxHeartbeats 4000000 in
theorem c_X1_readLaw  {t0 : Nat} (hl_t0 : t0 < 69) (hs_t0 : hf_shp t0 = 1) (M : hf_M) : hf_CI yX1_readLaw cX1_readLaw 2 (some .boolean) (6) (fun g => [.ref (hf_a g t0)]) M (s_X1_readLaw t0 M) := by
  refine hf_metI (by decide +kernel) (fun g => Nat.le_of_ble_eq_true rfl) (fun g p l ev s m args below meth c X => ?_)
  have X : hf_X g p s m args meth c cX1_readLaw 2 RX1 (some .boolean) := X
  show hf_W g p l ev (6) s m args below meth c 2 (hf_QI g below args s) M 0 [some (.ref (hf_a g t0)), none] [] (s_X1_readLaw t0 M)
  unfold s_X1_readLaw
  refine hr_aload_n X dX1_readLaw_0 rfl ?_
  refine hr_ldS X (i := 2) (by decide) dX1_readLaw_1 ?_
  refine hr_aload_n X dX1_readLaw_3 rfl ?_
  refine hr_gR X 3 hl_t0 hs_t0 lg_RX1_15 rfl dX1_readLaw_4 (fun q1 hl_q1 hs_q1 => ?_)
  refine hr_gI X hl_q1 hs_q1 lg_RX1_117 dX1_readLaw_7 ?_
  refine hr_if_ne X 17 dX1_readLaw_10 rfl ?_ ?_
  · refine hr_iconst X 0 dX1_readLaw_17 kc_0 ?_
    refine hr_cvI X [.ref (hf_aK g 2), .int 0] [] (c_X1_isWord hl_t0 hs_t0 (by decide : (2 : Nat) < 5) 0 M) lk_RX1_94 rfl rfl rfl hl_t0 hs_t0 ⟨by decide, rfl⟩ (by decide) (Nat.le_of_ble_eq_true rfl) dX1_readLaw_18 (fun r2 M3 _ => ?_)
    refine hr_if_eq X 34 dX1_readLaw_21 rfl ?_ ?_
    · refine hr_iconst X 0 dX1_readLaw_34 kc_0 ?_
      exact hr_zretC X (Or.inl rfl) dX1_readLaw_35
    · refine hr_aload_n X dX1_readLaw_24 rfl ?_
      refine hr_iconst X 2 dX1_readLaw_25 kc_2 ?_
      refine hr_bipush X 10 dX1_readLaw_26 kb_10 ?_
      refine hr_cvI X [.int 2, .int 10] [] (c_X1_isNumber hl_t0 hs_t0 2 10 M3) lk_RX1_98 rfl rfl rfl hl_t0 hs_t0 ⟨by decide, rfl⟩ (by decide) (Nat.le_of_ble_eq_true rfl) dX1_readLaw_28 (fun r4 M5 _ => ?_)
      refine hr_if_ne X 36 dX1_readLaw_31 rfl ?_ ?_
      · refine hr_aload_n X dX1_readLaw_36 rfl ?_
        refine hr_gI X hl_t0 hs_t0 lg_RX1_29 dX1_readLaw_37 ?_
        refine hr_istore_n X dX1_readLaw_40 (by decide) rfl ?_
        refine hr_aload_n X dX1_readLaw_41 rfl ?_
        refine hr_bipush X 32 dX1_readLaw_42 kb_32 ?_
        refine hr_cvI X [.int 32] [] (c_X1_isSign hl_t0 hs_t0 32 M5) lk_RX1_44 rfl rfl rfl hl_t0 hs_t0 ⟨by decide, rfl⟩ (by decide) (Nat.le_of_ble_eq_true rfl) dX1_readLaw_44 (fun r6 M7 _ => ?_)
        refine hr_if_eq X 59 dX1_readLaw_47 rfl ?_ ?_
        · refine hr_iconst X 0 dX1_readLaw_59 kc_0 ?_
          exact hr_zretC X (Or.inl rfl) dX1_readLaw_60
        · refine hr_aload_n X dX1_readLaw_50 rfl ?_
          refine hr_iconst X 0 dX1_readLaw_51 kc_0 ?_
          refine hr_iload_n X dX1_readLaw_52 rfl ?_
          refine hr_cvI X [.int 0, .int (M5.1 t0 5)] [] (c_X1_isNumber hl_t0 hs_t0 0 (M5.1 t0 5) M7) lk_RX1_98 rfl rfl rfl hl_t0 hs_t0 ⟨by decide, rfl⟩ (by decide) (Nat.le_of_ble_eq_true rfl) dX1_readLaw_53 (fun r8 M9 _ => ?_)
          refine hr_if_ne X 61 dX1_readLaw_56 rfl ?_ ?_
          · refine hr_aload_n X dX1_readLaw_61 rfl ?_
            refine hr_gR X 3 hl_t0 hs_t0 lg_RX1_15 rfl dX1_readLaw_62 (fun q10 hl_q10 hs_q10 => ?_)
            refine hr_iload_n X dX1_readLaw_65 rfl ?_
            refine hr_pI X hl_q10 hs_q10 lp_RX1_120 dX1_readLaw_66 (fun M11 eM11 => ?_)
            refine hr_aload_n X dX1_readLaw_69 rfl ?_
            refine hr_gR X 3 hl_t0 hs_t0 lg_RX1_15 rfl dX1_readLaw_70 (fun q12 hl_q12 hs_q12 => ?_)
            refine hr_aload_n X dX1_readLaw_73 rfl ?_
            refine hr_gI X hl_t0 hs_t0 lg_RX1_29 dX1_readLaw_74 ?_
            refine hr_pI X hl_q12 hs_q12 lp_RX1_123 dX1_readLaw_77 (fun M13 eM13 => ?_)
            refine hr_iconst X 1 dX1_readLaw_80 kc_1 ?_
            exact hr_zretC X (Or.inr rfl) dX1_readLaw_81
          · refine hr_iconst X 0 dX1_readLaw_59 kc_0 ?_
            exact hr_zretC X (Or.inl rfl) dX1_readLaw_60
      · refine hr_iconst X 0 dX1_readLaw_34 kc_0 ?_
        exact hr_zretC X (Or.inl rfl) dX1_readLaw_35
  · refine hr_iconst X 1 dX1_readLaw_13 kc_1 ?_
    refine hr_goto X 18 dX1_readLaw_14 rfl ?_
    refine hr_cvI X [.ref (hf_aK g 2), .int 1] [] (c_X1_isWord hl_t0 hs_t0 (by decide : (2 : Nat) < 5) 1 M) lk_RX1_94 rfl rfl rfl hl_t0 hs_t0 ⟨by decide, rfl⟩ (by decide) (Nat.le_of_ble_eq_true rfl) dX1_readLaw_18 (fun r14 M15 _ => ?_)
    refine hr_if_eq X 34 dX1_readLaw_21 rfl ?_ ?_
    · refine hr_iconst X 0 dX1_readLaw_34 kc_0 ?_
      exact hr_zretC X (Or.inl rfl) dX1_readLaw_35
    · refine hr_aload_n X dX1_readLaw_24 rfl ?_
      refine hr_iconst X 2 dX1_readLaw_25 kc_2 ?_
      refine hr_bipush X 10 dX1_readLaw_26 kb_10 ?_
      refine hr_cvI X [.int 2, .int 10] [] (c_X1_isNumber hl_t0 hs_t0 2 10 M15) lk_RX1_98 rfl rfl rfl hl_t0 hs_t0 ⟨by decide, rfl⟩ (by decide) (Nat.le_of_ble_eq_true rfl) dX1_readLaw_28 (fun r16 M17 _ => ?_)
      refine hr_if_ne X 36 dX1_readLaw_31 rfl ?_ ?_
      · refine hr_aload_n X dX1_readLaw_36 rfl ?_
        refine hr_gI X hl_t0 hs_t0 lg_RX1_29 dX1_readLaw_37 ?_
        refine hr_istore_n X dX1_readLaw_40 (by decide) rfl ?_
        refine hr_aload_n X dX1_readLaw_41 rfl ?_
        refine hr_bipush X 32 dX1_readLaw_42 kb_32 ?_
        refine hr_cvI X [.int 32] [] (c_X1_isSign hl_t0 hs_t0 32 M17) lk_RX1_44 rfl rfl rfl hl_t0 hs_t0 ⟨by decide, rfl⟩ (by decide) (Nat.le_of_ble_eq_true rfl) dX1_readLaw_44 (fun r18 M19 _ => ?_)
        refine hr_if_eq X 59 dX1_readLaw_47 rfl ?_ ?_
        · refine hr_iconst X 0 dX1_readLaw_59 kc_0 ?_
          exact hr_zretC X (Or.inl rfl) dX1_readLaw_60
        · refine hr_aload_n X dX1_readLaw_50 rfl ?_
          refine hr_iconst X 0 dX1_readLaw_51 kc_0 ?_
          refine hr_iload_n X dX1_readLaw_52 rfl ?_
          refine hr_cvI X [.int 0, .int (M17.1 t0 5)] [] (c_X1_isNumber hl_t0 hs_t0 0 (M17.1 t0 5) M19) lk_RX1_98 rfl rfl rfl hl_t0 hs_t0 ⟨by decide, rfl⟩ (by decide) (Nat.le_of_ble_eq_true rfl) dX1_readLaw_53 (fun r20 M21 _ => ?_)
          refine hr_if_ne X 61 dX1_readLaw_56 rfl ?_ ?_
          · refine hr_aload_n X dX1_readLaw_61 rfl ?_
            refine hr_gR X 3 hl_t0 hs_t0 lg_RX1_15 rfl dX1_readLaw_62 (fun q22 hl_q22 hs_q22 => ?_)
            refine hr_iload_n X dX1_readLaw_65 rfl ?_
            refine hr_pI X hl_q22 hs_q22 lp_RX1_120 dX1_readLaw_66 (fun M23 eM23 => ?_)
            refine hr_aload_n X dX1_readLaw_69 rfl ?_
            refine hr_gR X 3 hl_t0 hs_t0 lg_RX1_15 rfl dX1_readLaw_70 (fun q24 hl_q24 hs_q24 => ?_)
            refine hr_aload_n X dX1_readLaw_73 rfl ?_
            refine hr_gI X hl_t0 hs_t0 lg_RX1_29 dX1_readLaw_74 ?_
            refine hr_pI X hl_q24 hs_q24 lp_RX1_123 dX1_readLaw_77 (fun M25 eM25 => ?_)
            refine hr_iconst X 1 dX1_readLaw_80 kc_1 ?_
            exact hr_zretC X (Or.inr rfl) dX1_readLaw_81
          · refine hr_iconst X 0 dX1_readLaw_59 kc_0 ?_
            exact hr_zretC X (Or.inl rfl) dX1_readLaw_60
      · refine hr_iconst X 0 dX1_readLaw_34 kc_0 ?_
        exact hr_zretC X (Or.inl rfl) dX1_readLaw_35
set_option maxRecDepth 100000 in
set_option maxHeartbeats 4000000 in
theorem c_X3_addSpeaker  {t0 : Nat} (hl_t0 : t0 < 69) (hs_t0 : hf_shp t0 = 3) (a1 : Int32) (a2 : Int32) (M : hf_M) : hf_CV yX3_addSpeaker cX3_addSpeaker 3 (none) (1) (fun g => [.ref (hf_a g t0), .int a1, .int a2]) M (s_X3_addSpeaker t0 a1 a2 M) := by
  refine hf_metV (by decide +kernel) (fun g => Nat.le_of_ble_eq_true rfl) (fun g p l ev s m args below meth c X => ?_)
  have X : hf_X g p s m args meth c cX3_addSpeaker 3 RX3 (none) := X
  show hf_W g p l ev (1) s m args below meth c 3 (hf_QV g below args s) M 0 [some (.ref (hf_a g t0)), some (.int a1), some (.int a2)] [] (s_X3_addSpeaker t0 a1 a2 M)
  unfold s_X3_addSpeaker
  refine hr_aload_n X dX3_addSpeaker_0 rfl ?_
  refine hr_gI X hl_t0 hs_t0 lg_RX3_41 dX3_addSpeaker_1 ?_
  refine hr_bipush X 6 dX3_addSpeaker_4 kb_6 ?_
  refine hr_icmp_ge X 49 dX3_addSpeaker_6 rfl ?_ ?_
  · exact hr_vret X dX3_addSpeaker_49
  · refine hr_aload_n X dX3_addSpeaker_9 rfl ?_
    refine hr_gR X 6 hl_t0 hs_t0 lg_RX3_15 rfl dX3_addSpeaker_10 (fun q1 hl_q1 hs_q1 => ?_)
    refine hr_aload_n X dX3_addSpeaker_13 rfl ?_
    refine hr_gI X hl_t0 hs_t0 lg_RX3_41 dX3_addSpeaker_14 ?_
    refine hr_iload_n X dX3_addSpeaker_17 rfl ?_
    refine hr_iast X hl_q1 hs_q1 dX3_addSpeaker_18 (fun M2 eM2 _ => ?_)
    refine hr_aload_n X dX3_addSpeaker_19 rfl ?_
    refine hr_gR X 6 hl_t0 hs_t0 lg_RX3_18 rfl dX3_addSpeaker_20 (fun q3 hl_q3 hs_q3 => ?_)
    refine hr_aload_n X dX3_addSpeaker_23 rfl ?_
    refine hr_gI X hl_t0 hs_t0 lg_RX3_41 dX3_addSpeaker_24 ?_
    refine hr_iload_n X dX3_addSpeaker_27 rfl ?_
    refine hr_iast X hl_q3 hs_q3 dX3_addSpeaker_28 (fun M4 eM4 _ => ?_)
    refine hr_aload_n X dX3_addSpeaker_29 rfl ?_
    refine hr_gR X 6 hl_t0 hs_t0 lg_RX3_21 rfl dX3_addSpeaker_30 (fun q5 hl_q5 hs_q5 => ?_)
    refine hr_aload_n X dX3_addSpeaker_33 rfl ?_
    refine hr_gI X hl_t0 hs_t0 lg_RX3_41 dX3_addSpeaker_34 ?_
    refine hr_iconst X 0 dX3_addSpeaker_37 kc_0 ?_
    refine hr_iast X hl_q5 hs_q5 dX3_addSpeaker_38 (fun M6 eM6 _ => ?_)
    refine hr_aload_n X dX3_addSpeaker_39 rfl ?_
    refine hr_dup X dX3_addSpeaker_40 rfl ?_
    refine hr_gI X hl_t0 hs_t0 lg_RX3_41 dX3_addSpeaker_41 ?_
    refine hr_iconst X 1 dX3_addSpeaker_44 kc_1 ?_
    refine hr_iadd X dX3_addSpeaker_45 ?_
    refine hr_pI X hl_t0 hs_t0 lp_RX3_41 dX3_addSpeaker_46 (fun M7 eM7 => ?_)
    exact hr_vret X dX3_addSpeaker_49
set_option maxRecDepth 100000 in
set_option maxHeartbeats 4000000 in
theorem c_X1_readMan  {t0 : Nat} (hl_t0 : t0 < 69) (hs_t0 : hf_shp t0 = 1) (M : hf_M) : hf_CI yX1_readMan cX1_readMan 2 (some .boolean) (6) (fun g => [.ref (hf_a g t0)]) M (s_X1_readMan t0 M) := by
  refine hf_metI (by decide +kernel) (fun g => Nat.le_of_ble_eq_true rfl) (fun g p l ev s m args below meth c X => ?_)
  have X : hf_X g p s m args meth c cX1_readMan 2 RX1 (some .boolean) := X
  show hf_W g p l ev (6) s m args below meth c 2 (hf_QI g below args s) M 0 [some (.ref (hf_a g t0)), none] [] (s_X1_readMan t0 M)
  unfold s_X1_readMan
  refine hr_aload_n X dX1_readMan_0 rfl ?_
  refine hr_ldS X (i := 1) (by decide) dX1_readMan_1 ?_
  refine hr_aload_n X dX1_readMan_3 rfl ?_
  refine hr_gR X 3 hl_t0 hs_t0 lg_RX1_15 rfl dX1_readMan_4 (fun q1 hl_q1 hs_q1 => ?_)
  refine hr_gI X hl_q1 hs_q1 lg_RX1_108 dX1_readMan_7 ?_
  refine hr_bipush X 6 dX1_readMan_10 kb_6 ?_
  refine hr_icmp_ge X 19 dX1_readMan_12 rfl ?_ ?_
  · refine hr_iconst X 0 dX1_readMan_19 kc_0 ?_
    refine hr_cvI X [.ref (hf_aK g 1), .int 0] [] (c_X1_isWord hl_t0 hs_t0 (by decide : (1 : Nat) < 5) 0 M) lk_RX1_94 rfl rfl rfl hl_t0 hs_t0 ⟨by decide, rfl⟩ (by decide) (Nat.le_of_ble_eq_true rfl) dX1_readMan_20 (fun r2 M3 _ => ?_)
    refine hr_if_eq X 36 dX1_readMan_23 rfl ?_ ?_
    · refine hr_iconst X 0 dX1_readMan_36 kc_0 ?_
      exact hr_zretC X (Or.inl rfl) dX1_readMan_37
    · refine hr_aload_n X dX1_readMan_26 rfl ?_
      refine hr_iconst X 0 dX1_readMan_27 kc_0 ?_
      refine hr_bipush X 6 dX1_readMan_28 kb_6 ?_
      refine hr_cvI X [.int 0, .int 6] [] (c_X1_isNumber hl_t0 hs_t0 0 6 M3) lk_RX1_98 rfl rfl rfl hl_t0 hs_t0 ⟨by decide, rfl⟩ (by decide) (Nat.le_of_ble_eq_true rfl) dX1_readMan_30 (fun r4 M5 _ => ?_)
      refine hr_if_ne X 38 dX1_readMan_33 rfl ?_ ?_
      · refine hr_aload_n X dX1_readMan_38 rfl ?_
        refine hr_gI X hl_t0 hs_t0 lg_RX1_29 dX1_readMan_39 ?_
        refine hr_istore_n X dX1_readMan_42 (by decide) rfl ?_
        refine hr_aload_n X dX1_readMan_43 rfl ?_
        refine hr_bipush X 32 dX1_readMan_44 kb_32 ?_
        refine hr_cvI X [.int 32] [] (c_X1_isSign hl_t0 hs_t0 32 M5) lk_RX1_44 rfl rfl rfl hl_t0 hs_t0 ⟨by decide, rfl⟩ (by decide) (Nat.le_of_ble_eq_true rfl) dX1_readMan_46 (fun r6 M7 _ => ?_)
        refine hr_if_eq X 63 dX1_readMan_49 rfl ?_ ?_
        · refine hr_iconst X 0 dX1_readMan_63 kc_0 ?_
          exact hr_zretC X (Or.inl rfl) dX1_readMan_64
        · refine hr_aload_n X dX1_readMan_52 rfl ?_
          refine hr_iconst X 0 dX1_readMan_53 kc_0 ?_
          refine hr_sipush X 1023 dX1_readMan_54 ks_1023 ?_
          refine hr_cvI X [.int 0, .int 1023] [] (c_X1_isNumber hl_t0 hs_t0 0 1023 M7) lk_RX1_98 rfl rfl rfl hl_t0 hs_t0 ⟨by decide, rfl⟩ (by decide) (Nat.le_of_ble_eq_true rfl) dX1_readMan_57 (fun r8 M9 _ => ?_)
          refine hr_if_ne X 65 dX1_readMan_60 rfl ?_ ?_
          · refine hr_aload_n X dX1_readMan_65 rfl ?_
            refine hr_gR X 3 hl_t0 hs_t0 lg_RX1_15 rfl dX1_readMan_66 (fun q10 hl_q10 hs_q10 => ?_)
            refine hr_iload_n X dX1_readMan_69 rfl ?_
            refine hr_aload_n X dX1_readMan_70 rfl ?_
            refine hr_gI X hl_t0 hs_t0 lg_RX1_29 dX1_readMan_71 ?_
            refine hr_cvV X [.int (M5.1 t0 5), .int (M9.1 t0 5)] [] (c_X3_addSpeaker hl_q10 hs_q10 (M5.1 t0 5) (M9.1 t0 5) M9) lk_RX1_111 rfl rfl rfl hl_q10 hs_q10 ⟨by decide, rfl⟩ (by decide) (Nat.le_of_ble_eq_true rfl) dX1_readMan_74 (fun _ M12 _ => ?_)
            refine hr_iconst X 1 dX1_readMan_77 kc_1 ?_
            exact hr_zretC X (Or.inr rfl) dX1_readMan_78
          · refine hr_iconst X 0 dX1_readMan_63 kc_0 ?_
            exact hr_zretC X (Or.inl rfl) dX1_readMan_64
      · refine hr_iconst X 0 dX1_readMan_36 kc_0 ?_
        exact hr_zretC X (Or.inl rfl) dX1_readMan_37
  · refine hr_iconst X 1 dX1_readMan_15 kc_1 ?_
    refine hr_goto X 20 dX1_readMan_16 rfl ?_
    refine hr_cvI X [.ref (hf_aK g 1), .int 1] [] (c_X1_isWord hl_t0 hs_t0 (by decide : (1 : Nat) < 5) 1 M) lk_RX1_94 rfl rfl rfl hl_t0 hs_t0 ⟨by decide, rfl⟩ (by decide) (Nat.le_of_ble_eq_true rfl) dX1_readMan_20 (fun r13 M14 _ => ?_)
    refine hr_if_eq X 36 dX1_readMan_23 rfl ?_ ?_
    · refine hr_iconst X 0 dX1_readMan_36 kc_0 ?_
      exact hr_zretC X (Or.inl rfl) dX1_readMan_37
    · refine hr_aload_n X dX1_readMan_26 rfl ?_
      refine hr_iconst X 0 dX1_readMan_27 kc_0 ?_
      refine hr_bipush X 6 dX1_readMan_28 kb_6 ?_
      refine hr_cvI X [.int 0, .int 6] [] (c_X1_isNumber hl_t0 hs_t0 0 6 M14) lk_RX1_98 rfl rfl rfl hl_t0 hs_t0 ⟨by decide, rfl⟩ (by decide) (Nat.le_of_ble_eq_true rfl) dX1_readMan_30 (fun r15 M16 _ => ?_)
      refine hr_if_ne X 38 dX1_readMan_33 rfl ?_ ?_
      · refine hr_aload_n X dX1_readMan_38 rfl ?_
        refine hr_gI X hl_t0 hs_t0 lg_RX1_29 dX1_readMan_39 ?_
        refine hr_istore_n X dX1_readMan_42 (by decide) rfl ?_
        refine hr_aload_n X dX1_readMan_43 rfl ?_
        refine hr_bipush X 32 dX1_readMan_44 kb_32 ?_
        refine hr_cvI X [.int 32] [] (c_X1_isSign hl_t0 hs_t0 32 M16) lk_RX1_44 rfl rfl rfl hl_t0 hs_t0 ⟨by decide, rfl⟩ (by decide) (Nat.le_of_ble_eq_true rfl) dX1_readMan_46 (fun r17 M18 _ => ?_)
        refine hr_if_eq X 63 dX1_readMan_49 rfl ?_ ?_
        · refine hr_iconst X 0 dX1_readMan_63 kc_0 ?_
          exact hr_zretC X (Or.inl rfl) dX1_readMan_64
        · refine hr_aload_n X dX1_readMan_52 rfl ?_
          refine hr_iconst X 0 dX1_readMan_53 kc_0 ?_
          refine hr_sipush X 1023 dX1_readMan_54 ks_1023 ?_
          refine hr_cvI X [.int 0, .int 1023] [] (c_X1_isNumber hl_t0 hs_t0 0 1023 M18) lk_RX1_98 rfl rfl rfl hl_t0 hs_t0 ⟨by decide, rfl⟩ (by decide) (Nat.le_of_ble_eq_true rfl) dX1_readMan_57 (fun r19 M20 _ => ?_)
          refine hr_if_ne X 65 dX1_readMan_60 rfl ?_ ?_
          · refine hr_aload_n X dX1_readMan_65 rfl ?_
            refine hr_gR X 3 hl_t0 hs_t0 lg_RX1_15 rfl dX1_readMan_66 (fun q21 hl_q21 hs_q21 => ?_)
            refine hr_iload_n X dX1_readMan_69 rfl ?_
            refine hr_aload_n X dX1_readMan_70 rfl ?_
            refine hr_gI X hl_t0 hs_t0 lg_RX1_29 dX1_readMan_71 ?_
            refine hr_cvV X [.int (M16.1 t0 5), .int (M20.1 t0 5)] [] (c_X3_addSpeaker hl_q21 hs_q21 (M16.1 t0 5) (M20.1 t0 5) M20) lk_RX1_111 rfl rfl rfl hl_q21 hs_q21 ⟨by decide, rfl⟩ (by decide) (Nat.le_of_ble_eq_true rfl) dX1_readMan_74 (fun _ M23 _ => ?_)
            refine hr_iconst X 1 dX1_readMan_77 kc_1 ?_
            exact hr_zretC X (Or.inr rfl) dX1_readMan_78
          · refine hr_iconst X 0 dX1_readMan_63 kc_0 ?_
            exact hr_zretC X (Or.inl rfl) dX1_readMan_64
      · refine hr_iconst X 0 dX1_readMan_36 kc_0 ?_
        exact hr_zretC X (Or.inl rfl) dX1_readMan_37
set_option maxRecDepth 100000 in
set_option maxHeartbeats 4000000 in
theorem c_X3_putTrueIn  {t0 : Nat} (hl_t0 : t0 < 69) (hs_t0 : hf_shp t0 = 3) (a1 : Int32) (a2 : Int32) (a3 : Int64) (M : hf_M) : hf_CV yX3_putTrueIn cX3_putTrueIn 5 (none) (1) (fun g => [.ref (hf_a g t0), .int a1, .int a2, .long a3]) M (s_X3_putTrueIn t0 a1 a2 a3 M) := by
  refine hf_metV (by decide +kernel) (fun g => Nat.le_of_ble_eq_true rfl) (fun g p l ev s m args below meth c X => ?_)
  have X : hf_X g p s m args meth c cX3_putTrueIn 5 RX3 (none) := X
  show hf_W g p l ev (1) s m args below meth c 5 (hf_QV g below args s) M 0 [some (.ref (hf_a g t0)), some (.int a1), some (.int a2), some (.long a3), none] [] (s_X3_putTrueIn t0 a1 a2 a3 M)
  unfold s_X3_putTrueIn
  refine hr_aload_n X dX3_putTrueIn_0 rfl ?_
  refine hr_gI X hl_t0 hs_t0 lg_RX3_44 dX3_putTrueIn_1 ?_
  refine hr_bipush X 48 dX3_putTrueIn_4 kb_48 ?_
  refine hr_icmp_ge X 74 dX3_putTrueIn_6 rfl ?_ ?_
  · exact hr_vret X dX3_putTrueIn_74
  · refine hr_aload_n X dX3_putTrueIn_9 rfl ?_
    refine hr_gR X 6 hl_t0 hs_t0 lg_RX3_24 rfl dX3_putTrueIn_10 (fun q1 hl_q1 hs_q1 => ?_)
    refine hr_aload_n X dX3_putTrueIn_13 rfl ?_
    refine hr_gI X hl_t0 hs_t0 lg_RX3_44 dX3_putTrueIn_14 ?_
    refine hr_iload_n X dX3_putTrueIn_17 rfl ?_
    refine hr_iast X hl_q1 hs_q1 dX3_putTrueIn_18 (fun M2 eM2 _ => ?_)
    refine hr_aload_n X dX3_putTrueIn_19 rfl ?_
    refine hr_gR X 6 hl_t0 hs_t0 lg_RX3_27 rfl dX3_putTrueIn_20 (fun q3 hl_q3 hs_q3 => ?_)
    refine hr_aload_n X dX3_putTrueIn_23 rfl ?_
    refine hr_gI X hl_t0 hs_t0 lg_RX3_44 dX3_putTrueIn_24 ?_
    refine hr_aload_n X dX3_putTrueIn_27 rfl ?_
    refine hr_gR X 6 hl_t0 hs_t0 lg_RX3_21 rfl dX3_putTrueIn_28 (fun q4 hl_q4 hs_q4 => ?_)
    refine hr_iload_n X dX3_putTrueIn_31 rfl ?_
    refine hr_iald X hl_q4 hs_q4 dX3_putTrueIn_32 (fun r5 _ _ => ?_)
    refine hr_iast X hl_q3 hs_q3 dX3_putTrueIn_33 (fun M6 eM6 _ => ?_)
    refine hr_aload_n X dX3_putTrueIn_34 rfl ?_
    refine hr_gR X 6 hl_t0 hs_t0 lg_RX3_30 rfl dX3_putTrueIn_35 (fun q7 hl_q7 hs_q7 => ?_)
    refine hr_aload_n X dX3_putTrueIn_38 rfl ?_
    refine hr_gI X hl_t0 hs_t0 lg_RX3_44 dX3_putTrueIn_39 ?_
    refine hr_iload_n X dX3_putTrueIn_42 rfl ?_
    refine hr_iast X hl_q7 hs_q7 dX3_putTrueIn_43 (fun M8 eM8 _ => ?_)
    refine hr_aload_n X dX3_putTrueIn_44 rfl ?_
    refine hr_gR X 7 hl_t0 hs_t0 lg_RX3_33 rfl dX3_putTrueIn_45 (fun q9 hl_q9 hs_q9 => ?_)
    refine hr_aload_n X dX3_putTrueIn_48 rfl ?_
    refine hr_gI X hl_t0 hs_t0 lg_RX3_44 dX3_putTrueIn_49 ?_
    refine hr_lload_n X dX3_putTrueIn_52 rfl ?_
    refine hr_last X hl_q9 hs_q9 dX3_putTrueIn_53 (fun M10 eM10 _ => ?_)
    refine hr_aload_n X dX3_putTrueIn_54 rfl ?_
    refine hr_gR X 6 hl_t0 hs_t0 lg_RX3_21 rfl dX3_putTrueIn_55 (fun q11 hl_q11 hs_q11 => ?_)
    refine hr_iload_n X dX3_putTrueIn_58 rfl ?_
    refine hr_dup2 X dX3_putTrueIn_59 rfl rfl ?_
    refine hr_iald X hl_q11 hs_q11 dX3_putTrueIn_60 (fun r12 _ _ => ?_)
    refine hr_iconst X 1 dX3_putTrueIn_61 kc_1 ?_
    refine hr_iadd X dX3_putTrueIn_62 ?_
    refine hr_iast X hl_q11 hs_q11 dX3_putTrueIn_63 (fun M13 eM13 _ => ?_)
    refine hr_aload_n X dX3_putTrueIn_64 rfl ?_
    refine hr_dup X dX3_putTrueIn_65 rfl ?_
    refine hr_gI X hl_t0 hs_t0 lg_RX3_44 dX3_putTrueIn_66 ?_
    refine hr_iconst X 1 dX3_putTrueIn_69 kc_1 ?_
    refine hr_iadd X dX3_putTrueIn_70 ?_
    refine hr_pI X hl_t0 hs_t0 lp_RX3_44 dX3_putTrueIn_71 (fun M14 eM14 => ?_)
    exact hr_vret X dX3_putTrueIn_74
set_option maxRecDepth 100000 in
set_option maxHeartbeats 4000000 in
theorem c_X3_put  {t0 : Nat} (hl_t0 : t0 < 69) (hs_t0 : hf_shp t0 = 3) (a1 : Int32) (a2 : Int32) (a3 : Int32) (M : hf_M) : hf_CV yX3_put cX3_put 4 (none) (2) (fun g => [.ref (hf_a g t0), .int a1, .int a2, .int a3]) M (s_X3_put t0 a1 a2 a3 M) := by
  refine hf_metV (by decide +kernel) (fun g => Nat.le_of_ble_eq_true rfl) (fun g p l ev s m args below meth c X => ?_)
  have X : hf_X g p s m args meth c cX3_put 4 RX3 (none) := X
  show hf_W g p l ev (2) s m args below meth c 4 (hf_QV g below args s) M 0 [some (.ref (hf_a g t0)), some (.int a1), some (.int a2), some (.int a3)] [] (s_X3_put t0 a1 a2 a3 M)
  unfold s_X3_put
  refine hr_aload_n X dX3_put_0 rfl ?_
  refine hr_iload_n X dX3_put_1 rfl ?_
  refine hr_bipush X 100 dX3_put_2 kb_100 ?_
  refine hr_iload_n X dX3_put_4 rfl ?_
  refine hr_imul X dX3_put_5 ?_
  refine hr_bipush X 10 dX3_put_6 kb_10 ?_
  refine hr_iload_n X dX3_put_8 rfl ?_
  refine hr_imul X dX3_put_9 ?_
  refine hr_iadd X dX3_put_10 ?_
  refine hr_iload_n X dX3_put_11 rfl ?_
  refine hr_if_eq X 19 dX3_put_12 rfl ?_ ?_
  · refine hr_iconst X 0 dX3_put_19 kc_0 ?_
    refine hr_iadd X dX3_put_20 ?_
    refine hr_iload_n X dX3_put_21 rfl ?_
    refine hr_iload_n X dX3_put_22 rfl ?_
    refine hr_csJ X [.int a2, .int a3] [.int (((100 * a1) + (10 * a2)) + 0), .int a1, .ref (hf_a g t0)] (c_X4_truthOf a2 a3 M) lk_RX3_72 rfl rfl rfl (by decide) (Nat.le_of_ble_eq_true rfl) dX3_put_23 (fun r1 M2 _ => ?_)
    refine hr_cvV X [.int a1, .int (((100 * a1) + (10 * a2)) + 0), .long r1] [] (c_X3_putTrueIn hl_t0 hs_t0 a1 (((100 * a1) + (10 * a2)) + 0) r1 M2) lk_RX3_76 rfl rfl rfl hl_t0 hs_t0 ⟨by decide, rfl⟩ (by decide) (Nat.le_of_ble_eq_true rfl) dX3_put_26 (fun _ M4 _ => ?_)
    exact hr_vret X dX3_put_29
  · refine hr_iconst X 1 dX3_put_15 kc_1 ?_
    refine hr_goto X 20 dX3_put_16 rfl ?_
    refine hr_iadd X dX3_put_20 ?_
    refine hr_iload_n X dX3_put_21 rfl ?_
    refine hr_iload_n X dX3_put_22 rfl ?_
    refine hr_csJ X [.int a2, .int a3] [.int (((100 * a1) + (10 * a2)) + 1), .int a1, .ref (hf_a g t0)] (c_X4_truthOf a2 a3 M) lk_RX3_72 rfl rfl rfl (by decide) (Nat.le_of_ble_eq_true rfl) dX3_put_23 (fun r5 M6 _ => ?_)
    refine hr_cvV X [.int a1, .int (((100 * a1) + (10 * a2)) + 1), .long r5] [] (c_X3_putTrueIn hl_t0 hs_t0 a1 (((100 * a1) + (10 * a2)) + 1) r5 M6) lk_RX3_76 rfl rfl rfl hl_t0 hs_t0 ⟨by decide, rfl⟩ (by decide) (Nat.le_of_ble_eq_true rfl) dX3_put_26 (fun _ M8 _ => ?_)
    exact hr_vret X dX3_put_29
set_option maxRecDepth 100000 in
set_option maxHeartbeats 4000000 in
theorem c_X3_takeBack  {t0 : Nat} (hl_t0 : t0 < 69) (hs_t0 : hf_shp t0 = 3) (M : hf_M) : hf_CV yX3_takeBack cX3_takeBack 1 (none) (1) (fun g => [.ref (hf_a g t0)]) M (s_X3_takeBack t0 M) := by
  refine hf_metV (by decide +kernel) (fun g => Nat.le_of_ble_eq_true rfl) (fun g p l ev s m args below meth c X => ?_)
  have X : hf_X g p s m args meth c cX3_takeBack 1 RX3 (none) := X
  show hf_W g p l ev (1) s m args below meth c 1 (hf_QV g below args s) M 0 [some (.ref (hf_a g t0))] [] (s_X3_takeBack t0 M)
  unfold s_X3_takeBack
  refine hr_aload_n X dX3_takeBack_0 rfl ?_
  refine hr_gI X hl_t0 hs_t0 lg_RX3_44 dX3_takeBack_1 ?_
  refine hr_if_le X 35 dX3_takeBack_4 rfl ?_ ?_
  · exact hr_vret X dX3_takeBack_35
  · refine hr_aload_n X dX3_takeBack_7 rfl ?_
    refine hr_dup X dX3_takeBack_8 rfl ?_
    refine hr_gI X hl_t0 hs_t0 lg_RX3_44 dX3_takeBack_9 ?_
    refine hr_iconst X 1 dX3_takeBack_12 kc_1 ?_
    refine hr_isub X dX3_takeBack_13 ?_
    refine hr_pI X hl_t0 hs_t0 lp_RX3_44 dX3_takeBack_14 (fun M1 eM1 => ?_)
    refine hr_aload_n X dX3_takeBack_17 rfl ?_
    refine hr_gR X 6 hl_t0 hs_t0 lg_RX3_21 rfl dX3_takeBack_18 (fun q2 hl_q2 hs_q2 => ?_)
    refine hr_aload_n X dX3_takeBack_21 rfl ?_
    refine hr_gR X 6 hl_t0 hs_t0 lg_RX3_24 rfl dX3_takeBack_22 (fun q3 hl_q3 hs_q3 => ?_)
    refine hr_aload_n X dX3_takeBack_25 rfl ?_
    refine hr_gI X hl_t0 hs_t0 lg_RX3_44 dX3_takeBack_26 ?_
    refine hr_iald X hl_q3 hs_q3 dX3_takeBack_29 (fun r4 _ _ => ?_)
    refine hr_dup2 X dX3_takeBack_30 rfl rfl ?_
    refine hr_iald X hl_q2 hs_q2 dX3_takeBack_31 (fun r5 _ _ => ?_)
    refine hr_iconst X 1 dX3_takeBack_32 kc_1 ?_
    refine hr_isub X dX3_takeBack_33 ?_
    refine hr_iast X hl_q2 hs_q2 dX3_takeBack_34 (fun M6 eM6 _ => ?_)
    exact hr_vret X dX3_takeBack_35
set_option maxRecDepth 100000 in
set_option maxHeartbeats 4000000 in
theorem c_X3_after  {t0 : Nat} (hl_t0 : t0 < 69) (hs_t0 : hf_shp t0 = 3) (a1 : Int32) (a2 : Int32) (a3 : Int32) (a4 : Int64) (M : hf_M) : hf_CJ yX3_after cX3_after 8 (some .long) (4) (fun g => [.ref (hf_a g t0), .int a1, .int a2, .int a3, .long a4]) M (s_X3_after t0 a1 a2 a3 a4 M) := by
  refine hf_metJ (by decide +kernel) (fun g => Nat.le_of_ble_eq_true rfl) (fun g p l ev s m args below meth c X => ?_)
  have X : hf_X g p s m args meth c cX3_after 8 RX3 (some .long) := X
  show hf_W g p l ev (4) s m args below meth c 8 (hf_QJ g below args s) M 0 [some (.ref (hf_a g t0)), some (.int a1), some (.int a2), some (.int a3), some (.long a4), none, none, none] [] (s_X3_after t0 a1 a2 a3 a4 M)
  unfold s_X3_after
  refine hr_aload_n X dX3_after_0 rfl ?_
  refine hr_iload_n X dX3_after_1 rfl ?_
  refine hr_iload_n X dX3_after_2 rfl ?_
  refine hr_iload_n X dX3_after_3 rfl ?_
  refine hr_cvV X [.int a1, .int a2, .int a3] [] (c_X3_put hl_t0 hs_t0 a1 a2 a3 M) lk_RX3_87 rfl rfl rfl hl_t0 hs_t0 ⟨by decide, rfl⟩ (by decide) (Nat.le_of_ble_eq_true rfl) dX3_after_4 (fun _ M2 _ => ?_)
  refine hr_lload X dX3_after_7 rfl ?_
  refine hr_aload_n X dX3_after_9 rfl ?_
  refine hr_iload_n X dX3_after_10 rfl ?_
  refine hr_ldc2 X dX3_after_11 (hf_c2 125 rfl rfl) ?_
  refine hr_cvJ X [.int a1, .long (-1)] [.long a4] (c_X3_allowed hl_t0 hs_t0 a1 (-1) M2) lk_RX3_81 rfl rfl rfl hl_t0 hs_t0 ⟨by decide, rfl⟩ (by decide) (Nat.le_of_ble_eq_true rfl) dX3_after_14 (fun r3 M4 _ => ?_)
  refine hr_land X dX3_after_17 ?_
  refine hr_lstore X dX3_after_18 (by decide) rfl ?_
  refine hr_aload_n X dX3_after_20 rfl ?_
  refine hr_cvV X [] [] (c_X3_takeBack hl_t0 hs_t0 M4) lk_RX3_91 rfl rfl rfl hl_t0 hs_t0 ⟨by decide, rfl⟩ (by decide) (Nat.le_of_ble_eq_true rfl) dX3_after_21 (fun _ M6 _ => ?_)
  refine hr_lload X dX3_after_24 rfl ?_
  exact hr_lret X dX3_after_26
set_option maxRecDepth 100000 in
set_option maxHeartbeats 4000000 in
theorem c_X3_isFull  {t0 : Nat} (hl_t0 : t0 < 69) (hs_t0 : hf_shp t0 = 3) (a1 : Int32) (M : hf_M) : hf_CI yX3_isFull cX3_isFull 2 (some .boolean) (1) (fun g => [.ref (hf_a g t0), .int a1]) M (s_X3_isFull t0 a1 M) := by
  refine hf_metI (by decide +kernel) (fun g => Nat.le_of_ble_eq_true rfl) (fun g p l ev s m args below meth c X => ?_)
  have X : hf_X g p s m args meth c cX3_isFull 2 RX3 (some .boolean) := X
  show hf_W g p l ev (1) s m args below meth c 2 (hf_QI g below args s) M 0 [some (.ref (hf_a g t0)), some (.int a1)] [] (s_X3_isFull t0 a1 M)
  unfold s_X3_isFull
  refine hr_aload_n X dX3_isFull_0 rfl ?_
  refine hr_gR X 6 hl_t0 hs_t0 lg_RX3_21 rfl dX3_isFull_1 (fun q1 hl_q1 hs_q1 => ?_)
  refine hr_iload_n X dX3_isFull_4 rfl ?_
  refine hr_iald X hl_q1 hs_q1 dX3_isFull_5 (fun r2 _ _ => ?_)
  refine hr_aload_n X dX3_isFull_6 rfl ?_
  refine hr_gI X hl_t0 hs_t0 lg_RX3_51 dX3_isFull_7 ?_
  refine hr_icmp_lt X 17 dX3_isFull_10 rfl ?_ ?_
  · refine hr_iconst X 0 dX3_isFull_17 kc_0 ?_
    exact hr_zretC X (Or.inl rfl) dX3_isFull_18
  · refine hr_iconst X 1 dX3_isFull_13 kc_1 ?_
    refine hr_goto X 18 dX3_isFull_14 rfl ?_
    exact hr_zretC X (Or.inr rfl) dX3_isFull_18
set_option maxRecDepth 100000 in
set_option maxHeartbeats 4000000 in
theorem w_X1_readSays_136 {g : hf_G} {p : Program} {l : Launch} {ev : Env} {s : State} {m : MethodId} {args : Array Value} {below : List Frame} {meth : Method} {c : Code} (X : hf_X g p s m args meth c cX1_readSays 4 RX1 (some .boolean))     {t0 : Nat} (hl_t0 : t0 < 69) (hs_t0 : hf_shp t0 = 1) (v1 : Int32) (v2 : Int32) (w0 : Int32) (M : hf_M) : hf_W g p l ev (6) s m args below meth c 4 (hf_QI g below args s) M 136 [some (.ref (hf_a g t0)), some (.int v1), some (.int v2), none] [.int w0] (s_X1_readSays_136 t0 v1 v2 w0 M) := by
  unfold s_X1_readSays_136
  refine hr_istore_n X dX1_readSays_136 (by decide) rfl ?_
  refine hr_aload_n X dX1_readSays_137 rfl ?_
  refine hr_gR X 3 hl_t0 hs_t0 lg_RX1_15 rfl dX1_readSays_138 (fun q1 hl_q1 hs_q1 => ?_)
  refine hr_iload_n X dX1_readSays_141 rfl ?_
  refine hr_iload_n X dX1_readSays_142 rfl ?_
  refine hr_iload_n X dX1_readSays_143 rfl ?_
  refine hr_aload_n X dX1_readSays_144 rfl ?_
  refine hr_gR X 3 hl_t0 hs_t0 lg_RX1_15 rfl dX1_readSays_145 (fun q2 hl_q2 hs_q2 => ?_)
  refine hr_ldc2 X dX1_readSays_148 (hf_c3 53 rfl rfl) ?_
  refine hr_cvJ X [.long (-1)] [.int w0, .int v2, .int v1, .ref (hf_a g q1)] (c_X3_possible hl_q2 hs_q2 (-1) M) lk_RX1_133 rfl rfl rfl hl_q2 hs_q2 ⟨by decide, rfl⟩ (by decide) (Nat.le_of_ble_eq_true rfl) dX1_readSays_151 (fun r3 M4 _ => ?_)
  refine hr_cvJ X [.int v1, .int v2, .int w0, .long r3] [] (c_X3_after hl_q1 hs_q1 v1 v2 w0 r3 M4) lk_RX1_137 rfl rfl rfl hl_q1 hs_q1 ⟨by decide, rfl⟩ (by decide) (Nat.le_of_ble_eq_true rfl) dX1_readSays_154 (fun r5 M6 _ => ?_)
  refine hr_lconst X 0 dX1_readSays_157 rfl ?_
  refine hr_lcmp X dX1_readSays_158 ?_
  refine hr_if_ne X 171 dX1_readSays_159 rfl ?_ ?_
  · refine hr_aload_n X dX1_readSays_171 rfl ?_
    refine hr_gR X 3 hl_t0 hs_t0 lg_RX1_15 rfl dX1_readSays_172 (fun q7 hl_q7 hs_q7 => ?_)
    refine hr_iload_n X dX1_readSays_175 rfl ?_
    refine hr_iload_n X dX1_readSays_176 rfl ?_
    refine hr_iload_n X dX1_readSays_177 rfl ?_
    refine hr_cvV X [.int v1, .int v2, .int w0] [] (c_X3_put hl_q7 hs_q7 v1 v2 w0 M6) lk_RX1_141 rfl rfl rfl hl_q7 hs_q7 ⟨by decide, rfl⟩ (by decide) (Nat.le_of_ble_eq_true rfl) dX1_readSays_178 (fun _ M9 _ => ?_)
    refine hr_iconst X 1 dX1_readSays_181 kc_1 ?_
    exact hr_zretC X (Or.inr rfl) dX1_readSays_182
  · refine hr_aload_n X dX1_readSays_162 rfl ?_
    refine hr_aload_n X dX1_readSays_163 rfl ?_
    refine hr_gI X hl_t0 hs_t0 lg_RX1_32 dX1_readSays_164 ?_
    refine hr_cvI X [.int (M6.1 t0 6)] [] (c_X1_wrong hl_t0 hs_t0 (M6.1 t0 6) M6) lk_RX1_56 rfl rfl rfl hl_t0 hs_t0 ⟨by decide, rfl⟩ (by decide) (Nat.le_of_ble_eq_true rfl) dX1_readSays_167 (fun r10 M11 _ => ?_)
    exact hr_zret X dX1_readSays_170
set_option maxRecDepth 100000 in
set_option maxHeartbeats 4000000 in
theorem w_X1_readSays_20 {g : hf_G} {p : Program} {l : Launch} {ev : Env} {s : State} {m : MethodId} {args : Array Value} {below : List Frame} {meth : Method} {c : Code} (X : hf_X g p s m args meth c cX1_readSays 4 RX1 (some .boolean))     {t0 : Nat} (hl_t0 : t0 < 69) (hs_t0 : hf_shp t0 = 1) {w0 : Nat} (hl_w0 : w0 < 69) (hs_w0 : hf_shp w0 = 1) {w1 : Nat} (hl_w1 : w1 < 5) (w2 : Int32) (M : hf_M) : hf_W g p l ev (6) s m args below meth c 4 (hf_QI g below args s) M 20 [some (.ref (hf_a g t0)), none, none, none] [.int w2, .ref (hf_aK g w1), .ref (hf_a g w0)] (s_X1_readSays_20 t0 w0 w1 w2 M) := by
  unfold s_X1_readSays_20
  refine hr_cvI X [.ref (hf_aK g w1), .int w2] [] (c_X1_isWord hl_w0 hs_w0 hl_w1 w2 M) lk_RX1_94 rfl rfl rfl hl_w0 hs_w0 ⟨by decide, rfl⟩ (by decide) (Nat.le_of_ble_eq_true rfl) dX1_readSays_20 (fun r1 M2 _ => ?_)
  refine hr_if_eq X 43 dX1_readSays_23 rfl ?_ ?_
  · refine hr_iconst X 0 dX1_readSays_43 kc_0 ?_
    exact hr_zretC X (Or.inl rfl) dX1_readSays_44
  · refine hr_aload_n X dX1_readSays_26 rfl ?_
    refine hr_iconst X 0 dX1_readSays_27 kc_0 ?_
    refine hr_aload_n X dX1_readSays_28 rfl ?_
    refine hr_gR X 3 hl_t0 hs_t0 lg_RX1_15 rfl dX1_readSays_29 (fun q3 hl_q3 hs_q3 => ?_)
    refine hr_gI X hl_q3 hs_q3 lg_RX1_108 dX1_readSays_32 ?_
    refine hr_iconst X 1 dX1_readSays_35 kc_1 ?_
    refine hr_isub X dX1_readSays_36 ?_
    refine hr_cvI X [.int 0, .int ((M2.1 q3 9) - 1)] [] (c_X1_isNumber hl_t0 hs_t0 0 ((M2.1 q3 9) - 1) M2) lk_RX1_98 rfl rfl rfl hl_t0 hs_t0 ⟨by decide, rfl⟩ (by decide) (Nat.le_of_ble_eq_true rfl) dX1_readSays_37 (fun r4 M5 _ => ?_)
    refine hr_if_ne X 45 dX1_readSays_40 rfl ?_ ?_
    · refine hr_aload_n X dX1_readSays_45 rfl ?_
      refine hr_gI X hl_t0 hs_t0 lg_RX1_29 dX1_readSays_46 ?_
      refine hr_istore_n X dX1_readSays_49 (by decide) rfl ?_
      refine hr_aload_n X dX1_readSays_50 rfl ?_
      refine hr_gR X 3 hl_t0 hs_t0 lg_RX1_15 rfl dX1_readSays_51 (fun q6 hl_q6 hs_q6 => ?_)
      refine hr_iload_n X dX1_readSays_54 rfl ?_
      refine hr_cvI X [.int (M5.1 t0 5)] [] (c_X3_isFull hl_q6 hs_q6 (M5.1 t0 5) M5) lk_RX1_128 rfl rfl rfl hl_q6 hs_q6 ⟨by decide, rfl⟩ (by decide) (Nat.le_of_ble_eq_true rfl) dX1_readSays_55 (fun r7 M8 _ => ?_)
      refine hr_if_eq X 70 dX1_readSays_58 rfl ?_ ?_
      · refine hr_aload_n X dX1_readSays_70 rfl ?_
        refine hr_bipush X 32 dX1_readSays_71 kb_32 ?_
        refine hr_cvI X [.int 32] [] (c_X1_isSign hl_t0 hs_t0 32 M8) lk_RX1_44 rfl rfl rfl hl_t0 hs_t0 ⟨by decide, rfl⟩ (by decide) (Nat.le_of_ble_eq_true rfl) dX1_readSays_73 (fun r9 M10 _ => ?_)
        refine hr_if_eq X 96 dX1_readSays_76 rfl ?_ ?_
        · refine hr_iconst X 0 dX1_readSays_96 kc_0 ?_
          exact hr_zretC X (Or.inl rfl) dX1_readSays_97
        · refine hr_aload_n X dX1_readSays_79 rfl ?_
          refine hr_iconst X 0 dX1_readSays_80 kc_0 ?_
          refine hr_aload_n X dX1_readSays_81 rfl ?_
          refine hr_gR X 3 hl_t0 hs_t0 lg_RX1_15 rfl dX1_readSays_82 (fun q11 hl_q11 hs_q11 => ?_)
          refine hr_gI X hl_q11 hs_q11 lg_RX1_89 dX1_readSays_85 ?_
          refine hr_iconst X 1 dX1_readSays_88 kc_1 ?_
          refine hr_isub X dX1_readSays_89 ?_
          refine hr_cvI X [.int 0, .int ((M10.1 q11 8) - 1)] [] (c_X1_isNumber hl_t0 hs_t0 0 ((M10.1 q11 8) - 1) M10) lk_RX1_98 rfl rfl rfl hl_t0 hs_t0 ⟨by decide, rfl⟩ (by decide) (Nat.le_of_ble_eq_true rfl) dX1_readSays_90 (fun r12 M13 _ => ?_)
          refine hr_if_ne X 98 dX1_readSays_93 rfl ?_ ?_
          · refine hr_aload_n X dX1_readSays_98 rfl ?_
            refine hr_gI X hl_t0 hs_t0 lg_RX1_29 dX1_readSays_99 ?_
            refine hr_istore_n X dX1_readSays_102 (by decide) rfl ?_
            refine hr_aload_n X dX1_readSays_103 rfl ?_
            refine hr_bipush X 32 dX1_readSays_104 kb_32 ?_
            refine hr_cvI X [.int 32] [] (c_X1_isSign hl_t0 hs_t0 32 M13) lk_RX1_44 rfl rfl rfl hl_t0 hs_t0 ⟨by decide, rfl⟩ (by decide) (Nat.le_of_ble_eq_true rfl) dX1_readSays_106 (fun r14 M15 _ => ?_)
            refine hr_if_eq X 121 dX1_readSays_109 rfl ?_ ?_
            · refine hr_iconst X 0 dX1_readSays_121 kc_0 ?_
              exact hr_zretC X (Or.inl rfl) dX1_readSays_122
            · refine hr_aload_n X dX1_readSays_112 rfl ?_
              refine hr_iconst X 0 dX1_readSays_113 kc_0 ?_
              refine hr_iconst X 1 dX1_readSays_114 kc_1 ?_
              refine hr_cvI X [.int 0, .int 1] [] (c_X1_isNumber hl_t0 hs_t0 0 1 M15) lk_RX1_98 rfl rfl rfl hl_t0 hs_t0 ⟨by decide, rfl⟩ (by decide) (Nat.le_of_ble_eq_true rfl) dX1_readSays_115 (fun r16 M17 _ => ?_)
              refine hr_if_ne X 123 dX1_readSays_118 rfl ?_ ?_
              · refine hr_aload_n X dX1_readSays_123 rfl ?_
                refine hr_gI X hl_t0 hs_t0 lg_RX1_29 dX1_readSays_124 ?_
                refine hr_iconst X 1 dX1_readSays_127 kc_1 ?_
                refine hr_icmp_ne X 135 dX1_readSays_128 rfl ?_ ?_
                · refine hr_iconst X 0 dX1_readSays_135 kc_0 ?_
                  exact hr_wk (hs_some (hs_some (hs_some (hs_none (hs_nil))))) (w_X1_readSays_136 X hl_t0 hs_t0 (M5.1 t0 5) (M13.1 t0 5) 0 M17)
                · refine hr_iconst X 1 dX1_readSays_131 kc_1 ?_
                  refine hr_goto X 136 dX1_readSays_132 rfl ?_
                  exact hr_wk (hs_some (hs_some (hs_some (hs_none (hs_nil))))) (w_X1_readSays_136 X hl_t0 hs_t0 (M5.1 t0 5) (M13.1 t0 5) 1 M17)
              · refine hr_iconst X 0 dX1_readSays_121 kc_0 ?_
                exact hr_zretC X (Or.inl rfl) dX1_readSays_122
          · refine hr_iconst X 0 dX1_readSays_96 kc_0 ?_
            exact hr_zretC X (Or.inl rfl) dX1_readSays_97
      · refine hr_aload_n X dX1_readSays_61 rfl ?_
        refine hr_aload_n X dX1_readSays_62 rfl ?_
        refine hr_gI X hl_t0 hs_t0 lg_RX1_32 dX1_readSays_63 ?_
        refine hr_cvI X [.int (M8.1 t0 6)] [] (c_X1_wrong hl_t0 hs_t0 (M8.1 t0 6) M8) lk_RX1_56 rfl rfl rfl hl_t0 hs_t0 ⟨by decide, rfl⟩ (by decide) (Nat.le_of_ble_eq_true rfl) dX1_readSays_66 (fun r18 M19 _ => ?_)
        exact hr_zret X dX1_readSays_69
    · refine hr_iconst X 0 dX1_readSays_43 kc_0 ?_
      exact hr_zretC X (Or.inl rfl) dX1_readSays_44
set_option maxRecDepth 100000 in
set_option maxHeartbeats 4000000 in
theorem c_X1_readSays  {t0 : Nat} (hl_t0 : t0 < 69) (hs_t0 : hf_shp t0 = 1) (M : hf_M) : hf_CI yX1_readSays cX1_readSays 4 (some .boolean) (6) (fun g => [.ref (hf_a g t0)]) M (s_X1_readSays t0 M) := by
  refine hf_metI (by decide +kernel) (fun g => Nat.le_of_ble_eq_true rfl) (fun g p l ev s m args below meth c X => ?_)
  have X : hf_X g p s m args meth c cX1_readSays 4 RX1 (some .boolean) := X
  show hf_W g p l ev (6) s m args below meth c 4 (hf_QI g below args s) M 0 [some (.ref (hf_a g t0)), none, none, none] [] (s_X1_readSays t0 M)
  unfold s_X1_readSays
  refine hr_aload_n X dX1_readSays_0 rfl ?_
  refine hr_ldS X (i := 3) (by decide) dX1_readSays_1 ?_
  refine hr_aload_n X dX1_readSays_3 rfl ?_
  refine hr_gR X 3 hl_t0 hs_t0 lg_RX1_15 rfl dX1_readSays_4 (fun q1 hl_q1 hs_q1 => ?_)
  refine hr_gI X hl_q1 hs_q1 lg_RX1_117 dX1_readSays_7 ?_
  refine hr_bipush X 24 dX1_readSays_10 kb_24 ?_
  refine hr_icmp_ge X 19 dX1_readSays_12 rfl ?_ ?_
  · refine hr_iconst X 0 dX1_readSays_19 kc_0 ?_
    exact hr_wk (hs_some (hs_none (hs_none (hs_none (hs_nil))))) (w_X1_readSays_20 X hl_t0 hs_t0 hl_t0 hs_t0 (by decide : (3 : Nat) < 5) 0 M)
  · refine hr_iconst X 1 dX1_readSays_15 kc_1 ?_
    refine hr_goto X 20 dX1_readSays_16 rfl ?_
    exact hr_wk (hs_some (hs_none (hs_none (hs_none (hs_nil))))) (w_X1_readSays_20 X hl_t0 hs_t0 hl_t0 hs_t0 (by decide : (3 : Nat) < 5) 1 M)
set_option maxRecDepth 100000 in
set_option maxHeartbeats 4000000 in
theorem c_X1_readItem  {t0 : Nat} (hl_t0 : t0 < 69) (hs_t0 : hf_shp t0 = 1) (M : hf_M) : hf_CI yX1_readItem cX1_readItem 2 (some .boolean) (7) (fun g => [.ref (hf_a g t0)]) M (s_X1_readItem t0 M) := by
  refine hf_metI (by decide +kernel) (fun g => Nat.le_of_ble_eq_true rfl) (fun g p l ev s m args below meth c X => ?_)
  have X : hf_X g p s m args meth c cX1_readItem 2 RX1 (some .boolean) := X
  show hf_W g p l ev (7) s m args below meth c 2 (hf_QI g below args s) M 0 [some (.ref (hf_a g t0)), none] [] (s_X1_readItem t0 M)
  unfold s_X1_readItem
  refine hr_aload_n X dX1_readItem_0 rfl ?_
  refine hr_cvI X [] [] (c_X1_letter hl_t0 hs_t0 M) lk_RX1_52 rfl rfl rfl hl_t0 hs_t0 ⟨by decide, rfl⟩ (by decide) (Nat.le_of_ble_eq_true rfl) dX1_readItem_1 (fun r1 M2 _ => ?_)
  refine hr_case 102 (fun _ => ?_) (fun n4_102 => ?_)
  · refine hr_tabIn X 76 dX1_readItem_4 (by decide) (by decide) rfl rfl ?_
    refine hr_aload_n X dX1_readItem_76 rfl ?_
    refine hr_cvI X [] [] (c_X1_readFact hl_t0 hs_t0 M2) lk_RX1_72 rfl rfl rfl hl_t0 hs_t0 ⟨by decide, rfl⟩ (by decide) (Nat.le_of_ble_eq_true rfl) dX1_readItem_77 (fun r3 M4 _ => ?_)
    refine hr_istore_n X dX1_readItem_80 (by decide) rfl ?_
    refine hr_goto X 125 dX1_readItem_81 rfl ?_
    refine hr_aload_n X dX1_readItem_125 rfl ?_
    refine hr_dup X dX1_readItem_126 rfl ?_
    refine hr_gI X hl_t0 hs_t0 lg_RX1_26 dX1_readItem_127 ?_
    refine hr_iconst X 1 dX1_readItem_130 kc_1 ?_
    refine hr_iadd X dX1_readItem_131 ?_
    refine hr_pI X hl_t0 hs_t0 lp_RX1_26 dX1_readItem_132 (fun M5 eM5 => ?_)
    refine hr_iload_n X dX1_readItem_135 rfl ?_
    exact hr_zret X dX1_readItem_136
  refine hr_case 107 (fun _ => ?_) (fun n4_107 => ?_)
  · refine hr_tabIn X 108 dX1_readItem_4 (by decide) (by decide) rfl rfl ?_
    refine hr_aload_n X dX1_readItem_108 rfl ?_
    refine hr_cvI X [] [] (c_X1_readKnown hl_t0 hs_t0 M2) lk_RX1_84 rfl rfl rfl hl_t0 hs_t0 ⟨by decide, rfl⟩ (by decide) (Nat.le_of_ble_eq_true rfl) dX1_readItem_109 (fun r6 M7 _ => ?_)
    refine hr_istore_n X dX1_readItem_112 (by decide) rfl ?_
    refine hr_goto X 125 dX1_readItem_113 rfl ?_
    refine hr_aload_n X dX1_readItem_125 rfl ?_
    refine hr_dup X dX1_readItem_126 rfl ?_
    refine hr_gI X hl_t0 hs_t0 lg_RX1_26 dX1_readItem_127 ?_
    refine hr_iconst X 1 dX1_readItem_130 kc_1 ?_
    refine hr_iadd X dX1_readItem_131 ?_
    refine hr_pI X hl_t0 hs_t0 lp_RX1_26 dX1_readItem_132 (fun M8 eM8 => ?_)
    refine hr_iload_n X dX1_readItem_135 rfl ?_
    exact hr_zret X dX1_readItem_136
  refine hr_case 108 (fun _ => ?_) (fun n4_108 => ?_)
  · refine hr_tabIn X 92 dX1_readItem_4 (by decide) (by decide) rfl rfl ?_
    refine hr_aload_n X dX1_readItem_92 rfl ?_
    refine hr_cvI X [] [] (c_X1_readLaw hl_t0 hs_t0 M2) lk_RX1_78 rfl rfl rfl hl_t0 hs_t0 ⟨by decide, rfl⟩ (by decide) (Nat.le_of_ble_eq_true rfl) dX1_readItem_93 (fun r9 M10 _ => ?_)
    refine hr_istore_n X dX1_readItem_96 (by decide) rfl ?_
    refine hr_goto X 125 dX1_readItem_97 rfl ?_
    refine hr_aload_n X dX1_readItem_125 rfl ?_
    refine hr_dup X dX1_readItem_126 rfl ?_
    refine hr_gI X hl_t0 hs_t0 lg_RX1_26 dX1_readItem_127 ?_
    refine hr_iconst X 1 dX1_readItem_130 kc_1 ?_
    refine hr_iadd X dX1_readItem_131 ?_
    refine hr_pI X hl_t0 hs_t0 lp_RX1_26 dX1_readItem_132 (fun M11 eM11 => ?_)
    refine hr_iload_n X dX1_readItem_135 rfl ?_
    exact hr_zret X dX1_readItem_136
  refine hr_case 109 (fun _ => ?_) (fun n4_109 => ?_)
  · refine hr_tabIn X 84 dX1_readItem_4 (by decide) (by decide) rfl rfl ?_
    refine hr_aload_n X dX1_readItem_84 rfl ?_
    refine hr_cvI X [] [] (c_X1_readMan hl_t0 hs_t0 M2) lk_RX1_75 rfl rfl rfl hl_t0 hs_t0 ⟨by decide, rfl⟩ (by decide) (Nat.le_of_ble_eq_true rfl) dX1_readItem_85 (fun r12 M13 _ => ?_)
    refine hr_istore_n X dX1_readItem_88 (by decide) rfl ?_
    refine hr_goto X 125 dX1_readItem_89 rfl ?_
    refine hr_aload_n X dX1_readItem_125 rfl ?_
    refine hr_dup X dX1_readItem_126 rfl ?_
    refine hr_gI X hl_t0 hs_t0 lg_RX1_26 dX1_readItem_127 ?_
    refine hr_iconst X 1 dX1_readItem_130 kc_1 ?_
    refine hr_iadd X dX1_readItem_131 ?_
    refine hr_pI X hl_t0 hs_t0 lp_RX1_26 dX1_readItem_132 (fun M14 eM14 => ?_)
    refine hr_iload_n X dX1_readItem_135 rfl ?_
    exact hr_zret X dX1_readItem_136
  refine hr_case 115 (fun _ => ?_) (fun n4_115 => ?_)
  · refine hr_tabIn X 100 dX1_readItem_4 (by decide) (by decide) rfl rfl ?_
    refine hr_aload_n X dX1_readItem_100 rfl ?_
    refine hr_cvI X [] [] (c_X1_readSays hl_t0 hs_t0 M2) lk_RX1_81 rfl rfl rfl hl_t0 hs_t0 ⟨by decide, rfl⟩ (by decide) (Nat.le_of_ble_eq_true rfl) dX1_readItem_101 (fun r15 M16 _ => ?_)
    refine hr_istore_n X dX1_readItem_104 (by decide) rfl ?_
    refine hr_goto X 125 dX1_readItem_105 rfl ?_
    refine hr_aload_n X dX1_readItem_125 rfl ?_
    refine hr_dup X dX1_readItem_126 rfl ?_
    refine hr_gI X hl_t0 hs_t0 lg_RX1_26 dX1_readItem_127 ?_
    refine hr_iconst X 1 dX1_readItem_130 kc_1 ?_
    refine hr_iadd X dX1_readItem_131 ?_
    refine hr_pI X hl_t0 hs_t0 lp_RX1_26 dX1_readItem_132 (fun M17 eM17 => ?_)
    refine hr_iload_n X dX1_readItem_135 rfl ?_
    exact hr_zret X dX1_readItem_136
  · have e102 := hf_neT 102 n4_102 (by decide)
    have e107 := hf_neT 107 n4_107 (by decide)
    have e108 := hf_neT 108 n4_108 (by decide)
    have e109 := hf_neT 109 n4_109 (by decide)
    have e115 := hf_neT 115 n4_115 (by decide)
    refine hr_tabDf X 116 [103, 104, 105, 106, 110, 111, 112, 113, 114] dX1_readItem_4 (by decide) (by simp only [List.mem_cons, List.not_mem_nil, or_false]; omega) rfl ?_
    refine hr_aload_n X dX1_readItem_116 rfl ?_
    refine hr_aload_n X dX1_readItem_117 rfl ?_
    refine hr_gI X hl_t0 hs_t0 lg_RX1_19 dX1_readItem_118 ?_
    refine hr_cvI X [.int (M2.1 t0 2)] [] (c_X1_wrong hl_t0 hs_t0 (M2.1 t0 2) M2) lk_RX1_56 rfl rfl rfl hl_t0 hs_t0 ⟨by decide, rfl⟩ (by decide) (Nat.le_of_ble_eq_true rfl) dX1_readItem_121 (fun r18 M19 _ => ?_)
    refine hr_istore_n X dX1_readItem_124 (by decide) rfl ?_
    refine hr_aload_n X dX1_readItem_125 rfl ?_
    refine hr_dup X dX1_readItem_126 rfl ?_
    refine hr_gI X hl_t0 hs_t0 lg_RX1_26 dX1_readItem_127 ?_
    refine hr_iconst X 1 dX1_readItem_130 kc_1 ?_
    refine hr_iadd X dX1_readItem_131 ?_
    refine hr_pI X hl_t0 hs_t0 lp_RX1_26 dX1_readItem_132 (fun M20 eM20 => ?_)
    refine hr_iload_n X dX1_readItem_135 rfl ?_
    exact hr_zret X dX1_readItem_136
set_option maxRecDepth 100000 in
set_option maxHeartbeats 4000000 in
theorem w_X1_read_33 {g : hf_G} {p : Program} {l : Launch} {ev : Env} {s : State} {m : MethodId} {args : Array Value} {below : List Frame} {meth : Method} {c : Code} (X : hf_X g p s m args meth c cX1_read 5 RX1 (some .int))    {t0 : Nat} (hl_t0 : t0 < 69) (hs_t0 : hf_shp t0 = 1) : ∀ (n : Nat) (v3 : Int32) (v4 : Int32) (M : hf_M), hf_W g p l ev (8) s m args below meth c 5 (hf_QI g below args s) M 33 [some (.ref (hf_a g t0)), none, none, some (.int v3), some (.int v4)] [] (s_X1_read_33 t0 n v3 v4 M) := by
  intro n
  induction n with
  | zero =>
    intros
    exact hr_none
  | succ n ih =>
    intro v3 v4 M
    rw [s_X1_read_33]
    refine hr_iload_n X dX1_read_33 rfl ?_
    refine hr_if_eq X 87 dX1_read_34 rfl ?_ ?_
    · refine hr_iload_n X dX1_read_87 rfl ?_
      refine hr_if_eq X 95 dX1_read_88 rfl ?_ ?_
      · refine hr_aload_n X dX1_read_95 rfl ?_
        refine hr_gI X hl_t0 hs_t0 lg_RX1_23 dX1_read_96 ?_
        exact hr_iret X dX1_read_99
      · refine hr_iconst X (-1) dX1_read_91 kc_m1 ?_
        refine hr_goto X 99 dX1_read_92 rfl ?_
        exact hr_iret X dX1_read_99
    · refine hr_aload_n X dX1_read_37 rfl ?_
      refine hr_gI X hl_t0 hs_t0 lg_RX1_19 dX1_read_38 ?_
      refine hr_aload_n X dX1_read_41 rfl ?_
      refine hr_gR X 2 hl_t0 hs_t0 lg_RX1_9 rfl dX1_read_42 (fun q1 hl_q1 hs_q1 => ?_)
      refine hr_gI X hl_q1 hs_q1 lg_RX1_39 dX1_read_45 ?_
      refine hr_icmp_ge X 87 dX1_read_48 rfl ?_ ?_
      · refine hr_iload_n X dX1_read_87 rfl ?_
        refine hr_if_eq X 95 dX1_read_88 rfl ?_ ?_
        · refine hr_aload_n X dX1_read_95 rfl ?_
          refine hr_gI X hl_t0 hs_t0 lg_RX1_23 dX1_read_96 ?_
          exact hr_iret X dX1_read_99
        · refine hr_iconst X (-1) dX1_read_91 kc_m1 ?_
          refine hr_goto X 99 dX1_read_92 rfl ?_
          exact hr_iret X dX1_read_99
      · refine hr_iload X dX1_read_51 rfl ?_
        refine hr_sipush X 160 dX1_read_53 ks_160 ?_
        refine hr_icmp_ge X 87 dX1_read_56 rfl ?_ ?_
        · refine hr_iload_n X dX1_read_87 rfl ?_
          refine hr_if_eq X 95 dX1_read_88 rfl ?_ ?_
          · refine hr_aload_n X dX1_read_95 rfl ?_
            refine hr_gI X hl_t0 hs_t0 lg_RX1_23 dX1_read_96 ?_
            exact hr_iret X dX1_read_99
          · refine hr_iconst X (-1) dX1_read_91 kc_m1 ?_
            refine hr_goto X 99 dX1_read_92 rfl ?_
            exact hr_iret X dX1_read_99
        · refine hr_aload_n X dX1_read_59 rfl ?_
          refine hr_bipush X 59 dX1_read_60 kb_59 ?_
          refine hr_cvI X [.int 59] [] (c_X1_isSign hl_t0 hs_t0 59 M) lk_RX1_44 rfl rfl rfl hl_t0 hs_t0 ⟨by decide, rfl⟩ (by decide) (Nat.le_of_ble_eq_true rfl) dX1_read_62 (fun r2 M3 _ => ?_)
          refine hr_if_eq X 79 dX1_read_65 rfl ?_ ?_
          · refine hr_iconst X 0 dX1_read_79 kc_0 ?_
            refine hr_istore_n X dX1_read_80 (by decide) rfl ?_
            refine hr_iinc X (v4 + 1) dX1_read_81 rfl (by rw [kc_1]) (by decide) rfl ?_
            refine hr_goto X 33 dX1_read_84 rfl ?_
            exact hr_wk (hs_some (hs_none (hs_none (hs_some (hs_some (hs_nil)))))) (ih 0 (v4 + 1) M3)
          · refine hr_aload_n X dX1_read_68 rfl ?_
            refine hr_cvI X [] [] (c_X1_readItem hl_t0 hs_t0 M3) lk_RX1_35 rfl rfl rfl hl_t0 hs_t0 ⟨by decide, rfl⟩ (by decide) (Nat.le_of_ble_eq_true rfl) dX1_read_69 (fun r4 M5 _ => ?_)
            refine hr_if_eq X 79 dX1_read_72 rfl ?_ ?_
            · refine hr_iconst X 0 dX1_read_79 kc_0 ?_
              refine hr_istore_n X dX1_read_80 (by decide) rfl ?_
              refine hr_iinc X (v4 + 1) dX1_read_81 rfl (by rw [kc_1]) (by decide) rfl ?_
              refine hr_goto X 33 dX1_read_84 rfl ?_
              exact hr_wk (hs_some (hs_none (hs_none (hs_some (hs_some (hs_nil)))))) (ih 0 (v4 + 1) M5)
            · refine hr_iconst X 1 dX1_read_75 kc_1 ?_
              refine hr_goto X 80 dX1_read_76 rfl ?_
              refine hr_istore_n X dX1_read_80 (by decide) rfl ?_
              refine hr_iinc X (v4 + 1) dX1_read_81 rfl (by rw [kc_1]) (by decide) rfl ?_
              refine hr_goto X 33 dX1_read_84 rfl ?_
              exact hr_wk (hs_some (hs_none (hs_none (hs_some (hs_some (hs_nil)))))) (ih 1 (v4 + 1) M5)
set_option maxRecDepth 100000 in
set_option maxHeartbeats 4000000 in
theorem c_X1_read  {t0 : Nat} (hl_t0 : t0 < 69) (hs_t0 : hf_shp t0 = 1) {t1 : Nat} (hl_t1 : t1 < 69) (hs_t1 : hf_shp t1 = 2) {t2 : Nat} (hl_t2 : t2 < 69) (hs_t2 : hf_shp t2 = 3) (M : hf_M) : hf_CI yX1_read cX1_read 5 (some .int) (8) (fun g => [.ref (hf_a g t0), .ref (hf_a g t1), .ref (hf_a g t2)]) M (s_X1_read t0 t1 t2 M) := by
  refine hf_metI (by decide +kernel) (fun g => Nat.le_of_ble_eq_true rfl) (fun g p l ev s m args below meth c X => ?_)
  have X : hf_X g p s m args meth c cX1_read 5 RX1 (some .int) := X
  show hf_W g p l ev (8) s m args below meth c 5 (hf_QI g below args s) M 0 [some (.ref (hf_a g t0)), some (.ref (hf_a g t1)), some (.ref (hf_a g t2)), none, none] [] (s_X1_read t0 t1 t2 M)
  unfold s_X1_read
  refine hr_aload_n X dX1_read_0 rfl ?_
  refine hr_aload_n X dX1_read_1 rfl ?_
  refine hr_pR X hl_t0 hs_t0 hl_t1 (by rw [hs_t1]; rfl) lp_RX1_9 dX1_read_2 (fun M1 eM1 => ?_)
  refine hr_aload_n X dX1_read_5 rfl ?_
  refine hr_aload_n X dX1_read_6 rfl ?_
  refine hr_pR X hl_t0 hs_t0 hl_t2 (by rw [hs_t2]; rfl) lp_RX1_15 dX1_read_7 (fun M2 eM2 => ?_)
  refine hr_aload_n X dX1_read_10 rfl ?_
  refine hr_iconst X 0 dX1_read_11 kc_0 ?_
  refine hr_pI X hl_t0 hs_t0 lp_RX1_19 dX1_read_12 (fun M3 eM3 => ?_)
  refine hr_aload_n X dX1_read_15 rfl ?_
  refine hr_iconst X (-1) dX1_read_16 kc_m1 ?_
  refine hr_pI X hl_t0 hs_t0 lp_RX1_23 dX1_read_17 (fun M4 eM4 => ?_)
  refine hr_aload_n X dX1_read_20 rfl ?_
  refine hr_iconst X 0 dX1_read_21 kc_0 ?_
  refine hr_pI X hl_t0 hs_t0 lp_RX1_26 dX1_read_22 (fun M5 eM5 => ?_)
  refine hr_aload_n X dX1_read_25 rfl ?_
  refine hr_cvI X [] [] (c_X1_readItem hl_t0 hs_t0 M5) lk_RX1_35 rfl rfl rfl hl_t0 hs_t0 ⟨by decide, rfl⟩ (by decide) (Nat.le_of_ble_eq_true rfl) dX1_read_26 (fun r6 M7 _ => ?_)
  refine hr_istore_n X dX1_read_29 (by decide) rfl ?_
  refine hr_iconst X 0 dX1_read_30 kc_0 ?_
  refine hr_istore X dX1_read_31 (by decide) rfl ?_
  exact hr_wk (hs_some (hs_none (hs_none (hs_some (hs_some (hs_nil)))))) (w_X1_read_33 X hl_t0 hs_t0 2000 r6 0 M7)
set_option maxRecDepth 100000 in
set_option maxHeartbeats 4000000 in
theorem c_X2_isRow  {t0 : Nat} (hl_t0 : t0 < 69) (hs_t0 : hf_shp t0 = 2) (M : hf_M) : hf_CI yX2_isRow cX2_isRow 1 (some .boolean) (1) (fun g => [.ref (hf_a g t0)]) M (s_X2_isRow t0 M) := by
  refine hf_metI (by decide +kernel) (fun g => Nat.le_of_ble_eq_true rfl) (fun g p l ev s m args below meth c X => ?_)
  have X : hf_X g p s m args meth c cX2_isRow 1 RX2 (some .boolean) := X
  show hf_W g p l ev (1) s m args below meth c 1 (hf_QI g below args s) M 0 [some (.ref (hf_a g t0))] [] (s_X2_isRow t0 M)
  unfold s_X2_isRow
  refine hr_aload_n X dX2_isRow_0 rfl ?_
  refine hr_gI X hl_t0 hs_t0 lg_RX2_15 dX2_isRow_1 ?_
  refine hr_bipush X 100 dX2_isRow_4 kb_100 ?_
  refine hr_icmp_lt X 13 dX2_isRow_6 rfl ?_ ?_
  · refine hr_iconst X 0 dX2_isRow_13 kc_0 ?_
    exact hr_zretC X (Or.inl rfl) dX2_isRow_14
  · refine hr_iconst X 1 dX2_isRow_9 kc_1 ?_
    refine hr_goto X 14 dX2_isRow_10 rfl ?_
    exact hr_zretC X (Or.inr rfl) dX2_isRow_14
set_option maxRecDepth 100000 in
set_option maxHeartbeats 4000000 in
theorem c_X2_isSpeaker  {t0 : Nat} (hl_t0 : t0 < 69) (hs_t0 : hf_shp t0 = 2) (M : hf_M) : hf_CI yX2_isSpeaker cX2_isSpeaker 1 (some .boolean) (1) (fun g => [.ref (hf_a g t0)]) M (s_X2_isSpeaker t0 M) := by
  refine hf_metI (by decide +kernel) (fun g => Nat.le_of_ble_eq_true rfl) (fun g p l ev s m args below meth c X => ?_)
  have X : hf_X g p s m args meth c cX2_isSpeaker 1 RX2 (some .boolean) := X
  show hf_W g p l ev (1) s m args below meth c 1 (hf_QI g below args s) M 0 [some (.ref (hf_a g t0))] [] (s_X2_isSpeaker t0 M)
  unfold s_X2_isSpeaker
  refine hr_aload_n X dX2_isSpeaker_0 rfl ?_
  refine hr_gI X hl_t0 hs_t0 lg_RX2_15 dX2_isSpeaker_1 ?_
  refine hr_iconst X (-1) dX2_isSpeaker_4 kc_m1 ?_
  refine hr_icmp_eq X 21 dX2_isSpeaker_5 rfl ?_ ?_
  · refine hr_iconst X 0 dX2_isSpeaker_21 kc_0 ?_
    exact hr_zretC X (Or.inl rfl) dX2_isSpeaker_22
  · refine hr_aload_n X dX2_isSpeaker_8 rfl ?_
    refine hr_gI X hl_t0 hs_t0 lg_RX2_15 dX2_isSpeaker_9 ?_
    refine hr_bipush X 100 dX2_isSpeaker_12 kb_100 ?_
    refine hr_icmp_ge X 21 dX2_isSpeaker_14 rfl ?_ ?_
    · refine hr_iconst X 0 dX2_isSpeaker_21 kc_0 ?_
      exact hr_zretC X (Or.inl rfl) dX2_isSpeaker_22
    · refine hr_iconst X 1 dX2_isSpeaker_17 kc_1 ?_
      refine hr_goto X 22 dX2_isSpeaker_18 rfl ?_
      exact hr_zretC X (Or.inr rfl) dX2_isSpeaker_22
set_option maxRecDepth 100000 in
set_option maxHeartbeats 4000000 in
theorem w_X2_makeRow_21 {g : hf_G} {p : Program} {l : Launch} {ev : Env} {s : State} {m : MethodId} {args : Array Value} {below : List Frame} {meth : Method} {c : Code} (X : hf_X g p s m args meth c cX2_makeRow 4 RX2 (none))    {t0 : Nat} (hl_t0 : t0 < 69) (hs_t0 : hf_shp t0 = 2) : ∀ (n : Nat) (v3 : Int32) (M : hf_M), hf_W g p l ev (2) s m args below meth c 4 (hf_QV g below args s) M 21 [some (.ref (hf_a g t0)), none, none, some (.int v3)] [] (s_X2_makeRow_21 t0 n v3 M) := by
  intro n
  induction n with
  | zero =>
    intros
    exact hr_none
  | succ n ih =>
    intro v3 M
    rw [s_X2_makeRow_21]
    refine hr_iload_n X dX2_makeRow_21 rfl ?_
    refine hr_aload_n X dX2_makeRow_22 rfl ?_
    refine hr_gI X hl_t0 hs_t0 lg_RX2_19 dX2_makeRow_23 ?_
    refine hr_icmp_ge X 42 dX2_makeRow_26 rfl ?_ ?_
    · exact hr_vret X dX2_makeRow_42
    · refine hr_aload_n X dX2_makeRow_29 rfl ?_
      refine hr_gR X 7 hl_t0 hs_t0 lg_RX2_9 rfl dX2_makeRow_30 (fun q1 hl_q1 hs_q1 => ?_)
      refine hr_iload_n X dX2_makeRow_33 rfl ?_
      refine hr_lconst X 0 dX2_makeRow_34 rfl ?_
      refine hr_last X hl_q1 hs_q1 dX2_makeRow_35 (fun M2 eM2 _ => ?_)
      refine hr_iinc X (v3 + 1) dX2_makeRow_36 rfl (by rw [kc_1]) (by decide) rfl ?_
      refine hr_goto X 21 dX2_makeRow_39 rfl ?_
      exact hr_wk (hs_some (hs_none (hs_none (hs_some (hs_nil))))) (ih (v3 + 1) M2)
set_option maxRecDepth 100000 in
set_option maxHeartbeats 4000000 in
theorem c_X2_makeRow  {t0 : Nat} (hl_t0 : t0 < 69) (hs_t0 : hf_shp t0 = 2) (a1 : Int32) (a2 : Int32) (M : hf_M) : hf_CV yX2_makeRow cX2_makeRow 4 (none) (2) (fun g => [.ref (hf_a g t0), .int a1, .int a2]) M (s_X2_makeRow t0 a1 a2 M) := by
  refine hf_metV (by decide +kernel) (fun g => Nat.le_of_ble_eq_true rfl) (fun g p l ev s m args below meth c X => ?_)
  have X : hf_X g p s m args meth c cX2_makeRow 4 RX2 (none) := X
  show hf_W g p l ev (2) s m args below meth c 4 (hf_QV g below args s) M 0 [some (.ref (hf_a g t0)), some (.int a1), some (.int a2), none] [] (s_X2_makeRow t0 a1 a2 M)
  unfold s_X2_makeRow
  refine hr_aload_n X dX2_makeRow_0 rfl ?_
  refine hr_bipush X 100 dX2_makeRow_1 kb_100 ?_
  refine hr_iload_n X dX2_makeRow_3 rfl ?_
  refine hr_iadd X dX2_makeRow_4 ?_
  refine hr_pI X hl_t0 hs_t0 lp_RX2_15 dX2_makeRow_5 (fun M1 eM1 => ?_)
  refine hr_aload_n X dX2_makeRow_8 rfl ?_
  refine hr_iload_n X dX2_makeRow_9 rfl ?_
  refine hr_sipush X 160 dX2_makeRow_10 ks_160 ?_
  refine hr_mmin X (hf_c1 226 rfl rfl) (hf_c1 227 rfl rfl) (hf_c1 7 rfl rfl) (hf_c1 228 rfl rfl) (by decide) (Nat.le_of_ble_eq_true rfl) dX2_makeRow_13 ?_
  refine hr_pI X hl_t0 hs_t0 lp_RX2_19 dX2_makeRow_16 (fun M2 eM2 => ?_)
  refine hr_iconst X 0 dX2_makeRow_19 kc_0 ?_
  refine hr_istore_n X dX2_makeRow_20 (by decide) rfl ?_
  exact hr_wk (hs_some (hs_none (hs_none (hs_some (hs_nil))))) (w_X2_makeRow_21 X hl_t0 hs_t0 2000 0 M2)
set_option maxRecDepth 100000 in
set_option maxHeartbeats 4000000 in
theorem c_X2_has  {t0 : Nat} (hl_t0 : t0 < 69) (hs_t0 : hf_shp t0 = 2) (a1 : Int32) (M : hf_M) : hf_CI yX2_has cX2_has 2 (some .boolean) (2) (fun g => [.ref (hf_a g t0), .int a1]) M (s_X2_has t0 a1 M) := by
  refine hf_metI (by decide +kernel) (fun g => Nat.le_of_ble_eq_true rfl) (fun g p l ev s m args below meth c X => ?_)
  have X : hf_X g p s m args meth c cX2_has 2 RX2 (some .boolean) := X
  show hf_W g p l ev (2) s m args below meth c 2 (hf_QI g below args s) M 0 [some (.ref (hf_a g t0)), some (.int a1)] [] (s_X2_has t0 a1 M)
  unfold s_X2_has
  refine hr_aload_n X dX2_has_0 rfl ?_
  refine hr_cvI X [] [] (c_X2_isRow hl_t0 hs_t0 M) lk_RX2_28 rfl rfl rfl hl_t0 hs_t0 ⟨by decide, rfl⟩ (by decide) (Nat.le_of_ble_eq_true rfl) dX2_has_1 (fun r1 M2 _ => ?_)
  refine hr_if_eq X 23 dX2_has_4 rfl ?_ ?_
  · refine hr_iconst X 0 dX2_has_23 kc_0 ?_
    exact hr_zretC X (Or.inl rfl) dX2_has_24
  · refine hr_iload_n X dX2_has_7 rfl ?_
    refine hr_if_lt X 23 dX2_has_8 rfl ?_ ?_
    · refine hr_iconst X 0 dX2_has_23 kc_0 ?_
      exact hr_zretC X (Or.inl rfl) dX2_has_24
    · refine hr_iload_n X dX2_has_11 rfl ?_
      refine hr_aload_n X dX2_has_12 rfl ?_
      refine hr_gI X hl_t0 hs_t0 lg_RX2_19 dX2_has_13 ?_
      refine hr_icmp_ge X 23 dX2_has_16 rfl ?_ ?_
      · refine hr_iconst X 0 dX2_has_23 kc_0 ?_
        exact hr_zretC X (Or.inl rfl) dX2_has_24
      · refine hr_iconst X 1 dX2_has_19 kc_1 ?_
        refine hr_goto X 24 dX2_has_20 rfl ?_
        exact hr_zretC X (Or.inr rfl) dX2_has_24
set_option maxRecDepth 100000 in
set_option maxHeartbeats 4000000 in
theorem c_X2_hasPart  {t0 : Nat} (hl_t0 : t0 < 69) (hs_t0 : hf_shp t0 = 2) (a1 : Int32) (a2 : Int32) (M : hf_M) : hf_CI yX2_hasPart cX2_hasPart 3 (some .boolean) (1) (fun g => [.ref (hf_a g t0), .int a1, .int a2]) M (s_X2_hasPart t0 a1 a2 M) := by
  refine hf_metI (by decide +kernel) (fun g => Nat.le_of_ble_eq_true rfl) (fun g p l ev s m args below meth c X => ?_)
  have X : hf_X g p s m args meth c cX2_hasPart 3 RX2 (some .boolean) := X
  show hf_W g p l ev (1) s m args below meth c 3 (hf_QI g below args s) M 0 [some (.ref (hf_a g t0)), some (.int a1), some (.int a2)] [] (s_X2_hasPart t0 a1 a2 M)
  unfold s_X2_hasPart
  refine hr_iload_n X dX2_hasPart_0 rfl ?_
  refine hr_if_lt X 26 dX2_hasPart_1 rfl ?_ ?_
  · refine hr_iconst X 0 dX2_hasPart_26 kc_0 ?_
    exact hr_zretC X (Or.inl rfl) dX2_hasPart_27
  · refine hr_iload_n X dX2_hasPart_4 rfl ?_
    refine hr_if_lt X 26 dX2_hasPart_5 rfl ?_ ?_
    · refine hr_iconst X 0 dX2_hasPart_26 kc_0 ?_
      exact hr_zretC X (Or.inl rfl) dX2_hasPart_27
    · refine hr_iload_n X dX2_hasPart_8 rfl ?_
      refine hr_i2l X dX2_hasPart_9 ?_
      refine hr_iload_n X dX2_hasPart_10 rfl ?_
      refine hr_i2l X dX2_hasPart_11 ?_
      refine hr_ladd X dX2_hasPart_12 ?_
      refine hr_aload_n X dX2_hasPart_13 rfl ?_
      refine hr_gI X hl_t0 hs_t0 lg_RX2_19 dX2_hasPart_14 ?_
      refine hr_i2l X dX2_hasPart_17 ?_
      refine hr_lcmp X dX2_hasPart_18 ?_
      refine hr_if_gt X 26 dX2_hasPart_19 rfl ?_ ?_
      · refine hr_iconst X 0 dX2_hasPart_26 kc_0 ?_
        exact hr_zretC X (Or.inl rfl) dX2_hasPart_27
      · refine hr_iconst X 1 dX2_hasPart_22 kc_1 ?_
        refine hr_goto X 27 dX2_hasPart_23 rfl ?_
        exact hr_zretC X (Or.inr rfl) dX2_hasPart_27
set_option maxRecDepth 100000 in
set_option maxHeartbeats 4000000 in
theorem c_X2_put  {t0 : Nat} (hl_t0 : t0 < 69) (hs_t0 : hf_shp t0 = 2) (a1 : Int32) (a2 : Int64) (M : hf_M) : hf_CV yX2_put cX2_put 4 (none) (1) (fun g => [.ref (hf_a g t0), .int a1, .long a2]) M (s_X2_put t0 a1 a2 M) := by
  refine hf_metV (by decide +kernel) (fun g => Nat.le_of_ble_eq_true rfl) (fun g p l ev s m args below meth c X => ?_)
  have X : hf_X g p s m args meth c cX2_put 4 RX2 (none) := X
  show hf_W g p l ev (1) s m args below meth c 4 (hf_QV g below args s) M 0 [some (.ref (hf_a g t0)), some (.int a1), some (.long a2), none] [] (s_X2_put t0 a1 a2 M)
  unfold s_X2_put
  refine hr_aload_n X dX2_put_0 rfl ?_
  refine hr_gI X hl_t0 hs_t0 lg_RX2_15 dX2_put_1 ?_
  refine hr_bipush X 100 dX2_put_4 kb_100 ?_
  refine hr_isub X dX2_put_6 ?_
  refine hr_case 0 (fun _ => ?_) (fun n7_0 => ?_)
  · refine hr_tabIn X 32 dX2_put_7 (by decide) (by decide) rfl rfl ?_
    refine hr_aload_n X dX2_put_32 rfl ?_
    refine hr_gR X 7 hl_t0 hs_t0 lg_RX2_9 rfl dX2_put_33 (fun q1 hl_q1 hs_q1 => ?_)
    refine hr_iload_n X dX2_put_36 rfl ?_
    refine hr_lload_n X dX2_put_37 rfl ?_
    refine hr_l2i X dX2_put_38 ?_
    refine hr_i2b X dX2_put_39 ?_
    refine hr_i2l X dX2_put_40 ?_
    refine hr_last X hl_q1 hs_q1 dX2_put_41 (fun M2 eM2 _ => ?_)
    refine hr_goto X 77 dX2_put_42 rfl ?_
    exact hr_vret X dX2_put_77
  refine hr_case 1 (fun _ => ?_) (fun n7_1 => ?_)
  · refine hr_tabIn X 45 dX2_put_7 (by decide) (by decide) rfl rfl ?_
    refine hr_aload_n X dX2_put_45 rfl ?_
    refine hr_gR X 7 hl_t0 hs_t0 lg_RX2_9 rfl dX2_put_46 (fun q3 hl_q3 hs_q3 => ?_)
    refine hr_iload_n X dX2_put_49 rfl ?_
    refine hr_lload_n X dX2_put_50 rfl ?_
    refine hr_l2i X dX2_put_51 ?_
    refine hr_i2s X dX2_put_52 ?_
    refine hr_i2l X dX2_put_53 ?_
    refine hr_last X hl_q3 hs_q3 dX2_put_54 (fun M4 eM4 _ => ?_)
    refine hr_goto X 77 dX2_put_55 rfl ?_
    exact hr_vret X dX2_put_77
  refine hr_case 2 (fun _ => ?_) (fun n7_2 => ?_)
  · refine hr_tabIn X 58 dX2_put_7 (by decide) (by decide) rfl rfl ?_
    refine hr_aload_n X dX2_put_58 rfl ?_
    refine hr_gR X 7 hl_t0 hs_t0 lg_RX2_9 rfl dX2_put_59 (fun q5 hl_q5 hs_q5 => ?_)
    refine hr_iload_n X dX2_put_62 rfl ?_
    refine hr_lload_n X dX2_put_63 rfl ?_
    refine hr_l2i X dX2_put_64 ?_
    refine hr_i2l X dX2_put_65 ?_
    refine hr_last X hl_q5 hs_q5 dX2_put_66 (fun M6 eM6 _ => ?_)
    refine hr_goto X 77 dX2_put_67 rfl ?_
    exact hr_vret X dX2_put_77
  · have e0 := hf_neT 0 n7_0 (by decide)
    have e1 := hf_neT 1 n7_1 (by decide)
    have e2 := hf_neT 2 n7_2 (by decide)
    refine hr_tabOut X 70 dX2_put_7 (by omega) rfl ?_
    refine hr_aload_n X dX2_put_70 rfl ?_
    refine hr_gR X 7 hl_t0 hs_t0 lg_RX2_9 rfl dX2_put_71 (fun q7 hl_q7 hs_q7 => ?_)
    refine hr_iload_n X dX2_put_74 rfl ?_
    refine hr_lload_n X dX2_put_75 rfl ?_
    refine hr_last X hl_q7 hs_q7 dX2_put_76 (fun M8 eM8 _ => ?_)
    exact hr_vret X dX2_put_77
set_option maxRecDepth 100000 in
set_option maxHeartbeats 4000000 in
theorem c_X3_takeOver  {t0 : Nat} (hl_t0 : t0 < 69) (hs_t0 : hf_shp t0 = 3) {t1 : Nat} (hl_t1 : t1 < 69) (hs_t1 : hf_shp t1 = 3) (M : hf_M) : hf_CV yX3_takeOver cX3_takeOver 2 (none) (2) (fun g => [.ref (hf_a g t0), .ref (hf_a g t1)]) M (s_X3_takeOver t0 t1 M) := by
  refine hf_metV (by decide +kernel) (fun g => Nat.le_of_ble_eq_true rfl) (fun g p l ev s m args below meth c X => ?_)
  have X : hf_X g p s m args meth c cX3_takeOver 2 RX3 (none) := X
  show hf_W g p l ev (2) s m args below meth c 2 (hf_QV g below args s) M 0 [some (.ref (hf_a g t0)), some (.ref (hf_a g t1))] [] (s_X3_takeOver t0 t1 M)
  unfold s_X3_takeOver
  refine hr_aload_n X dX3_takeOver_0 rfl ?_
  refine hr_gR X 6 hl_t1 hs_t1 lg_RX3_9 rfl dX3_takeOver_1 (fun q1 hl_q1 hs_q1 => ?_)
  refine hr_iconst X 0 dX3_takeOver_4 kc_0 ?_
  refine hr_aload_n X dX3_takeOver_5 rfl ?_
  refine hr_gR X 6 hl_t0 hs_t0 lg_RX3_9 rfl dX3_takeOver_6 (fun q2 hl_q2 hs_q2 => ?_)
  refine hr_iconst X 0 dX3_takeOver_9 kc_0 ?_
  refine hr_bipush X 6 dX3_takeOver_10 kb_6 ?_
  refine hr_acI X (hf_c2 185 rfl rfl) (hf_c2 24 rfl rfl) (hf_c2 23 rfl rfl) (hf_c1 8 rfl rfl) hl_q1 hs_q1 hl_q2 hs_q2 (by decide) (Nat.le_of_ble_eq_true rfl) dX3_takeOver_12 (fun M3 eM3 => ?_)
  refine hr_aload_n X dX3_takeOver_15 rfl ?_
  refine hr_gR X 6 hl_t1 hs_t1 lg_RX3_15 rfl dX3_takeOver_16 (fun q4 hl_q4 hs_q4 => ?_)
  refine hr_iconst X 0 dX3_takeOver_19 kc_0 ?_
  refine hr_aload_n X dX3_takeOver_20 rfl ?_
  refine hr_gR X 6 hl_t0 hs_t0 lg_RX3_15 rfl dX3_takeOver_21 (fun q5 hl_q5 hs_q5 => ?_)
  refine hr_iconst X 0 dX3_takeOver_24 kc_0 ?_
  refine hr_bipush X 6 dX3_takeOver_25 kb_6 ?_
  refine hr_acI X (hf_c2 185 rfl rfl) (hf_c2 24 rfl rfl) (hf_c2 23 rfl rfl) (hf_c1 8 rfl rfl) hl_q4 hs_q4 hl_q5 hs_q5 (by decide) (Nat.le_of_ble_eq_true rfl) dX3_takeOver_27 (fun M6 eM6 => ?_)
  refine hr_aload_n X dX3_takeOver_30 rfl ?_
  refine hr_gR X 6 hl_t1 hs_t1 lg_RX3_18 rfl dX3_takeOver_31 (fun q7 hl_q7 hs_q7 => ?_)
  refine hr_iconst X 0 dX3_takeOver_34 kc_0 ?_
  refine hr_aload_n X dX3_takeOver_35 rfl ?_
  refine hr_gR X 6 hl_t0 hs_t0 lg_RX3_18 rfl dX3_takeOver_36 (fun q8 hl_q8 hs_q8 => ?_)
  refine hr_iconst X 0 dX3_takeOver_39 kc_0 ?_
  refine hr_bipush X 6 dX3_takeOver_40 kb_6 ?_
  refine hr_acI X (hf_c2 185 rfl rfl) (hf_c2 24 rfl rfl) (hf_c2 23 rfl rfl) (hf_c1 8 rfl rfl) hl_q7 hs_q7 hl_q8 hs_q8 (by decide) (Nat.le_of_ble_eq_true rfl) dX3_takeOver_42 (fun M9 eM9 => ?_)
  refine hr_aload_n X dX3_takeOver_45 rfl ?_
  refine hr_gR X 6 hl_t1 hs_t1 lg_RX3_21 rfl dX3_takeOver_46 (fun q10 hl_q10 hs_q10 => ?_)
  refine hr_iconst X 0 dX3_takeOver_49 kc_0 ?_
  refine hr_aload_n X dX3_takeOver_50 rfl ?_
  refine hr_gR X 6 hl_t0 hs_t0 lg_RX3_21 rfl dX3_takeOver_51 (fun q11 hl_q11 hs_q11 => ?_)
  refine hr_iconst X 0 dX3_takeOver_54 kc_0 ?_
  refine hr_bipush X 6 dX3_takeOver_55 kb_6 ?_
  refine hr_acI X (hf_c2 185 rfl rfl) (hf_c2 24 rfl rfl) (hf_c2 23 rfl rfl) (hf_c1 8 rfl rfl) hl_q10 hs_q10 hl_q11 hs_q11 (by decide) (Nat.le_of_ble_eq_true rfl) dX3_takeOver_57 (fun M12 eM12 => ?_)
  refine hr_aload_n X dX3_takeOver_60 rfl ?_
  refine hr_gR X 6 hl_t1 hs_t1 lg_RX3_24 rfl dX3_takeOver_61 (fun q13 hl_q13 hs_q13 => ?_)
  refine hr_iconst X 0 dX3_takeOver_64 kc_0 ?_
  refine hr_aload_n X dX3_takeOver_65 rfl ?_
  refine hr_gR X 6 hl_t0 hs_t0 lg_RX3_24 rfl dX3_takeOver_66 (fun q14 hl_q14 hs_q14 => ?_)
  refine hr_iconst X 0 dX3_takeOver_69 kc_0 ?_
  refine hr_bipush X 48 dX3_takeOver_70 kb_48 ?_
  refine hr_acI X (hf_c2 185 rfl rfl) (hf_c2 24 rfl rfl) (hf_c2 23 rfl rfl) (hf_c1 8 rfl rfl) hl_q13 hs_q13 hl_q14 hs_q14 (by decide) (Nat.le_of_ble_eq_true rfl) dX3_takeOver_72 (fun M15 eM15 => ?_)
  refine hr_aload_n X dX3_takeOver_75 rfl ?_
  refine hr_gR X 6 hl_t1 hs_t1 lg_RX3_27 rfl dX3_takeOver_76 (fun q16 hl_q16 hs_q16 => ?_)
  refine hr_iconst X 0 dX3_takeOver_79 kc_0 ?_
  refine hr_aload_n X dX3_takeOver_80 rfl ?_
  refine hr_gR X 6 hl_t0 hs_t0 lg_RX3_27 rfl dX3_takeOver_81 (fun q17 hl_q17 hs_q17 => ?_)
  refine hr_iconst X 0 dX3_takeOver_84 kc_0 ?_
  refine hr_bipush X 48 dX3_takeOver_85 kb_48 ?_
  refine hr_acI X (hf_c2 185 rfl rfl) (hf_c2 24 rfl rfl) (hf_c2 23 rfl rfl) (hf_c1 8 rfl rfl) hl_q16 hs_q16 hl_q17 hs_q17 (by decide) (Nat.le_of_ble_eq_true rfl) dX3_takeOver_87 (fun M18 eM18 => ?_)
  refine hr_aload_n X dX3_takeOver_90 rfl ?_
  refine hr_gR X 6 hl_t1 hs_t1 lg_RX3_30 rfl dX3_takeOver_91 (fun q19 hl_q19 hs_q19 => ?_)
  refine hr_iconst X 0 dX3_takeOver_94 kc_0 ?_
  refine hr_aload_n X dX3_takeOver_95 rfl ?_
  refine hr_gR X 6 hl_t0 hs_t0 lg_RX3_30 rfl dX3_takeOver_96 (fun q20 hl_q20 hs_q20 => ?_)
  refine hr_iconst X 0 dX3_takeOver_99 kc_0 ?_
  refine hr_bipush X 48 dX3_takeOver_100 kb_48 ?_
  refine hr_acI X (hf_c2 185 rfl rfl) (hf_c2 24 rfl rfl) (hf_c2 23 rfl rfl) (hf_c1 8 rfl rfl) hl_q19 hs_q19 hl_q20 hs_q20 (by decide) (Nat.le_of_ble_eq_true rfl) dX3_takeOver_102 (fun M21 eM21 => ?_)
  refine hr_aload_n X dX3_takeOver_105 rfl ?_
  refine hr_gR X 7 hl_t1 hs_t1 lg_RX3_33 rfl dX3_takeOver_106 (fun q22 hl_q22 hs_q22 => ?_)
  refine hr_iconst X 0 dX3_takeOver_109 kc_0 ?_
  refine hr_aload_n X dX3_takeOver_110 rfl ?_
  refine hr_gR X 7 hl_t0 hs_t0 lg_RX3_33 rfl dX3_takeOver_111 (fun q23 hl_q23 hs_q23 => ?_)
  refine hr_iconst X 0 dX3_takeOver_114 kc_0 ?_
  refine hr_bipush X 48 dX3_takeOver_115 kb_48 ?_
  refine hr_acL X (hf_c2 185 rfl rfl) (hf_c2 24 rfl rfl) (hf_c2 23 rfl rfl) (hf_c1 8 rfl rfl) hl_q22 hs_q22 hl_q23 hs_q23 (by decide) (Nat.le_of_ble_eq_true rfl) dX3_takeOver_117 (fun M24 eM24 => ?_)
  refine hr_aload_n X dX3_takeOver_120 rfl ?_
  refine hr_aload_n X dX3_takeOver_121 rfl ?_
  refine hr_gI X hl_t1 hs_t1 lg_RX3_37 dX3_takeOver_122 ?_
  refine hr_pI X hl_t0 hs_t0 lp_RX3_37 dX3_takeOver_125 (fun M25 eM25 => ?_)
  refine hr_aload_n X dX3_takeOver_128 rfl ?_
  refine hr_aload_n X dX3_takeOver_129 rfl ?_
  refine hr_gI X hl_t1 hs_t1 lg_RX3_41 dX3_takeOver_130 ?_
  refine hr_pI X hl_t0 hs_t0 lp_RX3_41 dX3_takeOver_133 (fun M26 eM26 => ?_)
  refine hr_aload_n X dX3_takeOver_136 rfl ?_
  refine hr_aload_n X dX3_takeOver_137 rfl ?_
  refine hr_gI X hl_t1 hs_t1 lg_RX3_44 dX3_takeOver_138 ?_
  refine hr_pI X hl_t0 hs_t0 lp_RX3_44 dX3_takeOver_141 (fun M27 eM27 => ?_)
  refine hr_aload_n X dX3_takeOver_144 rfl ?_
  refine hr_aload_n X dX3_takeOver_145 rfl ?_
  refine hr_gL X hl_t1 hs_t1 lg_RX3_47 dX3_takeOver_146 ?_
  refine hr_pL X hl_t0 hs_t0 lp_RX3_47 dX3_takeOver_149 (fun M28 eM28 => ?_)
  refine hr_aload_n X dX3_takeOver_152 rfl ?_
  refine hr_aload_n X dX3_takeOver_153 rfl ?_
  refine hr_gI X hl_t1 hs_t1 lg_RX3_51 dX3_takeOver_154 ?_
  refine hr_pI X hl_t0 hs_t0 lp_RX3_51 dX3_takeOver_157 (fun M29 eM29 => ?_)
  refine hr_aload_n X dX3_takeOver_160 rfl ?_
  refine hr_aload_n X dX3_takeOver_161 rfl ?_
  refine hr_gI X hl_t1 hs_t1 lg_RX3_54 dX3_takeOver_162 ?_
  refine hr_pI X hl_t0 hs_t0 lp_RX3_54 dX3_takeOver_165 (fun M30 eM30 => ?_)
  refine hr_aload_n X dX3_takeOver_168 rfl ?_
  refine hr_aload_n X dX3_takeOver_169 rfl ?_
  refine hr_gI X hl_t1 hs_t1 lg_RX3_57 dX3_takeOver_170 ?_
  refine hr_pI X hl_t0 hs_t0 lp_RX3_57 dX3_takeOver_173 (fun M31 eM31 => ?_)
  refine hr_aload_n X dX3_takeOver_176 rfl ?_
  refine hr_aload_n X dX3_takeOver_177 rfl ?_
  refine hr_gI X hl_t1 hs_t1 lg_RX3_60 dX3_takeOver_178 ?_
  refine hr_pI X hl_t0 hs_t0 lp_RX3_60 dX3_takeOver_181 (fun M32 eM32 => ?_)
  refine hr_aload_n X dX3_takeOver_184 rfl ?_
  refine hr_aload_n X dX3_takeOver_185 rfl ?_
  refine hr_gI X hl_t1 hs_t1 lg_RX3_63 dX3_takeOver_186 ?_
  refine hr_pI X hl_t0 hs_t0 lp_RX3_63 dX3_takeOver_189 (fun M33 eM33 => ?_)
  exact hr_vret X dX3_takeOver_192
set_option maxRecDepth 100000 in
set_option maxHeartbeats 4000000 in
theorem c_X3_isFact  {t0 : Nat} (hl_t0 : t0 < 69) (hs_t0 : hf_shp t0 = 3) (a1 : Int32) (M : hf_M) : hf_CI yX3_isFact cX3_isFact 2 (some .boolean) (1) (fun g => [.ref (hf_a g t0), .int a1]) M (s_X3_isFact t0 a1 M) := by
  refine hf_metI (by decide +kernel) (fun g => Nat.le_of_ble_eq_true rfl) (fun g p l ev s m args below meth c X => ?_)
  have X : hf_X g p s m args meth c cX3_isFact 2 RX3 (some .boolean) := X
  show hf_W g p l ev (1) s m args below meth c 2 (hf_QI g below args s) M 0 [some (.ref (hf_a g t0)), some (.int a1)] [] (s_X3_isFact t0 a1 M)
  unfold s_X3_isFact
  refine hr_iload_n X dX3_isFact_0 rfl ?_
  refine hr_if_lt X 16 dX3_isFact_1 rfl ?_ ?_
  · refine hr_iconst X 0 dX3_isFact_16 kc_0 ?_
    exact hr_zretC X (Or.inl rfl) dX3_isFact_17
  · refine hr_iload_n X dX3_isFact_4 rfl ?_
    refine hr_aload_n X dX3_isFact_5 rfl ?_
    refine hr_gI X hl_t0 hs_t0 lg_RX3_37 dX3_isFact_6 ?_
    refine hr_icmp_ge X 16 dX3_isFact_9 rfl ?_ ?_
    · refine hr_iconst X 0 dX3_isFact_16 kc_0 ?_
      exact hr_zretC X (Or.inl rfl) dX3_isFact_17
    · refine hr_iconst X 1 dX3_isFact_12 kc_1 ?_
      refine hr_goto X 17 dX3_isFact_13 rfl ?_
      exact hr_zretC X (Or.inr rfl) dX3_isFact_17
set_option maxRecDepth 100000 in
set_option maxHeartbeats 4000000 in
theorem c_X3_isSpeaker  {t0 : Nat} (hl_t0 : t0 < 69) (hs_t0 : hf_shp t0 = 3) (a1 : Int32) (M : hf_M) : hf_CI yX3_isSpeaker cX3_isSpeaker 2 (some .boolean) (1) (fun g => [.ref (hf_a g t0), .int a1]) M (s_X3_isSpeaker t0 a1 M) := by
  refine hf_metI (by decide +kernel) (fun g => Nat.le_of_ble_eq_true rfl) (fun g p l ev s m args below meth c X => ?_)
  have X : hf_X g p s m args meth c cX3_isSpeaker 2 RX3 (some .boolean) := X
  show hf_W g p l ev (1) s m args below meth c 2 (hf_QI g below args s) M 0 [some (.ref (hf_a g t0)), some (.int a1)] [] (s_X3_isSpeaker t0 a1 M)
  unfold s_X3_isSpeaker
  refine hr_iload_n X dX3_isSpeaker_0 rfl ?_
  refine hr_if_lt X 16 dX3_isSpeaker_1 rfl ?_ ?_
  · refine hr_iconst X 0 dX3_isSpeaker_16 kc_0 ?_
    exact hr_zretC X (Or.inl rfl) dX3_isSpeaker_17
  · refine hr_iload_n X dX3_isSpeaker_4 rfl ?_
    refine hr_aload_n X dX3_isSpeaker_5 rfl ?_
    refine hr_gI X hl_t0 hs_t0 lg_RX3_41 dX3_isSpeaker_6 ?_
    refine hr_icmp_ge X 16 dX3_isSpeaker_9 rfl ?_ ?_
    · refine hr_iconst X 0 dX3_isSpeaker_16 kc_0 ?_
      exact hr_zretC X (Or.inl rfl) dX3_isSpeaker_17
    · refine hr_iconst X 1 dX3_isSpeaker_12 kc_1 ?_
      refine hr_goto X 17 dX3_isSpeaker_13 rfl ?_
      exact hr_zretC X (Or.inr rfl) dX3_isSpeaker_17
set_option maxRecDepth 100000 in
set_option maxHeartbeats 4000000 in
theorem c_X3_isWorld  {t0 : Nat} (hl_t0 : t0 < 69) (hs_t0 : hf_shp t0 = 3) (a1 : Int32) (M : hf_M) : hf_CI yX3_isWorld cX3_isWorld 2 (some .boolean) (1) (fun g => [.ref (hf_a g t0), .int a1]) M (s_X3_isWorld t0 a1 M) := by
  refine hf_metI (by decide +kernel) (fun g => Nat.le_of_ble_eq_true rfl) (fun g p l ev s m args below meth c X => ?_)
  have X : hf_X g p s m args meth c cX3_isWorld 2 RX3 (some .boolean) := X
  show hf_W g p l ev (1) s m args below meth c 2 (hf_QI g below args s) M 0 [some (.ref (hf_a g t0)), some (.int a1)] [] (s_X3_isWorld t0 a1 M)
  unfold s_X3_isWorld
  refine hr_iload_n X dX3_isWorld_0 rfl ?_
  refine hr_if_lt X 18 dX3_isWorld_1 rfl ?_ ?_
  · refine hr_iconst X 0 dX3_isWorld_18 kc_0 ?_
    exact hr_zretC X (Or.inl rfl) dX3_isWorld_19
  · refine hr_iload_n X dX3_isWorld_4 rfl ?_
    refine hr_iconst X 1 dX3_isWorld_5 kc_1 ?_
    refine hr_aload_n X dX3_isWorld_6 rfl ?_
    refine hr_gI X hl_t0 hs_t0 lg_RX3_37 dX3_isWorld_7 ?_
    refine hr_ishl X dX3_isWorld_10 ?_
    refine hr_icmp_ge X 18 dX3_isWorld_11 rfl ?_ ?_
    · refine hr_iconst X 0 dX3_isWorld_18 kc_0 ?_
      exact hr_zretC X (Or.inl rfl) dX3_isWorld_19
    · refine hr_iconst X 1 dX3_isWorld_14 kc_1 ?_
      refine hr_goto X 19 dX3_isWorld_15 rfl ?_
      exact hr_zretC X (Or.inr rfl) dX3_isWorld_19
set_option maxRecDepth 100000 in
set_option maxHeartbeats 4000000 in
theorem c_X3_isFree  {t0 : Nat} (hl_t0 : t0 < 69) (hs_t0 : hf_shp t0 = 3) (a1 : Int32) (M : hf_M) : hf_CI yX3_isFree cX3_isFree 2 (some .boolean) (1) (fun g => [.ref (hf_a g t0), .int a1]) M (s_X3_isFree t0 a1 M) := by
  refine hf_metI (by decide +kernel) (fun g => Nat.le_of_ble_eq_true rfl) (fun g p l ev s m args below meth c X => ?_)
  have X : hf_X g p s m args meth c cX3_isFree 2 RX3 (some .boolean) := X
  show hf_W g p l ev (1) s m args below meth c 2 (hf_QI g below args s) M 0 [some (.ref (hf_a g t0)), some (.int a1)] [] (s_X3_isFree t0 a1 M)
  unfold s_X3_isFree
  refine hr_aload_n X dX3_isFree_0 rfl ?_
  refine hr_gR X 6 hl_t0 hs_t0 lg_RX3_15 rfl dX3_isFree_1 (fun q1 hl_q1 hs_q1 => ?_)
  refine hr_iload_n X dX3_isFree_4 rfl ?_
  refine hr_iald X hl_q1 hs_q1 dX3_isFree_5 (fun r2 _ _ => ?_)
  refine hr_if_eq X 20 dX3_isFree_6 rfl ?_ ?_
  · refine hr_iconst X 1 dX3_isFree_20 kc_1 ?_
    refine hr_goto X 25 dX3_isFree_21 rfl ?_
    exact hr_zretC X (Or.inr rfl) dX3_isFree_25
  · refine hr_aload_n X dX3_isFree_9 rfl ?_
    refine hr_gR X 6 hl_t0 hs_t0 lg_RX3_15 rfl dX3_isFree_10 (fun q3 hl_q3 hs_q3 => ?_)
    refine hr_iload_n X dX3_isFree_13 rfl ?_
    refine hr_iald X hl_q3 hs_q3 dX3_isFree_14 (fun r4 _ _ => ?_)
    refine hr_bipush X 6 dX3_isFree_15 kb_6 ?_
    refine hr_icmp_ne X 24 dX3_isFree_17 rfl ?_ ?_
    · refine hr_iconst X 0 dX3_isFree_24 kc_0 ?_
      exact hr_zretC X (Or.inl rfl) dX3_isFree_25
    · refine hr_iconst X 1 dX3_isFree_20 kc_1 ?_
      refine hr_goto X 25 dX3_isFree_21 rfl ?_
      exact hr_zretC X (Or.inr rfl) dX3_isFree_25
set_option maxRecDepth 100000 in
set_option maxHeartbeats 4000000 in
theorem w_X3_forgetSayings_7 {g : hf_G} {p : Program} {l : Launch} {ev : Env} {s : State} {m : MethodId} {args : Array Value} {below : List Frame} {meth : Method} {c : Code} (X : hf_X g p s m args meth c cX3_forgetSayings 2 RX3 (none))    {t0 : Nat} (hl_t0 : t0 < 69) (hs_t0 : hf_shp t0 = 3) : ∀ (n : Nat) (v1 : Int32) (M : hf_M), hf_W g p l ev (1) s m args below meth c 2 (hf_QV g below args s) M 7 [some (.ref (hf_a g t0)), some (.int v1)] [] (s_X3_forgetSayings_7 t0 n v1 M) := by
  intro n
  induction n with
  | zero =>
    intros
    exact hr_none
  | succ n ih =>
    intro v1 M
    rw [s_X3_forgetSayings_7]
    refine hr_iload_n X dX3_forgetSayings_7 rfl ?_
    refine hr_aload_n X dX3_forgetSayings_8 rfl ?_
    refine hr_gI X hl_t0 hs_t0 lg_RX3_41 dX3_forgetSayings_9 ?_
    refine hr_icmp_ge X 28 dX3_forgetSayings_12 rfl ?_ ?_
    · exact hr_vret X dX3_forgetSayings_28
    · refine hr_aload_n X dX3_forgetSayings_15 rfl ?_
      refine hr_gR X 6 hl_t0 hs_t0 lg_RX3_21 rfl dX3_forgetSayings_16 (fun q1 hl_q1 hs_q1 => ?_)
      refine hr_iload_n X dX3_forgetSayings_19 rfl ?_
      refine hr_iconst X 0 dX3_forgetSayings_20 kc_0 ?_
      refine hr_iast X hl_q1 hs_q1 dX3_forgetSayings_21 (fun M2 eM2 _ => ?_)
      refine hr_iinc X (v1 + 1) dX3_forgetSayings_22 rfl (by rw [kc_1]) (by decide) rfl ?_
      refine hr_goto X 7 dX3_forgetSayings_25 rfl ?_
      exact hr_wk (hs_some (hs_some (hs_nil))) (ih (v1 + 1) M2)
set_option maxRecDepth 100000 in
set_option maxHeartbeats 4000000 in
theorem c_X3_forgetSayings  {t0 : Nat} (hl_t0 : t0 < 69) (hs_t0 : hf_shp t0 = 3) (M : hf_M) : hf_CV yX3_forgetSayings cX3_forgetSayings 2 (none) (1) (fun g => [.ref (hf_a g t0)]) M (s_X3_forgetSayings t0 M) := by
  refine hf_metV (by decide +kernel) (fun g => Nat.le_of_ble_eq_true rfl) (fun g p l ev s m args below meth c X => ?_)
  have X : hf_X g p s m args meth c cX3_forgetSayings 2 RX3 (none) := X
  show hf_W g p l ev (1) s m args below meth c 2 (hf_QV g below args s) M 0 [some (.ref (hf_a g t0)), none] [] (s_X3_forgetSayings t0 M)
  unfold s_X3_forgetSayings
  refine hr_aload_n X dX3_forgetSayings_0 rfl ?_
  refine hr_iconst X 0 dX3_forgetSayings_1 kc_0 ?_
  refine hr_pI X hl_t0 hs_t0 lp_RX3_44 dX3_forgetSayings_2 (fun M1 eM1 => ?_)
  refine hr_iconst X 0 dX3_forgetSayings_5 kc_0 ?_
  refine hr_istore_n X dX3_forgetSayings_6 (by decide) rfl ?_
  exact hr_wk (hs_some (hs_some (hs_nil))) (w_X3_forgetSayings_7 X hl_t0 hs_t0 2000 0 M1)
set_option maxRecDepth 100000 in
set_option maxHeartbeats 4000000 in
theorem c_X3_drawBelow  {t0 : Nat} (hl_t0 : t0 < 69) (hs_t0 : hf_shp t0 = 3) (a1 : Int32) (M : hf_M) : hf_CI yX3_drawBelow cX3_drawBelow 2 (some .int) (1) (fun g => [.ref (hf_a g t0), .int a1]) M (s_X3_drawBelow t0 a1 M) := by
  refine hf_metI (by decide +kernel) (fun g => Nat.le_of_ble_eq_true rfl) (fun g p l ev s m args below meth c X => ?_)
  have X : hf_X g p s m args meth c cX3_drawBelow 2 RX3 (some .int) := X
  show hf_W g p l ev (1) s m args below meth c 2 (hf_QI g below args s) M 0 [some (.ref (hf_a g t0)), some (.int a1)] [] (s_X3_drawBelow t0 a1 M)
  unfold s_X3_drawBelow
  refine hr_aload_n X dX3_drawBelow_0 rfl ?_
  refine hr_aload_n X dX3_drawBelow_1 rfl ?_
  refine hr_gI X hl_t0 hs_t0 lg_RX3_60 dX3_drawBelow_2 ?_
  refine hr_ldc X dX3_drawBelow_5 (hf_c3 229 rfl rfl) ?_
  refine hr_imul X dX3_drawBelow_7 ?_
  refine hr_sipush X 12345 dX3_drawBelow_8 ks_12345 ?_
  refine hr_iadd X dX3_drawBelow_11 ?_
  refine hr_pI X hl_t0 hs_t0 lp_RX3_60 dX3_drawBelow_12 (fun M1 eM1 => ?_)
  refine hr_iload_n X dX3_drawBelow_15 rfl ?_
  refine hr_if_le X 31 dX3_drawBelow_16 rfl ?_ ?_
  · refine hr_iconst X 0 dX3_drawBelow_31 kc_0 ?_
    exact hr_iret X dX3_drawBelow_32
  · refine hr_aload_n X dX3_drawBelow_19 rfl ?_
    refine hr_gI X hl_t0 hs_t0 lg_RX3_60 dX3_drawBelow_20 ?_
    refine hr_bipush X 16 dX3_drawBelow_23 kb_16 ?_
    refine hr_iushr X dX3_drawBelow_25 ?_
    refine hr_iload_n X dX3_drawBelow_26 rfl ?_
    refine hr_iremC X dX3_drawBelow_27 ?_
    refine hr_goto X 32 dX3_drawBelow_28 rfl ?_
    exact hr_iret X dX3_drawBelow_32
