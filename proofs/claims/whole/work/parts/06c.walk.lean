set_option maxRecDepth 100000 in
set_option maxHeartbeats 4000000 in
theorem c_X4_noErrands  {t0 : Nat} (hl_t0 : t0 < 69) (hs_t0 : hf_shp t0 = 4) (a1 : Int32) (a2 : Int32) (M : hf_M) : hf_CI yX4_noErrands cX4_noErrands 4 (some .int) (3) (fun g => [.ref (hf_a g t0), .int a1, .int a2]) M (s_X4_noErrands t0 a1 a2 M) := by
  refine hf_metI (by decide +kernel) (fun g => Nat.le_of_ble_eq_true rfl) (fun g p l ev s m args below meth c X => ?_)
  have X : hf_X g p s m args meth c cX4_noErrands 4 RX4 (some .int) := X
  show hf_W g p l ev (3) s m args below meth c 4 (hf_QI g below args s) M 0 [some (.ref (hf_a g t0)), some (.int a1), some (.int a2), none] [] (s_X4_noErrands t0 a1 a2 M)
  unfold s_X4_noErrands
  refine hr_aload_n X dX4_noErrands_0 rfl ?_
  refine hr_iload_n X dX4_noErrands_1 rfl ?_
  refine hr_cvI X [.int a1] [] (c_X4_noRow hl_t0 hs_t0 a1 M) lk_RX4_93 rfl rfl rfl hl_t0 hs_t0 ⟨by decide, rfl⟩ (by decide) (Nat.le_of_ble_eq_true rfl) dX4_noErrands_2 (fun r1 M2 _ => ?_)
  refine hr_istore_n X dX4_noErrands_5 (by decide) rfl ?_
  refine hr_iload_n X dX4_noErrands_6 rfl ?_
  refine hr_if_eq X 12 dX4_noErrands_7 rfl ?_ ?_
  · refine hr_aload_n X dX4_noErrands_12 rfl ?_
    refine hr_gR X 8 hl_t0 hs_t0 lg_RX4_24 rfl dX4_noErrands_13 (fun q3 hl_q3 hs_q3 => ?_)
    refine hr_iload_n X dX4_noErrands_16 rfl ?_
    refine hr_aald X hl_q3 hs_q3 (hf_l8 hl_q3 hs_q3) dX4_noErrands_17 (fun q4 hl_q4 hs_q4 => ?_)
    refine hr_gI X hl_q4 hs_q4 lg_RX4_261 dX4_noErrands_18 ?_
    refine hr_bipush X 10 dX4_noErrands_21 kb_10 ?_
    refine hr_icmp_gt X 36 dX4_noErrands_23 rfl ?_ ?_
    · refine hr_bipush X (-6) dX4_noErrands_36 kb_m6 ?_
      refine hr_goto X 42 dX4_noErrands_38 rfl ?_
      exact hr_iret X dX4_noErrands_42
    · refine hr_iload_n X dX4_noErrands_26 rfl ?_
      refine hr_iconst X 0 dX4_noErrands_27 kc_0 ?_
      refine hr_bipush X 10 dX4_noErrands_28 kb_10 ?_
      refine hr_csI X [.int a2, .int 0, .int 10] [] (c_X4_within a2 0 10 M2) lk_RX4_85 rfl rfl rfl (by decide) (Nat.le_of_ble_eq_true rfl) dX4_noErrands_30 (fun r5 M6 _ => ?_)
      refine hr_if_ne X 41 dX4_noErrands_33 rfl ?_ ?_
      · refine hr_iconst X 0 dX4_noErrands_41 kc_0 ?_
        exact hr_iret X dX4_noErrands_42
      · refine hr_bipush X (-6) dX4_noErrands_36 kb_m6 ?_
        refine hr_goto X 42 dX4_noErrands_38 rfl ?_
        exact hr_iret X dX4_noErrands_42
  · refine hr_iload_n X dX4_noErrands_10 rfl ?_
    exact hr_iret X dX4_noErrands_11
set_option maxRecDepth 100000 in
set_option maxHeartbeats 4000000 in
theorem w_X4_errands_40 {g : hf_G} {p : Program} {l : Launch} {ev : Env} {s : State} {m : MethodId} {args : Array Value} {below : List Frame} {meth : Method} {c : Code} (X : hf_X g p s m args meth c cX4_errands 9 RX4 (some .int))    {t0 : Nat} (hl_t0 : t0 < 69) (hs_t0 : hf_shp t0 = 4) {t4 : Nat} (hl_t4 : t4 < 69) (hs_t4 : hf_shp t4 = 2) (v5 : Int32) : ∀ (n : Nat) (v6 : Int32) (v7 : Int32) (M : hf_M), hf_W g p l ev (4) s m args below meth c 9 (hf_QI g below args s) M 40 [some (.ref (hf_a g t0)), none, none, none, some (.ref (hf_a g t4)), some (.int v5), some (.int v6), some (.int v7), none] [] (s_X4_errands_40 t0 t4 v5 n v6 v7 M) := by
  intro n
  induction n with
  | zero =>
    intros
    exact hr_none
  | succ n ih =>
    intro v6 v7 M
    rw [s_X4_errands_40]
    refine hr_iload X dX4_errands_40 rfl ?_
    refine hr_aload X dX4_errands_42 rfl ?_
    refine hr_gI X hl_t4 hs_t4 lg_RX4_261 dX4_errands_44 ?_
    refine hr_icmp_ge X 103 dX4_errands_47 rfl ?_ ?_
    · refine hr_iload X dX4_errands_103 rfl ?_
      exact hr_iret X dX4_errands_105
    · refine hr_aload X dX4_errands_50 rfl ?_
      refine hr_iload X dX4_errands_52 rfl ?_
      refine hr_cvI X [.int v7] [] (c_X2_asInt hl_t4 hs_t4 v7 M) lk_RX4_264 rfl rfl rfl hl_t4 hs_t4 ⟨by decide, rfl⟩ (by decide) (Nat.le_of_ble_eq_true rfl) dX4_errands_54 (fun r1 M2 _ => ?_)
      refine hr_istore X dX4_errands_57 (by decide) rfl ?_
      refine hr_iload X dX4_errands_59 rfl ?_
      refine hr_iload X dX4_errands_61 rfl ?_
      refine hr_ishr X dX4_errands_63 ?_
      refine hr_iconst X 1 dX4_errands_64 kc_1 ?_
      refine hr_iand X dX4_errands_65 ?_
      refine hr_iconst X 1 dX4_errands_66 kc_1 ?_
      refine hr_icmp_ne X 97 dX4_errands_67 rfl ?_ ?_
      · refine hr_iinc X (v7 + 1) dX4_errands_97 rfl (by rw [kc_1]) (by decide) rfl ?_
        refine hr_goto X 40 dX4_errands_100 rfl ?_
        exact hr_wk (hs_some (hs_none (hs_none (hs_none (hs_some (hs_some (hs_some (hs_some (hs_none (hs_nil)))))))))) (ih v6 (v7 + 1) M2)
      · refine hr_aload_n X dX4_errands_70 rfl ?_
        refine hr_gR X 3 hl_t0 hs_t0 lg_RX4_10 rfl dX4_errands_71 (fun q3 hl_q3 hs_q3 => ?_)
        refine hr_iload X dX4_errands_74 rfl ?_
        refine hr_cvI X [.int r1] [] (c_X3_isFact hl_q3 hs_q3 r1 M2) lk_RX4_158 rfl rfl rfl hl_q3 hs_q3 ⟨by decide, rfl⟩ (by decide) (Nat.le_of_ble_eq_true rfl) dX4_errands_76 (fun r4 M5 _ => ?_)
        refine hr_if_eq X 97 dX4_errands_79 rfl ?_ ?_
        · refine hr_iinc X (v7 + 1) dX4_errands_97 rfl (by rw [kc_1]) (by decide) rfl ?_
          refine hr_goto X 40 dX4_errands_100 rfl ?_
          exact hr_wk (hs_some (hs_none (hs_none (hs_none (hs_some (hs_some (hs_some (hs_some (hs_none (hs_nil)))))))))) (ih v6 (v7 + 1) M5)
        · refine hr_iload X dX4_errands_82 rfl ?_
          refine hr_aload_n X dX4_errands_84 rfl ?_
          refine hr_gR X 3 hl_t0 hs_t0 lg_RX4_10 rfl dX4_errands_85 (fun q6 hl_q6 hs_q6 => ?_)
          refine hr_gR X 6 hl_q6 hs_q6 lg_RX4_161 rfl dX4_errands_88 (fun q7 hl_q7 hs_q7 => ?_)
          refine hr_iload X dX4_errands_91 rfl ?_
          refine hr_iald X hl_q7 hs_q7 dX4_errands_93 (fun r8 _ _ => ?_)
          refine hr_iadd X dX4_errands_94 ?_
          refine hr_istore X dX4_errands_95 (by decide) rfl ?_
          refine hr_iinc X (v7 + 1) dX4_errands_97 rfl (by rw [kc_1]) (by decide) rfl ?_
          refine hr_goto X 40 dX4_errands_100 rfl ?_
          exact hr_wk (hs_some (hs_none (hs_none (hs_none (hs_some (hs_some (hs_some (hs_some (hs_none (hs_nil)))))))))) (ih (v6 + r8) (v7 + 1) M5)
set_option maxRecDepth 100000 in
set_option maxHeartbeats 4000000 in
theorem c_X4_errands  {t0 : Nat} (hl_t0 : t0 < 69) (hs_t0 : hf_shp t0 = 4) (a1 : Int32) (a2 : Int32) (M : hf_M) : hf_CI yX4_errands cX4_errands 9 (some .int) (4) (fun g => [.ref (hf_a g t0), .int a1, .int a2]) M (s_X4_errands t0 a1 a2 M) := by
  refine hf_metI (by decide +kernel) (fun g => Nat.le_of_ble_eq_true rfl) (fun g p l ev s m args below meth c X => ?_)
  have X : hf_X g p s m args meth c cX4_errands 9 RX4 (some .int) := X
  show hf_W g p l ev (4) s m args below meth c 9 (hf_QI g below args s) M 0 [some (.ref (hf_a g t0)), some (.int a1), some (.int a2), none, none, none, none, none, none] [] (s_X4_errands t0 a1 a2 M)
  unfold s_X4_errands
  refine hr_aload_n X dX4_errands_0 rfl ?_
  refine hr_iload_n X dX4_errands_1 rfl ?_
  refine hr_iload_n X dX4_errands_2 rfl ?_
  refine hr_cvI X [.int a1, .int a2] [] (c_X4_noErrands hl_t0 hs_t0 a1 a2 M) lk_RX4_254 rfl rfl rfl hl_t0 hs_t0 ⟨by decide, rfl⟩ (by decide) (Nat.le_of_ble_eq_true rfl) dX4_errands_3 (fun r1 M2 _ => ?_)
  refine hr_istore_n X dX4_errands_6 (by decide) rfl ?_
  refine hr_iload_n X dX4_errands_7 rfl ?_
  refine hr_if_eq X 17 dX4_errands_8 rfl ?_ ?_
  · refine hr_aload_n X dX4_errands_17 rfl ?_
    refine hr_gR X 8 hl_t0 hs_t0 lg_RX4_24 rfl dX4_errands_18 (fun q3 hl_q3 hs_q3 => ?_)
    refine hr_iload_n X dX4_errands_21 rfl ?_
    refine hr_aald X hl_q3 hs_q3 (hf_l8 hl_q3 hs_q3) dX4_errands_22 (fun q4 hl_q4 hs_q4 => ?_)
    refine hr_astore X dX4_errands_23 (by decide) rfl ?_
    refine hr_aload_n X dX4_errands_25 rfl ?_
    refine hr_aload X dX4_errands_26 rfl ?_
    refine hr_iload_n X dX4_errands_28 rfl ?_
    refine hr_cvI X [.ref (hf_a g q4), .int a2] [] (c_X4_liesPlaced hl_t0 hs_t0 hl_q4 hs_q4 a2 M2) lk_RX4_257 rfl rfl rfl hl_t0 hs_t0 ⟨by decide, rfl⟩ (by decide) (Nat.le_of_ble_eq_true rfl) dX4_errands_29 (fun r5 M6 _ => ?_)
    refine hr_istore X dX4_errands_32 (by decide) rfl ?_
    refine hr_iconst X 0 dX4_errands_34 kc_0 ?_
    refine hr_istore X dX4_errands_35 (by decide) rfl ?_
    refine hr_iconst X 0 dX4_errands_37 kc_0 ?_
    refine hr_istore X dX4_errands_38 (by decide) rfl ?_
    exact hr_wk (hs_some (hs_none (hs_none (hs_none (hs_some (hs_some (hs_some (hs_some (hs_none (hs_nil)))))))))) (w_X4_errands_40 X hl_t0 hs_t0 hl_q4 hs_q4 r5 2000 0 0 M6)
  · refine hr_aload_n X dX4_errands_11 rfl ?_
    refine hr_iload_n X dX4_errands_12 rfl ?_
    refine hr_cvI X [.int r1] [] (c_X4_refuse hl_t0 hs_t0 r1 M2) lk_RX4_82 rfl rfl rfl hl_t0 hs_t0 ⟨by decide, rfl⟩ (by decide) (Nat.le_of_ble_eq_true rfl) dX4_errands_13 (fun r7 M8 _ => ?_)
    exact hr_iret X dX4_errands_16
set_option maxRecDepth 100000 in
set_option maxHeartbeats 4000000 in
theorem c_X4_placed  {t0 : Nat} (hl_t0 : t0 < 69) (hs_t0 : hf_shp t0 = 4) (a1 : Int32) (a2 : Int32) (M : hf_M) : hf_CI yX4_placed cX4_placed 4 (some .int) (4) (fun g => [.ref (hf_a g t0), .int a1, .int a2]) M (s_X4_placed t0 a1 a2 M) := by
  refine hf_metI (by decide +kernel) (fun g => Nat.le_of_ble_eq_true rfl) (fun g p l ev s m args below meth c X => ?_)
  have X : hf_X g p s m args meth c cX4_placed 4 RX4 (some .int) := X
  show hf_W g p l ev (4) s m args below meth c 4 (hf_QI g below args s) M 0 [some (.ref (hf_a g t0)), some (.int a1), some (.int a2), none] [] (s_X4_placed t0 a1 a2 M)
  unfold s_X4_placed
  refine hr_aload_n X dX4_placed_0 rfl ?_
  refine hr_iload_n X dX4_placed_1 rfl ?_
  refine hr_iload_n X dX4_placed_2 rfl ?_
  refine hr_cvI X [.int a1, .int a2] [] (c_X4_noErrands hl_t0 hs_t0 a1 a2 M) lk_RX4_254 rfl rfl rfl hl_t0 hs_t0 ⟨by decide, rfl⟩ (by decide) (Nat.le_of_ble_eq_true rfl) dX4_placed_3 (fun r1 M2 _ => ?_)
  refine hr_istore_n X dX4_placed_6 (by decide) rfl ?_
  refine hr_iload_n X dX4_placed_7 rfl ?_
  refine hr_if_eq X 19 dX4_placed_8 rfl ?_ ?_
  · refine hr_aload_n X dX4_placed_19 rfl ?_
    refine hr_aload_n X dX4_placed_20 rfl ?_
    refine hr_gR X 8 hl_t0 hs_t0 lg_RX4_24 rfl dX4_placed_21 (fun q3 hl_q3 hs_q3 => ?_)
    refine hr_iload_n X dX4_placed_24 rfl ?_
    refine hr_aald X hl_q3 hs_q3 (hf_l8 hl_q3 hs_q3) dX4_placed_25 (fun q4 hl_q4 hs_q4 => ?_)
    refine hr_iload_n X dX4_placed_26 rfl ?_
    refine hr_cvI X [.ref (hf_a g q4), .int a2] [] (c_X4_liesPlaced hl_t0 hs_t0 hl_q4 hs_q4 a2 M2) lk_RX4_257 rfl rfl rfl hl_t0 hs_t0 ⟨by decide, rfl⟩ (by decide) (Nat.le_of_ble_eq_true rfl) dX4_placed_27 (fun r5 M6 _ => ?_)
    exact hr_iret X dX4_placed_30
  · refine hr_aload_n X dX4_placed_11 rfl ?_
    refine hr_iload_n X dX4_placed_12 rfl ?_
    refine hr_cvI X [.int r1] [] (c_X4_refuse hl_t0 hs_t0 r1 M2) lk_RX4_82 rfl rfl rfl hl_t0 hs_t0 ⟨by decide, rfl⟩ (by decide) (Nat.le_of_ble_eq_true rfl) dX4_placed_13 (fun r7 M8 _ => ?_)
    refine hr_goto X 30 dX4_placed_16 rfl ?_
    exact hr_iret X dX4_placed_30
set_option maxRecDepth 100000 in
set_option maxHeartbeats 4000000 in
theorem c_X4_trust  {t0 : Nat} (hl_t0 : t0 < 69) (hs_t0 : hf_shp t0 = 4) (a1 : Int32) (M : hf_M) : hf_CI yX4_trust cX4_trust 8 (some .int) (5) (fun g => [.ref (hf_a g t0), .int a1]) M (s_X4_trust t0 a1 M) := by
  refine hf_metI (by decide +kernel) (fun g => Nat.le_of_ble_eq_true rfl) (fun g p l ev s m args below meth c X => ?_)
  have X : hf_X g p s m args meth c cX4_trust 8 RX4 (some .int) := X
  show hf_W g p l ev (5) s m args below meth c 8 (hf_QI g below args s) M 0 [some (.ref (hf_a g t0)), some (.int a1), none, none, none, none, none, none] [] (s_X4_trust t0 a1 M)
  unfold s_X4_trust
  refine hr_aload_n X dX4_trust_0 rfl ?_
  refine hr_gR X 3 hl_t0 hs_t0 lg_RX4_10 rfl dX4_trust_1 (fun q1 hl_q1 hs_q1 => ?_)
  refine hr_iload_n X dX4_trust_4 rfl ?_
  refine hr_cvI X [.int a1] [] (c_X3_isSpeaker hl_q1 hs_q1 a1 M) lk_RX4_119 rfl rfl rfl hl_q1 hs_q1 ⟨by decide, rfl⟩ (by decide) (Nat.le_of_ble_eq_true rfl) dX4_trust_5 (fun r2 M3 _ => ?_)
  refine hr_if_ne X 20 dX4_trust_8 rfl ?_ ?_
  · refine hr_aload_n X dX4_trust_20 rfl ?_
    refine hr_gR X 3 hl_t0 hs_t0 lg_RX4_10 rfl dX4_trust_21 (fun q4 hl_q4 hs_q4 => ?_)
    refine hr_iload_n X dX4_trust_24 rfl ?_
    refine hr_cvI X [.int a1] [] (c_X3_isFull hl_q4 hs_q4 a1 M3) lk_RX4_164 rfl rfl rfl hl_q4 hs_q4 ⟨by decide, rfl⟩ (by decide) (Nat.le_of_ble_eq_true rfl) dX4_trust_25 (fun r5 M6 _ => ?_)
    refine hr_if_eq X 41 dX4_trust_28 rfl ?_ ?_
    · refine hr_aload_n X dX4_trust_41 rfl ?_
      refine hr_gR X 3 hl_t0 hs_t0 lg_RX4_10 rfl dX4_trust_42 (fun q7 hl_q7 hs_q7 => ?_)
      refine hr_ldc2 X dX4_trust_45 (hf_c2 101 rfl rfl) ?_
      refine hr_cvJ X [.long (-1)] [] (c_X3_possible hl_q7 hs_q7 (-1) M6) lk_RX4_167 rfl rfl rfl hl_q7 hs_q7 ⟨by decide, rfl⟩ (by decide) (Nat.le_of_ble_eq_true rfl) dX4_trust_48 (fun r8 M9 _ => ?_)
      refine hr_lstore_n X dX4_trust_51 (by decide) rfl ?_
      refine hr_aload_n X dX4_trust_52 rfl ?_
      refine hr_gR X 3 hl_t0 hs_t0 lg_RX4_10 rfl dX4_trust_53 (fun q10 hl_q10 hs_q10 => ?_)
      refine hr_iload_n X dX4_trust_56 rfl ?_
      refine hr_cvI X [.int a1] [] (c_X3_isFree hl_q10 hs_q10 a1 M9) lk_RX4_272 rfl rfl rfl hl_q10 hs_q10 ⟨by decide, rfl⟩ (by decide) (Nat.le_of_ble_eq_true rfl) dX4_trust_57 (fun r11 M12 _ => ?_)
      refine hr_if_ne X 92 dX4_trust_60 rfl ?_ ?_
      · refine hr_lload_n X dX4_trust_92 rfl ?_
        refine hr_aload_n X dX4_trust_93 rfl ?_
        refine hr_gR X 3 hl_t0 hs_t0 lg_RX4_10 rfl dX4_trust_94 (fun q13 hl_q13 hs_q13 => ?_)
        refine hr_iload_n X dX4_trust_97 rfl ?_
        refine hr_iconst X 1 dX4_trust_98 kc_1 ?_
        refine hr_cvJ X [.int a1, .int 1] [.long r8] (c_X3_allowedNext hl_q13 hs_q13 a1 1 M12) lk_RX4_275 rfl rfl rfl hl_q13 hs_q13 ⟨by decide, rfl⟩ (by decide) (Nat.le_of_ble_eq_true rfl) dX4_trust_99 (fun r14 M15 _ => ?_)
        refine hr_land X dX4_trust_102 ?_
        refine hr_lstore X dX4_trust_103 (by decide) rfl ?_
        refine hr_lload_n X dX4_trust_105 rfl ?_
        refine hr_aload_n X dX4_trust_106 rfl ?_
        refine hr_gR X 3 hl_t0 hs_t0 lg_RX4_10 rfl dX4_trust_107 (fun q16 hl_q16 hs_q16 => ?_)
        refine hr_iload_n X dX4_trust_110 rfl ?_
        refine hr_iconst X 0 dX4_trust_111 kc_0 ?_
        refine hr_cvJ X [.int a1, .int 0] [.long r8] (c_X3_allowedNext hl_q16 hs_q16 a1 0 M15) lk_RX4_275 rfl rfl rfl hl_q16 hs_q16 ⟨by decide, rfl⟩ (by decide) (Nat.le_of_ble_eq_true rfl) dX4_trust_112 (fun r17 M18 _ => ?_)
        refine hr_land X dX4_trust_115 ?_
        refine hr_lstore X dX4_trust_116 (by decide) rfl ?_
        refine hr_lload X dX4_trust_118 rfl ?_
        refine hr_csI X [.long (r8 &&& r14)] [] (c_J13_bitCount_95d88 (r8 &&& r14) M18) lk_RX4_178 rfl rfl rfl (by decide) (Nat.le_of_ble_eq_true rfl) dX4_trust_120 (fun r19 M20 _ => ?_)
        refine hr_lload X dX4_trust_123 rfl ?_
        refine hr_csI X [.long (r8 &&& r17)] [.int r19] (c_J13_bitCount_95d88 (r8 &&& r17) M20) lk_RX4_178 rfl rfl rfl (by decide) (Nat.le_of_ble_eq_true rfl) dX4_trust_125 (fun r21 M22 _ => ?_)
        refine hr_isub X dX4_trust_128 ?_
        exact hr_iret X dX4_trust_129
      · refine hr_aload_n X dX4_trust_63 rfl ?_
        refine hr_gR X 3 hl_t0 hs_t0 lg_RX4_10 rfl dX4_trust_64 (fun q23 hl_q23 hs_q23 => ?_)
        refine hr_iload_n X dX4_trust_67 rfl ?_
        refine hr_aload_n X dX4_trust_68 rfl ?_
        refine hr_gR X 3 hl_t0 hs_t0 lg_RX4_10 rfl dX4_trust_69 (fun q24 hl_q24 hs_q24 => ?_)
        refine hr_gR X 6 hl_q24 hs_q24 lg_RX4_127 rfl dX4_trust_72 (fun q25 hl_q25 hs_q25 => ?_)
        refine hr_iload_n X dX4_trust_75 rfl ?_
        refine hr_iald X hl_q25 hs_q25 dX4_trust_76 (fun r26 _ _ => ?_)
        refine hr_cvI X [.int a1, .int r26] [] (c_X3_mustBeTrue hl_q23 hs_q23 a1 r26 M12) lk_RX4_130 rfl rfl rfl hl_q23 hs_q23 ⟨by decide, rfl⟩ (by decide) (Nat.le_of_ble_eq_true rfl) dX4_trust_77 (fun r27 M28 _ => ?_)
        refine hr_if_eq X 90 dX4_trust_80 rfl ?_ ?_
        · refine hr_iconst X 0 dX4_trust_90 kc_0 ?_
          exact hr_iret X dX4_trust_91
        · refine hr_lload_n X dX4_trust_83 rfl ?_
          refine hr_csI X [.long r8] [] (c_J13_bitCount_95d88 r8 M28) lk_RX4_178 rfl rfl rfl (by decide) (Nat.le_of_ble_eq_true rfl) dX4_trust_84 (fun r29 M30 _ => ?_)
          refine hr_goto X 91 dX4_trust_87 rfl ?_
          exact hr_iret X dX4_trust_91
    · refine hr_aload_n X dX4_trust_31 rfl ?_
      refine hr_bipush X (-6) dX4_trust_32 kb_m6 ?_
      refine hr_ldc_w X dX4_trust_34 (hf_c3 188 rfl rfl) ?_
      refine hr_cvI X [.int (-6), .int (-1000006)] [] (c_X4_refuse_ hl_t0 hs_t0 (-6) (-1000006) M6) lk_RX4_55 rfl rfl rfl hl_t0 hs_t0 ⟨by decide, rfl⟩ (by decide) (Nat.le_of_ble_eq_true rfl) dX4_trust_37 (fun r31 M32 _ => ?_)
      exact hr_iret X dX4_trust_40
  · refine hr_aload_n X dX4_trust_11 rfl ?_
    refine hr_iconst X (-1) dX4_trust_12 kc_m1 ?_
    refine hr_ldc_w X dX4_trust_13 (hf_c3 187 rfl rfl) ?_
    refine hr_cvI X [.int (-1), .int (-1000001)] [] (c_X4_refuse_ hl_t0 hs_t0 (-1) (-1000001) M3) lk_RX4_55 rfl rfl rfl hl_t0 hs_t0 ⟨by decide, rfl⟩ (by decide) (Nat.le_of_ble_eq_true rfl) dX4_trust_16 (fun r33 M34 _ => ?_)
    exact hr_iret X dX4_trust_19
set_option maxRecDepth 100000 in
set_option maxHeartbeats 4000000 in
theorem w_X4_witness_6 {g : hf_G} {p : Program} {l : Launch} {ev : Env} {s : State} {m : MethodId} {args : Array Value} {below : List Frame} {meth : Method} {c : Code} (X : hf_X g p s m args meth c cX4_witness 5 RX4 (some .int))    {t0 : Nat} (hl_t0 : t0 < 69) (hs_t0 : hf_shp t0 = 4) : ∀ (n : Nat) (v1 : Int32) (v2 : Int32) (v3 : Int32) (M : hf_M), hf_W g p l ev (5) s m args below meth c 5 (hf_QI g below args s) M 6 [some (.ref (hf_a g t0)), some (.int v1), some (.int v2), some (.int v3), none] [] (s_X4_witness_6 t0 n v1 v2 v3 M) := by
  intro n
  induction n with
  | zero =>
    intros
    exact hr_none
  | succ n ih =>
    intro v1 v2 v3 M
    rw [s_X4_witness_6]
    refine hr_iload_n X dX4_witness_6 rfl ?_
    refine hr_aload_n X dX4_witness_7 rfl ?_
    refine hr_gR X 3 hl_t0 hs_t0 lg_RX4_10 rfl dX4_witness_8 (fun q1 hl_q1 hs_q1 => ?_)
    refine hr_gI X hl_q1 hs_q1 lg_RX4_140 dX4_witness_11 ?_
    refine hr_icmp_ge X 52 dX4_witness_14 rfl ?_ ?_
    · refine hr_iload_n X dX4_witness_52 rfl ?_
      refine hr_iconst X (-1) dX4_witness_53 kc_m1 ?_
      refine hr_icmp_ne X 66 dX4_witness_54 rfl ?_ ?_
      · refine hr_iload_n X dX4_witness_66 rfl ?_
        exact hr_iret X dX4_witness_67
      · refine hr_aload_n X dX4_witness_57 rfl ?_
        refine hr_bipush X (-5) dX4_witness_58 kb_m5 ?_
        refine hr_cvI X [.int (-5)] [] (c_X4_refuse hl_t0 hs_t0 (-5) M) lk_RX4_82 rfl rfl rfl hl_t0 hs_t0 ⟨by decide, rfl⟩ (by decide) (Nat.le_of_ble_eq_true rfl) dX4_witness_60 (fun r2 M3 _ => ?_)
        refine hr_goto X 67 dX4_witness_63 rfl ?_
        exact hr_iret X dX4_witness_67
    · refine hr_aload_n X dX4_witness_17 rfl ?_
      refine hr_gR X 3 hl_t0 hs_t0 lg_RX4_10 rfl dX4_witness_18 (fun q4 hl_q4 hs_q4 => ?_)
      refine hr_iload_n X dX4_witness_21 rfl ?_
      refine hr_cvJ X [.int v3] [] (c_X3_possibleWithout hl_q4 hs_q4 v3 M) lk_RX4_278 rfl rfl rfl hl_q4 hs_q4 ⟨by decide, rfl⟩ (by decide) (Nat.le_of_ble_eq_true rfl) dX4_witness_22 (fun r5 M6 _ => ?_)
      refine hr_csI X [.long r5] [] (c_J13_bitCount_95d88 r5 M6) lk_RX4_178 rfl rfl rfl (by decide) (Nat.le_of_ble_eq_true rfl) dX4_witness_25 (fun r7 M8 _ => ?_)
      refine hr_istore X dX4_witness_28 (by decide) rfl ?_
      refine hr_iload_n X dX4_witness_30 rfl ?_
      refine hr_iconst X (-1) dX4_witness_31 kc_m1 ?_
      refine hr_icmp_eq X 41 dX4_witness_32 rfl ?_ ?_
      · refine hr_iload_n X dX4_witness_41 rfl ?_
        refine hr_istore_n X dX4_witness_42 (by decide) rfl ?_
        refine hr_iload X dX4_witness_43 rfl ?_
        refine hr_istore_n X dX4_witness_45 (by decide) rfl ?_
        refine hr_iinc X (v3 + 1) dX4_witness_46 rfl (by rw [kc_1]) (by decide) rfl ?_
        refine hr_goto X 6 dX4_witness_49 rfl ?_
        exact hr_wk (hs_some (hs_some (hs_some (hs_some (hs_none (hs_nil)))))) (ih v3 r7 (v3 + 1) M8)
      · refine hr_iload X dX4_witness_35 rfl ?_
        refine hr_iload_n X dX4_witness_37 rfl ?_
        refine hr_icmp_le X 46 dX4_witness_38 rfl ?_ ?_
        · refine hr_iinc X (v3 + 1) dX4_witness_46 rfl (by rw [kc_1]) (by decide) rfl ?_
          refine hr_goto X 6 dX4_witness_49 rfl ?_
          exact hr_wk (hs_some (hs_some (hs_some (hs_some (hs_none (hs_nil)))))) (ih v1 v2 (v3 + 1) M8)
        · refine hr_iload_n X dX4_witness_41 rfl ?_
          refine hr_istore_n X dX4_witness_42 (by decide) rfl ?_
          refine hr_iload X dX4_witness_43 rfl ?_
          refine hr_istore_n X dX4_witness_45 (by decide) rfl ?_
          refine hr_iinc X (v3 + 1) dX4_witness_46 rfl (by rw [kc_1]) (by decide) rfl ?_
          refine hr_goto X 6 dX4_witness_49 rfl ?_
          exact hr_wk (hs_some (hs_some (hs_some (hs_some (hs_none (hs_nil)))))) (ih v3 r7 (v3 + 1) M8)
set_option maxRecDepth 100000 in
set_option maxHeartbeats 4000000 in
theorem c_X4_witness  {t0 : Nat} (hl_t0 : t0 < 69) (hs_t0 : hf_shp t0 = 4) (M : hf_M) : hf_CI yX4_witness cX4_witness 5 (some .int) (5) (fun g => [.ref (hf_a g t0)]) M (s_X4_witness t0 M) := by
  refine hf_metI (by decide +kernel) (fun g => Nat.le_of_ble_eq_true rfl) (fun g p l ev s m args below meth c X => ?_)
  have X : hf_X g p s m args meth c cX4_witness 5 RX4 (some .int) := X
  show hf_W g p l ev (5) s m args below meth c 5 (hf_QI g below args s) M 0 [some (.ref (hf_a g t0)), none, none, none, none] [] (s_X4_witness t0 M)
  unfold s_X4_witness
  refine hr_iconst X (-1) dX4_witness_0 kc_m1 ?_
  refine hr_istore_n X dX4_witness_1 (by decide) rfl ?_
  refine hr_iconst X 0 dX4_witness_2 kc_0 ?_
  refine hr_istore_n X dX4_witness_3 (by decide) rfl ?_
  refine hr_iconst X 0 dX4_witness_4 kc_0 ?_
  refine hr_istore_n X dX4_witness_5 (by decide) rfl ?_
  exact hr_wk (hs_some (hs_some (hs_some (hs_some (hs_none (hs_nil)))))) (w_X4_witness_6 X hl_t0 hs_t0 2000 (-1) 0 0 M)
set_option maxRecDepth 100000 in
set_option maxHeartbeats 4000000 in
theorem c_X4_toldAfter  {t0 : Nat} (hl_t0 : t0 < 69) (hs_t0 : hf_shp t0 = 4) (a1 : Int32) (a2 : Int64) (M : hf_M) : hf_CJ yX4_toldAfter cX4_toldAfter 7 (some .long) (4) (fun g => [.ref (hf_a g t0), .int a1, .long a2]) M (s_X4_toldAfter t0 a1 a2 M) := by
  refine hf_metJ (by decide +kernel) (fun g => Nat.le_of_ble_eq_true rfl) (fun g p l ev s m args below meth c X => ?_)
  have X : hf_X g p s m args meth c cX4_toldAfter 7 RX4 (some .long) := X
  show hf_W g p l ev (4) s m args below meth c 7 (hf_QJ g below args s) M 0 [some (.ref (hf_a g t0)), some (.int a1), some (.long a2), none, none, none, none] [] (s_X4_toldAfter t0 a1 a2 M)
  unfold s_X4_toldAfter
  refine hr_iload_n X dX4_toldAfter_0 rfl ?_
  refine hr_bipush X 100 dX4_toldAfter_1 kb_100 ?_
  refine hr_idiv X dX4_toldAfter_3 (by decide) ?_
  refine hr_istore X dX4_toldAfter_4 (by decide) rfl ?_
  refine hr_iload_n X dX4_toldAfter_6 rfl ?_
  refine hr_bipush X 10 dX4_toldAfter_7 kb_10 ?_
  refine hr_idiv X dX4_toldAfter_9 (by decide) ?_
  refine hr_bipush X 10 dX4_toldAfter_10 kb_10 ?_
  refine hr_irem X dX4_toldAfter_12 (by decide) ?_
  refine hr_istore X dX4_toldAfter_13 (by decide) rfl ?_
  refine hr_iload_n X dX4_toldAfter_15 rfl ?_
  refine hr_bipush X 10 dX4_toldAfter_16 kb_10 ?_
  refine hr_irem X dX4_toldAfter_18 (by decide) ?_
  refine hr_istore X dX4_toldAfter_19 (by decide) rfl ?_
  refine hr_iload_n X dX4_toldAfter_21 rfl ?_
  refine hr_if_lt X 67 dX4_toldAfter_22 rfl ?_ ?_
  · refine hr_lconst X 0 dX4_toldAfter_67 rfl ?_
    exact hr_lret X dX4_toldAfter_68
  · refine hr_iload X dX4_toldAfter_25 rfl ?_
    refine hr_iconst X 1 dX4_toldAfter_27 kc_1 ?_
    refine hr_icmp_gt X 67 dX4_toldAfter_28 rfl ?_ ?_
    · refine hr_lconst X 0 dX4_toldAfter_67 rfl ?_
      exact hr_lret X dX4_toldAfter_68
    · refine hr_aload_n X dX4_toldAfter_31 rfl ?_
      refine hr_gR X 3 hl_t0 hs_t0 lg_RX4_19 rfl dX4_toldAfter_32 (fun q1 hl_q1 hs_q1 => ?_)
      refine hr_iload X dX4_toldAfter_35 rfl ?_
      refine hr_cvI X [.int (hn_irem (a1 / 10) 10)] [] (c_X3_isFact hl_q1 hs_q1 (hn_irem (a1 / 10) 10) M) lk_RX4_158 rfl rfl rfl hl_q1 hs_q1 ⟨by decide, rfl⟩ (by decide) (Nat.le_of_ble_eq_true rfl) dX4_toldAfter_37 (fun r2 M3 _ => ?_)
      refine hr_if_eq X 67 dX4_toldAfter_40 rfl ?_ ?_
      · refine hr_lconst X 0 dX4_toldAfter_67 rfl ?_
        exact hr_lret X dX4_toldAfter_68
      · refine hr_aload_n X dX4_toldAfter_43 rfl ?_
        refine hr_gR X 3 hl_t0 hs_t0 lg_RX4_19 rfl dX4_toldAfter_44 (fun q4 hl_q4 hs_q4 => ?_)
        refine hr_iload X dX4_toldAfter_47 rfl ?_
        refine hr_cvI X [.int (a1 / 100)] [] (c_X3_isSpeaker hl_q4 hs_q4 (a1 / 100) M3) lk_RX4_119 rfl rfl rfl hl_q4 hs_q4 ⟨by decide, rfl⟩ (by decide) (Nat.le_of_ble_eq_true rfl) dX4_toldAfter_49 (fun r5 M6 _ => ?_)
        refine hr_if_eq X 67 dX4_toldAfter_52 rfl ?_ ?_
        · refine hr_lconst X 0 dX4_toldAfter_67 rfl ?_
          exact hr_lret X dX4_toldAfter_68
        · refine hr_aload_n X dX4_toldAfter_55 rfl ?_
          refine hr_gR X 3 hl_t0 hs_t0 lg_RX4_19 rfl dX4_toldAfter_56 (fun q7 hl_q7 hs_q7 => ?_)
          refine hr_iload X dX4_toldAfter_59 rfl ?_
          refine hr_cvI X [.int (a1 / 100)] [] (c_X3_isFull hl_q7 hs_q7 (a1 / 100) M6) lk_RX4_164 rfl rfl rfl hl_q7 hs_q7 ⟨by decide, rfl⟩ (by decide) (Nat.le_of_ble_eq_true rfl) dX4_toldAfter_61 (fun r8 M9 _ => ?_)
          refine hr_if_eq X 69 dX4_toldAfter_64 rfl ?_ ?_
          · refine hr_aload_n X dX4_toldAfter_69 rfl ?_
            refine hr_gR X 3 hl_t0 hs_t0 lg_RX4_19 rfl dX4_toldAfter_70 (fun q10 hl_q10 hs_q10 => ?_)
            refine hr_iload X dX4_toldAfter_73 rfl ?_
            refine hr_iload X dX4_toldAfter_75 rfl ?_
            refine hr_iload X dX4_toldAfter_77 rfl ?_
            refine hr_iconst X 1 dX4_toldAfter_79 kc_1 ?_
            refine hr_icmp_ne X 87 dX4_toldAfter_80 rfl ?_ ?_
            · refine hr_iconst X 0 dX4_toldAfter_87 kc_0 ?_
              refine hr_cvV X [.int (a1 / 100), .int (hn_irem (a1 / 10) 10), .int 0] [] (c_X3_put hl_q10 hs_q10 (a1 / 100) (hn_irem (a1 / 10) 10) 0 M9) lk_RX4_175 rfl rfl rfl hl_q10 hs_q10 ⟨by decide, rfl⟩ (by decide) (Nat.le_of_ble_eq_true rfl) dX4_toldAfter_88 (fun _ M12 _ => ?_)
              refine hr_lload_n X dX4_toldAfter_91 rfl ?_
              refine hr_aload_n X dX4_toldAfter_92 rfl ?_
              refine hr_gR X 3 hl_t0 hs_t0 lg_RX4_19 rfl dX4_toldAfter_93 (fun q13 hl_q13 hs_q13 => ?_)
              refine hr_iload X dX4_toldAfter_96 rfl ?_
              refine hr_ldc2 X dX4_toldAfter_98 (hf_c2 101 rfl rfl) ?_
              refine hr_cvJ X [.int (a1 / 100), .long (-1)] [.long a2] (c_X3_allowed hl_q13 hs_q13 (a1 / 100) (-1) M12) lk_RX4_216 rfl rfl rfl hl_q13 hs_q13 ⟨by decide, rfl⟩ (by decide) (Nat.le_of_ble_eq_true rfl) dX4_toldAfter_101 (fun r14 M15 _ => ?_)
              refine hr_land X dX4_toldAfter_104 ?_
              exact hr_lret X dX4_toldAfter_105
            · refine hr_iconst X 1 dX4_toldAfter_83 kc_1 ?_
              refine hr_goto X 88 dX4_toldAfter_84 rfl ?_
              refine hr_cvV X [.int (a1 / 100), .int (hn_irem (a1 / 10) 10), .int 1] [] (c_X3_put hl_q10 hs_q10 (a1 / 100) (hn_irem (a1 / 10) 10) 1 M9) lk_RX4_175 rfl rfl rfl hl_q10 hs_q10 ⟨by decide, rfl⟩ (by decide) (Nat.le_of_ble_eq_true rfl) dX4_toldAfter_88 (fun _ M17 _ => ?_)
              refine hr_lload_n X dX4_toldAfter_91 rfl ?_
              refine hr_aload_n X dX4_toldAfter_92 rfl ?_
              refine hr_gR X 3 hl_t0 hs_t0 lg_RX4_19 rfl dX4_toldAfter_93 (fun q18 hl_q18 hs_q18 => ?_)
              refine hr_iload X dX4_toldAfter_96 rfl ?_
              refine hr_ldc2 X dX4_toldAfter_98 (hf_c2 101 rfl rfl) ?_
              refine hr_cvJ X [.int (a1 / 100), .long (-1)] [.long a2] (c_X3_allowed hl_q18 hs_q18 (a1 / 100) (-1) M17) lk_RX4_216 rfl rfl rfl hl_q18 hs_q18 ⟨by decide, rfl⟩ (by decide) (Nat.le_of_ble_eq_true rfl) dX4_toldAfter_101 (fun r19 M20 _ => ?_)
              refine hr_land X dX4_toldAfter_104 ?_
              exact hr_lret X dX4_toldAfter_105
          · refine hr_lconst X 0 dX4_toldAfter_67 rfl ?_
            exact hr_lret X dX4_toldAfter_68
set_option maxRecDepth 100000 in
set_option maxHeartbeats 4000000 in
theorem w_X4_judge_86 {g : hf_G} {p : Program} {l : Launch} {ev : Env} {s : State} {m : MethodId} {args : Array Value} {below : List Frame} {meth : Method} {c : Code} (X : hf_X g p s m args meth c cX4_judge 7 RX4 (some .int))    {t0 : Nat} (hl_t0 : t0 < 69) (hs_t0 : hf_shp t0 = 4) (v1 : Int32) (v2 : Int32) : ∀ (n : Nat) (v4 : Int64) (v6 : Int32) (M : hf_M), hf_W g p l ev (5) s m args below meth c 7 (hf_QI g below args s) M 86 [some (.ref (hf_a g t0)), some (.int v1), some (.int v2), none, some (.long v4), none, some (.int v6)] [] (s_X4_judge_86 t0 v1 v2 n v4 v6 M) := by
  intro n
  induction n with
  | zero =>
    intros
    exact hr_none
  | succ n ih =>
    intro v4 v6 M
    rw [s_X4_judge_86]
    refine hr_iload X dX4_judge_86 rfl ?_
    refine hr_iload_n X dX4_judge_88 rfl ?_
    refine hr_icmp_ge X 127 dX4_judge_89 rfl ?_ ?_
    · refine hr_iconst X (-1) dX4_judge_127 kc_m1 ?_
      exact hr_iret X dX4_judge_128
    · refine hr_aload_n X dX4_judge_92 rfl ?_
      refine hr_aload_n X dX4_judge_93 rfl ?_
      refine hr_gR X 8 hl_t0 hs_t0 lg_RX4_24 rfl dX4_judge_94 (fun q1 hl_q1 hs_q1 => ?_)
      refine hr_iload_n X dX4_judge_97 rfl ?_
      refine hr_aald X hl_q1 hs_q1 (hf_l8 hl_q1 hs_q1) dX4_judge_98 (fun q2 hl_q2 hs_q2 => ?_)
      refine hr_iload X dX4_judge_99 rfl ?_
      refine hr_cvI X [.int v6] [.ref (hf_a g t0)] (c_X2_asInt hl_q2 hs_q2 v6 M) lk_RX4_264 rfl rfl rfl hl_q2 hs_q2 ⟨by decide, rfl⟩ (by decide) (Nat.le_of_ble_eq_true rfl) dX4_judge_101 (fun r3 M4 _ => ?_)
      refine hr_lload X dX4_judge_104 rfl ?_
      refine hr_cvJ X [.int r3, .long v4] [] (c_X4_toldAfter hl_t0 hs_t0 r3 v4 M4) lk_RX4_282 rfl rfl rfl hl_t0 hs_t0 ⟨by decide, rfl⟩ (by decide) (Nat.le_of_ble_eq_true rfl) dX4_judge_106 (fun r5 M6 _ => ?_)
      refine hr_lstore X dX4_judge_109 (by decide) rfl ?_
      refine hr_lload X dX4_judge_111 rfl ?_
      refine hr_lconst X 0 dX4_judge_113 rfl ?_
      refine hr_lcmp X dX4_judge_114 ?_
      refine hr_if_ne X 121 dX4_judge_115 rfl ?_ ?_
      · refine hr_iinc X (v6 + 1) dX4_judge_121 rfl (by rw [kc_1]) (by decide) rfl ?_
        refine hr_goto X 86 dX4_judge_124 rfl ?_
        exact hr_wk (hs_some (hs_some (hs_some (hs_none (hs_some (hs_none (hs_some (hs_nil)))))))) (ih r5 (v6 + 1) M6)
      · refine hr_iload X dX4_judge_118 rfl ?_
        exact hr_iret X dX4_judge_120
set_option maxRecDepth 100000 in
set_option maxHeartbeats 4000000 in
theorem c_X4_judge  {t0 : Nat} (hl_t0 : t0 < 69) (hs_t0 : hf_shp t0 = 4) (a1 : Int32) (a2 : Int32) (M : hf_M) : hf_CI yX4_judge cX4_judge 7 (some .int) (5) (fun g => [.ref (hf_a g t0), .int a1, .int a2]) M (s_X4_judge t0 a1 a2 M) := by
  refine hf_metI (by decide +kernel) (fun g => Nat.le_of_ble_eq_true rfl) (fun g p l ev s m args below meth c X => ?_)
  have X : hf_X g p s m args meth c cX4_judge 7 RX4 (some .int) := X
  show hf_W g p l ev (5) s m args below meth c 7 (hf_QI g below args s) M 0 [some (.ref (hf_a g t0)), some (.int a1), some (.int a2), none, none, none, none] [] (s_X4_judge t0 a1 a2 M)
  unfold s_X4_judge
  refine hr_aload_n X dX4_judge_0 rfl ?_
  refine hr_iload_n X dX4_judge_1 rfl ?_
  refine hr_cvI X [.int a1] [] (c_X4_noRow hl_t0 hs_t0 a1 M) lk_RX4_93 rfl rfl rfl hl_t0 hs_t0 ⟨by decide, rfl⟩ (by decide) (Nat.le_of_ble_eq_true rfl) dX4_judge_2 (fun r1 M2 _ => ?_)
  refine hr_istore_n X dX4_judge_5 (by decide) rfl ?_
  refine hr_iload_n X dX4_judge_6 rfl ?_
  refine hr_if_eq X 16 dX4_judge_7 rfl ?_ ?_
  · refine hr_iload_n X dX4_judge_16 rfl ?_
    refine hr_if_ge X 27 dX4_judge_17 rfl ?_ ?_
    · refine hr_iload_n X dX4_judge_27 rfl ?_
      refine hr_aload_n X dX4_judge_28 rfl ?_
      refine hr_gR X 8 hl_t0 hs_t0 lg_RX4_24 rfl dX4_judge_29 (fun q3 hl_q3 hs_q3 => ?_)
      refine hr_iload_n X dX4_judge_32 rfl ?_
      refine hr_aald X hl_q3 hs_q3 (hf_l8 hl_q3 hs_q3) dX4_judge_33 (fun q4 hl_q4 hs_q4 => ?_)
      refine hr_gI X hl_q4 hs_q4 lg_RX4_261 dX4_judge_34 ?_
      refine hr_icmp_le X 47 dX4_judge_37 rfl ?_ ?_
      · refine hr_iload_n X dX4_judge_47 rfl ?_
        refine hr_bipush X 24 dX4_judge_48 kb_24 ?_
        refine hr_icmp_le X 60 dX4_judge_50 rfl ?_ ?_
        · refine hr_aload_n X dX4_judge_60 rfl ?_
          refine hr_gR X 3 hl_t0 hs_t0 lg_RX4_19 rfl dX4_judge_61 (fun q5 hl_q5 hs_q5 => ?_)
          refine hr_aload_n X dX4_judge_64 rfl ?_
          refine hr_gR X 3 hl_t0 hs_t0 lg_RX4_10 rfl dX4_judge_65 (fun q6 hl_q6 hs_q6 => ?_)
          refine hr_cvV X [.ref (hf_a g q6)] [] (c_X3_takeOver hl_q5 hs_q5 hl_q6 hs_q6 M2) lk_RX4_202 rfl rfl rfl hl_q5 hs_q5 ⟨by decide, rfl⟩ (by decide) (Nat.le_of_ble_eq_true rfl) dX4_judge_68 (fun _ M8 _ => ?_)
          refine hr_aload_n X dX4_judge_71 rfl ?_
          refine hr_gR X 3 hl_t0 hs_t0 lg_RX4_19 rfl dX4_judge_72 (fun q9 hl_q9 hs_q9 => ?_)
          refine hr_ldc2 X dX4_judge_75 (hf_c2 101 rfl rfl) ?_
          refine hr_cvJ X [.long (-1)] [] (c_X3_possible hl_q9 hs_q9 (-1) M8) lk_RX4_167 rfl rfl rfl hl_q9 hs_q9 ⟨by decide, rfl⟩ (by decide) (Nat.le_of_ble_eq_true rfl) dX4_judge_78 (fun r10 M11 _ => ?_)
          refine hr_lstore X dX4_judge_81 (by decide) rfl ?_
          refine hr_iconst X 0 dX4_judge_83 kc_0 ?_
          refine hr_istore X dX4_judge_84 (by decide) rfl ?_
          exact hr_wk (hs_some (hs_some (hs_some (hs_none (hs_some (hs_none (hs_some (hs_nil)))))))) (w_X4_judge_86 X hl_t0 hs_t0 a1 a2 2000 r10 0 M11)
        · refine hr_aload_n X dX4_judge_53 rfl ?_
          refine hr_bipush X (-6) dX4_judge_54 kb_m6 ?_
          refine hr_cvI X [.int (-6)] [] (c_X4_refuse hl_t0 hs_t0 (-6) M2) lk_RX4_82 rfl rfl rfl hl_t0 hs_t0 ⟨by decide, rfl⟩ (by decide) (Nat.le_of_ble_eq_true rfl) dX4_judge_56 (fun r12 M13 _ => ?_)
          exact hr_iret X dX4_judge_59
      · refine hr_aload_n X dX4_judge_40 rfl ?_
        refine hr_bipush X (-5) dX4_judge_41 kb_m5 ?_
        refine hr_cvI X [.int (-5)] [] (c_X4_refuse hl_t0 hs_t0 (-5) M2) lk_RX4_82 rfl rfl rfl hl_t0 hs_t0 ⟨by decide, rfl⟩ (by decide) (Nat.le_of_ble_eq_true rfl) dX4_judge_43 (fun r14 M15 _ => ?_)
        exact hr_iret X dX4_judge_46
    · refine hr_aload_n X dX4_judge_20 rfl ?_
      refine hr_bipush X (-4) dX4_judge_21 kb_m4 ?_
      refine hr_cvI X [.int (-4)] [] (c_X4_refuse hl_t0 hs_t0 (-4) M2) lk_RX4_82 rfl rfl rfl hl_t0 hs_t0 ⟨by decide, rfl⟩ (by decide) (Nat.le_of_ble_eq_true rfl) dX4_judge_23 (fun r16 M17 _ => ?_)
      exact hr_iret X dX4_judge_26
  · refine hr_aload_n X dX4_judge_10 rfl ?_
    refine hr_iload_n X dX4_judge_11 rfl ?_
    refine hr_cvI X [.int r1] [] (c_X4_refuse hl_t0 hs_t0 r1 M2) lk_RX4_82 rfl rfl rfl hl_t0 hs_t0 ⟨by decide, rfl⟩ (by decide) (Nat.le_of_ble_eq_true rfl) dX4_judge_12 (fun r18 M19 _ => ?_)
    exact hr_iret X dX4_judge_15
set_option maxRecDepth 100000 in
set_option maxHeartbeats 4000000 in
theorem c_X4_sunset  {t0 : Nat} (hl_t0 : t0 < 69) (hs_t0 : hf_shp t0 = 4) (M : hf_M) : hf_CI yX4_sunset cX4_sunset 1 (some .int) (5) (fun g => [.ref (hf_a g t0)]) M (s_X4_sunset t0 M) := by
  refine hf_metI (by decide +kernel) (fun g => Nat.le_of_ble_eq_true rfl) (fun g p l ev s m args below meth c X => ?_)
  have X : hf_X g p s m args meth c cX4_sunset 1 RX4 (some .int) := X
  show hf_W g p l ev (5) s m args below meth c 1 (hf_QI g below args s) M 0 [some (.ref (hf_a g t0))] [] (s_X4_sunset t0 M)
  unfold s_X4_sunset
  refine hr_aload_n X dX4_sunset_0 rfl ?_
  refine hr_gR X 3 hl_t0 hs_t0 lg_RX4_10 rfl dX4_sunset_1 (fun q1 hl_q1 hs_q1 => ?_)
  refine hr_aload_n X dX4_sunset_4 rfl ?_
  refine hr_gR X 3 hl_t0 hs_t0 lg_RX4_10 rfl dX4_sunset_5 (fun q2 hl_q2 hs_q2 => ?_)
  refine hr_ldc2 X dX4_sunset_8 (hf_c2 101 rfl rfl) ?_
  refine hr_cvJ X [.long (-1)] [.ref (hf_a g q1)] (c_X3_possible hl_q2 hs_q2 (-1) M) lk_RX4_167 rfl rfl rfl hl_q2 hs_q2 ⟨by decide, rfl⟩ (by decide) (Nat.le_of_ble_eq_true rfl) dX4_sunset_11 (fun r3 M4 _ => ?_)
  refine hr_pL X hl_q1 hs_q1 lp_RX4_198 dX4_sunset_14 (fun M5 eM5 => ?_)
  refine hr_aload_n X dX4_sunset_17 rfl ?_
  refine hr_gR X 3 hl_t0 hs_t0 lg_RX4_10 rfl dX4_sunset_18 (fun q6 hl_q6 hs_q6 => ?_)
  refine hr_cvV X [] [] (c_X3_forgetSayings hl_q6 hs_q6 M5) lk_RX4_285 rfl rfl rfl hl_q6 hs_q6 ⟨by decide, rfl⟩ (by decide) (Nat.le_of_ble_eq_true rfl) dX4_sunset_21 (fun _ M8 _ => ?_)
  refine hr_aload_n X dX4_sunset_24 rfl ?_
  refine hr_gR X 3 hl_t0 hs_t0 lg_RX4_10 rfl dX4_sunset_25 (fun q9 hl_q9 hs_q9 => ?_)
  refine hr_dup X dX4_sunset_28 rfl ?_
  refine hr_gI X hl_q9 hs_q9 lg_RX4_288 dX4_sunset_29 ?_
  refine hr_iconst X 1 dX4_sunset_32 kc_1 ?_
  refine hr_iadd X dX4_sunset_33 ?_
  refine hr_pI X hl_q9 hs_q9 lp_RX4_288 dX4_sunset_34 (fun M10 eM10 => ?_)
  refine hr_aload_n X dX4_sunset_37 rfl ?_
  refine hr_gR X 3 hl_t0 hs_t0 lg_RX4_10 rfl dX4_sunset_38 (fun q11 hl_q11 hs_q11 => ?_)
  refine hr_gL X hl_q11 hs_q11 lg_RX4_198 dX4_sunset_41 ?_
  refine hr_csI X [.long (M10.2.1 q11 11)] [] (c_J13_bitCount_95d88 (M10.2.1 q11 11) M10) lk_RX4_178 rfl rfl rfl (by decide) (Nat.le_of_ble_eq_true rfl) dX4_sunset_44 (fun r12 M13 _ => ?_)
  exact hr_iret X dX4_sunset_47
set_option maxRecDepth 100000 in
set_option maxHeartbeats 4000000 in
theorem w_X4_draw_29 {g : hf_G} {p : Program} {l : Launch} {ev : Env} {s : State} {m : MethodId} {args : Array Value} {below : List Frame} {meth : Method} {c : Code} (X : hf_X g p s m args meth c cX4_draw 6 RX4 (some .int))    {t0 : Nat} (hl_t0 : t0 < 69) (hs_t0 : hf_shp t0 = 4) (v1 : Int64) (v3 : Int32) : ∀ (n : Nat) (v4 : Int32) (v5 : Int32) (M : hf_M), hf_W g p l ev (5) s m args below meth c 6 (hf_QI g below args s) M 29 [some (.ref (hf_a g t0)), some (.long v1), none, some (.int v3), some (.int v4), some (.int v5)] [] (s_X4_draw_29 t0 v1 v3 n v4 v5 M) := by
  intro n
  induction n with
  | zero =>
    intros
    exact hr_none
  | succ n ih =>
    intro v4 v5 M
    rw [s_X4_draw_29]
    refine hr_iload X dX4_draw_29 rfl ?_
    refine hr_bipush X 64 dX4_draw_31 kb_64 ?_
    refine hr_icmp_ge X 69 dX4_draw_33 rfl ?_ ?_
    · refine hr_iload_n X dX4_draw_69 rfl ?_
      exact hr_iret X dX4_draw_70
    · refine hr_lload_n X dX4_draw_36 rfl ?_
      refine hr_iload X dX4_draw_37 rfl ?_
      refine hr_csI X [.long v1, .int v5] [] (c_X4_bit v1 v5 M) lk_RX4_220 rfl rfl rfl (by decide) (Nat.le_of_ble_eq_true rfl) dX4_draw_39 (fun r1 M2 _ => ?_)
      refine hr_iconst X 1 dX4_draw_42 kc_1 ?_
      refine hr_icmp_ne X 63 dX4_draw_43 rfl ?_ ?_
      · refine hr_iinc X (v5 + 1) dX4_draw_63 rfl (by rw [kc_1]) (by decide) rfl ?_
        refine hr_goto X 29 dX4_draw_66 rfl ?_
        exact hr_wk (hs_some (hs_some (hs_none (hs_some (hs_some (hs_some (hs_nil))))))) (ih v4 (v5 + 1) M2)
      · refine hr_iload X dX4_draw_46 rfl ?_
        refine hr_if_ne X 60 dX4_draw_48 rfl ?_ ?_
        · refine hr_iinc X (v4 + (-1)) dX4_draw_60 rfl (by rw [kc_m1]) (by decide) rfl ?_
          refine hr_iinc X (v5 + 1) dX4_draw_63 rfl (by rw [kc_1]) (by decide) rfl ?_
          refine hr_goto X 29 dX4_draw_66 rfl ?_
          exact hr_wk (hs_some (hs_some (hs_none (hs_some (hs_some (hs_some (hs_nil))))))) (ih (v4 + (-1)) (v5 + 1) M2)
        · refine hr_aload_n X dX4_draw_51 rfl ?_
          refine hr_gR X 3 hl_t0 hs_t0 lg_RX4_10 rfl dX4_draw_52 (fun q3 hl_q3 hs_q3 => ?_)
          refine hr_iload X dX4_draw_55 rfl ?_
          refine hr_pI X hl_q3 hs_q3 lp_RX4_294 dX4_draw_57 (fun M4 eM4 => ?_)
          refine hr_iinc X (v4 + (-1)) dX4_draw_60 rfl (by rw [kc_m1]) (by decide) rfl ?_
          refine hr_iinc X (v5 + 1) dX4_draw_63 rfl (by rw [kc_1]) (by decide) rfl ?_
          refine hr_goto X 29 dX4_draw_66 rfl ?_
          exact hr_wk (hs_some (hs_some (hs_none (hs_some (hs_some (hs_some (hs_nil))))))) (ih (v4 + (-1)) (v5 + 1) M4)
set_option maxRecDepth 100000 in
set_option maxHeartbeats 4000000 in
theorem c_X4_draw  {t0 : Nat} (hl_t0 : t0 < 69) (hs_t0 : hf_shp t0 = 4) (M : hf_M) : hf_CI yX4_draw cX4_draw 6 (some .int) (5) (fun g => [.ref (hf_a g t0)]) M (s_X4_draw t0 M) := by
  refine hf_metI (by decide +kernel) (fun g => Nat.le_of_ble_eq_true rfl) (fun g p l ev s m args below meth c X => ?_)
  have X : hf_X g p s m args meth c cX4_draw 6 RX4 (some .int) := X
  show hf_W g p l ev (5) s m args below meth c 6 (hf_QI g below args s) M 0 [some (.ref (hf_a g t0)), none, none, none, none, none] [] (s_X4_draw t0 M)
  unfold s_X4_draw
  refine hr_aload_n X dX4_draw_0 rfl ?_
  refine hr_gR X 3 hl_t0 hs_t0 lg_RX4_10 rfl dX4_draw_1 (fun q1 hl_q1 hs_q1 => ?_)
  refine hr_ldc2 X dX4_draw_4 (hf_c2 101 rfl rfl) ?_
  refine hr_cvJ X [.long (-1)] [] (c_X3_possible hl_q1 hs_q1 (-1) M) lk_RX4_167 rfl rfl rfl hl_q1 hs_q1 ⟨by decide, rfl⟩ (by decide) (Nat.le_of_ble_eq_true rfl) dX4_draw_7 (fun r2 M3 _ => ?_)
  refine hr_lstore_n X dX4_draw_10 (by decide) rfl ?_
  refine hr_lload_n X dX4_draw_11 rfl ?_
  refine hr_csI X [.long r2] [] (c_J13_bitCount_95d88 r2 M3) lk_RX4_178 rfl rfl rfl (by decide) (Nat.le_of_ble_eq_true rfl) dX4_draw_12 (fun r4 M5 _ => ?_)
  refine hr_istore_n X dX4_draw_15 (by decide) rfl ?_
  refine hr_aload_n X dX4_draw_16 rfl ?_
  refine hr_gR X 3 hl_t0 hs_t0 lg_RX4_10 rfl dX4_draw_17 (fun q6 hl_q6 hs_q6 => ?_)
  refine hr_iload_n X dX4_draw_20 rfl ?_
  refine hr_cvI X [.int r4] [] (c_X3_drawBelow hl_q6 hs_q6 r4 M5) lk_RX4_291 rfl rfl rfl hl_q6 hs_q6 ⟨by decide, rfl⟩ (by decide) (Nat.le_of_ble_eq_true rfl) dX4_draw_21 (fun r7 M8 _ => ?_)
  refine hr_istore X dX4_draw_24 (by decide) rfl ?_
  refine hr_iconst X 0 dX4_draw_26 kc_0 ?_
  refine hr_istore X dX4_draw_27 (by decide) rfl ?_
  exact hr_wk (hs_some (hs_some (hs_none (hs_some (hs_some (hs_some (hs_nil))))))) (w_X4_draw_29 X hl_t0 hs_t0 r2 r4 2000 r7 0 M8)
set_option maxRecDepth 100000 in
set_option maxHeartbeats 4000000 in
theorem c_X4_truthInTruth  {t0 : Nat} (hl_t0 : t0 < 69) (hs_t0 : hf_shp t0 = 4) (a1 : Int32) (M : hf_M) : hf_CI yX4_truthInTruth cX4_truthInTruth 4 (some .int) (5) (fun g => [.ref (hf_a g t0), .int a1]) M (s_X4_truthInTruth t0 a1 M) := by
  refine hf_metI (by decide +kernel) (fun g => Nat.le_of_ble_eq_true rfl) (fun g p l ev s m args below meth c X => ?_)
  have X : hf_X g p s m args meth c cX4_truthInTruth 4 RX4 (some .int) := X
  show hf_W g p l ev (5) s m args below meth c 4 (hf_QI g below args s) M 0 [some (.ref (hf_a g t0)), some (.int a1), none, none] [] (s_X4_truthInTruth t0 a1 M)
  unfold s_X4_truthInTruth
  refine hr_aload_n X dX4_truthInTruth_0 rfl ?_
  refine hr_gR X 3 hl_t0 hs_t0 lg_RX4_10 rfl dX4_truthInTruth_1 (fun q1 hl_q1 hs_q1 => ?_)
  refine hr_iload_n X dX4_truthInTruth_4 rfl ?_
  refine hr_cvI X [.int a1] [] (c_X3_isFree hl_q1 hs_q1 a1 M) lk_RX4_272 rfl rfl rfl hl_q1 hs_q1 ⟨by decide, rfl⟩ (by decide) (Nat.le_of_ble_eq_true rfl) dX4_truthInTruth_5 (fun r2 M3 _ => ?_)
  refine hr_if_ne X 37 dX4_truthInTruth_8 rfl ?_ ?_
  · refine hr_aload_n X dX4_truthInTruth_37 rfl ?_
    refine hr_gR X 3 hl_t0 hs_t0 lg_RX4_10 rfl dX4_truthInTruth_38 (fun q4 hl_q4 hs_q4 => ?_)
    refine hr_iload_n X dX4_truthInTruth_41 rfl ?_
    refine hr_iconst X 1 dX4_truthInTruth_42 kc_1 ?_
    refine hr_cvJ X [.int a1, .int 1] [] (c_X3_allowedNext hl_q4 hs_q4 a1 1 M3) lk_RX4_275 rfl rfl rfl hl_q4 hs_q4 ⟨by decide, rfl⟩ (by decide) (Nat.le_of_ble_eq_true rfl) dX4_truthInTruth_43 (fun r5 M6 _ => ?_)
    refine hr_aload_n X dX4_truthInTruth_46 rfl ?_
    refine hr_gR X 3 hl_t0 hs_t0 lg_RX4_10 rfl dX4_truthInTruth_47 (fun q7 hl_q7 hs_q7 => ?_)
    refine hr_gI X hl_q7 hs_q7 lg_RX4_294 dX4_truthInTruth_50 ?_
    refine hr_csI X [.long r5, .int (M6.1 q7 16)] [] (c_X4_bit r5 (M6.1 q7 16) M6) lk_RX4_220 rfl rfl rfl (by decide) (Nat.le_of_ble_eq_true rfl) dX4_truthInTruth_53 (fun r8 M9 _ => ?_)
    refine hr_istore_n X dX4_truthInTruth_56 (by decide) rfl ?_
    refine hr_aload_n X dX4_truthInTruth_57 rfl ?_
    refine hr_gR X 3 hl_t0 hs_t0 lg_RX4_10 rfl dX4_truthInTruth_58 (fun q10 hl_q10 hs_q10 => ?_)
    refine hr_iload_n X dX4_truthInTruth_61 rfl ?_
    refine hr_iconst X 0 dX4_truthInTruth_62 kc_0 ?_
    refine hr_cvJ X [.int a1, .int 0] [] (c_X3_allowedNext hl_q10 hs_q10 a1 0 M9) lk_RX4_275 rfl rfl rfl hl_q10 hs_q10 ⟨by decide, rfl⟩ (by decide) (Nat.le_of_ble_eq_true rfl) dX4_truthInTruth_63 (fun r11 M12 _ => ?_)
    refine hr_aload_n X dX4_truthInTruth_66 rfl ?_
    refine hr_gR X 3 hl_t0 hs_t0 lg_RX4_10 rfl dX4_truthInTruth_67 (fun q13 hl_q13 hs_q13 => ?_)
    refine hr_gI X hl_q13 hs_q13 lg_RX4_294 dX4_truthInTruth_70 ?_
    refine hr_csI X [.long r11, .int (M12.1 q13 16)] [] (c_X4_bit r11 (M12.1 q13 16) M12) lk_RX4_220 rfl rfl rfl (by decide) (Nat.le_of_ble_eq_true rfl) dX4_truthInTruth_73 (fun r14 M15 _ => ?_)
    refine hr_istore_n X dX4_truthInTruth_76 (by decide) rfl ?_
    refine hr_iload_n X dX4_truthInTruth_77 rfl ?_
    refine hr_iconst X 1 dX4_truthInTruth_78 kc_1 ?_
    refine hr_icmp_ne X 96 dX4_truthInTruth_79 rfl ?_ ?_
    · refine hr_iload_n X dX4_truthInTruth_96 rfl ?_
      refine hr_if_ne X 106 dX4_truthInTruth_97 rfl ?_ ?_
      · refine hr_iload_n X dX4_truthInTruth_106 rfl ?_
        exact hr_iret X dX4_truthInTruth_107
      · refine hr_iload_n X dX4_truthInTruth_100 rfl ?_
        refine hr_if_ne X 106 dX4_truthInTruth_101 rfl ?_ ?_
        · refine hr_iload_n X dX4_truthInTruth_106 rfl ?_
          exact hr_iret X dX4_truthInTruth_107
        · refine hr_iconst X (-1) dX4_truthInTruth_104 kc_m1 ?_
          exact hr_iret X dX4_truthInTruth_105
    · refine hr_iload_n X dX4_truthInTruth_82 rfl ?_
      refine hr_iconst X 1 dX4_truthInTruth_83 kc_1 ?_
      refine hr_icmp_ne X 96 dX4_truthInTruth_84 rfl ?_ ?_
      · refine hr_iload_n X dX4_truthInTruth_96 rfl ?_
        refine hr_if_ne X 106 dX4_truthInTruth_97 rfl ?_ ?_
        · refine hr_iload_n X dX4_truthInTruth_106 rfl ?_
          exact hr_iret X dX4_truthInTruth_107
        · refine hr_iload_n X dX4_truthInTruth_100 rfl ?_
          refine hr_if_ne X 106 dX4_truthInTruth_101 rfl ?_ ?_
          · refine hr_iload_n X dX4_truthInTruth_106 rfl ?_
            exact hr_iret X dX4_truthInTruth_107
          · refine hr_iconst X (-1) dX4_truthInTruth_104 kc_m1 ?_
            exact hr_iret X dX4_truthInTruth_105
      · refine hr_aload_n X dX4_truthInTruth_87 rfl ?_
        refine hr_gR X 3 hl_t0 hs_t0 lg_RX4_10 rfl dX4_truthInTruth_88 (fun q16 hl_q16 hs_q16 => ?_)
        refine hr_iconst X 2 dX4_truthInTruth_91 kc_2 ?_
        refine hr_cvI X [.int 2] [] (c_X3_drawBelow hl_q16 hs_q16 2 M15) lk_RX4_291 rfl rfl rfl hl_q16 hs_q16 ⟨by decide, rfl⟩ (by decide) (Nat.le_of_ble_eq_true rfl) dX4_truthInTruth_92 (fun r17 M18 _ => ?_)
        exact hr_iret X dX4_truthInTruth_95
  · refine hr_aload_n X dX4_truthInTruth_11 rfl ?_
    refine hr_gR X 3 hl_t0 hs_t0 lg_RX4_10 rfl dX4_truthInTruth_12 (fun q19 hl_q19 hs_q19 => ?_)
    refine hr_iload_n X dX4_truthInTruth_15 rfl ?_
    refine hr_aload_n X dX4_truthInTruth_16 rfl ?_
    refine hr_gR X 3 hl_t0 hs_t0 lg_RX4_10 rfl dX4_truthInTruth_17 (fun q20 hl_q20 hs_q20 => ?_)
    refine hr_gR X 6 hl_q20 hs_q20 lg_RX4_127 rfl dX4_truthInTruth_20 (fun q21 hl_q21 hs_q21 => ?_)
    refine hr_iload_n X dX4_truthInTruth_23 rfl ?_
    refine hr_iald X hl_q21 hs_q21 dX4_truthInTruth_24 (fun r22 _ _ => ?_)
    refine hr_cvI X [.int a1, .int r22] [] (c_X3_mustBeTrue hl_q19 hs_q19 a1 r22 M3) lk_RX4_130 rfl rfl rfl hl_q19 hs_q19 ⟨by decide, rfl⟩ (by decide) (Nat.le_of_ble_eq_true rfl) dX4_truthInTruth_25 (fun r23 M24 _ => ?_)
    refine hr_if_eq X 35 dX4_truthInTruth_28 rfl ?_ ?_
    · refine hr_iconst X 0 dX4_truthInTruth_35 kc_0 ?_
      exact hr_iret X dX4_truthInTruth_36
    · refine hr_iconst X 1 dX4_truthInTruth_31 kc_1 ?_
      refine hr_goto X 36 dX4_truthInTruth_32 rfl ?_
      exact hr_iret X dX4_truthInTruth_36
set_option maxRecDepth 100000 in
set_option maxHeartbeats 4000000 in
theorem c_X4_ask  {t0 : Nat} (hl_t0 : t0 < 69) (hs_t0 : hf_shp t0 = 4) (a1 : Int32) (a2 : Int32) (M : hf_M) : hf_CI yX4_ask cX4_ask 6 (some .int) (6) (fun g => [.ref (hf_a g t0), .int a1, .int a2]) M (s_X4_ask t0 a1 a2 M) := by
  refine hf_metI (by decide +kernel) (fun g => Nat.le_of_ble_eq_true rfl) (fun g p l ev s m args below meth c X => ?_)
  have X : hf_X g p s m args meth c cX4_ask 6 RX4 (some .int) := X
  show hf_W g p l ev (6) s m args below meth c 6 (hf_QI g below args s) M 0 [some (.ref (hf_a g t0)), some (.int a1), some (.int a2), none, none, none] [] (s_X4_ask t0 a1 a2 M)
  unfold s_X4_ask
  refine hr_aload_n X dX4_ask_0 rfl ?_
  refine hr_gR X 3 hl_t0 hs_t0 lg_RX4_10 rfl dX4_ask_1 (fun q1 hl_q1 hs_q1 => ?_)
  refine hr_iload_n X dX4_ask_4 rfl ?_
  refine hr_cvI X [.int a1] [] (c_X3_isSpeaker hl_q1 hs_q1 a1 M) lk_RX4_119 rfl rfl rfl hl_q1 hs_q1 ⟨by decide, rfl⟩ (by decide) (Nat.le_of_ble_eq_true rfl) dX4_ask_5 (fun r2 M3 _ => ?_)
  refine hr_if_eq X 22 dX4_ask_8 rfl ?_ ?_
  · refine hr_aload_n X dX4_ask_22 rfl ?_
    refine hr_iconst X (-1) dX4_ask_23 kc_m1 ?_
    refine hr_cvI X [.int (-1)] [] (c_X4_refuse hl_t0 hs_t0 (-1) M3) lk_RX4_82 rfl rfl rfl hl_t0 hs_t0 ⟨by decide, rfl⟩ (by decide) (Nat.le_of_ble_eq_true rfl) dX4_ask_24 (fun r4 M5 _ => ?_)
    exact hr_iret X dX4_ask_27
  · refine hr_aload_n X dX4_ask_11 rfl ?_
    refine hr_gR X 3 hl_t0 hs_t0 lg_RX4_10 rfl dX4_ask_12 (fun q6 hl_q6 hs_q6 => ?_)
    refine hr_iload_n X dX4_ask_15 rfl ?_
    refine hr_cvI X [.int a2] [] (c_X3_isFact hl_q6 hs_q6 a2 M3) lk_RX4_158 rfl rfl rfl hl_q6 hs_q6 ⟨by decide, rfl⟩ (by decide) (Nat.le_of_ble_eq_true rfl) dX4_ask_16 (fun r7 M8 _ => ?_)
    refine hr_if_ne X 28 dX4_ask_19 rfl ?_ ?_
    · refine hr_aload_n X dX4_ask_28 rfl ?_
      refine hr_gR X 3 hl_t0 hs_t0 lg_RX4_10 rfl dX4_ask_29 (fun q9 hl_q9 hs_q9 => ?_)
      refine hr_iload_n X dX4_ask_32 rfl ?_
      refine hr_cvI X [.int a1] [] (c_X3_isFull hl_q9 hs_q9 a1 M8) lk_RX4_164 rfl rfl rfl hl_q9 hs_q9 ⟨by decide, rfl⟩ (by decide) (Nat.le_of_ble_eq_true rfl) dX4_ask_33 (fun r10 M11 _ => ?_)
      refine hr_if_ne X 50 dX4_ask_36 rfl ?_ ?_
      · refine hr_aload_n X dX4_ask_50 rfl ?_
        refine hr_bipush X (-6) dX4_ask_51 kb_m6 ?_
        refine hr_cvI X [.int (-6)] [] (c_X4_refuse hl_t0 hs_t0 (-6) M11) lk_RX4_82 rfl rfl rfl hl_t0 hs_t0 ⟨by decide, rfl⟩ (by decide) (Nat.le_of_ble_eq_true rfl) dX4_ask_53 (fun r12 M13 _ => ?_)
        exact hr_iret X dX4_ask_56
      · refine hr_aload_n X dX4_ask_39 rfl ?_
        refine hr_gR X 3 hl_t0 hs_t0 lg_RX4_10 rfl dX4_ask_40 (fun q14 hl_q14 hs_q14 => ?_)
        refine hr_gI X hl_q14 hs_q14 lg_RX4_294 dX4_ask_43 ?_
        refine hr_iconst X (-1) dX4_ask_46 kc_m1 ?_
        refine hr_icmp_ne X 57 dX4_ask_47 rfl ?_ ?_
        · refine hr_aload_n X dX4_ask_57 rfl ?_
          refine hr_gR X 3 hl_t0 hs_t0 lg_RX4_10 rfl dX4_ask_58 (fun q15 hl_q15 hs_q15 => ?_)
          refine hr_gI X hl_q15 hs_q15 lg_RX4_297 dX4_ask_61 ?_
          refine hr_istore_n X dX4_ask_64 (by decide) rfl ?_
          refine hr_aload_n X dX4_ask_65 rfl ?_
          refine hr_iload_n X dX4_ask_66 rfl ?_
          refine hr_cvI X [.int a1] [] (c_X4_truthInTruth hl_t0 hs_t0 a1 M11) lk_RX4_300 rfl rfl rfl hl_t0 hs_t0 ⟨by decide, rfl⟩ (by decide) (Nat.le_of_ble_eq_true rfl) dX4_ask_67 (fun r16 M17 _ => ?_)
          refine hr_istore X dX4_ask_70 (by decide) rfl ?_
          refine hr_gsSO X ls_RX4_59 dX4_ask_72 ?_
          refine hr_iload_n X dX4_ask_75 rfl ?_
          refine hr_ldSO X dX4_ask_76 (fun r18 _ _ => ?_)
          refine hr_aload_n X dX4_ask_77 rfl ?_
          refine hr_gR X 3 hl_t0 hs_t0 lg_RX4_10 rfl dX4_ask_78 (fun q19 hl_q19 hs_q19 => ?_)
          refine hr_gI X hl_q19 hs_q19 lg_RX4_294 dX4_ask_81 ?_
          refine hr_csI X [.long r18, .int (M17.1 q19 16)] [] (c_X4_bit r18 (M17.1 q19 16) M17) lk_RX4_220 rfl rfl rfl (by decide) (Nat.le_of_ble_eq_true rfl) dX4_ask_84 (fun r20 M21 _ => ?_)
          refine hr_iload X dX4_ask_87 rfl ?_
          refine hr_icmp_ne X 96 dX4_ask_89 rfl ?_ ?_
          · refine hr_iconst X 0 dX4_ask_96 kc_0 ?_
            refine hr_istore X dX4_ask_97 (by decide) rfl ?_
            refine hr_iload X dX4_ask_99 rfl ?_
            refine hr_iconst X (-1) dX4_ask_101 kc_m1 ?_
            refine hr_icmp_eq X 131 dX4_ask_102 rfl ?_ ?_
            · refine hr_aload_n X dX4_ask_131 rfl ?_
              refine hr_gR X 3 hl_t0 hs_t0 lg_RX4_10 rfl dX4_ask_132 (fun q22 hl_q22 hs_q22 => ?_)
              refine hr_iload_n X dX4_ask_135 rfl ?_
              refine hr_pI X hl_q22 hs_q22 lp_RX4_297 dX4_ask_136 (fun M23 eM23 => ?_)
              refine hr_aload_n X dX4_ask_139 rfl ?_
              refine hr_bipush X (-6) dX4_ask_140 kb_m6 ?_
              refine hr_cvI X [.int (-6)] [] (c_X4_refuse hl_t0 hs_t0 (-6) M23) lk_RX4_82 rfl rfl rfl hl_t0 hs_t0 ⟨by decide, rfl⟩ (by decide) (Nat.le_of_ble_eq_true rfl) dX4_ask_142 (fun r24 M25 _ => ?_)
              exact hr_iret X dX4_ask_145
            · refine hr_aload_n X dX4_ask_105 rfl ?_
              refine hr_gR X 3 hl_t0 hs_t0 lg_RX4_10 rfl dX4_ask_106 (fun q26 hl_q26 hs_q26 => ?_)
              refine hr_iload_n X dX4_ask_109 rfl ?_
              refine hr_iload_n X dX4_ask_110 rfl ?_
              refine hr_iload X dX4_ask_111 rfl ?_
              refine hr_aload_n X dX4_ask_113 rfl ?_
              refine hr_gR X 3 hl_t0 hs_t0 lg_RX4_10 rfl dX4_ask_114 (fun q27 hl_q27 hs_q27 => ?_)
              refine hr_ldc2 X dX4_ask_117 (hf_c2 101 rfl rfl) ?_
              refine hr_cvJ X [.long (-1)] [.int 0, .int a2, .int a1, .ref (hf_a g q26)] (c_X3_possible hl_q27 hs_q27 (-1) M21) lk_RX4_167 rfl rfl rfl hl_q27 hs_q27 ⟨by decide, rfl⟩ (by decide) (Nat.le_of_ble_eq_true rfl) dX4_ask_120 (fun r28 M29 _ => ?_)
              refine hr_cvJ X [.int a1, .int a2, .int 0, .long r28] [] (c_X3_after hl_q26 hs_q26 a1 a2 0 r28 M29) lk_RX4_171 rfl rfl rfl hl_q26 hs_q26 ⟨by decide, rfl⟩ (by decide) (Nat.le_of_ble_eq_true rfl) dX4_ask_123 (fun r30 M31 _ => ?_)
              refine hr_lconst X 0 dX4_ask_126 rfl ?_
              refine hr_lcmp X dX4_ask_127 ?_
              refine hr_if_ne X 146 dX4_ask_128 rfl ?_ ?_
              · refine hr_aload_n X dX4_ask_146 rfl ?_
                refine hr_gR X 3 hl_t0 hs_t0 lg_RX4_10 rfl dX4_ask_147 (fun q32 hl_q32 hs_q32 => ?_)
                refine hr_gI X hl_q32 hs_q32 lg_RX4_146 dX4_ask_150 ?_
                refine hr_bipush X 24 dX4_ask_153 kb_24 ?_
                refine hr_icmp_lt X 173 dX4_ask_155 rfl ?_ ?_
                · refine hr_aload_n X dX4_ask_173 rfl ?_
                  refine hr_gR X 3 hl_t0 hs_t0 lg_RX4_10 rfl dX4_ask_174 (fun q33 hl_q33 hs_q33 => ?_)
                  refine hr_iload_n X dX4_ask_177 rfl ?_
                  refine hr_iload_n X dX4_ask_178 rfl ?_
                  refine hr_iload X dX4_ask_179 rfl ?_
                  refine hr_cvV X [.int a1, .int a2, .int 0] [] (c_X3_put hl_q33 hs_q33 a1 a2 0 M31) lk_RX4_175 rfl rfl rfl hl_q33 hs_q33 ⟨by decide, rfl⟩ (by decide) (Nat.le_of_ble_eq_true rfl) dX4_ask_181 (fun _ M35 _ => ?_)
                  refine hr_iload X dX4_ask_184 rfl ?_
                  refine hr_if_eq_T X 193 (by decide) dX4_ask_186 rfl ?_
                  refine hr_iconst X 0 dX4_ask_193 kc_0 ?_
                  exact hr_iret X dX4_ask_194
                · refine hr_aload_n X dX4_ask_158 rfl ?_
                  refine hr_gR X 3 hl_t0 hs_t0 lg_RX4_10 rfl dX4_ask_159 (fun q36 hl_q36 hs_q36 => ?_)
                  refine hr_iload_n X dX4_ask_162 rfl ?_
                  refine hr_pI X hl_q36 hs_q36 lp_RX4_297 dX4_ask_163 (fun M37 eM37 => ?_)
                  refine hr_aload_n X dX4_ask_166 rfl ?_
                  refine hr_bipush X (-7) dX4_ask_167 kb_m7 ?_
                  refine hr_cvI X [.int (-7)] [] (c_X4_refuse hl_t0 hs_t0 (-7) M37) lk_RX4_82 rfl rfl rfl hl_t0 hs_t0 ⟨by decide, rfl⟩ (by decide) (Nat.le_of_ble_eq_true rfl) dX4_ask_169 (fun r38 M39 _ => ?_)
                  exact hr_iret X dX4_ask_172
              · refine hr_aload_n X dX4_ask_131 rfl ?_
                refine hr_gR X 3 hl_t0 hs_t0 lg_RX4_10 rfl dX4_ask_132 (fun q40 hl_q40 hs_q40 => ?_)
                refine hr_iload_n X dX4_ask_135 rfl ?_
                refine hr_pI X hl_q40 hs_q40 lp_RX4_297 dX4_ask_136 (fun M41 eM41 => ?_)
                refine hr_aload_n X dX4_ask_139 rfl ?_
                refine hr_bipush X (-6) dX4_ask_140 kb_m6 ?_
                refine hr_cvI X [.int (-6)] [] (c_X4_refuse hl_t0 hs_t0 (-6) M41) lk_RX4_82 rfl rfl rfl hl_t0 hs_t0 ⟨by decide, rfl⟩ (by decide) (Nat.le_of_ble_eq_true rfl) dX4_ask_142 (fun r42 M43 _ => ?_)
                exact hr_iret X dX4_ask_145
          · refine hr_iconst X 1 dX4_ask_92 kc_1 ?_
            refine hr_goto X 97 dX4_ask_93 rfl ?_
            refine hr_istore X dX4_ask_97 (by decide) rfl ?_
            refine hr_iload X dX4_ask_99 rfl ?_
            refine hr_iconst X (-1) dX4_ask_101 kc_m1 ?_
            refine hr_icmp_eq X 131 dX4_ask_102 rfl ?_ ?_
            · refine hr_aload_n X dX4_ask_131 rfl ?_
              refine hr_gR X 3 hl_t0 hs_t0 lg_RX4_10 rfl dX4_ask_132 (fun q44 hl_q44 hs_q44 => ?_)
              refine hr_iload_n X dX4_ask_135 rfl ?_
              refine hr_pI X hl_q44 hs_q44 lp_RX4_297 dX4_ask_136 (fun M45 eM45 => ?_)
              refine hr_aload_n X dX4_ask_139 rfl ?_
              refine hr_bipush X (-6) dX4_ask_140 kb_m6 ?_
              refine hr_cvI X [.int (-6)] [] (c_X4_refuse hl_t0 hs_t0 (-6) M45) lk_RX4_82 rfl rfl rfl hl_t0 hs_t0 ⟨by decide, rfl⟩ (by decide) (Nat.le_of_ble_eq_true rfl) dX4_ask_142 (fun r46 M47 _ => ?_)
              exact hr_iret X dX4_ask_145
            · refine hr_aload_n X dX4_ask_105 rfl ?_
              refine hr_gR X 3 hl_t0 hs_t0 lg_RX4_10 rfl dX4_ask_106 (fun q48 hl_q48 hs_q48 => ?_)
              refine hr_iload_n X dX4_ask_109 rfl ?_
              refine hr_iload_n X dX4_ask_110 rfl ?_
              refine hr_iload X dX4_ask_111 rfl ?_
              refine hr_aload_n X dX4_ask_113 rfl ?_
              refine hr_gR X 3 hl_t0 hs_t0 lg_RX4_10 rfl dX4_ask_114 (fun q49 hl_q49 hs_q49 => ?_)
              refine hr_ldc2 X dX4_ask_117 (hf_c2 101 rfl rfl) ?_
              refine hr_cvJ X [.long (-1)] [.int 1, .int a2, .int a1, .ref (hf_a g q48)] (c_X3_possible hl_q49 hs_q49 (-1) M21) lk_RX4_167 rfl rfl rfl hl_q49 hs_q49 ⟨by decide, rfl⟩ (by decide) (Nat.le_of_ble_eq_true rfl) dX4_ask_120 (fun r50 M51 _ => ?_)
              refine hr_cvJ X [.int a1, .int a2, .int 1, .long r50] [] (c_X3_after hl_q48 hs_q48 a1 a2 1 r50 M51) lk_RX4_171 rfl rfl rfl hl_q48 hs_q48 ⟨by decide, rfl⟩ (by decide) (Nat.le_of_ble_eq_true rfl) dX4_ask_123 (fun r52 M53 _ => ?_)
              refine hr_lconst X 0 dX4_ask_126 rfl ?_
              refine hr_lcmp X dX4_ask_127 ?_
              refine hr_if_ne X 146 dX4_ask_128 rfl ?_ ?_
              · refine hr_aload_n X dX4_ask_146 rfl ?_
                refine hr_gR X 3 hl_t0 hs_t0 lg_RX4_10 rfl dX4_ask_147 (fun q54 hl_q54 hs_q54 => ?_)
                refine hr_gI X hl_q54 hs_q54 lg_RX4_146 dX4_ask_150 ?_
                refine hr_bipush X 24 dX4_ask_153 kb_24 ?_
                refine hr_icmp_lt X 173 dX4_ask_155 rfl ?_ ?_
                · refine hr_aload_n X dX4_ask_173 rfl ?_
                  refine hr_gR X 3 hl_t0 hs_t0 lg_RX4_10 rfl dX4_ask_174 (fun q55 hl_q55 hs_q55 => ?_)
                  refine hr_iload_n X dX4_ask_177 rfl ?_
                  refine hr_iload_n X dX4_ask_178 rfl ?_
                  refine hr_iload X dX4_ask_179 rfl ?_
                  refine hr_cvV X [.int a1, .int a2, .int 1] [] (c_X3_put hl_q55 hs_q55 a1 a2 1 M53) lk_RX4_175 rfl rfl rfl hl_q55 hs_q55 ⟨by decide, rfl⟩ (by decide) (Nat.le_of_ble_eq_true rfl) dX4_ask_181 (fun _ M57 _ => ?_)
                  refine hr_iload X dX4_ask_184 rfl ?_
                  refine hr_if_eq_F X 193 (by decide) dX4_ask_186 rfl ?_
                  refine hr_iconst X 1 dX4_ask_189 kc_1 ?_
                  refine hr_goto X 194 dX4_ask_190 rfl ?_
                  exact hr_iret X dX4_ask_194
                · refine hr_aload_n X dX4_ask_158 rfl ?_
                  refine hr_gR X 3 hl_t0 hs_t0 lg_RX4_10 rfl dX4_ask_159 (fun q58 hl_q58 hs_q58 => ?_)
                  refine hr_iload_n X dX4_ask_162 rfl ?_
                  refine hr_pI X hl_q58 hs_q58 lp_RX4_297 dX4_ask_163 (fun M59 eM59 => ?_)
                  refine hr_aload_n X dX4_ask_166 rfl ?_
                  refine hr_bipush X (-7) dX4_ask_167 kb_m7 ?_
                  refine hr_cvI X [.int (-7)] [] (c_X4_refuse hl_t0 hs_t0 (-7) M59) lk_RX4_82 rfl rfl rfl hl_t0 hs_t0 ⟨by decide, rfl⟩ (by decide) (Nat.le_of_ble_eq_true rfl) dX4_ask_169 (fun r60 M61 _ => ?_)
                  exact hr_iret X dX4_ask_172
              · refine hr_aload_n X dX4_ask_131 rfl ?_
                refine hr_gR X 3 hl_t0 hs_t0 lg_RX4_10 rfl dX4_ask_132 (fun q62 hl_q62 hs_q62 => ?_)
                refine hr_iload_n X dX4_ask_135 rfl ?_
                refine hr_pI X hl_q62 hs_q62 lp_RX4_297 dX4_ask_136 (fun M63 eM63 => ?_)
                refine hr_aload_n X dX4_ask_139 rfl ?_
                refine hr_bipush X (-6) dX4_ask_140 kb_m6 ?_
                refine hr_cvI X [.int (-6)] [] (c_X4_refuse hl_t0 hs_t0 (-6) M63) lk_RX4_82 rfl rfl rfl hl_t0 hs_t0 ⟨by decide, rfl⟩ (by decide) (Nat.le_of_ble_eq_true rfl) dX4_ask_142 (fun r64 M65 _ => ?_)
                exact hr_iret X dX4_ask_145
        · refine hr_aload_n X dX4_ask_50 rfl ?_
          refine hr_bipush X (-6) dX4_ask_51 kb_m6 ?_
          refine hr_cvI X [.int (-6)] [] (c_X4_refuse hl_t0 hs_t0 (-6) M11) lk_RX4_82 rfl rfl rfl hl_t0 hs_t0 ⟨by decide, rfl⟩ (by decide) (Nat.le_of_ble_eq_true rfl) dX4_ask_53 (fun r66 M67 _ => ?_)
          exact hr_iret X dX4_ask_56
    · refine hr_aload_n X dX4_ask_22 rfl ?_
      refine hr_iconst X (-1) dX4_ask_23 kc_m1 ?_
      refine hr_cvI X [.int (-1)] [] (c_X4_refuse hl_t0 hs_t0 (-1) M8) lk_RX4_82 rfl rfl rfl hl_t0 hs_t0 ⟨by decide, rfl⟩ (by decide) (Nat.le_of_ble_eq_true rfl) dX4_ask_24 (fun r68 M69 _ => ?_)
      exact hr_iret X dX4_ask_27
set_option maxRecDepth 100000 in
set_option maxHeartbeats 4000000 in
theorem c_X4_truly  {t0 : Nat} (hl_t0 : t0 < 69) (hs_t0 : hf_shp t0 = 4) (a1 : Int32) (M : hf_M) : hf_CI yX4_truly cX4_truly 2 (some .int) (3) (fun g => [.ref (hf_a g t0), .int a1]) M (s_X4_truly t0 a1 M) := by
  refine hf_metI (by decide +kernel) (fun g => Nat.le_of_ble_eq_true rfl) (fun g p l ev s m args below meth c X => ?_)
  have X : hf_X g p s m args meth c cX4_truly 2 RX4 (some .int) := X
  show hf_W g p l ev (3) s m args below meth c 2 (hf_QI g below args s) M 0 [some (.ref (hf_a g t0)), some (.int a1)] [] (s_X4_truly t0 a1 M)
  unfold s_X4_truly
  refine hr_aload_n X dX4_truly_0 rfl ?_
  refine hr_gR X 3 hl_t0 hs_t0 lg_RX4_10 rfl dX4_truly_1 (fun q1 hl_q1 hs_q1 => ?_)
  refine hr_iload_n X dX4_truly_4 rfl ?_
  refine hr_cvI X [.int a1] [] (c_X3_isWorld hl_q1 hs_q1 a1 M) lk_RX4_213 rfl rfl rfl hl_q1 hs_q1 ⟨by decide, rfl⟩ (by decide) (Nat.le_of_ble_eq_true rfl) dX4_truly_5 (fun r2 M3 _ => ?_)
  refine hr_if_ne X 17 dX4_truly_8 rfl ?_ ?_
  · refine hr_aload_n X dX4_truly_17 rfl ?_
    refine hr_gR X 3 hl_t0 hs_t0 lg_RX4_10 rfl dX4_truly_18 (fun q4 hl_q4 hs_q4 => ?_)
    refine hr_gI X hl_q4 hs_q4 lg_RX4_294 dX4_truly_21 ?_
    refine hr_iconst X (-1) dX4_truly_24 kc_m1 ?_
    refine hr_icmp_ne X 35 dX4_truly_25 rfl ?_ ?_
    · refine hr_aload_n X dX4_truly_35 rfl ?_
      refine hr_gR X 3 hl_t0 hs_t0 lg_RX4_10 rfl dX4_truly_36 (fun q5 hl_q5 hs_q5 => ?_)
      refine hr_gI X hl_q5 hs_q5 lg_RX4_294 dX4_truly_39 ?_
      refine hr_iload_n X dX4_truly_42 rfl ?_
      refine hr_icmp_ne X 50 dX4_truly_43 rfl ?_ ?_
      · refine hr_iconst X 0 dX4_truly_50 kc_0 ?_
        exact hr_iret X dX4_truly_51
      · refine hr_iconst X 1 dX4_truly_46 kc_1 ?_
        refine hr_goto X 51 dX4_truly_47 rfl ?_
        exact hr_iret X dX4_truly_51
    · refine hr_aload_n X dX4_truly_28 rfl ?_
      refine hr_bipush X (-6) dX4_truly_29 kb_m6 ?_
      refine hr_cvI X [.int (-6)] [] (c_X4_refuse hl_t0 hs_t0 (-6) M3) lk_RX4_82 rfl rfl rfl hl_t0 hs_t0 ⟨by decide, rfl⟩ (by decide) (Nat.le_of_ble_eq_true rfl) dX4_truly_31 (fun r6 M7 _ => ?_)
      exact hr_iret X dX4_truly_34
  · refine hr_aload_n X dX4_truly_11 rfl ?_
    refine hr_iconst X (-1) dX4_truly_12 kc_m1 ?_
    refine hr_cvI X [.int (-1)] [] (c_X4_refuse hl_t0 hs_t0 (-1) M3) lk_RX4_82 rfl rfl rfl hl_t0 hs_t0 ⟨by decide, rfl⟩ (by decide) (Nat.le_of_ble_eq_true rfl) dX4_truly_13 (fun r8 M9 _ => ?_)
    exact hr_iret X dX4_truly_16
set_option maxRecDepth 100000 in
set_option maxHeartbeats 4000000 in
theorem c_X4_seed  {t0 : Nat} (hl_t0 : t0 < 69) (hs_t0 : hf_shp t0 = 4) (a1 : Int32) (M : hf_M) : hf_CI yX4_seed cX4_seed 3 (some .int) (1) (fun g => [.ref (hf_a g t0), .int a1]) M (s_X4_seed t0 a1 M) := by
  refine hf_metI (by decide +kernel) (fun g => Nat.le_of_ble_eq_true rfl) (fun g p l ev s m args below meth c X => ?_)
  have X : hf_X g p s m args meth c cX4_seed 3 RX4 (some .int) := X
  show hf_W g p l ev (1) s m args below meth c 3 (hf_QI g below args s) M 0 [some (.ref (hf_a g t0)), some (.int a1), none] [] (s_X4_seed t0 a1 M)
  unfold s_X4_seed
  refine hr_aload_n X dX4_seed_0 rfl ?_
  refine hr_gR X 3 hl_t0 hs_t0 lg_RX4_10 rfl dX4_seed_1 (fun q1 hl_q1 hs_q1 => ?_)
  refine hr_gI X hl_q1 hs_q1 lg_RX4_297 dX4_seed_4 ?_
  refine hr_istore_n X dX4_seed_7 (by decide) rfl ?_
  refine hr_aload_n X dX4_seed_8 rfl ?_
  refine hr_gR X 3 hl_t0 hs_t0 lg_RX4_10 rfl dX4_seed_9 (fun q2 hl_q2 hs_q2 => ?_)
  refine hr_iload_n X dX4_seed_12 rfl ?_
  refine hr_pI X hl_q2 hs_q2 lp_RX4_297 dX4_seed_13 (fun M3 eM3 => ?_)
  refine hr_iload_n X dX4_seed_16 rfl ?_
  exact hr_iret X dX4_seed_17
set_option maxRecDepth 100000 in
set_option maxHeartbeats 4000000 in
theorem c_X4_act  {t0 : Nat} (hl_t0 : t0 < 69) (hs_t0 : hf_shp t0 = 4) (a1 : Int32) (a2 : Int32) (a3 : Int32) (M : hf_M) : hf_CI yX4_act cX4_act 4 (some .int) (53) (fun g => [.ref (hf_a g t0), .int a1, .int a2, .int a3]) M (s_X4_act t0 a1 a2 a3 M) := by
  refine hf_metI (by decide +kernel) (fun g => Nat.le_of_ble_eq_true rfl) (fun g p l ev s m args below meth c X => ?_)
  have X : hf_X g p s m args meth c cX4_act 4 RX4 (some .int) := X
  show hf_W g p l ev (53) s m args below meth c 4 (hf_QI g below args s) M 0 [some (.ref (hf_a g t0)), some (.int a1), some (.int a2), some (.int a3)] [] (s_X4_act t0 a1 a2 a3 M)
  unfold s_X4_act
  refine hr_aload_n X dX4_act_0 rfl ?_
  refine hr_gR X 0 hl_t0 hs_t0 lg_RX4_38 rfl dX4_act_1 (fun q1 hl_q1 hs_q1 => ?_)
  refine hr_cvV X [] [] (c_X0_begin hl_q1 hs_q1 M) lk_RX4_303 rfl rfl rfl hl_q1 hs_q1 ⟨by decide, rfl⟩ (by decide) (Nat.le_of_ble_eq_true rfl) dX4_act_4 (fun _ M3 _ => ?_)
  refine hr_aload_n X dX4_act_7 rfl ?_
  refine hr_gR X 3 hl_t0 hs_t0 lg_RX4_10 rfl dX4_act_8 (fun q4 hl_q4 hs_q4 => ?_)
  refine hr_iload_n X dX4_act_11 rfl ?_
  refine hr_cvI X [.int a1] [] (c_X3_isSpeaker hl_q4 hs_q4 a1 M3) lk_RX4_119 rfl rfl rfl hl_q4 hs_q4 ⟨by decide, rfl⟩ (by decide) (Nat.le_of_ble_eq_true rfl) dX4_act_12 (fun r5 M6 _ => ?_)
  refine hr_if_eq X 27 dX4_act_15 rfl ?_ ?_
  · refine hr_iconst X 0 dX4_act_27 kc_0 ?_
    exact hr_iret X dX4_act_28
  · refine hr_iload_n X dX4_act_18 rfl ?_
    refine hr_iconst X 0 dX4_act_19 kc_0 ?_
    refine hr_iconst X 2 dX4_act_20 kc_2 ?_
    refine hr_csI X [.int a2, .int 0, .int 2] [] (c_X4_within a2 0 2 M6) lk_RX4_85 rfl rfl rfl (by decide) (Nat.le_of_ble_eq_true rfl) dX4_act_21 (fun r7 M8 _ => ?_)
    refine hr_if_ne X 29 dX4_act_24 rfl ?_ ?_
    · refine hr_aload_n X dX4_act_29 rfl ?_
      refine hr_gR X 0 hl_t0 hs_t0 lg_RX4_38 rfl dX4_act_30 (fun q9 hl_q9 hs_q9 => ?_)
      refine hr_aload_n X dX4_act_33 rfl ?_
      refine hr_gR X 3 hl_t0 hs_t0 lg_RX4_10 rfl dX4_act_34 (fun q10 hl_q10 hs_q10 => ?_)
      refine hr_gR X 6 hl_q10 hs_q10 lg_RX4_121 rfl dX4_act_37 (fun q11 hl_q11 hs_q11 => ?_)
      refine hr_iload_n X dX4_act_40 rfl ?_
      refine hr_iald X hl_q11 hs_q11 dX4_act_41 (fun r12 _ _ => ?_)
      refine hr_iload_n X dX4_act_42 rfl ?_
      refine hr_aload_n X dX4_act_43 rfl ?_
      refine hr_gR X 3 hl_t0 hs_t0 lg_RX4_10 rfl dX4_act_44 (fun q13 hl_q13 hs_q13 => ?_)
      refine hr_gR X 6 hl_q13 hs_q13 lg_RX4_155 rfl dX4_act_47 (fun q14 hl_q14 hs_q14 => ?_)
      refine hr_iload_n X dX4_act_50 rfl ?_
      refine hr_iald X hl_q14 hs_q14 dX4_act_51 (fun r15 _ _ => ?_)
      refine hr_iload_n X dX4_act_52 rfl ?_
      refine hr_iload_n X dX4_act_53 rfl ?_
      refine hr_cvI X [.int r12, .int a1, .int r15, .int a2, .int a3] [] (c_X0_perform hl_q9 hs_q9 r12 a1 r15 a2 a3 M8) lk_RX4_306 rfl rfl rfl hl_q9 hs_q9 ⟨by decide, rfl⟩ (by decide) (Nat.le_of_ble_eq_true rfl) dX4_act_54 (fun r16 M17 _ => ?_)
      exact hr_iret X dX4_act_57
    · refine hr_iconst X 0 dX4_act_27 kc_0 ?_
      exact hr_iret X dX4_act_28
set_option maxRecDepth 100000 in
set_option maxHeartbeats 4000000 in
theorem c_X4_trace  {t0 : Nat} (hl_t0 : t0 < 69) (hs_t0 : hf_shp t0 = 4) (a1 : Int32) (M : hf_M) : hf_CI yX4_trace cX4_trace 2 (some .int) (1) (fun g => [.ref (hf_a g t0), .int a1]) M (s_X4_trace t0 a1 M) := by
  refine hf_metI (by decide +kernel) (fun g => Nat.le_of_ble_eq_true rfl) (fun g p l ev s m args below meth c X => ?_)
  have X : hf_X g p s m args meth c cX4_trace 2 RX4 (some .int) := X
  show hf_W g p l ev (1) s m args below meth c 2 (hf_QI g below args s) M 0 [some (.ref (hf_a g t0)), some (.int a1)] [] (s_X4_trace t0 a1 M)
  unfold s_X4_trace
  refine hr_iload_n X dX4_trace_0 rfl ?_
  refine hr_if_lt X 33 dX4_trace_1 rfl ?_ ?_
  · refine hr_iconst X (-1) dX4_trace_33 kc_m1 ?_
    exact hr_iret X dX4_trace_34
  · refine hr_iload_n X dX4_trace_4 rfl ?_
    refine hr_bipush X 20 dX4_trace_5 kb_20 ?_
    refine hr_icmp_ge X 33 dX4_trace_7 rfl ?_ ?_
    · refine hr_iconst X (-1) dX4_trace_33 kc_m1 ?_
      exact hr_iret X dX4_trace_34
    · refine hr_iload_n X dX4_trace_10 rfl ?_
      refine hr_aload_n X dX4_trace_11 rfl ?_
      refine hr_gR X 0 hl_t0 hs_t0 lg_RX4_38 rfl dX4_trace_12 (fun q1 hl_q1 hs_q1 => ?_)
      refine hr_gI X hl_q1 hs_q1 lg_RX4_310 dX4_trace_15 ?_
      refine hr_icmp_ge X 33 dX4_trace_18 rfl ?_ ?_
      · refine hr_iconst X (-1) dX4_trace_33 kc_m1 ?_
        exact hr_iret X dX4_trace_34
      · refine hr_aload_n X dX4_trace_21 rfl ?_
        refine hr_gR X 0 hl_t0 hs_t0 lg_RX4_38 rfl dX4_trace_22 (fun q2 hl_q2 hs_q2 => ?_)
        refine hr_gR X 6 hl_q2 hs_q2 lg_RX4_313 rfl dX4_trace_25 (fun q3 hl_q3 hs_q3 => ?_)
        refine hr_iload_n X dX4_trace_28 rfl ?_
        refine hr_iald X hl_q3 hs_q3 dX4_trace_29 (fun r4 _ _ => ?_)
        refine hr_goto X 34 dX4_trace_30 rfl ?_
        exact hr_iret X dX4_trace_34
set_option maxRecDepth 100000 in
set_option maxHeartbeats 4000000 in
theorem c_X4_image  {t0 : Nat} (hl_t0 : t0 < 69) (hs_t0 : hf_shp t0 = 4) (M : hf_M) : hf_CI yX4_image cX4_image 1 (some .int) (3) (fun g => [.ref (hf_a g t0)]) M (s_X4_image t0 M) := by
  refine hf_metI (by decide +kernel) (fun g => Nat.le_of_ble_eq_true rfl) (fun g p l ev s m args below meth c X => ?_)
  have X : hf_X g p s m args meth c cX4_image 1 RX4 (some .int) := X
  show hf_W g p l ev (3) s m args below meth c 1 (hf_QI g below args s) M 0 [some (.ref (hf_a g t0))] [] (s_X4_image t0 M)
  unfold s_X4_image
  refine hr_aload_n X dX4_image_0 rfl ?_
  refine hr_gR X 3 hl_t0 hs_t0 lg_RX4_16 rfl dX4_image_1 (fun q1 hl_q1 hs_q1 => ?_)
  refine hr_aload_n X dX4_image_4 rfl ?_
  refine hr_gR X 3 hl_t0 hs_t0 lg_RX4_10 rfl dX4_image_5 (fun q2 hl_q2 hs_q2 => ?_)
  refine hr_cvV X [.ref (hf_a g q2)] [] (c_X3_takeOver hl_q1 hs_q1 hl_q2 hs_q2 M) lk_RX4_202 rfl rfl rfl hl_q1 hs_q1 ⟨by decide, rfl⟩ (by decide) (Nat.le_of_ble_eq_true rfl) dX4_image_8 (fun _ M4 _ => ?_)
  refine hr_aload_n X dX4_image_11 rfl ?_
  refine hr_iconst X 1 dX4_image_12 kc_1 ?_
  refine hr_pZ X (Or.inr rfl) hl_t0 hs_t0 lp_RX4_46 dX4_image_13 (fun M5 eM5 => ?_)
  refine hr_aload_n X dX4_image_16 rfl ?_
  refine hr_gR X 3 hl_t0 hs_t0 lg_RX4_10 rfl dX4_image_17 (fun q6 hl_q6 hs_q6 => ?_)
  refine hr_gI X hl_q6 hs_q6 lg_RX4_146 dX4_image_20 ?_
  exact hr_iret X dX4_image_23
set_option maxRecDepth 100000 in
set_option maxHeartbeats 4000000 in
theorem w_X4_restore_27 {g : hf_G} {p : Program} {l : Launch} {ev : Env} {s : State} {m : MethodId} {args : Array Value} {below : List Frame} {meth : Method} {c : Code} (X : hf_X g p s m args meth c cX4_restore 2 RX4 (some .int))    {t0 : Nat} (hl_t0 : t0 < 69) (hs_t0 : hf_shp t0 = 4) : ∀ (n : Nat) (v1 : Int32) (M : hf_M), hf_W g p l ev (3) s m args below meth c 2 (hf_QI g below args s) M 27 [some (.ref (hf_a g t0)), some (.int v1)] [] (s_X4_restore_27 t0 n v1 M) := by
  intro n
  induction n with
  | zero =>
    intros
    exact hr_none
  | succ n ih =>
    intro v1 M
    rw [s_X4_restore_27]
    refine hr_iload_n X dX4_restore_27 rfl ?_
    refine hr_bipush X 8 dX4_restore_28 kb_8 ?_
    refine hr_icmp_ge X 80 dX4_restore_30 rfl ?_ ?_
    · refine hr_aload_n X dX4_restore_80 rfl ?_
      refine hr_gR X 3 hl_t0 hs_t0 lg_RX4_10 rfl dX4_restore_81 (fun q1 hl_q1 hs_q1 => ?_)
      refine hr_gI X hl_q1 hs_q1 lg_RX4_146 dX4_restore_84 ?_
      exact hr_iret X dX4_restore_87
    · refine hr_aload_n X dX4_restore_33 rfl ?_
      refine hr_gR X 8 hl_t0 hs_t0 lg_RX4_24 rfl dX4_restore_34 (fun q2 hl_q2 hs_q2 => ?_)
      refine hr_iload_n X dX4_restore_37 rfl ?_
      refine hr_aald X hl_q2 hs_q2 (hf_l8 hl_q2 hs_q2) dX4_restore_38 (fun q3 hl_q3 hs_q3 => ?_)
      refine hr_cvI X [] [] (c_X2_isSpeaker hl_q3 hs_q3 M) lk_RX4_75 rfl rfl rfl hl_q3 hs_q3 ⟨by decide, rfl⟩ (by decide) (Nat.le_of_ble_eq_true rfl) dX4_restore_39 (fun r4 M5 _ => ?_)
      refine hr_if_eq X 74 dX4_restore_42 rfl ?_ ?_
      · refine hr_iinc X (v1 + 1) dX4_restore_74 rfl (by rw [kc_1]) (by decide) rfl ?_
        refine hr_goto X 27 dX4_restore_77 rfl ?_
        exact hr_wk (hs_some (hs_some (hs_nil))) (ih (v1 + 1) M5)
      · refine hr_aload_n X dX4_restore_45 rfl ?_
        refine hr_gR X 3 hl_t0 hs_t0 lg_RX4_10 rfl dX4_restore_46 (fun q6 hl_q6 hs_q6 => ?_)
        refine hr_aload_n X dX4_restore_49 rfl ?_
        refine hr_gR X 8 hl_t0 hs_t0 lg_RX4_24 rfl dX4_restore_50 (fun q7 hl_q7 hs_q7 => ?_)
        refine hr_iload_n X dX4_restore_53 rfl ?_
        refine hr_aald X hl_q7 hs_q7 (hf_l8 hl_q7 hs_q7) dX4_restore_54 (fun q8 hl_q8 hs_q8 => ?_)
        refine hr_gI X hl_q8 hs_q8 lg_RX4_103 dX4_restore_55 ?_
        refine hr_cvI X [.int (M5.1 q8 1)] [] (c_X3_isSpeaker hl_q6 hs_q6 (M5.1 q8 1) M5) lk_RX4_119 rfl rfl rfl hl_q6 hs_q6 ⟨by decide, rfl⟩ (by decide) (Nat.le_of_ble_eq_true rfl) dX4_restore_58 (fun r9 M10 _ => ?_)
        refine hr_if_ne X 74 dX4_restore_61 rfl ?_ ?_
        · refine hr_iinc X (v1 + 1) dX4_restore_74 rfl (by rw [kc_1]) (by decide) rfl ?_
          refine hr_goto X 27 dX4_restore_77 rfl ?_
          exact hr_wk (hs_some (hs_some (hs_nil))) (ih (v1 + 1) M10)
        · refine hr_aload_n X dX4_restore_64 rfl ?_
          refine hr_gR X 8 hl_t0 hs_t0 lg_RX4_24 rfl dX4_restore_65 (fun q11 hl_q11 hs_q11 => ?_)
          refine hr_iload_n X dX4_restore_68 rfl ?_
          refine hr_aald X hl_q11 hs_q11 (hf_l8 hl_q11 hs_q11) dX4_restore_69 (fun q12 hl_q12 hs_q12 => ?_)
          refine hr_iconst X (-1) dX4_restore_70 kc_m1 ?_
          refine hr_pI X hl_q12 hs_q12 lp_RX4_103 dX4_restore_71 (fun M13 eM13 => ?_)
          refine hr_iinc X (v1 + 1) dX4_restore_74 rfl (by rw [kc_1]) (by decide) rfl ?_
          refine hr_goto X 27 dX4_restore_77 rfl ?_
          exact hr_wk (hs_some (hs_some (hs_nil))) (ih (v1 + 1) M13)
set_option maxRecDepth 100000 in
set_option maxHeartbeats 4000000 in
theorem c_X4_restore  {t0 : Nat} (hl_t0 : t0 < 69) (hs_t0 : hf_shp t0 = 4) (M : hf_M) : hf_CI yX4_restore cX4_restore 2 (some .int) (3) (fun g => [.ref (hf_a g t0)]) M (s_X4_restore t0 M) := by
  refine hf_metI (by decide +kernel) (fun g => Nat.le_of_ble_eq_true rfl) (fun g p l ev s m args below meth c X => ?_)
  have X : hf_X g p s m args meth c cX4_restore 2 RX4 (some .int) := X
  show hf_W g p l ev (3) s m args below meth c 2 (hf_QI g below args s) M 0 [some (.ref (hf_a g t0)), none] [] (s_X4_restore t0 M)
  unfold s_X4_restore
  refine hr_aload_n X dX4_restore_0 rfl ?_
  refine hr_gI X hl_t0 hs_t0 lg_RX4_46 dX4_restore_1 ?_
  refine hr_if_ne X 14 dX4_restore_4 rfl ?_ ?_
  · refine hr_aload_n X dX4_restore_14 rfl ?_
    refine hr_gR X 3 hl_t0 hs_t0 lg_RX4_10 rfl dX4_restore_15 (fun q1 hl_q1 hs_q1 => ?_)
    refine hr_aload_n X dX4_restore_18 rfl ?_
    refine hr_gR X 3 hl_t0 hs_t0 lg_RX4_16 rfl dX4_restore_19 (fun q2 hl_q2 hs_q2 => ?_)
    refine hr_cvV X [.ref (hf_a g q2)] [] (c_X3_takeOver hl_q1 hs_q1 hl_q2 hs_q2 M) lk_RX4_202 rfl rfl rfl hl_q1 hs_q1 ⟨by decide, rfl⟩ (by decide) (Nat.le_of_ble_eq_true rfl) dX4_restore_22 (fun _ M4 _ => ?_)
    refine hr_iconst X 0 dX4_restore_25 kc_0 ?_
    refine hr_istore_n X dX4_restore_26 (by decide) rfl ?_
    exact hr_wk (hs_some (hs_some (hs_nil))) (w_X4_restore_27 X hl_t0 hs_t0 2000 0 M4)
  · refine hr_aload_n X dX4_restore_7 rfl ?_
    refine hr_bipush X (-6) dX4_restore_8 kb_m6 ?_
    refine hr_cvI X [.int (-6)] [] (c_X4_refuse hl_t0 hs_t0 (-6) M) lk_RX4_82 rfl rfl rfl hl_t0 hs_t0 ⟨by decide, rfl⟩ (by decide) (Nat.le_of_ble_eq_true rfl) dX4_restore_10 (fun r5 M6 _ => ?_)
    exact hr_iret X dX4_restore_13
set_option maxRecDepth 100000 in
set_option maxHeartbeats 4000000 in
theorem c_X4_status  {t0 : Nat} (hl_t0 : t0 < 69) (hs_t0 : hf_shp t0 = 4) (a1 : Int32) (M : hf_M) : hf_CI yX4_status cX4_status 2 (some .int) (2) (fun g => [.ref (hf_a g t0), .int a1]) M (s_X4_status t0 a1 M) := by
  refine hf_metI (by decide +kernel) (fun g => Nat.le_of_ble_eq_true rfl) (fun g p l ev s m args below meth c X => ?_)
  have X : hf_X g p s m args meth c cX4_status 2 RX4 (some .int) := X
  show hf_W g p l ev (2) s m args below meth c 2 (hf_QI g below args s) M 0 [some (.ref (hf_a g t0)), some (.int a1)] [] (s_X4_status t0 a1 M)
  unfold s_X4_status
  refine hr_iload_n X dX4_status_0 rfl ?_
  refine hr_bipush X 11 dX4_status_1 kb_11 ?_
  refine hr_bipush X 17 dX4_status_3 kb_17 ?_
  refine hr_csI X [.int a1, .int 11, .int 17] [] (c_X4_within a1 11 17 M) lk_RX4_85 rfl rfl rfl (by decide) (Nat.le_of_ble_eq_true rfl) dX4_status_5 (fun r1 M2 _ => ?_)
  refine hr_if_eq X 21 dX4_status_8 rfl ?_ ?_
  · refine hr_iload_n X dX4_status_21 rfl ?_
    refine hr_case 0 (fun _ => ?_) (fun n22_0 => ?_)
    · refine hr_tabIn X 72 dX4_status_22 (by decide) (by decide) rfl rfl ?_
      refine hr_aload_n X dX4_status_72 rfl ?_
      refine hr_gR X 3 hl_t0 hs_t0 lg_RX4_10 rfl dX4_status_73 (fun q3 hl_q3 hs_q3 => ?_)
      refine hr_gI X hl_q3 hs_q3 lg_RX4_133 dX4_status_76 ?_
      exact hr_iret X dX4_status_79
    refine hr_case 1 (fun _ => ?_) (fun n22_1 => ?_)
    · refine hr_tabIn X 80 dX4_status_22 (by decide) (by decide) rfl rfl ?_
      refine hr_aload_n X dX4_status_80 rfl ?_
      refine hr_gR X 3 hl_t0 hs_t0 lg_RX4_10 rfl dX4_status_81 (fun q4 hl_q4 hs_q4 => ?_)
      refine hr_gI X hl_q4 hs_q4 lg_RX4_140 dX4_status_84 ?_
      exact hr_iret X dX4_status_87
    refine hr_case 2 (fun _ => ?_) (fun n22_2 => ?_)
    · refine hr_tabIn X 88 dX4_status_22 (by decide) (by decide) rfl rfl ?_
      refine hr_aload_n X dX4_status_88 rfl ?_
      refine hr_gR X 3 hl_t0 hs_t0 lg_RX4_10 rfl dX4_status_89 (fun q5 hl_q5 hs_q5 => ?_)
      refine hr_gI X hl_q5 hs_q5 lg_RX4_146 dX4_status_92 ?_
      exact hr_iret X dX4_status_95
    refine hr_case 3 (fun _ => ?_) (fun n22_3 => ?_)
    · refine hr_tabIn X 96 dX4_status_22 (by decide) (by decide) rfl rfl ?_
      refine hr_aload_n X dX4_status_96 rfl ?_
      refine hr_gR X 3 hl_t0 hs_t0 lg_RX4_10 rfl dX4_status_97 (fun q6 hl_q6 hs_q6 => ?_)
      refine hr_gL X hl_q6 hs_q6 lg_RX4_198 dX4_status_100 ?_
      refine hr_csI X [.long (M2.2.1 q6 11)] [] (c_J13_bitCount_95d88 (M2.2.1 q6 11) M2) lk_RX4_178 rfl rfl rfl (by decide) (Nat.le_of_ble_eq_true rfl) dX4_status_103 (fun r7 M8 _ => ?_)
      exact hr_iret X dX4_status_106
    refine hr_case 4 (fun _ => ?_) (fun n22_4 => ?_)
    · refine hr_tabIn X 107 dX4_status_22 (by decide) (by decide) rfl rfl ?_
      refine hr_aload_n X dX4_status_107 rfl ?_
      refine hr_gR X 3 hl_t0 hs_t0 lg_RX4_10 rfl dX4_status_108 (fun q9 hl_q9 hs_q9 => ?_)
      refine hr_gI X hl_q9 hs_q9 lg_RX4_149 dX4_status_111 ?_
      exact hr_iret X dX4_status_114
    refine hr_case 5 (fun _ => ?_) (fun n22_5 => ?_)
    · refine hr_tabIn X 115 dX4_status_22 (by decide) (by decide) rfl rfl ?_
      refine hr_aload_n X dX4_status_115 rfl ?_
      refine hr_gR X 3 hl_t0 hs_t0 lg_RX4_10 rfl dX4_status_116 (fun q10 hl_q10 hs_q10 => ?_)
      refine hr_gI X hl_q10 hs_q10 lg_RX4_152 dX4_status_119 ?_
      exact hr_iret X dX4_status_122
    refine hr_case 6 (fun _ => ?_) (fun n22_6 => ?_)
    · refine hr_tabIn X 123 dX4_status_22 (by decide) (by decide) rfl rfl ?_
      refine hr_aload_n X dX4_status_123 rfl ?_
      refine hr_gR X 3 hl_t0 hs_t0 lg_RX4_10 rfl dX4_status_124 (fun q11 hl_q11 hs_q11 => ?_)
      refine hr_gI X hl_q11 hs_q11 lg_RX4_288 dX4_status_127 ?_
      exact hr_iret X dX4_status_130
    refine hr_case 7 (fun _ => ?_) (fun n22_7 => ?_)
    · refine hr_tabIn X 131 dX4_status_22 (by decide) (by decide) rfl rfl ?_
      refine hr_aload_n X dX4_status_131 rfl ?_
      refine hr_gR X 3 hl_t0 hs_t0 lg_RX4_10 rfl dX4_status_132 (fun q12 hl_q12 hs_q12 => ?_)
      refine hr_gI X hl_q12 hs_q12 lg_RX4_297 dX4_status_135 ?_
      exact hr_iret X dX4_status_138
    refine hr_case 8 (fun _ => ?_) (fun n22_8 => ?_)
    · refine hr_tabIn X 139 dX4_status_22 (by decide) (by decide) rfl rfl ?_
      refine hr_aload_n X dX4_status_139 rfl ?_
      refine hr_gR X 0 hl_t0 hs_t0 lg_RX4_38 rfl dX4_status_140 (fun q13 hl_q13 hs_q13 => ?_)
      refine hr_gI X hl_q13 hs_q13 lg_RX4_310 dX4_status_143 ?_
      exact hr_iret X dX4_status_146
    · have e0 := hf_neT 0 n22_0 (by decide)
      have e1 := hf_neT 1 n22_1 (by decide)
      have e2 := hf_neT 2 n22_2 (by decide)
      have e3 := hf_neT 3 n22_3 (by decide)
      have e4 := hf_neT 4 n22_4 (by decide)
      have e5 := hf_neT 5 n22_5 (by decide)
      have e6 := hf_neT 6 n22_6 (by decide)
      have e7 := hf_neT 7 n22_7 (by decide)
      have e8 := hf_neT 8 n22_8 (by decide)
      refine hr_tabOut X 147 dX4_status_22 (by omega) rfl ?_
      refine hr_iconst X (-1) dX4_status_147 kc_m1 ?_
      exact hr_iret X dX4_status_148
  · refine hr_aload_n X dX4_status_11 rfl ?_
    refine hr_gR X 6 hl_t0 hs_t0 lg_RX4_42 rfl dX4_status_12 (fun q14 hl_q14 hs_q14 => ?_)
    refine hr_iload_n X dX4_status_15 rfl ?_
    refine hr_bipush X 10 dX4_status_16 kb_10 ?_
    refine hr_isub X dX4_status_18 ?_
    refine hr_iald X hl_q14 hs_q14 dX4_status_19 (fun r15 _ _ => ?_)
    exact hr_iret X dX4_status_20
set_option maxRecDepth 100000 in
set_option maxHeartbeats 4000000 in
theorem c_X5_no  {t0 : Nat} (hl_t0 : t0 < 69) (hs_t0 : hf_shp t0 = 5) (a1 : Int32) (M : hf_M) : hf_CI yX5_no cX5_no 2 (some .int) (1) (fun g => [.ref (hf_a g t0), .int a1]) M (s_X5_no t0 a1 M) := by
  refine hf_metI (by decide +kernel) (fun g => Nat.le_of_ble_eq_true rfl) (fun g p l ev s m args below meth c X => ?_)
  have X : hf_X g p s m args meth c cX5_no 2 RX5 (some .int) := X
  show hf_W g p l ev (1) s m args below meth c 2 (hf_QI g below args s) M 0 [some (.ref (hf_a g t0)), some (.int a1)] [] (s_X5_no t0 a1 M)
  unfold s_X5_no
  refine hr_aload_n X dX5_no_0 rfl ?_
  refine hr_gR X 6 hl_t0 hs_t0 lg_RX5_29 rfl dX5_no_1 (fun q1 hl_q1 hs_q1 => ?_)
  refine hr_iload_n X dX5_no_4 rfl ?_
  refine hr_ineg X dX5_no_5 ?_
  refine hr_dup2 X dX5_no_6 rfl rfl ?_
  refine hr_iald X hl_q1 hs_q1 dX5_no_7 (fun r2 _ _ => ?_)
  refine hr_iconst X 1 dX5_no_8 kc_1 ?_
  refine hr_iadd X dX5_no_9 ?_
  refine hr_iast X hl_q1 hs_q1 dX5_no_10 (fun M3 eM3 _ => ?_)
  refine hr_iload_n X dX5_no_11 rfl ?_
  exact hr_iret X dX5_no_12
set_option maxRecDepth 100000 in
set_option maxHeartbeats 4000000 in
theorem c_X5_noTen  {t0 : Nat} (hl_t0 : t0 < 69) (hs_t0 : hf_shp t0 = 5) (a1 : Int32) (M : hf_M) : hf_CI yX5_noTen cX5_noTen 2 (some .int) (1) (fun g => [.ref (hf_a g t0), .int a1]) M (s_X5_noTen t0 a1 M) := by
  refine hf_metI (by decide +kernel) (fun g => Nat.le_of_ble_eq_true rfl) (fun g p l ev s m args below meth c X => ?_)
  have X : hf_X g p s m args meth c cX5_noTen 2 RX5 (some .int) := X
  show hf_W g p l ev (1) s m args below meth c 2 (hf_QI g below args s) M 0 [some (.ref (hf_a g t0)), some (.int a1)] [] (s_X5_noTen t0 a1 M)
  unfold s_X5_noTen
  refine hr_aload_n X dX5_noTen_0 rfl ?_
  refine hr_gR X 6 hl_t0 hs_t0 lg_RX5_29 rfl dX5_noTen_1 (fun q1 hl_q1 hs_q1 => ?_)
  refine hr_iload_n X dX5_noTen_4 rfl ?_
  refine hr_ineg X dX5_noTen_5 ?_
  refine hr_dup2 X dX5_noTen_6 rfl rfl ?_
  refine hr_iald X hl_q1 hs_q1 dX5_noTen_7 (fun r2 _ _ => ?_)
  refine hr_iconst X 1 dX5_noTen_8 kc_1 ?_
  refine hr_iadd X dX5_noTen_9 ?_
  refine hr_iast X hl_q1 hs_q1 dX5_noTen_10 (fun M3 eM3 _ => ?_)
  refine hr_iload_n X dX5_noTen_11 rfl ?_
  refine hr_bipush X 10 dX5_noTen_12 kb_10 ?_
  refine hr_isub X dX5_noTen_14 ?_
  exact hr_iret X dX5_noTen_15
set_option maxRecDepth 100000 in
set_option maxHeartbeats 4000000 in
theorem c_X5_noLow  {t0 : Nat} (hl_t0 : t0 < 69) (hs_t0 : hf_shp t0 = 5) (a1 : Int32) (M : hf_M) : hf_CI yX5_noLow cX5_noLow 2 (some .int) (1) (fun g => [.ref (hf_a g t0), .int a1]) M (s_X5_noLow t0 a1 M) := by
  refine hf_metI (by decide +kernel) (fun g => Nat.le_of_ble_eq_true rfl) (fun g p l ev s m args below meth c X => ?_)
  have X : hf_X g p s m args meth c cX5_noLow 2 RX5 (some .int) := X
  show hf_W g p l ev (1) s m args below meth c 2 (hf_QI g below args s) M 0 [some (.ref (hf_a g t0)), some (.int a1)] [] (s_X5_noLow t0 a1 M)
  unfold s_X5_noLow
  refine hr_aload_n X dX5_noLow_0 rfl ?_
  refine hr_gR X 6 hl_t0 hs_t0 lg_RX5_29 rfl dX5_noLow_1 (fun q1 hl_q1 hs_q1 => ?_)
  refine hr_iload_n X dX5_noLow_4 rfl ?_
  refine hr_ineg X dX5_noLow_5 ?_
  refine hr_dup2 X dX5_noLow_6 rfl rfl ?_
  refine hr_iald X hl_q1 hs_q1 dX5_noLow_7 (fun r2 _ _ => ?_)
  refine hr_iconst X 1 dX5_noLow_8 kc_1 ?_
  refine hr_iadd X dX5_noLow_9 ?_
  refine hr_iast X hl_q1 hs_q1 dX5_noLow_10 (fun M3 eM3 _ => ?_)
  refine hr_iload_n X dX5_noLow_11 rfl ?_
  refine hr_ldc X dX5_noLow_12 (hf_c5 234 rfl rfl) ?_
  refine hr_isub X dX5_noLow_14 ?_
  exact hr_iret X dX5_noLow_15
set_option maxRecDepth 100000 in
set_option maxHeartbeats 4000000 in
theorem c_X5_isShelf  {t0 : Nat} (hl_t0 : t0 < 69) (hs_t0 : hf_shp t0 = 5) (a1 : Int32) (M : hf_M) : hf_CI yX5_isShelf cX5_isShelf 2 (some .boolean) (1) (fun g => [.ref (hf_a g t0), .int a1]) M (s_X5_isShelf t0 a1 M) := by
  refine hf_metI (by decide +kernel) (fun g => Nat.le_of_ble_eq_true rfl) (fun g p l ev s m args below meth c X => ?_)
  have X : hf_X g p s m args meth c cX5_isShelf 2 RX5 (some .boolean) := X
  show hf_W g p l ev (1) s m args below meth c 2 (hf_QI g below args s) M 0 [some (.ref (hf_a g t0)), some (.int a1)] [] (s_X5_isShelf t0 a1 M)
  unfold s_X5_isShelf
  refine hr_iload_n X dX5_isShelf_0 rfl ?_
  refine hr_if_lt X 14 dX5_isShelf_1 rfl ?_ ?_
  · refine hr_iconst X 0 dX5_isShelf_14 kc_0 ?_
    exact hr_zretC X (Or.inl rfl) dX5_isShelf_15
  · refine hr_iload_n X dX5_isShelf_4 rfl ?_
    refine hr_bipush X 8 dX5_isShelf_5 kb_8 ?_
    refine hr_icmp_ge X 14 dX5_isShelf_7 rfl ?_ ?_
    · refine hr_iconst X 0 dX5_isShelf_14 kc_0 ?_
      exact hr_zretC X (Or.inl rfl) dX5_isShelf_15
    · refine hr_iconst X 1 dX5_isShelf_10 kc_1 ?_
      refine hr_goto X 15 dX5_isShelf_11 rfl ?_
      exact hr_zretC X (Or.inr rfl) dX5_isShelf_15
set_option maxRecDepth 100000 in
set_option maxHeartbeats 4000000 in
theorem c_X5_isFact  {t0 : Nat} (hl_t0 : t0 < 69) (hs_t0 : hf_shp t0 = 5) (a1 : Int32) (M : hf_M) : hf_CI yX5_isFact cX5_isFact 2 (some .boolean) (1) (fun g => [.ref (hf_a g t0), .int a1]) M (s_X5_isFact t0 a1 M) := by
  refine hf_metI (by decide +kernel) (fun g => Nat.le_of_ble_eq_true rfl) (fun g p l ev s m args below meth c X => ?_)
  have X : hf_X g p s m args meth c cX5_isFact 2 RX5 (some .boolean) := X
  show hf_W g p l ev (1) s m args below meth c 2 (hf_QI g below args s) M 0 [some (.ref (hf_a g t0)), some (.int a1)] [] (s_X5_isFact t0 a1 M)
  unfold s_X5_isFact
  refine hr_iload_n X dX5_isFact_0 rfl ?_
  refine hr_if_lt X 16 dX5_isFact_1 rfl ?_ ?_
  · refine hr_iconst X 0 dX5_isFact_16 kc_0 ?_
    exact hr_zretC X (Or.inl rfl) dX5_isFact_17
  · refine hr_iload_n X dX5_isFact_4 rfl ?_
    refine hr_aload_n X dX5_isFact_5 rfl ?_
    refine hr_gI X hl_t0 hs_t0 lg_RX5_89 dX5_isFact_6 ?_
    refine hr_icmp_ge X 16 dX5_isFact_9 rfl ?_ ?_
    · refine hr_iconst X 0 dX5_isFact_16 kc_0 ?_
      exact hr_zretC X (Or.inl rfl) dX5_isFact_17
    · refine hr_iconst X 1 dX5_isFact_12 kc_1 ?_
      refine hr_goto X 17 dX5_isFact_13 rfl ?_
      exact hr_zretC X (Or.inr rfl) dX5_isFact_17
set_option maxRecDepth 100000 in
set_option maxHeartbeats 4000000 in
theorem c_X5_isSpeaker  {t0 : Nat} (hl_t0 : t0 < 69) (hs_t0 : hf_shp t0 = 5) (a1 : Int32) (M : hf_M) : hf_CI yX5_isSpeaker cX5_isSpeaker 2 (some .boolean) (1) (fun g => [.ref (hf_a g t0), .int a1]) M (s_X5_isSpeaker t0 a1 M) := by
  refine hf_metI (by decide +kernel) (fun g => Nat.le_of_ble_eq_true rfl) (fun g p l ev s m args below meth c X => ?_)
  have X : hf_X g p s m args meth c cX5_isSpeaker 2 RX5 (some .boolean) := X
  show hf_W g p l ev (1) s m args below meth c 2 (hf_QI g below args s) M 0 [some (.ref (hf_a g t0)), some (.int a1)] [] (s_X5_isSpeaker t0 a1 M)
  unfold s_X5_isSpeaker
  refine hr_iload_n X dX5_isSpeaker_0 rfl ?_
  refine hr_if_lt X 16 dX5_isSpeaker_1 rfl ?_ ?_
  · refine hr_iconst X 0 dX5_isSpeaker_16 kc_0 ?_
    exact hr_zretC X (Or.inl rfl) dX5_isSpeaker_17
  · refine hr_iload_n X dX5_isSpeaker_4 rfl ?_
    refine hr_aload_n X dX5_isSpeaker_5 rfl ?_
    refine hr_gI X hl_t0 hs_t0 lg_RX5_92 dX5_isSpeaker_6 ?_
    refine hr_icmp_ge X 16 dX5_isSpeaker_9 rfl ?_ ?_
    · refine hr_iconst X 0 dX5_isSpeaker_16 kc_0 ?_
      exact hr_zretC X (Or.inl rfl) dX5_isSpeaker_17
    · refine hr_iconst X 1 dX5_isSpeaker_12 kc_1 ?_
      refine hr_goto X 17 dX5_isSpeaker_13 rfl ?_
      exact hr_zretC X (Or.inr rfl) dX5_isSpeaker_17
set_option maxRecDepth 100000 in
set_option maxHeartbeats 4000000 in
theorem w_X5_row_79 {g : hf_G} {p : Program} {l : Launch} {ev : Env} {s : State} {m : MethodId} {args : Array Value} {below : List Frame} {meth : Method} {c : Code} (X : hf_X g p s m args meth c cX5_row 5 RX5 (some .int))    {t0 : Nat} (hl_t0 : t0 < 69) (hs_t0 : hf_shp t0 = 5) (v1 : Int32) : ∀ (n : Nat) (v4 : Int32) (M : hf_M), hf_W g p l ev (2) s m args below meth c 5 (hf_QI g below args s) M 79 [some (.ref (hf_a g t0)), some (.int v1), none, none, some (.int v4)] [] (s_X5_row_79 t0 v1 n v4 M) := by
  intro n
  induction n with
  | zero =>
    intros
    exact hr_none
  | succ n ih =>
    intro v4 M
    rw [s_X5_row_79]
    refine hr_iload X dX5_row_79 rfl ?_
    refine hr_sipush X 160 dX5_row_81 ks_160 ?_
    refine hr_icmp_ge X 107 dX5_row_84 rfl ?_ ?_
    · refine hr_iconst X 1 dX5_row_107 kc_1 ?_
      exact hr_iret X dX5_row_108
    · refine hr_aload_n X dX5_row_87 rfl ?_
      refine hr_gR X 7 hl_t0 hs_t0 lg_RX5_63 rfl dX5_row_88 (fun q1 hl_q1 hs_q1 => ?_)
      refine hr_sipush X 160 dX5_row_91 ks_160 ?_
      refine hr_iload_n X dX5_row_94 rfl ?_
      refine hr_imul X dX5_row_95 ?_
      refine hr_iload X dX5_row_96 rfl ?_
      refine hr_iadd X dX5_row_98 ?_
      refine hr_lconst X 0 dX5_row_99 rfl ?_
      refine hr_last X hl_q1 hs_q1 dX5_row_100 (fun M2 eM2 _ => ?_)
      refine hr_iinc X (v4 + 1) dX5_row_101 rfl (by rw [kc_1]) (by decide) rfl ?_
      refine hr_goto X 79 dX5_row_104 rfl ?_
      exact hr_wk (hs_some (hs_some (hs_none (hs_none (hs_some (hs_nil)))))) (ih (v4 + 1) M2)
set_option maxRecDepth 100000 in
set_option maxHeartbeats 4000000 in
theorem c_X5_row  {t0 : Nat} (hl_t0 : t0 < 69) (hs_t0 : hf_shp t0 = 5) (a1 : Int32) (a2 : Int32) (a3 : Int32) (M : hf_M) : hf_CI yX5_row cX5_row 5 (some .int) (2) (fun g => [.ref (hf_a g t0), .int a1, .int a2, .int a3]) M (s_X5_row t0 a1 a2 a3 M) := by
  refine hf_metI (by decide +kernel) (fun g => Nat.le_of_ble_eq_true rfl) (fun g p l ev s m args below meth c X => ?_)
  have X : hf_X g p s m args meth c cX5_row 5 RX5 (some .int) := X
  show hf_W g p l ev (2) s m args below meth c 5 (hf_QI g below args s) M 0 [some (.ref (hf_a g t0)), some (.int a1), some (.int a2), some (.int a3), none] [] (s_X5_row t0 a1 a2 a3 M)
  unfold s_X5_row
  refine hr_aload_n X dX5_row_0 rfl ?_
  refine hr_iload_n X dX5_row_1 rfl ?_
  refine hr_cvI X [.int a1] [] (c_X5_isShelf hl_t0 hs_t0 a1 M) lk_RX5_95 rfl rfl rfl hl_t0 hs_t0 ⟨by decide, rfl⟩ (by decide) (Nat.le_of_ble_eq_true rfl) dX5_row_2 (fun r1 M2 _ => ?_)
  refine hr_if_ne X 14 dX5_row_5 rfl ?_ ?_
  · refine hr_iload_n X dX5_row_14 rfl ?_
    refine hr_if_ge X 25 dX5_row_15 rfl ?_ ?_
    · refine hr_iload_n X dX5_row_25 rfl ?_
      refine hr_if_lt X 34 dX5_row_26 rfl ?_ ?_
      · refine hr_aload_n X dX5_row_34 rfl ?_
        refine hr_bipush X (-6) dX5_row_35 kb_m6 ?_
        refine hr_cvI X [.int (-6)] [] (c_X5_no hl_t0 hs_t0 (-6) M2) lk_RX5_99 rfl rfl rfl hl_t0 hs_t0 ⟨by decide, rfl⟩ (by decide) (Nat.le_of_ble_eq_true rfl) dX5_row_37 (fun r3 M4 _ => ?_)
        exact hr_iret X dX5_row_40
      · refine hr_iload_n X dX5_row_29 rfl ?_
        refine hr_iconst X 3 dX5_row_30 kc_3 ?_
        refine hr_icmp_le X 41 dX5_row_31 rfl ?_ ?_
        · refine hr_iload_n X dX5_row_41 rfl ?_
          refine hr_sipush X 160 dX5_row_42 ks_160 ?_
          refine hr_icmp_le X 55 dX5_row_45 rfl ?_ ?_
          · refine hr_aload_n X dX5_row_55 rfl ?_
            refine hr_gR X 6 hl_t0 hs_t0 lg_RX5_51 rfl dX5_row_56 (fun q5 hl_q5 hs_q5 => ?_)
            refine hr_iload_n X dX5_row_59 rfl ?_
            refine hr_iconst X 1 dX5_row_60 kc_1 ?_
            refine hr_iast X hl_q5 hs_q5 dX5_row_61 (fun M6 eM6 _ => ?_)
            refine hr_aload_n X dX5_row_62 rfl ?_
            refine hr_gR X 6 hl_t0 hs_t0 lg_RX5_54 rfl dX5_row_63 (fun q7 hl_q7 hs_q7 => ?_)
            refine hr_iload_n X dX5_row_66 rfl ?_
            refine hr_iload_n X dX5_row_67 rfl ?_
            refine hr_iast X hl_q7 hs_q7 dX5_row_68 (fun M8 eM8 _ => ?_)
            refine hr_aload_n X dX5_row_69 rfl ?_
            refine hr_gR X 6 hl_t0 hs_t0 lg_RX5_57 rfl dX5_row_70 (fun q9 hl_q9 hs_q9 => ?_)
            refine hr_iload_n X dX5_row_73 rfl ?_
            refine hr_iload_n X dX5_row_74 rfl ?_
            refine hr_iast X hl_q9 hs_q9 dX5_row_75 (fun M10 eM10 _ => ?_)
            refine hr_iconst X 0 dX5_row_76 kc_0 ?_
            refine hr_istore X dX5_row_77 (by decide) rfl ?_
            exact hr_wk (hs_some (hs_some (hs_none (hs_none (hs_some (hs_nil)))))) (w_X5_row_79 X hl_t0 hs_t0 a1 2000 0 M10)
          · refine hr_aload_n X dX5_row_48 rfl ?_
            refine hr_bipush X (-7) dX5_row_49 kb_m7 ?_
            refine hr_cvI X [.int (-7)] [] (c_X5_no hl_t0 hs_t0 (-7) M2) lk_RX5_99 rfl rfl rfl hl_t0 hs_t0 ⟨by decide, rfl⟩ (by decide) (Nat.le_of_ble_eq_true rfl) dX5_row_51 (fun r11 M12 _ => ?_)
            exact hr_iret X dX5_row_54
        · refine hr_aload_n X dX5_row_34 rfl ?_
          refine hr_bipush X (-6) dX5_row_35 kb_m6 ?_
          refine hr_cvI X [.int (-6)] [] (c_X5_no hl_t0 hs_t0 (-6) M2) lk_RX5_99 rfl rfl rfl hl_t0 hs_t0 ⟨by decide, rfl⟩ (by decide) (Nat.le_of_ble_eq_true rfl) dX5_row_37 (fun r13 M14 _ => ?_)
          exact hr_iret X dX5_row_40
    · refine hr_aload_n X dX5_row_18 rfl ?_
      refine hr_bipush X (-4) dX5_row_19 kb_m4 ?_
      refine hr_cvI X [.int (-4)] [] (c_X5_no hl_t0 hs_t0 (-4) M2) lk_RX5_99 rfl rfl rfl hl_t0 hs_t0 ⟨by decide, rfl⟩ (by decide) (Nat.le_of_ble_eq_true rfl) dX5_row_21 (fun r15 M16 _ => ?_)
      exact hr_iret X dX5_row_24
  · refine hr_aload_n X dX5_row_8 rfl ?_
    refine hr_iconst X (-1) dX5_row_9 kc_m1 ?_
    refine hr_cvI X [.int (-1)] [] (c_X5_no hl_t0 hs_t0 (-1) M2) lk_RX5_99 rfl rfl rfl hl_t0 hs_t0 ⟨by decide, rfl⟩ (by decide) (Nat.le_of_ble_eq_true rfl) dX5_row_10 (fun r17 M18 _ => ?_)
    exact hr_iret X dX5_row_13
set_option maxRecDepth 100000 in
set_option maxHeartbeats 4000000 in
theorem c_X5_set  {t0 : Nat} (hl_t0 : t0 < 69) (hs_t0 : hf_shp t0 = 5) (a1 : Int32) (a2 : Int32) (a3 : Int64) (M : hf_M) : hf_CI yX5_set cX5_set 5 (some .int) (2) (fun g => [.ref (hf_a g t0), .int a1, .int a2, .long a3]) M (s_X5_set t0 a1 a2 a3 M) := by
  refine hf_metI (by decide +kernel) (fun g => Nat.le_of_ble_eq_true rfl) (fun g p l ev s m args below meth c X => ?_)
  have X : hf_X g p s m args meth c cX5_set 5 RX5 (some .int) := X
  show hf_W g p l ev (2) s m args below meth c 5 (hf_QI g below args s) M 0 [some (.ref (hf_a g t0)), some (.int a1), some (.int a2), some (.long a3), none] [] (s_X5_set t0 a1 a2 a3 M)
  unfold s_X5_set
  refine hr_aload_n X dX5_set_0 rfl ?_
  refine hr_iload_n X dX5_set_1 rfl ?_
  refine hr_cvI X [.int a1] [] (c_X5_isShelf hl_t0 hs_t0 a1 M) lk_RX5_95 rfl rfl rfl hl_t0 hs_t0 ⟨by decide, rfl⟩ (by decide) (Nat.le_of_ble_eq_true rfl) dX5_set_2 (fun r1 M2 _ => ?_)
  refine hr_if_ne X 14 dX5_set_5 rfl ?_ ?_
  · refine hr_aload_n X dX5_set_14 rfl ?_
    refine hr_gR X 6 hl_t0 hs_t0 lg_RX5_51 rfl dX5_set_15 (fun q3 hl_q3 hs_q3 => ?_)
    refine hr_iload_n X dX5_set_18 rfl ?_
    refine hr_iald X hl_q3 hs_q3 dX5_set_19 (fun r4 _ _ => ?_)
    refine hr_iconst X 2 dX5_set_20 kc_2 ?_
    refine hr_icmp_ne X 31 dX5_set_21 rfl ?_ ?_
    · refine hr_aload_n X dX5_set_31 rfl ?_
      refine hr_gR X 6 hl_t0 hs_t0 lg_RX5_51 rfl dX5_set_32 (fun q5 hl_q5 hs_q5 => ?_)
      refine hr_iload_n X dX5_set_35 rfl ?_
      refine hr_iald X hl_q5 hs_q5 dX5_set_36 (fun r6 _ _ => ?_)
      refine hr_if_ne X 47 dX5_set_37 rfl ?_ ?_
      · refine hr_iload_n X dX5_set_47 rfl ?_
        refine hr_if_lt X 61 dX5_set_48 rfl ?_ ?_
        · refine hr_aload_n X dX5_set_61 rfl ?_
          refine hr_bipush X (-5) dX5_set_62 kb_m5 ?_
          refine hr_cvI X [.int (-5)] [] (c_X5_no hl_t0 hs_t0 (-5) M2) lk_RX5_99 rfl rfl rfl hl_t0 hs_t0 ⟨by decide, rfl⟩ (by decide) (Nat.le_of_ble_eq_true rfl) dX5_set_64 (fun r7 M8 _ => ?_)
          exact hr_iret X dX5_set_67
        · refine hr_iload_n X dX5_set_51 rfl ?_
          refine hr_aload_n X dX5_set_52 rfl ?_
          refine hr_gR X 6 hl_t0 hs_t0 lg_RX5_57 rfl dX5_set_53 (fun q9 hl_q9 hs_q9 => ?_)
          refine hr_iload_n X dX5_set_56 rfl ?_
          refine hr_iald X hl_q9 hs_q9 dX5_set_57 (fun r10 _ _ => ?_)
          refine hr_icmp_lt X 68 dX5_set_58 rfl ?_ ?_
          · refine hr_aload_n X dX5_set_68 rfl ?_
            refine hr_gR X 7 hl_t0 hs_t0 lg_RX5_63 rfl dX5_set_69 (fun q11 hl_q11 hs_q11 => ?_)
            refine hr_sipush X 160 dX5_set_72 ks_160 ?_
            refine hr_iload_n X dX5_set_75 rfl ?_
            refine hr_imul X dX5_set_76 ?_
            refine hr_iload_n X dX5_set_77 rfl ?_
            refine hr_iadd X dX5_set_78 ?_
            refine hr_aload_n X dX5_set_79 rfl ?_
            refine hr_gR X 6 hl_t0 hs_t0 lg_RX5_54 rfl dX5_set_80 (fun q12 hl_q12 hs_q12 => ?_)
            refine hr_iload_n X dX5_set_83 rfl ?_
            refine hr_iald X hl_q12 hs_q12 dX5_set_84 (fun r13 _ _ => ?_)
            refine hr_if_ne X 95 dX5_set_85 rfl ?_ ?_
            · refine hr_aload_n X dX5_set_95 rfl ?_
              refine hr_gR X 6 hl_t0 hs_t0 lg_RX5_54 rfl dX5_set_96 (fun q14 hl_q14 hs_q14 => ?_)
              refine hr_iload_n X dX5_set_99 rfl ?_
              refine hr_iald X hl_q14 hs_q14 dX5_set_100 (fun r15 _ _ => ?_)
              refine hr_iconst X 1 dX5_set_101 kc_1 ?_
              refine hr_icmp_ne X 112 dX5_set_102 rfl ?_ ?_
              · refine hr_aload_n X dX5_set_112 rfl ?_
                refine hr_gR X 6 hl_t0 hs_t0 lg_RX5_54 rfl dX5_set_113 (fun q16 hl_q16 hs_q16 => ?_)
                refine hr_iload_n X dX5_set_116 rfl ?_
                refine hr_iald X hl_q16 hs_q16 dX5_set_117 (fun r17 _ _ => ?_)
                refine hr_iconst X 2 dX5_set_118 kc_2 ?_
                refine hr_icmp_ne X 128 dX5_set_119 rfl ?_ ?_
                · refine hr_lload_n X dX5_set_128 rfl ?_
                  refine hr_last X hl_q11 hs_q11 dX5_set_129 (fun M18 eM18 _ => ?_)
                  refine hr_iconst X 1 dX5_set_130 kc_1 ?_
                  exact hr_iret X dX5_set_131
                · refine hr_lload_n X dX5_set_122 rfl ?_
                  refine hr_l2i X dX5_set_123 ?_
                  refine hr_i2l X dX5_set_124 ?_
                  refine hr_goto X 129 dX5_set_125 rfl ?_
                  refine hr_last X hl_q11 hs_q11 dX5_set_129 (fun M19 eM19 _ => ?_)
                  refine hr_iconst X 1 dX5_set_130 kc_1 ?_
                  exact hr_iret X dX5_set_131
              · refine hr_lload_n X dX5_set_105 rfl ?_
                refine hr_l2i X dX5_set_106 ?_
                refine hr_i2s X dX5_set_107 ?_
                refine hr_i2l X dX5_set_108 ?_
                refine hr_goto X 129 dX5_set_109 rfl ?_
                refine hr_last X hl_q11 hs_q11 dX5_set_129 (fun M20 eM20 _ => ?_)
                refine hr_iconst X 1 dX5_set_130 kc_1 ?_
                exact hr_iret X dX5_set_131
            · refine hr_lload_n X dX5_set_88 rfl ?_
              refine hr_l2i X dX5_set_89 ?_
              refine hr_i2b X dX5_set_90 ?_
              refine hr_i2l X dX5_set_91 ?_
              refine hr_goto X 129 dX5_set_92 rfl ?_
              refine hr_last X hl_q11 hs_q11 dX5_set_129 (fun M21 eM21 _ => ?_)
              refine hr_iconst X 1 dX5_set_130 kc_1 ?_
              exact hr_iret X dX5_set_131
          · refine hr_aload_n X dX5_set_61 rfl ?_
            refine hr_bipush X (-5) dX5_set_62 kb_m5 ?_
            refine hr_cvI X [.int (-5)] [] (c_X5_no hl_t0 hs_t0 (-5) M2) lk_RX5_99 rfl rfl rfl hl_t0 hs_t0 ⟨by decide, rfl⟩ (by decide) (Nat.le_of_ble_eq_true rfl) dX5_set_64 (fun r22 M23 _ => ?_)
            exact hr_iret X dX5_set_67
      · refine hr_aload_n X dX5_set_40 rfl ?_
        refine hr_bipush X (-3) dX5_set_41 kb_m3 ?_
        refine hr_cvI X [.int (-3)] [] (c_X5_no hl_t0 hs_t0 (-3) M2) lk_RX5_99 rfl rfl rfl hl_t0 hs_t0 ⟨by decide, rfl⟩ (by decide) (Nat.le_of_ble_eq_true rfl) dX5_set_43 (fun r24 M25 _ => ?_)
        exact hr_iret X dX5_set_46
    · refine hr_aload_n X dX5_set_24 rfl ?_
      refine hr_bipush X (-2) dX5_set_25 kb_m2 ?_
      refine hr_cvI X [.int (-2)] [] (c_X5_no hl_t0 hs_t0 (-2) M2) lk_RX5_99 rfl rfl rfl hl_t0 hs_t0 ⟨by decide, rfl⟩ (by decide) (Nat.le_of_ble_eq_true rfl) dX5_set_27 (fun r26 M27 _ => ?_)
      exact hr_iret X dX5_set_30
  · refine hr_aload_n X dX5_set_8 rfl ?_
    refine hr_iconst X (-1) dX5_set_9 kc_m1 ?_
    refine hr_cvI X [.int (-1)] [] (c_X5_no hl_t0 hs_t0 (-1) M2) lk_RX5_99 rfl rfl rfl hl_t0 hs_t0 ⟨by decide, rfl⟩ (by decide) (Nat.le_of_ble_eq_true rfl) dX5_set_10 (fun r28 M29 _ => ?_)
    exact hr_iret X dX5_set_13
set_option maxRecDepth 100000 in
set_option maxHeartbeats 4000000 in
theorem w_X5_copy_205 {g : hf_G} {p : Program} {l : Launch} {ev : Env} {s : State} {m : MethodId} {args : Array Value} {below : List Frame} {meth : Method} {c : Code} (X : hf_X g p s m args meth c cX5_copy 7 RX5 (some .int))    {t0 : Nat} (hl_t0 : t0 < 69) (hs_t0 : hf_shp t0 = 5) (v2 : Int32) (v4 : Int32) (v5 : Int32) : ∀ (n : Nat) (v6 : Int32) (M : hf_M), hf_W g p l ev (2) s m args below meth c 7 (hf_QI g below args s) M 205 [some (.ref (hf_a g t0)), none, some (.int v2), none, some (.int v4), some (.int v5), some (.int v6)] [] (s_X5_copy_205 t0 v2 v4 v5 n v6 M) := by
  intro n
  induction n with
  | zero =>
    intros
    exact hr_none
  | succ n ih =>
    intro v6 M
    rw [s_X5_copy_205]
    refine hr_iload X dX5_copy_205 rfl ?_
    refine hr_iload X dX5_copy_207 rfl ?_
    refine hr_icmp_ge X 241 dX5_copy_209 rfl ?_ ?_
    · refine hr_iconst X 1 dX5_copy_241 kc_1 ?_
      exact hr_iret X dX5_copy_242
    · refine hr_aload_n X dX5_copy_212 rfl ?_
      refine hr_gR X 7 hl_t0 hs_t0 lg_RX5_63 rfl dX5_copy_213 (fun q1 hl_q1 hs_q1 => ?_)
      refine hr_sipush X 160 dX5_copy_216 ks_160 ?_
      refine hr_iload_n X dX5_copy_219 rfl ?_
      refine hr_imul X dX5_copy_220 ?_
      refine hr_iload X dX5_copy_221 rfl ?_
      refine hr_iadd X dX5_copy_223 ?_
      refine hr_iload X dX5_copy_224 rfl ?_
      refine hr_iadd X dX5_copy_226 ?_
      refine hr_aload_n X dX5_copy_227 rfl ?_
      refine hr_gR X 7 hl_t0 hs_t0 lg_RX5_67 rfl dX5_copy_228 (fun q2 hl_q2 hs_q2 => ?_)
      refine hr_iload X dX5_copy_231 rfl ?_
      refine hr_lald X hl_q2 hs_q2 dX5_copy_233 (fun r3 _ _ => ?_)
      refine hr_last X hl_q1 hs_q1 dX5_copy_234 (fun M4 eM4 _ => ?_)
      refine hr_iinc X (v6 + 1) dX5_copy_235 rfl (by rw [kc_1]) (by decide) rfl ?_
      refine hr_goto X 205 dX5_copy_238 rfl ?_
      exact hr_wk (hs_some (hs_none (hs_some (hs_none (hs_some (hs_some (hs_some (hs_nil)))))))) (ih (v6 + 1) M4)
set_option maxRecDepth 100000 in
set_option maxHeartbeats 4000000 in
theorem w_X5_copy_167 {g : hf_G} {p : Program} {l : Launch} {ev : Env} {s : State} {m : MethodId} {args : Array Value} {below : List Frame} {meth : Method} {c : Code} (X : hf_X g p s m args meth c cX5_copy 7 RX5 (some .int))    {t0 : Nat} (hl_t0 : t0 < 69) (hs_t0 : hf_shp t0 = 5) (v1 : Int32) (v2 : Int32) (v3 : Int32) (v4 : Int32) (v5 : Int32) : ∀ (n : Nat) (v6 : Int32) (M : hf_M), hf_W g p l ev (2) s m args below meth c 7 (hf_QI g below args s) M 167 [some (.ref (hf_a g t0)), some (.int v1), some (.int v2), some (.int v3), some (.int v4), some (.int v5), some (.int v6)] [] (s_X5_copy_167 t0 v1 v2 v3 v4 v5 n v6 M) := by
  intro n
  induction n with
  | zero =>
    intros
    exact hr_none
  | succ n ih =>
    intro v6 M
    rw [s_X5_copy_167]
    refine hr_iload X dX5_copy_167 rfl ?_
    refine hr_iload X dX5_copy_169 rfl ?_
    refine hr_icmp_ge X 202 dX5_copy_171 rfl ?_ ?_
    · refine hr_iconst X 0 dX5_copy_202 kc_0 ?_
      refine hr_istore X dX5_copy_203 (by decide) rfl ?_
      exact hr_wk (hs_some (hs_none (hs_some (hs_none (hs_some (hs_some (hs_some (hs_nil)))))))) (w_X5_copy_205 X hl_t0 hs_t0 v2 v4 v5 2000 0 M)
    · refine hr_aload_n X dX5_copy_174 rfl ?_
      refine hr_gR X 7 hl_t0 hs_t0 lg_RX5_67 rfl dX5_copy_175 (fun q1 hl_q1 hs_q1 => ?_)
      refine hr_iload X dX5_copy_178 rfl ?_
      refine hr_aload_n X dX5_copy_180 rfl ?_
      refine hr_gR X 7 hl_t0 hs_t0 lg_RX5_63 rfl dX5_copy_181 (fun q2 hl_q2 hs_q2 => ?_)
      refine hr_sipush X 160 dX5_copy_184 ks_160 ?_
      refine hr_iload_n X dX5_copy_187 rfl ?_
      refine hr_imul X dX5_copy_188 ?_
      refine hr_iload_n X dX5_copy_189 rfl ?_
      refine hr_iadd X dX5_copy_190 ?_
      refine hr_iload X dX5_copy_191 rfl ?_
      refine hr_iadd X dX5_copy_193 ?_
      refine hr_lald X hl_q2 hs_q2 dX5_copy_194 (fun r3 _ _ => ?_)
      refine hr_last X hl_q1 hs_q1 dX5_copy_195 (fun M4 eM4 _ => ?_)
      refine hr_iinc X (v6 + 1) dX5_copy_196 rfl (by rw [kc_1]) (by decide) rfl ?_
      refine hr_goto X 167 dX5_copy_199 rfl ?_
      exact hr_wk (hs_some (hs_some (hs_some (hs_some (hs_some (hs_some (hs_some (hs_nil)))))))) (ih (v6 + 1) M4)
set_option maxRecDepth 100000 in
set_option maxHeartbeats 4000000 in
theorem w_X5_copy_84 {g : hf_G} {p : Program} {l : Launch} {ev : Env} {s : State} {m : MethodId} {args : Array Value} {below : List Frame} {meth : Method} {c : Code} (X : hf_X g p s m args meth c cX5_copy 7 RX5 (some .int))     {t0 : Nat} (hl_t0 : t0 < 69) (hs_t0 : hf_shp t0 = 5) (v1 : Int32) (v2 : Int32) (v3 : Int32) (v4 : Int32) (v5 : Int32) (M : hf_M) : hf_W g p l ev (2) s m args below meth c 7 (hf_QI g below args s) M 84 [some (.ref (hf_a g t0)), some (.int v1), some (.int v2), some (.int v3), some (.int v4), some (.int v5), none] [] (s_X5_copy_84 t0 v1 v2 v3 v4 v5 M) := by
  unfold s_X5_copy_84
  refine hr_aload_n X dX5_copy_84 rfl ?_
  refine hr_gR X 6 hl_t0 hs_t0 lg_RX5_51 rfl dX5_copy_85 (fun q1 hl_q1 hs_q1 => ?_)
  refine hr_iload_n X dX5_copy_88 rfl ?_
  refine hr_iald X hl_q1 hs_q1 dX5_copy_89 (fun r2 _ _ => ?_)
  refine hr_if_eq X 102 dX5_copy_90 rfl ?_ ?_
  · refine hr_aload_n X dX5_copy_102 rfl ?_
    refine hr_bipush X (-3) dX5_copy_103 kb_m3 ?_
    refine hr_cvI X [.int (-3)] [] (c_X5_no hl_t0 hs_t0 (-3) M) lk_RX5_99 rfl rfl rfl hl_t0 hs_t0 ⟨by decide, rfl⟩ (by decide) (Nat.le_of_ble_eq_true rfl) dX5_copy_105 (fun r3 M4 _ => ?_)
    exact hr_iret X dX5_copy_108
  · refine hr_aload_n X dX5_copy_93 rfl ?_
    refine hr_gR X 6 hl_t0 hs_t0 lg_RX5_51 rfl dX5_copy_94 (fun q5 hl_q5 hs_q5 => ?_)
    refine hr_iload_n X dX5_copy_97 rfl ?_
    refine hr_iald X hl_q5 hs_q5 dX5_copy_98 (fun r6 _ _ => ?_)
    refine hr_if_ne X 109 dX5_copy_99 rfl ?_ ?_
    · refine hr_iload X dX5_copy_109 rfl ?_
      refine hr_if_ge X 121 dX5_copy_111 rfl ?_ ?_
      · refine hr_iload_n X dX5_copy_121 rfl ?_
        refine hr_if_lt X 157 dX5_copy_122 rfl ?_ ?_
        · refine hr_aload_n X dX5_copy_157 rfl ?_
          refine hr_bipush X (-5) dX5_copy_158 kb_m5 ?_
          refine hr_cvI X [.int (-5)] [] (c_X5_no hl_t0 hs_t0 (-5) M) lk_RX5_99 rfl rfl rfl hl_t0 hs_t0 ⟨by decide, rfl⟩ (by decide) (Nat.le_of_ble_eq_true rfl) dX5_copy_160 (fun r7 M8 _ => ?_)
          exact hr_iret X dX5_copy_163
        · refine hr_iload X dX5_copy_125 rfl ?_
          refine hr_if_lt X 157 dX5_copy_127 rfl ?_ ?_
          · refine hr_aload_n X dX5_copy_157 rfl ?_
            refine hr_bipush X (-5) dX5_copy_158 kb_m5 ?_
            refine hr_cvI X [.int (-5)] [] (c_X5_no hl_t0 hs_t0 (-5) M) lk_RX5_99 rfl rfl rfl hl_t0 hs_t0 ⟨by decide, rfl⟩ (by decide) (Nat.le_of_ble_eq_true rfl) dX5_copy_160 (fun r9 M10 _ => ?_)
            exact hr_iret X dX5_copy_163
          · refine hr_iload_n X dX5_copy_130 rfl ?_
            refine hr_aload_n X dX5_copy_131 rfl ?_
            refine hr_gR X 6 hl_t0 hs_t0 lg_RX5_57 rfl dX5_copy_132 (fun q11 hl_q11 hs_q11 => ?_)
            refine hr_iload_n X dX5_copy_135 rfl ?_
            refine hr_iald X hl_q11 hs_q11 dX5_copy_136 (fun r12 _ _ => ?_)
            refine hr_iload X dX5_copy_137 rfl ?_
            refine hr_isub X dX5_copy_139 ?_
            refine hr_icmp_gt X 157 dX5_copy_140 rfl ?_ ?_
            · refine hr_aload_n X dX5_copy_157 rfl ?_
              refine hr_bipush X (-5) dX5_copy_158 kb_m5 ?_
              refine hr_cvI X [.int (-5)] [] (c_X5_no hl_t0 hs_t0 (-5) M) lk_RX5_99 rfl rfl rfl hl_t0 hs_t0 ⟨by decide, rfl⟩ (by decide) (Nat.le_of_ble_eq_true rfl) dX5_copy_160 (fun r13 M14 _ => ?_)
              exact hr_iret X dX5_copy_163
            · refine hr_iload X dX5_copy_143 rfl ?_
              refine hr_aload_n X dX5_copy_145 rfl ?_
              refine hr_gR X 6 hl_t0 hs_t0 lg_RX5_57 rfl dX5_copy_146 (fun q15 hl_q15 hs_q15 => ?_)
              refine hr_iload_n X dX5_copy_149 rfl ?_
              refine hr_iald X hl_q15 hs_q15 dX5_copy_150 (fun r16 _ _ => ?_)
              refine hr_iload X dX5_copy_151 rfl ?_
              refine hr_isub X dX5_copy_153 ?_
              refine hr_icmp_le X 164 dX5_copy_154 rfl ?_ ?_
              · refine hr_iconst X 0 dX5_copy_164 kc_0 ?_
                refine hr_istore X dX5_copy_165 (by decide) rfl ?_
                exact hr_wk (hs_some (hs_some (hs_some (hs_some (hs_some (hs_some (hs_some (hs_nil)))))))) (w_X5_copy_167 X hl_t0 hs_t0 v1 v2 v3 v4 v5 2000 0 M)
              · refine hr_aload_n X dX5_copy_157 rfl ?_
                refine hr_bipush X (-5) dX5_copy_158 kb_m5 ?_
                refine hr_cvI X [.int (-5)] [] (c_X5_no hl_t0 hs_t0 (-5) M) lk_RX5_99 rfl rfl rfl hl_t0 hs_t0 ⟨by decide, rfl⟩ (by decide) (Nat.le_of_ble_eq_true rfl) dX5_copy_160 (fun r17 M18 _ => ?_)
                exact hr_iret X dX5_copy_163
      · refine hr_aload_n X dX5_copy_114 rfl ?_
        refine hr_bipush X (-4) dX5_copy_115 kb_m4 ?_
        refine hr_cvI X [.int (-4)] [] (c_X5_no hl_t0 hs_t0 (-4) M) lk_RX5_99 rfl rfl rfl hl_t0 hs_t0 ⟨by decide, rfl⟩ (by decide) (Nat.le_of_ble_eq_true rfl) dX5_copy_117 (fun r19 M20 _ => ?_)
        exact hr_iret X dX5_copy_120
    · refine hr_aload_n X dX5_copy_102 rfl ?_
      refine hr_bipush X (-3) dX5_copy_103 kb_m3 ?_
      refine hr_cvI X [.int (-3)] [] (c_X5_no hl_t0 hs_t0 (-3) M) lk_RX5_99 rfl rfl rfl hl_t0 hs_t0 ⟨by decide, rfl⟩ (by decide) (Nat.le_of_ble_eq_true rfl) dX5_copy_105 (fun r21 M22 _ => ?_)
      exact hr_iret X dX5_copy_108
set_option maxRecDepth 100000 in
set_option maxHeartbeats 4000000 in
theorem c_X5_copy  {t0 : Nat} (hl_t0 : t0 < 69) (hs_t0 : hf_shp t0 = 5) (a1 : Int32) (a2 : Int32) (a3 : Int32) (a4 : Int32) (a5 : Int32) (M : hf_M) : hf_CI yX5_copy cX5_copy 7 (some .int) (2) (fun g => [.ref (hf_a g t0), .int a1, .int a2, .int a3, .int a4, .int a5]) M (s_X5_copy t0 a1 a2 a3 a4 a5 M) := by
  refine hf_metI (by decide +kernel) (fun g => Nat.le_of_ble_eq_true rfl) (fun g p l ev s m args below meth c X => ?_)
  have X : hf_X g p s m args meth c cX5_copy 7 RX5 (some .int) := X
  show hf_W g p l ev (2) s m args below meth c 7 (hf_QI g below args s) M 0 [some (.ref (hf_a g t0)), some (.int a1), some (.int a2), some (.int a3), some (.int a4), some (.int a5), none] [] (s_X5_copy t0 a1 a2 a3 a4 a5 M)
  unfold s_X5_copy
  refine hr_aload_n X dX5_copy_0 rfl ?_
  refine hr_iload_n X dX5_copy_1 rfl ?_
  refine hr_cvI X [.int a1] [] (c_X5_isShelf hl_t0 hs_t0 a1 M) lk_RX5_95 rfl rfl rfl hl_t0 hs_t0 ⟨by decide, rfl⟩ (by decide) (Nat.le_of_ble_eq_true rfl) dX5_copy_2 (fun r1 M2 _ => ?_)
  refine hr_if_eq X 16 dX5_copy_5 rfl ?_ ?_
  · refine hr_aload_n X dX5_copy_16 rfl ?_
    refine hr_iconst X (-1) dX5_copy_17 kc_m1 ?_
    refine hr_cvI X [.int (-1)] [] (c_X5_no hl_t0 hs_t0 (-1) M2) lk_RX5_99 rfl rfl rfl hl_t0 hs_t0 ⟨by decide, rfl⟩ (by decide) (Nat.le_of_ble_eq_true rfl) dX5_copy_18 (fun r3 M4 _ => ?_)
    exact hr_iret X dX5_copy_21
  · refine hr_aload_n X dX5_copy_8 rfl ?_
    refine hr_iload_n X dX5_copy_9 rfl ?_
    refine hr_cvI X [.int a2] [] (c_X5_isShelf hl_t0 hs_t0 a2 M2) lk_RX5_95 rfl rfl rfl hl_t0 hs_t0 ⟨by decide, rfl⟩ (by decide) (Nat.le_of_ble_eq_true rfl) dX5_copy_10 (fun r5 M6 _ => ?_)
    refine hr_if_ne X 22 dX5_copy_13 rfl ?_ ?_
    · refine hr_aload_n X dX5_copy_22 rfl ?_
      refine hr_gR X 6 hl_t0 hs_t0 lg_RX5_51 rfl dX5_copy_23 (fun q7 hl_q7 hs_q7 => ?_)
      refine hr_iload_n X dX5_copy_26 rfl ?_
      refine hr_iald X hl_q7 hs_q7 dX5_copy_27 (fun r8 _ _ => ?_)
      refine hr_iconst X 2 dX5_copy_28 kc_2 ?_
      refine hr_icmp_eq X 77 dX5_copy_29 rfl ?_ ?_
      · refine hr_aload_n X dX5_copy_77 rfl ?_
        refine hr_bipush X (-2) dX5_copy_78 kb_m2 ?_
        refine hr_cvI X [.int (-2)] [] (c_X5_no hl_t0 hs_t0 (-2) M6) lk_RX5_99 rfl rfl rfl hl_t0 hs_t0 ⟨by decide, rfl⟩ (by decide) (Nat.le_of_ble_eq_true rfl) dX5_copy_80 (fun r9 M10 _ => ?_)
        exact hr_iret X dX5_copy_83
      · refine hr_aload_n X dX5_copy_32 rfl ?_
        refine hr_gR X 6 hl_t0 hs_t0 lg_RX5_51 rfl dX5_copy_33 (fun q11 hl_q11 hs_q11 => ?_)
        refine hr_iload_n X dX5_copy_36 rfl ?_
        refine hr_iald X hl_q11 hs_q11 dX5_copy_37 (fun r12 _ _ => ?_)
        refine hr_iconst X 2 dX5_copy_38 kc_2 ?_
        refine hr_icmp_eq X 77 dX5_copy_39 rfl ?_ ?_
        · refine hr_aload_n X dX5_copy_77 rfl ?_
          refine hr_bipush X (-2) dX5_copy_78 kb_m2 ?_
          refine hr_cvI X [.int (-2)] [] (c_X5_no hl_t0 hs_t0 (-2) M6) lk_RX5_99 rfl rfl rfl hl_t0 hs_t0 ⟨by decide, rfl⟩ (by decide) (Nat.le_of_ble_eq_true rfl) dX5_copy_80 (fun r13 M14 _ => ?_)
          exact hr_iret X dX5_copy_83
        · refine hr_aload_n X dX5_copy_42 rfl ?_
          refine hr_gR X 6 hl_t0 hs_t0 lg_RX5_51 rfl dX5_copy_43 (fun q15 hl_q15 hs_q15 => ?_)
          refine hr_iload_n X dX5_copy_46 rfl ?_
          refine hr_iald X hl_q15 hs_q15 dX5_copy_47 (fun r16 _ _ => ?_)
          refine hr_iconst X 1 dX5_copy_48 kc_1 ?_
          refine hr_icmp_ne X 84 dX5_copy_49 rfl ?_ ?_
          · exact hr_wk (hs_some (hs_some (hs_some (hs_some (hs_some (hs_some (hs_none (hs_nil)))))))) (w_X5_copy_84 X hl_t0 hs_t0 a1 a2 a3 a4 a5 M6)
          · refine hr_aload_n X dX5_copy_52 rfl ?_
            refine hr_gR X 6 hl_t0 hs_t0 lg_RX5_51 rfl dX5_copy_53 (fun q17 hl_q17 hs_q17 => ?_)
            refine hr_iload_n X dX5_copy_56 rfl ?_
            refine hr_iald X hl_q17 hs_q17 dX5_copy_57 (fun r18 _ _ => ?_)
            refine hr_iconst X 1 dX5_copy_58 kc_1 ?_
            refine hr_icmp_ne X 84 dX5_copy_59 rfl ?_ ?_
            · exact hr_wk (hs_some (hs_some (hs_some (hs_some (hs_some (hs_some (hs_none (hs_nil)))))))) (w_X5_copy_84 X hl_t0 hs_t0 a1 a2 a3 a4 a5 M6)
            · refine hr_aload_n X dX5_copy_62 rfl ?_
              refine hr_gR X 6 hl_t0 hs_t0 lg_RX5_54 rfl dX5_copy_63 (fun q19 hl_q19 hs_q19 => ?_)
              refine hr_iload_n X dX5_copy_66 rfl ?_
              refine hr_iald X hl_q19 hs_q19 dX5_copy_67 (fun r20 _ _ => ?_)
              refine hr_aload_n X dX5_copy_68 rfl ?_
              refine hr_gR X 6 hl_t0 hs_t0 lg_RX5_54 rfl dX5_copy_69 (fun q21 hl_q21 hs_q21 => ?_)
              refine hr_iload_n X dX5_copy_72 rfl ?_
              refine hr_iald X hl_q21 hs_q21 dX5_copy_73 (fun r22 _ _ => ?_)
              refine hr_icmp_eq X 84 dX5_copy_74 rfl ?_ ?_
              · exact hr_wk (hs_some (hs_some (hs_some (hs_some (hs_some (hs_some (hs_none (hs_nil)))))))) (w_X5_copy_84 X hl_t0 hs_t0 a1 a2 a3 a4 a5 M6)
              · refine hr_aload_n X dX5_copy_77 rfl ?_
                refine hr_bipush X (-2) dX5_copy_78 kb_m2 ?_
                refine hr_cvI X [.int (-2)] [] (c_X5_no hl_t0 hs_t0 (-2) M6) lk_RX5_99 rfl rfl rfl hl_t0 hs_t0 ⟨by decide, rfl⟩ (by decide) (Nat.le_of_ble_eq_true rfl) dX5_copy_80 (fun r23 M24 _ => ?_)
                exact hr_iret X dX5_copy_83
    · refine hr_aload_n X dX5_copy_16 rfl ?_
      refine hr_iconst X (-1) dX5_copy_17 kc_m1 ?_
      refine hr_cvI X [.int (-1)] [] (c_X5_no hl_t0 hs_t0 (-1) M6) lk_RX5_99 rfl rfl rfl hl_t0 hs_t0 ⟨by decide, rfl⟩ (by decide) (Nat.le_of_ble_eq_true rfl) dX5_copy_18 (fun r25 M26 _ => ?_)
      exact hr_iret X dX5_copy_21
set_option maxRecDepth 100000 in
set_option maxHeartbeats 4000000 in
theorem c_X5_element  {t0 : Nat} (hl_t0 : t0 < 69) (hs_t0 : hf_shp t0 = 5) (a1 : Int32) (a2 : Int32) (M : hf_M) : hf_CJ yX5_element cX5_element 3 (some .long) (2) (fun g => [.ref (hf_a g t0), .int a1, .int a2]) M (s_X5_element t0 a1 a2 M) := by
  refine hf_metJ (by decide +kernel) (fun g => Nat.le_of_ble_eq_true rfl) (fun g p l ev s m args below meth c X => ?_)
  have X : hf_X g p s m args meth c cX5_element 3 RX5 (some .long) := X
  show hf_W g p l ev (2) s m args below meth c 3 (hf_QJ g below args s) M 0 [some (.ref (hf_a g t0)), some (.int a1), some (.int a2)] [] (s_X5_element t0 a1 a2 M)
  unfold s_X5_element
  refine hr_aload_n X dX5_element_0 rfl ?_
  refine hr_iload_n X dX5_element_1 rfl ?_
  refine hr_cvI X [.int a1] [] (c_X5_isShelf hl_t0 hs_t0 a1 M) lk_RX5_95 rfl rfl rfl hl_t0 hs_t0 ⟨by decide, rfl⟩ (by decide) (Nat.le_of_ble_eq_true rfl) dX5_element_2 (fun r1 M2 _ => ?_)
  refine hr_if_eq X 47 dX5_element_5 rfl ?_ ?_
  · refine hr_lconst X 0 dX5_element_47 rfl ?_
    exact hr_lret X dX5_element_48
  · refine hr_aload_n X dX5_element_8 rfl ?_
    refine hr_gR X 6 hl_t0 hs_t0 lg_RX5_51 rfl dX5_element_9 (fun q3 hl_q3 hs_q3 => ?_)
    refine hr_iload_n X dX5_element_12 rfl ?_
    refine hr_iald X hl_q3 hs_q3 dX5_element_13 (fun r4 _ _ => ?_)
    refine hr_iconst X 1 dX5_element_14 kc_1 ?_
    refine hr_icmp_ne X 47 dX5_element_15 rfl ?_ ?_
    · refine hr_lconst X 0 dX5_element_47 rfl ?_
      exact hr_lret X dX5_element_48
    · refine hr_iload_n X dX5_element_18 rfl ?_
      refine hr_if_lt X 47 dX5_element_19 rfl ?_ ?_
      · refine hr_lconst X 0 dX5_element_47 rfl ?_
        exact hr_lret X dX5_element_48
      · refine hr_iload_n X dX5_element_22 rfl ?_
        refine hr_aload_n X dX5_element_23 rfl ?_
        refine hr_gR X 6 hl_t0 hs_t0 lg_RX5_57 rfl dX5_element_24 (fun q5 hl_q5 hs_q5 => ?_)
        refine hr_iload_n X dX5_element_27 rfl ?_
        refine hr_iald X hl_q5 hs_q5 dX5_element_28 (fun r6 _ _ => ?_)
        refine hr_icmp_ge X 47 dX5_element_29 rfl ?_ ?_
        · refine hr_lconst X 0 dX5_element_47 rfl ?_
          exact hr_lret X dX5_element_48
        · refine hr_aload_n X dX5_element_32 rfl ?_
          refine hr_gR X 7 hl_t0 hs_t0 lg_RX5_63 rfl dX5_element_33 (fun q7 hl_q7 hs_q7 => ?_)
          refine hr_sipush X 160 dX5_element_36 ks_160 ?_
          refine hr_iload_n X dX5_element_39 rfl ?_
          refine hr_imul X dX5_element_40 ?_
          refine hr_iload_n X dX5_element_41 rfl ?_
          refine hr_iadd X dX5_element_42 ?_
          refine hr_lald X hl_q7 hs_q7 dX5_element_43 (fun r8 _ _ => ?_)
          refine hr_goto X 48 dX5_element_44 rfl ?_
          exact hr_lret X dX5_element_48
set_option maxRecDepth 100000 in
set_option maxHeartbeats 4000000 in
theorem c_X5_show  {t0 : Nat} (hl_t0 : t0 < 69) (hs_t0 : hf_shp t0 = 5) (a1 : Int32) (a2 : Int32) (M : hf_M) : hf_CI yX5_show cX5_show 3 (some .int) (2) (fun g => [.ref (hf_a g t0), .int a1, .int a2]) M (s_X5_show t0 a1 a2 M) := by
  refine hf_metI (by decide +kernel) (fun g => Nat.le_of_ble_eq_true rfl) (fun g p l ev s m args below meth c X => ?_)
  have X : hf_X g p s m args meth c cX5_show 3 RX5 (some .int) := X
  show hf_W g p l ev (2) s m args below meth c 3 (hf_QI g below args s) M 0 [some (.ref (hf_a g t0)), some (.int a1), some (.int a2)] [] (s_X5_show t0 a1 a2 M)
  unfold s_X5_show
  refine hr_aload_n X dX5_show_0 rfl ?_
  refine hr_iload_n X dX5_show_1 rfl ?_
  refine hr_cvI X [.int a1] [] (c_X5_isShelf hl_t0 hs_t0 a1 M) lk_RX5_95 rfl rfl rfl hl_t0 hs_t0 ⟨by decide, rfl⟩ (by decide) (Nat.le_of_ble_eq_true rfl) dX5_show_2 (fun r1 M2 _ => ?_)
  refine hr_if_eq X 21 dX5_show_5 rfl ?_ ?_
  · refine hr_aload_n X dX5_show_21 rfl ?_
    refine hr_iconst X (-1) dX5_show_22 kc_m1 ?_
    refine hr_cvI X [.int (-1)] [] (c_X5_no hl_t0 hs_t0 (-1) M2) lk_RX5_99 rfl rfl rfl hl_t0 hs_t0 ⟨by decide, rfl⟩ (by decide) (Nat.le_of_ble_eq_true rfl) dX5_show_23 (fun r3 M4 _ => ?_)
    exact hr_iret X dX5_show_26
  · refine hr_iload_n X dX5_show_8 rfl ?_
    refine hr_iconst X (-1) dX5_show_9 kc_m1 ?_
    refine hr_icmp_eq X 27 dX5_show_10 rfl ?_ ?_
    · refine hr_aload_n X dX5_show_27 rfl ?_
      refine hr_gR X 6 hl_t0 hs_t0 lg_RX5_51 rfl dX5_show_28 (fun q5 hl_q5 hs_q5 => ?_)
      refine hr_iload_n X dX5_show_31 rfl ?_
      refine hr_iload_n X dX5_show_32 rfl ?_
      refine hr_iconst X (-1) dX5_show_33 kc_m1 ?_
      refine hr_icmp_ne X 41 dX5_show_34 rfl ?_ ?_
      · refine hr_iconst X 2 dX5_show_41 kc_2 ?_
        refine hr_iast X hl_q5 hs_q5 dX5_show_42 (fun M6 eM6 _ => ?_)
        refine hr_aload_n X dX5_show_43 rfl ?_
        refine hr_gR X 6 hl_t0 hs_t0 lg_RX5_60 rfl dX5_show_44 (fun q7 hl_q7 hs_q7 => ?_)
        refine hr_iload_n X dX5_show_47 rfl ?_
        refine hr_iload_n X dX5_show_48 rfl ?_
        refine hr_iast X hl_q7 hs_q7 dX5_show_49 (fun M8 eM8 _ => ?_)
        refine hr_iload_n X dX5_show_50 rfl ?_
        refine hr_iconst X (-1) dX5_show_51 kc_m1 ?_
        refine hr_icmp_ne X 59 dX5_show_52 rfl ?_ ?_
        · refine hr_iconst X 1 dX5_show_59 kc_1 ?_
          exact hr_iret X dX5_show_60
        · refine hr_iconst X 0 dX5_show_55 kc_0 ?_
          refine hr_goto X 60 dX5_show_56 rfl ?_
          exact hr_iret X dX5_show_60
      · refine hr_iconst X 0 dX5_show_37 kc_0 ?_
        refine hr_goto X 42 dX5_show_38 rfl ?_
        refine hr_iast X hl_q5 hs_q5 dX5_show_42 (fun M9 eM9 _ => ?_)
        refine hr_aload_n X dX5_show_43 rfl ?_
        refine hr_gR X 6 hl_t0 hs_t0 lg_RX5_60 rfl dX5_show_44 (fun q10 hl_q10 hs_q10 => ?_)
        refine hr_iload_n X dX5_show_47 rfl ?_
        refine hr_iload_n X dX5_show_48 rfl ?_
        refine hr_iast X hl_q10 hs_q10 dX5_show_49 (fun M11 eM11 _ => ?_)
        refine hr_iload_n X dX5_show_50 rfl ?_
        refine hr_iconst X (-1) dX5_show_51 kc_m1 ?_
        refine hr_icmp_ne X 59 dX5_show_52 rfl ?_ ?_
        · refine hr_iconst X 1 dX5_show_59 kc_1 ?_
          exact hr_iret X dX5_show_60
        · refine hr_iconst X 0 dX5_show_55 kc_0 ?_
          refine hr_goto X 60 dX5_show_56 rfl ?_
          exact hr_iret X dX5_show_60
    · refine hr_aload_n X dX5_show_13 rfl ?_
      refine hr_iload_n X dX5_show_14 rfl ?_
      refine hr_cvI X [.int a2] [] (c_X5_isSpeaker hl_t0 hs_t0 a2 M2) lk_RX5_103 rfl rfl rfl hl_t0 hs_t0 ⟨by decide, rfl⟩ (by decide) (Nat.le_of_ble_eq_true rfl) dX5_show_15 (fun r12 M13 _ => ?_)
      refine hr_if_ne X 27 dX5_show_18 rfl ?_ ?_
      · refine hr_aload_n X dX5_show_27 rfl ?_
        refine hr_gR X 6 hl_t0 hs_t0 lg_RX5_51 rfl dX5_show_28 (fun q14 hl_q14 hs_q14 => ?_)
        refine hr_iload_n X dX5_show_31 rfl ?_
        refine hr_iload_n X dX5_show_32 rfl ?_
        refine hr_iconst X (-1) dX5_show_33 kc_m1 ?_
        refine hr_icmp_ne X 41 dX5_show_34 rfl ?_ ?_
        · refine hr_iconst X 2 dX5_show_41 kc_2 ?_
          refine hr_iast X hl_q14 hs_q14 dX5_show_42 (fun M15 eM15 _ => ?_)
          refine hr_aload_n X dX5_show_43 rfl ?_
          refine hr_gR X 6 hl_t0 hs_t0 lg_RX5_60 rfl dX5_show_44 (fun q16 hl_q16 hs_q16 => ?_)
          refine hr_iload_n X dX5_show_47 rfl ?_
          refine hr_iload_n X dX5_show_48 rfl ?_
          refine hr_iast X hl_q16 hs_q16 dX5_show_49 (fun M17 eM17 _ => ?_)
          refine hr_iload_n X dX5_show_50 rfl ?_
          refine hr_iconst X (-1) dX5_show_51 kc_m1 ?_
          refine hr_icmp_ne X 59 dX5_show_52 rfl ?_ ?_
          · refine hr_iconst X 1 dX5_show_59 kc_1 ?_
            exact hr_iret X dX5_show_60
          · refine hr_iconst X 0 dX5_show_55 kc_0 ?_
            refine hr_goto X 60 dX5_show_56 rfl ?_
            exact hr_iret X dX5_show_60
        · refine hr_iconst X 0 dX5_show_37 kc_0 ?_
          refine hr_goto X 42 dX5_show_38 rfl ?_
          refine hr_iast X hl_q14 hs_q14 dX5_show_42 (fun M18 eM18 _ => ?_)
          refine hr_aload_n X dX5_show_43 rfl ?_
          refine hr_gR X 6 hl_t0 hs_t0 lg_RX5_60 rfl dX5_show_44 (fun q19 hl_q19 hs_q19 => ?_)
          refine hr_iload_n X dX5_show_47 rfl ?_
          refine hr_iload_n X dX5_show_48 rfl ?_
          refine hr_iast X hl_q19 hs_q19 dX5_show_49 (fun M20 eM20 _ => ?_)
          refine hr_iload_n X dX5_show_50 rfl ?_
          refine hr_iconst X (-1) dX5_show_51 kc_m1 ?_
          refine hr_icmp_ne X 59 dX5_show_52 rfl ?_ ?_
          · refine hr_iconst X 1 dX5_show_59 kc_1 ?_
            exact hr_iret X dX5_show_60
          · refine hr_iconst X 0 dX5_show_55 kc_0 ?_
            refine hr_goto X 60 dX5_show_56 rfl ?_
            exact hr_iret X dX5_show_60
      · refine hr_aload_n X dX5_show_21 rfl ?_
        refine hr_iconst X (-1) dX5_show_22 kc_m1 ?_
        refine hr_cvI X [.int (-1)] [] (c_X5_no hl_t0 hs_t0 (-1) M13) lk_RX5_99 rfl rfl rfl hl_t0 hs_t0 ⟨by decide, rfl⟩ (by decide) (Nat.le_of_ble_eq_true rfl) dX5_show_23 (fun r21 M22 _ => ?_)
        exact hr_iret X dX5_show_26
set_option maxRecDepth 100000 in
set_option maxHeartbeats 4000000 in
theorem c_X5_holds  {t0 : Nat} (hl_t0 : t0 < 69) (hs_t0 : hf_shp t0 = 5) (a1 : Int32) (M : hf_M) : hf_CI yX5_holds cX5_holds 2 (some .int) (2) (fun g => [.ref (hf_a g t0), .int a1]) M (s_X5_holds t0 a1 M) := by
  refine hf_metI (by decide +kernel) (fun g => Nat.le_of_ble_eq_true rfl) (fun g p l ev s m args below meth c X => ?_)
  have X : hf_X g p s m args meth c cX5_holds 2 RX5 (some .int) := X
  show hf_W g p l ev (2) s m args below meth c 2 (hf_QI g below args s) M 0 [some (.ref (hf_a g t0)), some (.int a1)] [] (s_X5_holds t0 a1 M)
  unfold s_X5_holds
  refine hr_aload_n X dX5_holds_0 rfl ?_
  refine hr_iload_n X dX5_holds_1 rfl ?_
  refine hr_cvI X [.int a1] [] (c_X5_isShelf hl_t0 hs_t0 a1 M) lk_RX5_95 rfl rfl rfl hl_t0 hs_t0 ⟨by decide, rfl⟩ (by decide) (Nat.le_of_ble_eq_true rfl) dX5_holds_2 (fun r1 M2 _ => ?_)
  refine hr_if_eq X 17 dX5_holds_5 rfl ?_ ?_
  · refine hr_iconst X (-1) dX5_holds_17 kc_m1 ?_
    exact hr_iret X dX5_holds_18
  · refine hr_aload_n X dX5_holds_8 rfl ?_
    refine hr_gR X 6 hl_t0 hs_t0 lg_RX5_51 rfl dX5_holds_9 (fun q3 hl_q3 hs_q3 => ?_)
    refine hr_iload_n X dX5_holds_12 rfl ?_
    refine hr_iald X hl_q3 hs_q3 dX5_holds_13 (fun r4 _ _ => ?_)
    refine hr_if_ne X 19 dX5_holds_14 rfl ?_ ?_
    · refine hr_aload_n X dX5_holds_19 rfl ?_
      refine hr_gR X 6 hl_t0 hs_t0 lg_RX5_51 rfl dX5_holds_20 (fun q5 hl_q5 hs_q5 => ?_)
      refine hr_iload_n X dX5_holds_23 rfl ?_
      refine hr_iald X hl_q5 hs_q5 dX5_holds_24 (fun r6 _ _ => ?_)
      refine hr_iconst X 1 dX5_holds_25 kc_1 ?_
      refine hr_icmp_ne X 41 dX5_holds_26 rfl ?_ ?_
      · refine hr_aload_n X dX5_holds_41 rfl ?_
        refine hr_gR X 6 hl_t0 hs_t0 lg_RX5_60 rfl dX5_holds_42 (fun q7 hl_q7 hs_q7 => ?_)
        refine hr_iload_n X dX5_holds_45 rfl ?_
        refine hr_iald X hl_q7 hs_q7 dX5_holds_46 (fun r8 _ _ => ?_)
        exact hr_iret X dX5_holds_47
      · refine hr_bipush X 100 dX5_holds_29 kb_100 ?_
        refine hr_aload_n X dX5_holds_31 rfl ?_
        refine hr_gR X 6 hl_t0 hs_t0 lg_RX5_54 rfl dX5_holds_32 (fun q9 hl_q9 hs_q9 => ?_)
        refine hr_iload_n X dX5_holds_35 rfl ?_
        refine hr_iald X hl_q9 hs_q9 dX5_holds_36 (fun r10 _ _ => ?_)
        refine hr_iadd X dX5_holds_37 ?_
        refine hr_goto X 47 dX5_holds_38 rfl ?_
        exact hr_iret X dX5_holds_47
    · refine hr_iconst X (-1) dX5_holds_17 kc_m1 ?_
      exact hr_iret X dX5_holds_18
set_option maxRecDepth 100000 in
set_option maxHeartbeats 4000000 in
theorem c_X5_isTrue  {t0 : Nat} (hl_t0 : t0 < 69) (hs_t0 : hf_shp t0 = 5) (a1 : Int32) (a2 : Int32) (M : hf_M) : hf_CI yX5_isTrue cX5_isTrue 3 (some .boolean) (1) (fun g => [.ref (hf_a g t0), .int a1, .int a2]) M (s_X5_isTrue t0 a1 a2 M) := by
  refine hf_metI (by decide +kernel) (fun g => Nat.le_of_ble_eq_true rfl) (fun g p l ev s m args below meth c X => ?_)
  have X : hf_X g p s m args meth c cX5_isTrue 3 RX5 (some .boolean) := X
  show hf_W g p l ev (1) s m args below meth c 3 (hf_QI g below args s) M 0 [some (.ref (hf_a g t0)), some (.int a1), some (.int a2)] [] (s_X5_isTrue t0 a1 a2 M)
  unfold s_X5_isTrue
  refine hr_aload_n X dX5_isTrue_0 rfl ?_
  refine hr_gR X 6 hl_t0 hs_t0 lg_RX5_36 rfl dX5_isTrue_1 (fun q1 hl_q1 hs_q1 => ?_)
  refine hr_iload_n X dX5_isTrue_4 rfl ?_
  refine hr_iald X hl_q1 hs_q1 dX5_isTrue_5 (fun r2 _ _ => ?_)
  refine hr_case 1 (fun _ => ?_) (fun n6_1 => ?_)
  · refine hr_tabIn X 36 dX5_isTrue_6 (by decide) (by decide) rfl rfl ?_
    refine hr_iload_n X dX5_isTrue_36 rfl ?_
    refine hr_aload_n X dX5_isTrue_37 rfl ?_
    refine hr_gI X hl_t0 hs_t0 lg_RX5_13 dX5_isTrue_38 ?_
    refine hr_icmp_ge X 48 dX5_isTrue_41 rfl ?_ ?_
    · refine hr_iconst X 0 dX5_isTrue_48 kc_0 ?_
      exact hr_zretC X (Or.inl rfl) dX5_isTrue_49
    · refine hr_iconst X 1 dX5_isTrue_44 kc_1 ?_
      refine hr_goto X 49 dX5_isTrue_45 rfl ?_
      exact hr_zretC X (Or.inr rfl) dX5_isTrue_49
  refine hr_case 2 (fun _ => ?_) (fun n6_2 => ?_)
  · refine hr_tabIn X 50 dX5_isTrue_6 (by decide) (by decide) rfl rfl ?_
    refine hr_iload_n X dX5_isTrue_50 rfl ?_
    refine hr_aload_n X dX5_isTrue_51 rfl ?_
    refine hr_gI X hl_t0 hs_t0 lg_RX5_7 dX5_isTrue_52 ?_
    refine hr_aload_n X dX5_isTrue_55 rfl ?_
    refine hr_gI X hl_t0 hs_t0 lg_RX5_13 dX5_isTrue_56 ?_
    refine hr_isub X dX5_isTrue_59 ?_
    refine hr_icmp_lt X 67 dX5_isTrue_60 rfl ?_ ?_
    · refine hr_iconst X 0 dX5_isTrue_67 kc_0 ?_
      exact hr_zretC X (Or.inl rfl) dX5_isTrue_68
    · refine hr_iconst X 1 dX5_isTrue_63 kc_1 ?_
      refine hr_goto X 68 dX5_isTrue_64 rfl ?_
      exact hr_zretC X (Or.inr rfl) dX5_isTrue_68
  refine hr_case 3 (fun _ => ?_) (fun n6_3 => ?_)
  · refine hr_tabIn X 69 dX5_isTrue_6 (by decide) (by decide) rfl rfl ?_
    refine hr_aload_n X dX5_isTrue_69 rfl ?_
    refine hr_gI X hl_t0 hs_t0 lg_RX5_13 dX5_isTrue_70 ?_
    refine hr_if_eq X 87 dX5_isTrue_73 rfl ?_ ?_
    · refine hr_iload_n X dX5_isTrue_87 rfl ?_
      refine hr_aload_n X dX5_isTrue_88 rfl ?_
      refine hr_gI X hl_t0 hs_t0 lg_RX5_13 dX5_isTrue_89 ?_
      refine hr_icmp_ge X 99 dX5_isTrue_92 rfl ?_ ?_
      · refine hr_iconst X 0 dX5_isTrue_99 kc_0 ?_
        exact hr_zretC X (Or.inl rfl) dX5_isTrue_100
      · refine hr_iconst X 1 dX5_isTrue_95 kc_1 ?_
        refine hr_goto X 100 dX5_isTrue_96 rfl ?_
        exact hr_zretC X (Or.inr rfl) dX5_isTrue_100
    · refine hr_aload_n X dX5_isTrue_76 rfl ?_
      refine hr_gI X hl_t0 hs_t0 lg_RX5_13 dX5_isTrue_77 ?_
      refine hr_aload_n X dX5_isTrue_80 rfl ?_
      refine hr_gI X hl_t0 hs_t0 lg_RX5_7 dX5_isTrue_81 ?_
      refine hr_icmp_ne X 101 dX5_isTrue_84 rfl ?_ ?_
      · refine hr_iload_n X dX5_isTrue_101 rfl ?_
        refine hr_aload_n X dX5_isTrue_102 rfl ?_
        refine hr_gI X hl_t0 hs_t0 lg_RX5_13 dX5_isTrue_103 ?_
        refine hr_iconst X 1 dX5_isTrue_106 kc_1 ?_
        refine hr_isub X dX5_isTrue_107 ?_
        refine hr_icmp_lt X 121 dX5_isTrue_108 rfl ?_ ?_
        · refine hr_iconst X 1 dX5_isTrue_121 kc_1 ?_
          refine hr_goto X 126 dX5_isTrue_122 rfl ?_
          exact hr_zretC X (Or.inr rfl) dX5_isTrue_126
        · refine hr_iload_n X dX5_isTrue_111 rfl ?_
          refine hr_aload_n X dX5_isTrue_112 rfl ?_
          refine hr_gI X hl_t0 hs_t0 lg_RX5_7 dX5_isTrue_113 ?_
          refine hr_iconst X 1 dX5_isTrue_116 kc_1 ?_
          refine hr_isub X dX5_isTrue_117 ?_
          refine hr_icmp_ne X 125 dX5_isTrue_118 rfl ?_ ?_
          · refine hr_iconst X 0 dX5_isTrue_125 kc_0 ?_
            exact hr_zretC X (Or.inl rfl) dX5_isTrue_126
          · refine hr_iconst X 1 dX5_isTrue_121 kc_1 ?_
            refine hr_goto X 126 dX5_isTrue_122 rfl ?_
            exact hr_zretC X (Or.inr rfl) dX5_isTrue_126
      · refine hr_iload_n X dX5_isTrue_87 rfl ?_
        refine hr_aload_n X dX5_isTrue_88 rfl ?_
        refine hr_gI X hl_t0 hs_t0 lg_RX5_13 dX5_isTrue_89 ?_
        refine hr_icmp_ge X 99 dX5_isTrue_92 rfl ?_ ?_
        · refine hr_iconst X 0 dX5_isTrue_99 kc_0 ?_
          exact hr_zretC X (Or.inl rfl) dX5_isTrue_100
        · refine hr_iconst X 1 dX5_isTrue_95 kc_1 ?_
          refine hr_goto X 100 dX5_isTrue_96 rfl ?_
          exact hr_zretC X (Or.inr rfl) dX5_isTrue_100
  refine hr_case 4 (fun _ => ?_) (fun n6_4 => ?_)
  · refine hr_tabIn X 127 dX5_isTrue_6 (by decide) (by decide) rfl rfl ?_
    refine hr_aload_n X dX5_isTrue_127 rfl ?_
    refine hr_gR X 6 hl_t0 hs_t0 lg_RX5_39 rfl dX5_isTrue_128 (fun q3 hl_q3 hs_q3 => ?_)
    refine hr_iload_n X dX5_isTrue_131 rfl ?_
    refine hr_iald X hl_q3 hs_q3 dX5_isTrue_132 (fun r4 _ _ => ?_)
    refine hr_iload_n X dX5_isTrue_133 rfl ?_
    refine hr_ishr X dX5_isTrue_134 ?_
    refine hr_iconst X 1 dX5_isTrue_135 kc_1 ?_
    refine hr_iand X dX5_isTrue_136 ?_
    refine hr_iconst X 1 dX5_isTrue_137 kc_1 ?_
    refine hr_icmp_ne X 145 dX5_isTrue_138 rfl ?_ ?_
    · refine hr_iconst X 0 dX5_isTrue_145 kc_0 ?_
      exact hr_zretC X (Or.inl rfl) dX5_isTrue_146
    · refine hr_iconst X 1 dX5_isTrue_141 kc_1 ?_
      refine hr_goto X 146 dX5_isTrue_142 rfl ?_
      exact hr_zretC X (Or.inr rfl) dX5_isTrue_146
  · have e1 := hf_neT 1 n6_1 (by decide)
    have e2 := hf_neT 2 n6_2 (by decide)
    have e3 := hf_neT 3 n6_3 (by decide)
    have e4 := hf_neT 4 n6_4 (by decide)
    refine hr_tabOut X 147 dX5_isTrue_6 (by omega) rfl ?_
    refine hr_aload_n X dX5_isTrue_147 rfl ?_
    refine hr_gR X 6 hl_t0 hs_t0 lg_RX5_39 rfl dX5_isTrue_148 (fun q5 hl_q5 hs_q5 => ?_)
    refine hr_iload_n X dX5_isTrue_151 rfl ?_
    refine hr_iald X hl_q5 hs_q5 dX5_isTrue_152 (fun r6 _ _ => ?_)
    refine hr_iload_n X dX5_isTrue_153 rfl ?_
    refine hr_ishr X dX5_isTrue_154 ?_
    refine hr_iconst X 1 dX5_isTrue_155 kc_1 ?_
    refine hr_iand X dX5_isTrue_156 ?_
    refine hr_if_ne X 164 dX5_isTrue_157 rfl ?_ ?_
    · refine hr_iconst X 0 dX5_isTrue_164 kc_0 ?_
      exact hr_zretC X (Or.inl rfl) dX5_isTrue_165
    · refine hr_iconst X 1 dX5_isTrue_160 kc_1 ?_
      refine hr_goto X 165 dX5_isTrue_161 rfl ?_
      exact hr_zretC X (Or.inr rfl) dX5_isTrue_165
set_option maxRecDepth 100000 in
set_option maxHeartbeats 4000000 in
theorem w_X5_saidBy_4 {g : hf_G} {p : Program} {l : Launch} {ev : Env} {s : State} {m : MethodId} {args : Array Value} {below : List Frame} {meth : Method} {c : Code} (X : hf_X g p s m args meth c cX5_saidBy 4 RX5 (some .int))    {t0 : Nat} (hl_t0 : t0 < 69) (hs_t0 : hf_shp t0 = 5) (v1 : Int32) : ∀ (n : Nat) (v2 : Int32) (v3 : Int32) (M : hf_M), hf_W g p l ev (1) s m args below meth c 4 (hf_QI g below args s) M 4 [some (.ref (hf_a g t0)), some (.int v1), some (.int v2), some (.int v3)] [] (s_X5_saidBy_4 t0 v1 n v2 v3 M) := by
  intro n
  induction n with
  | zero =>
    intros
    exact hr_none
  | succ n ih =>
    intro v2 v3 M
    rw [s_X5_saidBy_4]
    refine hr_iload_n X dX5_saidBy_4 rfl ?_
    refine hr_aload_n X dX5_saidBy_5 rfl ?_
    refine hr_gI X hl_t0 hs_t0 lg_RX5_118 dX5_saidBy_6 ?_
    refine hr_icmp_ge X 36 dX5_saidBy_9 rfl ?_ ?_
    · refine hr_iload_n X dX5_saidBy_36 rfl ?_
      exact hr_iret X dX5_saidBy_37
    · refine hr_iload_n X dX5_saidBy_12 rfl ?_
      refine hr_aload_n X dX5_saidBy_13 rfl ?_
      refine hr_gR X 6 hl_t0 hs_t0 lg_RX5_42 rfl dX5_saidBy_14 (fun q1 hl_q1 hs_q1 => ?_)
      refine hr_iload_n X dX5_saidBy_17 rfl ?_
      refine hr_iald X hl_q1 hs_q1 dX5_saidBy_18 (fun r2 _ _ => ?_)
      refine hr_iload_n X dX5_saidBy_19 rfl ?_
      refine hr_icmp_ne X 27 dX5_saidBy_20 rfl ?_ ?_
      · refine hr_iconst X 0 dX5_saidBy_27 kc_0 ?_
        refine hr_iadd X dX5_saidBy_28 ?_
        refine hr_istore_n X dX5_saidBy_29 (by decide) rfl ?_
        refine hr_iinc X (v3 + 1) dX5_saidBy_30 rfl (by rw [kc_1]) (by decide) rfl ?_
        refine hr_goto X 4 dX5_saidBy_33 rfl ?_
        exact hr_wk (hs_some (hs_some (hs_some (hs_some (hs_nil))))) (ih (v2 + 0) (v3 + 1) M)
      · refine hr_iconst X 1 dX5_saidBy_23 kc_1 ?_
        refine hr_goto X 28 dX5_saidBy_24 rfl ?_
        refine hr_iadd X dX5_saidBy_28 ?_
        refine hr_istore_n X dX5_saidBy_29 (by decide) rfl ?_
        refine hr_iinc X (v3 + 1) dX5_saidBy_30 rfl (by rw [kc_1]) (by decide) rfl ?_
        refine hr_goto X 4 dX5_saidBy_33 rfl ?_
        exact hr_wk (hs_some (hs_some (hs_some (hs_some (hs_nil))))) (ih (v2 + 1) (v3 + 1) M)
set_option maxRecDepth 100000 in
set_option maxHeartbeats 4000000 in
theorem c_X5_saidBy  {t0 : Nat} (hl_t0 : t0 < 69) (hs_t0 : hf_shp t0 = 5) (a1 : Int32) (M : hf_M) : hf_CI yX5_saidBy cX5_saidBy 4 (some .int) (1) (fun g => [.ref (hf_a g t0), .int a1]) M (s_X5_saidBy t0 a1 M) := by
  refine hf_metI (by decide +kernel) (fun g => Nat.le_of_ble_eq_true rfl) (fun g p l ev s m args below meth c X => ?_)
  have X : hf_X g p s m args meth c cX5_saidBy 4 RX5 (some .int) := X
  show hf_W g p l ev (1) s m args below meth c 4 (hf_QI g below args s) M 0 [some (.ref (hf_a g t0)), some (.int a1), none, none] [] (s_X5_saidBy t0 a1 M)
  unfold s_X5_saidBy
  refine hr_iconst X 0 dX5_saidBy_0 kc_0 ?_
  refine hr_istore_n X dX5_saidBy_1 (by decide) rfl ?_
  refine hr_iconst X 0 dX5_saidBy_2 kc_0 ?_
  refine hr_istore_n X dX5_saidBy_3 (by decide) rfl ?_
  exact hr_wk (hs_some (hs_some (hs_some (hs_some (hs_nil))))) (w_X5_saidBy_4 X hl_t0 hs_t0 a1 2000 0 0 M)
set_option maxRecDepth 100000 in
set_option maxHeartbeats 4000000 in
theorem c_X5_says  {t0 : Nat} (hl_t0 : t0 < 69) (hs_t0 : hf_shp t0 = 5) (a1 : Int32) (a2 : Int32) (M : hf_M) : hf_CI yX5_says cX5_says 6 (some .int) (2) (fun g => [.ref (hf_a g t0), .int a1, .int a2]) M (s_X5_says t0 a1 a2 M) := by
  refine hf_metI (by decide +kernel) (fun g => Nat.le_of_ble_eq_true rfl) (fun g p l ev s m args below meth c X => ?_)
  have X : hf_X g p s m args meth c cX5_says 6 RX5 (some .int) := X
  show hf_W g p l ev (2) s m args below meth c 6 (hf_QI g below args s) M 0 [some (.ref (hf_a g t0)), some (.int a1), some (.int a2), none, none, none] [] (s_X5_says t0 a1 a2 M)
  unfold s_X5_says
  refine hr_aload_n X dX5_says_0 rfl ?_
  refine hr_iload_n X dX5_says_1 rfl ?_
  refine hr_cvI X [.int a1] [] (c_X5_isShelf hl_t0 hs_t0 a1 M) lk_RX5_95 rfl rfl rfl hl_t0 hs_t0 ⟨by decide, rfl⟩ (by decide) (Nat.le_of_ble_eq_true rfl) dX5_says_2 (fun r1 M2 _ => ?_)
  refine hr_if_eq X 18 dX5_says_5 rfl ?_ ?_
  · refine hr_aload_n X dX5_says_18 rfl ?_
    refine hr_iconst X (-1) dX5_says_19 kc_m1 ?_
    refine hr_cvI X [.int (-1)] [] (c_X5_no hl_t0 hs_t0 (-1) M2) lk_RX5_99 rfl rfl rfl hl_t0 hs_t0 ⟨by decide, rfl⟩ (by decide) (Nat.le_of_ble_eq_true rfl) dX5_says_20 (fun r3 M4 _ => ?_)
    exact hr_iret X dX5_says_23
  · refine hr_iload_n X dX5_says_8 rfl ?_
    refine hr_if_lt X 18 dX5_says_9 rfl ?_ ?_
    · refine hr_aload_n X dX5_says_18 rfl ?_
      refine hr_iconst X (-1) dX5_says_19 kc_m1 ?_
      refine hr_cvI X [.int (-1)] [] (c_X5_no hl_t0 hs_t0 (-1) M2) lk_RX5_99 rfl rfl rfl hl_t0 hs_t0 ⟨by decide, rfl⟩ (by decide) (Nat.le_of_ble_eq_true rfl) dX5_says_20 (fun r5 M6 _ => ?_)
      exact hr_iret X dX5_says_23
    · refine hr_iload_n X dX5_says_12 rfl ?_
      refine hr_bipush X 6 dX5_says_13 kb_6 ?_
      refine hr_icmp_le X 24 dX5_says_15 rfl ?_ ?_
      · refine hr_aload_n X dX5_says_24 rfl ?_
        refine hr_gR X 6 hl_t0 hs_t0 lg_RX5_51 rfl dX5_says_25 (fun q7 hl_q7 hs_q7 => ?_)
        refine hr_iload_n X dX5_says_28 rfl ?_
        refine hr_iald X hl_q7 hs_q7 dX5_says_29 (fun r8 _ _ => ?_)
        refine hr_iconst X 1 dX5_says_30 kc_1 ?_
        refine hr_icmp_ne X 41 dX5_says_31 rfl ?_ ?_
        · refine hr_aload_n X dX5_says_41 rfl ?_
          refine hr_gR X 6 hl_t0 hs_t0 lg_RX5_51 rfl dX5_says_42 (fun q9 hl_q9 hs_q9 => ?_)
          refine hr_iload_n X dX5_says_45 rfl ?_
          refine hr_iald X hl_q9 hs_q9 dX5_says_46 (fun r10 _ _ => ?_)
          refine hr_if_ne X 57 dX5_says_47 rfl ?_ ?_
          · refine hr_aload_n X dX5_says_57 rfl ?_
            refine hr_gR X 6 hl_t0 hs_t0 lg_RX5_60 rfl dX5_says_58 (fun q11 hl_q11 hs_q11 => ?_)
            refine hr_iload_n X dX5_says_61 rfl ?_
            refine hr_iald X hl_q11 hs_q11 dX5_says_62 (fun r12 _ _ => ?_)
            refine hr_istore_n X dX5_says_63 (by decide) rfl ?_
            refine hr_aload_n X dX5_says_64 rfl ?_
            refine hr_gR X 6 hl_t0 hs_t0 lg_RX5_36 rfl dX5_says_65 (fun q13 hl_q13 hs_q13 => ?_)
            refine hr_iload_n X dX5_says_68 rfl ?_
            refine hr_iald X hl_q13 hs_q13 dX5_says_69 (fun r14 _ _ => ?_)
            refine hr_istore X dX5_says_70 (by decide) rfl ?_
            refine hr_iload_n X dX5_says_72 rfl ?_
            refine hr_if_eq X 111 dX5_says_73 rfl ?_ ?_
            · refine hr_aload_n X dX5_says_111 rfl ?_
              refine hr_iload_n X dX5_says_112 rfl ?_
              refine hr_cvI X [.int r12] [] (c_X5_saidBy hl_t0 hs_t0 r12 M2) lk_RX5_106 rfl rfl rfl hl_t0 hs_t0 ⟨by decide, rfl⟩ (by decide) (Nat.le_of_ble_eq_true rfl) dX5_says_113 (fun r15 M16 _ => ?_)
              refine hr_istore X dX5_says_116 (by decide) rfl ?_
              refine hr_iload_n X dX5_says_118 rfl ?_
              refine hr_if_ne X 127 dX5_says_119 rfl ?_ ?_
              · refine hr_iload_n X dX5_says_127 rfl ?_
                refine hr_bipush X 6 dX5_says_128 kb_6 ?_
                refine hr_icmp_ne X 140 dX5_says_130 rfl ?_ ?_
                · refine hr_aload_n X dX5_says_140 rfl ?_
                  refine hr_iload_n X dX5_says_141 rfl ?_
                  refine hr_iload X dX5_says_142 rfl ?_
                  refine hr_cvI X [.int r12, .int r15] [] (c_X5_isTrue hl_t0 hs_t0 r12 r15 M16) lk_RX5_109 rfl rfl rfl hl_t0 hs_t0 ⟨by decide, rfl⟩ (by decide) (Nat.le_of_ble_eq_true rfl) dX5_says_144 (fun r17 M18 _ => ?_)
                  refine hr_if_eq X 154 dX5_says_147 rfl ?_ ?_
                  · refine hr_iconst X 0 dX5_says_154 kc_0 ?_
                    exact hr_iret X dX5_says_155
                  · refine hr_iconst X 1 dX5_says_150 kc_1 ?_
                    refine hr_goto X 155 dX5_says_151 rfl ?_
                    exact hr_iret X dX5_says_155
                · refine hr_iload X dX5_says_133 rfl ?_
                  refine hr_iconst X 2 dX5_says_135 kc_2 ?_
                  refine hr_idiv X dX5_says_136 (by decide) ?_
                  refine hr_goto X 155 dX5_says_137 rfl ?_
                  exact hr_iret X dX5_says_155
              · refine hr_iload X dX5_says_122 rfl ?_
                refine hr_goto X 155 dX5_says_124 rfl ?_
                exact hr_iret X dX5_says_155
            · refine hr_iload_n X dX5_says_76 rfl ?_
              refine hr_iload X dX5_says_77 rfl ?_
              refine hr_icmp_eq X 111 dX5_says_79 rfl ?_ ?_
              · refine hr_aload_n X dX5_says_111 rfl ?_
                refine hr_iload_n X dX5_says_112 rfl ?_
                refine hr_cvI X [.int r12] [] (c_X5_saidBy hl_t0 hs_t0 r12 M2) lk_RX5_106 rfl rfl rfl hl_t0 hs_t0 ⟨by decide, rfl⟩ (by decide) (Nat.le_of_ble_eq_true rfl) dX5_says_113 (fun r19 M20 _ => ?_)
                refine hr_istore X dX5_says_116 (by decide) rfl ?_
                refine hr_iload_n X dX5_says_118 rfl ?_
                refine hr_if_ne X 127 dX5_says_119 rfl ?_ ?_
                · refine hr_iload_n X dX5_says_127 rfl ?_
                  refine hr_bipush X 6 dX5_says_128 kb_6 ?_
                  refine hr_icmp_ne X 140 dX5_says_130 rfl ?_ ?_
                  · refine hr_aload_n X dX5_says_140 rfl ?_
                    refine hr_iload_n X dX5_says_141 rfl ?_
                    refine hr_iload X dX5_says_142 rfl ?_
                    refine hr_cvI X [.int r12, .int r19] [] (c_X5_isTrue hl_t0 hs_t0 r12 r19 M20) lk_RX5_109 rfl rfl rfl hl_t0 hs_t0 ⟨by decide, rfl⟩ (by decide) (Nat.le_of_ble_eq_true rfl) dX5_says_144 (fun r21 M22 _ => ?_)
                    refine hr_if_eq X 154 dX5_says_147 rfl ?_ ?_
                    · refine hr_iconst X 0 dX5_says_154 kc_0 ?_
                      exact hr_iret X dX5_says_155
                    · refine hr_iconst X 1 dX5_says_150 kc_1 ?_
                      refine hr_goto X 155 dX5_says_151 rfl ?_
                      exact hr_iret X dX5_says_155
                  · refine hr_iload X dX5_says_133 rfl ?_
                    refine hr_iconst X 2 dX5_says_135 kc_2 ?_
                    refine hr_idiv X dX5_says_136 (by decide) ?_
                    refine hr_goto X 155 dX5_says_137 rfl ?_
                    exact hr_iret X dX5_says_155
                · refine hr_iload X dX5_says_122 rfl ?_
                  refine hr_goto X 155 dX5_says_124 rfl ?_
                  exact hr_iret X dX5_says_155
              · refine hr_iload_n X dX5_says_82 rfl ?_
                refine hr_iconst X 1 dX5_says_83 kc_1 ?_
                refine hr_icmp_ne X 93 dX5_says_84 rfl ?_ ?_
                · refine hr_iload_n X dX5_says_93 rfl ?_
                  refine hr_iconst X 4 dX5_says_94 kc_4 ?_
                  refine hr_icmp_ne X 104 dX5_says_95 rfl ?_ ?_
                  · refine hr_aload_n X dX5_says_104 rfl ?_
                    refine hr_bipush X (-2) dX5_says_105 kb_m2 ?_
                    refine hr_cvI X [.int (-2)] [] (c_X5_no hl_t0 hs_t0 (-2) M2) lk_RX5_99 rfl rfl rfl hl_t0 hs_t0 ⟨by decide, rfl⟩ (by decide) (Nat.le_of_ble_eq_true rfl) dX5_says_107 (fun r23 M24 _ => ?_)
                    exact hr_iret X dX5_says_110
                  · refine hr_iload X dX5_says_98 rfl ?_
                    refine hr_iconst X 5 dX5_says_100 kc_5 ?_
                    refine hr_icmp_eq X 111 dX5_says_101 rfl ?_ ?_
                    · refine hr_aload_n X dX5_says_111 rfl ?_
                      refine hr_iload_n X dX5_says_112 rfl ?_
                      refine hr_cvI X [.int r12] [] (c_X5_saidBy hl_t0 hs_t0 r12 M2) lk_RX5_106 rfl rfl rfl hl_t0 hs_t0 ⟨by decide, rfl⟩ (by decide) (Nat.le_of_ble_eq_true rfl) dX5_says_113 (fun r25 M26 _ => ?_)
                      refine hr_istore X dX5_says_116 (by decide) rfl ?_
                      refine hr_iload_n X dX5_says_118 rfl ?_
                      refine hr_if_ne X 127 dX5_says_119 rfl ?_ ?_
                      · refine hr_iload_n X dX5_says_127 rfl ?_
                        refine hr_bipush X 6 dX5_says_128 kb_6 ?_
                        refine hr_icmp_ne X 140 dX5_says_130 rfl ?_ ?_
                        · refine hr_aload_n X dX5_says_140 rfl ?_
                          refine hr_iload_n X dX5_says_141 rfl ?_
                          refine hr_iload X dX5_says_142 rfl ?_
                          refine hr_cvI X [.int r12, .int r25] [] (c_X5_isTrue hl_t0 hs_t0 r12 r25 M26) lk_RX5_109 rfl rfl rfl hl_t0 hs_t0 ⟨by decide, rfl⟩ (by decide) (Nat.le_of_ble_eq_true rfl) dX5_says_144 (fun r27 M28 _ => ?_)
                          refine hr_if_eq X 154 dX5_says_147 rfl ?_ ?_
                          · refine hr_iconst X 0 dX5_says_154 kc_0 ?_
                            exact hr_iret X dX5_says_155
                          · refine hr_iconst X 1 dX5_says_150 kc_1 ?_
                            refine hr_goto X 155 dX5_says_151 rfl ?_
                            exact hr_iret X dX5_says_155
                        · refine hr_iload X dX5_says_133 rfl ?_
                          refine hr_iconst X 2 dX5_says_135 kc_2 ?_
                          refine hr_idiv X dX5_says_136 (by decide) ?_
                          refine hr_goto X 155 dX5_says_137 rfl ?_
                          exact hr_iret X dX5_says_155
                      · refine hr_iload X dX5_says_122 rfl ?_
                        refine hr_goto X 155 dX5_says_124 rfl ?_
                        exact hr_iret X dX5_says_155
                    · refine hr_aload_n X dX5_says_104 rfl ?_
                      refine hr_bipush X (-2) dX5_says_105 kb_m2 ?_
                      refine hr_cvI X [.int (-2)] [] (c_X5_no hl_t0 hs_t0 (-2) M2) lk_RX5_99 rfl rfl rfl hl_t0 hs_t0 ⟨by decide, rfl⟩ (by decide) (Nat.le_of_ble_eq_true rfl) dX5_says_107 (fun r29 M30 _ => ?_)
                      exact hr_iret X dX5_says_110
                · refine hr_iload X dX5_says_87 rfl ?_
                  refine hr_iconst X 3 dX5_says_89 kc_3 ?_
                  refine hr_icmp_eq X 111 dX5_says_90 rfl ?_ ?_
                  · refine hr_aload_n X dX5_says_111 rfl ?_
                    refine hr_iload_n X dX5_says_112 rfl ?_
                    refine hr_cvI X [.int r12] [] (c_X5_saidBy hl_t0 hs_t0 r12 M2) lk_RX5_106 rfl rfl rfl hl_t0 hs_t0 ⟨by decide, rfl⟩ (by decide) (Nat.le_of_ble_eq_true rfl) dX5_says_113 (fun r31 M32 _ => ?_)
                    refine hr_istore X dX5_says_116 (by decide) rfl ?_
                    refine hr_iload_n X dX5_says_118 rfl ?_
                    refine hr_if_ne X 127 dX5_says_119 rfl ?_ ?_
                    · refine hr_iload_n X dX5_says_127 rfl ?_
                      refine hr_bipush X 6 dX5_says_128 kb_6 ?_
                      refine hr_icmp_ne X 140 dX5_says_130 rfl ?_ ?_
                      · refine hr_aload_n X dX5_says_140 rfl ?_
                        refine hr_iload_n X dX5_says_141 rfl ?_
                        refine hr_iload X dX5_says_142 rfl ?_
                        refine hr_cvI X [.int r12, .int r31] [] (c_X5_isTrue hl_t0 hs_t0 r12 r31 M32) lk_RX5_109 rfl rfl rfl hl_t0 hs_t0 ⟨by decide, rfl⟩ (by decide) (Nat.le_of_ble_eq_true rfl) dX5_says_144 (fun r33 M34 _ => ?_)
                        refine hr_if_eq X 154 dX5_says_147 rfl ?_ ?_
                        · refine hr_iconst X 0 dX5_says_154 kc_0 ?_
                          exact hr_iret X dX5_says_155
                        · refine hr_iconst X 1 dX5_says_150 kc_1 ?_
                          refine hr_goto X 155 dX5_says_151 rfl ?_
                          exact hr_iret X dX5_says_155
                      · refine hr_iload X dX5_says_133 rfl ?_
                        refine hr_iconst X 2 dX5_says_135 kc_2 ?_
                        refine hr_idiv X dX5_says_136 (by decide) ?_
                        refine hr_goto X 155 dX5_says_137 rfl ?_
                        exact hr_iret X dX5_says_155
                    · refine hr_iload X dX5_says_122 rfl ?_
                      refine hr_goto X 155 dX5_says_124 rfl ?_
                      exact hr_iret X dX5_says_155
                  · refine hr_iload_n X dX5_says_93 rfl ?_
                    refine hr_iconst X 4 dX5_says_94 kc_4 ?_
                    refine hr_icmp_ne X 104 dX5_says_95 rfl ?_ ?_
                    · refine hr_aload_n X dX5_says_104 rfl ?_
                      refine hr_bipush X (-2) dX5_says_105 kb_m2 ?_
                      refine hr_cvI X [.int (-2)] [] (c_X5_no hl_t0 hs_t0 (-2) M2) lk_RX5_99 rfl rfl rfl hl_t0 hs_t0 ⟨by decide, rfl⟩ (by decide) (Nat.le_of_ble_eq_true rfl) dX5_says_107 (fun r35 M36 _ => ?_)
                      exact hr_iret X dX5_says_110
                    · refine hr_iload X dX5_says_98 rfl ?_
                      refine hr_iconst X 5 dX5_says_100 kc_5 ?_
                      refine hr_icmp_eq X 111 dX5_says_101 rfl ?_ ?_
                      · refine hr_aload_n X dX5_says_111 rfl ?_
                        refine hr_iload_n X dX5_says_112 rfl ?_
                        refine hr_cvI X [.int r12] [] (c_X5_saidBy hl_t0 hs_t0 r12 M2) lk_RX5_106 rfl rfl rfl hl_t0 hs_t0 ⟨by decide, rfl⟩ (by decide) (Nat.le_of_ble_eq_true rfl) dX5_says_113 (fun r37 M38 _ => ?_)
                        refine hr_istore X dX5_says_116 (by decide) rfl ?_
                        refine hr_iload_n X dX5_says_118 rfl ?_
                        refine hr_if_ne X 127 dX5_says_119 rfl ?_ ?_
                        · refine hr_iload_n X dX5_says_127 rfl ?_
                          refine hr_bipush X 6 dX5_says_128 kb_6 ?_
                          refine hr_icmp_ne X 140 dX5_says_130 rfl ?_ ?_
                          · refine hr_aload_n X dX5_says_140 rfl ?_
                            refine hr_iload_n X dX5_says_141 rfl ?_
                            refine hr_iload X dX5_says_142 rfl ?_
                            refine hr_cvI X [.int r12, .int r37] [] (c_X5_isTrue hl_t0 hs_t0 r12 r37 M38) lk_RX5_109 rfl rfl rfl hl_t0 hs_t0 ⟨by decide, rfl⟩ (by decide) (Nat.le_of_ble_eq_true rfl) dX5_says_144 (fun r39 M40 _ => ?_)
                            refine hr_if_eq X 154 dX5_says_147 rfl ?_ ?_
                            · refine hr_iconst X 0 dX5_says_154 kc_0 ?_
                              exact hr_iret X dX5_says_155
                            · refine hr_iconst X 1 dX5_says_150 kc_1 ?_
                              refine hr_goto X 155 dX5_says_151 rfl ?_
                              exact hr_iret X dX5_says_155
                          · refine hr_iload X dX5_says_133 rfl ?_
                            refine hr_iconst X 2 dX5_says_135 kc_2 ?_
                            refine hr_idiv X dX5_says_136 (by decide) ?_
                            refine hr_goto X 155 dX5_says_137 rfl ?_
                            exact hr_iret X dX5_says_155
                        · refine hr_iload X dX5_says_122 rfl ?_
                          refine hr_goto X 155 dX5_says_124 rfl ?_
                          exact hr_iret X dX5_says_155
                      · refine hr_aload_n X dX5_says_104 rfl ?_
                        refine hr_bipush X (-2) dX5_says_105 kb_m2 ?_
                        refine hr_cvI X [.int (-2)] [] (c_X5_no hl_t0 hs_t0 (-2) M2) lk_RX5_99 rfl rfl rfl hl_t0 hs_t0 ⟨by decide, rfl⟩ (by decide) (Nat.le_of_ble_eq_true rfl) dX5_says_107 (fun r41 M42 _ => ?_)
                        exact hr_iret X dX5_says_110
          · refine hr_aload_n X dX5_says_50 rfl ?_
            refine hr_bipush X (-3) dX5_says_51 kb_m3 ?_
            refine hr_cvI X [.int (-3)] [] (c_X5_no hl_t0 hs_t0 (-3) M2) lk_RX5_99 rfl rfl rfl hl_t0 hs_t0 ⟨by decide, rfl⟩ (by decide) (Nat.le_of_ble_eq_true rfl) dX5_says_53 (fun r43 M44 _ => ?_)
            exact hr_iret X dX5_says_56
        · refine hr_aload_n X dX5_says_34 rfl ?_
          refine hr_bipush X (-2) dX5_says_35 kb_m2 ?_
          refine hr_cvI X [.int (-2)] [] (c_X5_no hl_t0 hs_t0 (-2) M2) lk_RX5_99 rfl rfl rfl hl_t0 hs_t0 ⟨by decide, rfl⟩ (by decide) (Nat.le_of_ble_eq_true rfl) dX5_says_37 (fun r45 M46 _ => ?_)
          exact hr_iret X dX5_says_40
      · refine hr_aload_n X dX5_says_18 rfl ?_
        refine hr_iconst X (-1) dX5_says_19 kc_m1 ?_
        refine hr_cvI X [.int (-1)] [] (c_X5_no hl_t0 hs_t0 (-1) M2) lk_RX5_99 rfl rfl rfl hl_t0 hs_t0 ⟨by decide, rfl⟩ (by decide) (Nat.le_of_ble_eq_true rfl) dX5_says_20 (fun r47 M48 _ => ?_)
        exact hr_iret X dX5_says_23
set_option maxRecDepth 100000 in
set_option maxHeartbeats 4000000 in
theorem c_X5_wants  {t0 : Nat} (hl_t0 : t0 < 69) (hs_t0 : hf_shp t0 = 5) (a1 : Int32) (M : hf_M) : hf_CI yX5_wants cX5_wants 2 (some .int) (2) (fun g => [.ref (hf_a g t0), .int a1]) M (s_X5_wants t0 a1 M) := by
  refine hf_metI (by decide +kernel) (fun g => Nat.le_of_ble_eq_true rfl) (fun g p l ev s m args below meth c X => ?_)
  have X : hf_X g p s m args meth c cX5_wants 2 RX5 (some .int) := X
  show hf_W g p l ev (2) s m args below meth c 2 (hf_QI g below args s) M 0 [some (.ref (hf_a g t0)), some (.int a1)] [] (s_X5_wants t0 a1 M)
  unfold s_X5_wants
  refine hr_aload_n X dX5_wants_0 rfl ?_
  refine hr_iload_n X dX5_wants_1 rfl ?_
  refine hr_cvI X [.int a1] [] (c_X5_isShelf hl_t0 hs_t0 a1 M) lk_RX5_95 rfl rfl rfl hl_t0 hs_t0 ⟨by decide, rfl⟩ (by decide) (Nat.le_of_ble_eq_true rfl) dX5_wants_2 (fun r1 M2 _ => ?_)
  refine hr_if_ne X 12 dX5_wants_5 rfl ?_ ?_
  · refine hr_aload_n X dX5_wants_12 rfl ?_
    refine hr_gR X 6 hl_t0 hs_t0 lg_RX5_51 rfl dX5_wants_13 (fun q3 hl_q3 hs_q3 => ?_)
    refine hr_iload_n X dX5_wants_16 rfl ?_
    refine hr_iald X hl_q3 hs_q3 dX5_wants_17 (fun r4 _ _ => ?_)
    refine hr_iconst X 2 dX5_wants_18 kc_2 ?_
    refine hr_icmp_ne X 27 dX5_wants_19 rfl ?_ ?_
    · refine hr_aload_n X dX5_wants_27 rfl ?_
      refine hr_gR X 6 hl_t0 hs_t0 lg_RX5_51 rfl dX5_wants_28 (fun q5 hl_q5 hs_q5 => ?_)
      refine hr_iload_n X dX5_wants_31 rfl ?_
      refine hr_iald X hl_q5 hs_q5 dX5_wants_32 (fun r6 _ _ => ?_)
      refine hr_if_ne X 41 dX5_wants_33 rfl ?_ ?_
      · refine hr_iconst X 0 dX5_wants_41 kc_0 ?_
        exact hr_iret X dX5_wants_42
      · refine hr_bipush X (-3) dX5_wants_36 kb_m3 ?_
        refine hr_goto X 42 dX5_wants_38 rfl ?_
        exact hr_iret X dX5_wants_42
    · refine hr_bipush X (-2) dX5_wants_22 kb_m2 ?_
      refine hr_goto X 42 dX5_wants_24 rfl ?_
      exact hr_iret X dX5_wants_42
  · refine hr_iconst X (-1) dX5_wants_8 kc_m1 ?_
    refine hr_goto X 42 dX5_wants_9 rfl ?_
    exact hr_iret X dX5_wants_42
set_option maxRecDepth 100000 in
set_option maxHeartbeats 4000000 in
theorem c_X5_intAt  {t0 : Nat} (hl_t0 : t0 < 69) (hs_t0 : hf_shp t0 = 5) (a1 : Int32) (a2 : Int32) (M : hf_M) : hf_CI yX5_intAt cX5_intAt 3 (some .int) (1) (fun g => [.ref (hf_a g t0), .int a1, .int a2]) M (s_X5_intAt t0 a1 a2 M) := by
  refine hf_metI (by decide +kernel) (fun g => Nat.le_of_ble_eq_true rfl) (fun g p l ev s m args below meth c X => ?_)
  have X : hf_X g p s m args meth c cX5_intAt 3 RX5 (some .int) := X
  show hf_W g p l ev (1) s m args below meth c 3 (hf_QI g below args s) M 0 [some (.ref (hf_a g t0)), some (.int a1), some (.int a2)] [] (s_X5_intAt t0 a1 a2 M)
  unfold s_X5_intAt
  refine hr_aload_n X dX5_intAt_0 rfl ?_
  refine hr_gR X 7 hl_t0 hs_t0 lg_RX5_63 rfl dX5_intAt_1 (fun q1 hl_q1 hs_q1 => ?_)
  refine hr_sipush X 160 dX5_intAt_4 ks_160 ?_
  refine hr_iload_n X dX5_intAt_7 rfl ?_
  refine hr_imul X dX5_intAt_8 ?_
  refine hr_iload_n X dX5_intAt_9 rfl ?_
  refine hr_iadd X dX5_intAt_10 ?_
  refine hr_lald X hl_q1 hs_q1 dX5_intAt_11 (fun r2 _ _ => ?_)
  refine hr_l2i X dX5_intAt_12 ?_
  exact hr_iret X dX5_intAt_13
set_option maxRecDepth 100000 in
set_option maxHeartbeats 4000000 in
theorem c_X5_facts  {t0 : Nat} (hl_t0 : t0 < 69) (hs_t0 : hf_shp t0 = 5) (a1 : Int32) (M : hf_M) : hf_CI yX5_facts cX5_facts 2 (some .int) (1) (fun g => [.ref (hf_a g t0), .int a1]) M (s_X5_facts t0 a1 M) := by
  refine hf_metI (by decide +kernel) (fun g => Nat.le_of_ble_eq_true rfl) (fun g p l ev s m args below meth c X => ?_)
  have X : hf_X g p s m args meth c cX5_facts 2 RX5 (some .int) := X
  show hf_W g p l ev (1) s m args below meth c 2 (hf_QI g below args s) M 0 [some (.ref (hf_a g t0)), some (.int a1)] [] (s_X5_facts t0 a1 M)
  unfold s_X5_facts
  refine hr_aload_n X dX5_facts_0 rfl ?_
  refine hr_gR X 6 hl_t0 hs_t0 lg_RX5_33 rfl dX5_facts_1 (fun q1 hl_q1 hs_q1 => ?_)
  refine hr_aload_n X dX5_facts_4 rfl ?_
  refine hr_gI X hl_t0 hs_t0 lg_RX5_89 dX5_facts_5 ?_
  refine hr_iload_n X dX5_facts_8 rfl ?_
  refine hr_iast X hl_q1 hs_q1 dX5_facts_9 (fun M2 eM2 _ => ?_)
  refine hr_aload_n X dX5_facts_10 rfl ?_
  refine hr_dup X dX5_facts_11 rfl ?_
  refine hr_gL X hl_t0 hs_t0 lg_RX5_25 dX5_facts_12 ?_
  refine hr_aload_n X dX5_facts_15 rfl ?_
  refine hr_gL X hl_t0 hs_t0 lg_RX5_25 dX5_facts_16 ?_
  refine hr_iconst X 1 dX5_facts_19 kc_1 ?_
  refine hr_aload_n X dX5_facts_20 rfl ?_
  refine hr_gI X hl_t0 hs_t0 lg_RX5_89 dX5_facts_21 ?_
  refine hr_ishl X dX5_facts_24 ?_
  refine hr_lshl X dX5_facts_25 ?_
  refine hr_lor X dX5_facts_26 ?_
  refine hr_pL X hl_t0 hs_t0 lp_RX5_25 dX5_facts_27 (fun M3 eM3 => ?_)
  refine hr_aload_n X dX5_facts_30 rfl ?_
  refine hr_dup X dX5_facts_31 rfl ?_
  refine hr_gI X hl_t0 hs_t0 lg_RX5_89 dX5_facts_32 ?_
  refine hr_dup_x1 X dX5_facts_35 rfl rfl ?_
  refine hr_iconst X 1 dX5_facts_36 kc_1 ?_
  refine hr_iadd X dX5_facts_37 ?_
  refine hr_pI X hl_t0 hs_t0 lp_RX5_89 dX5_facts_38 (fun M4 eM4 => ?_)
  exact hr_iret X dX5_facts_41
set_option maxRecDepth 100000 in
set_option maxHeartbeats 4000000 in
theorem c_X5_fact  {t0 : Nat} (hl_t0 : t0 < 69) (hs_t0 : hf_shp t0 = 5) (a1 : Int32) (M : hf_M) : hf_CI yX5_fact cX5_fact 2 (some .int) (2) (fun g => [.ref (hf_a g t0), .int a1]) M (s_X5_fact t0 a1 M) := by
  refine hf_metI (by decide +kernel) (fun g => Nat.le_of_ble_eq_true rfl) (fun g p l ev s m args below meth c X => ?_)
  have X : hf_X g p s m args meth c cX5_fact 2 RX5 (some .int) := X
  show hf_W g p l ev (2) s m args below meth c 2 (hf_QI g below args s) M 0 [some (.ref (hf_a g t0)), some (.int a1)] [] (s_X5_fact t0 a1 M)
  unfold s_X5_fact
  refine hr_iload_n X dX5_fact_0 rfl ?_
  refine hr_if_lt X 10 dX5_fact_1 rfl ?_ ?_
  · refine hr_aload_n X dX5_fact_10 rfl ?_
    refine hr_bipush X (-6) dX5_fact_11 kb_m6 ?_
    refine hr_cvI X [.int (-6)] [] (c_X5_no hl_t0 hs_t0 (-6) M) lk_RX5_99 rfl rfl rfl hl_t0 hs_t0 ⟨by decide, rfl⟩ (by decide) (Nat.le_of_ble_eq_true rfl) dX5_fact_13 (fun r1 M2 _ => ?_)
    exact hr_iret X dX5_fact_16
  · refine hr_iload_n X dX5_fact_4 rfl ?_
    refine hr_bipush X 99 dX5_fact_5 kb_99 ?_
    refine hr_icmp_le X 17 dX5_fact_7 rfl ?_ ?_
    · refine hr_aload_n X dX5_fact_17 rfl ?_
      refine hr_gI X hl_t0 hs_t0 lg_RX5_89 dX5_fact_18 ?_
      refine hr_bipush X 6 dX5_fact_21 kb_6 ?_
      refine hr_icmp_ne X 35 dX5_fact_23 rfl ?_ ?_
      · refine hr_aload_n X dX5_fact_35 rfl ?_
        refine hr_iload_n X dX5_fact_36 rfl ?_
        refine hr_cvI X [.int a1] [] (c_X5_facts hl_t0 hs_t0 a1 M) lk_RX5_113 rfl rfl rfl hl_t0 hs_t0 ⟨by decide, rfl⟩ (by decide) (Nat.le_of_ble_eq_true rfl) dX5_fact_37 (fun r3 M4 _ => ?_)
        exact hr_iret X dX5_fact_40
      · refine hr_aload_n X dX5_fact_26 rfl ?_
        refine hr_bipush X (-7) dX5_fact_27 kb_m7 ?_
        refine hr_cvI X [.int (-7)] [] (c_X5_no hl_t0 hs_t0 (-7) M) lk_RX5_99 rfl rfl rfl hl_t0 hs_t0 ⟨by decide, rfl⟩ (by decide) (Nat.le_of_ble_eq_true rfl) dX5_fact_29 (fun r5 M6 _ => ?_)
        refine hr_goto X 40 dX5_fact_32 rfl ?_
        exact hr_iret X dX5_fact_40
    · refine hr_aload_n X dX5_fact_10 rfl ?_
      refine hr_bipush X (-6) dX5_fact_11 kb_m6 ?_
      refine hr_cvI X [.int (-6)] [] (c_X5_no hl_t0 hs_t0 (-6) M) lk_RX5_99 rfl rfl rfl hl_t0 hs_t0 ⟨by decide, rfl⟩ (by decide) (Nat.le_of_ble_eq_true rfl) dX5_fact_13 (fun r7 M8 _ => ?_)
      exact hr_iret X dX5_fact_16
set_option maxRecDepth 100000 in
set_option maxHeartbeats 4000000 in
theorem c_X5_speakers  {t0 : Nat} (hl_t0 : t0 < 69) (hs_t0 : hf_shp t0 = 5) (a1 : Int32) (a2 : Int32) (M : hf_M) : hf_CI yX5_speakers cX5_speakers 3 (some .int) (1) (fun g => [.ref (hf_a g t0), .int a1, .int a2]) M (s_X5_speakers t0 a1 a2 M) := by
  refine hf_metI (by decide +kernel) (fun g => Nat.le_of_ble_eq_true rfl) (fun g p l ev s m args below meth c X => ?_)
  have X : hf_X g p s m args meth c cX5_speakers 3 RX5 (some .int) := X
  show hf_W g p l ev (1) s m args below meth c 3 (hf_QI g below args s) M 0 [some (.ref (hf_a g t0)), some (.int a1), some (.int a2)] [] (s_X5_speakers t0 a1 a2 M)
  unfold s_X5_speakers
  refine hr_aload_n X dX5_speakers_0 rfl ?_
  refine hr_gR X 6 hl_t0 hs_t0 lg_RX5_36 rfl dX5_speakers_1 (fun q1 hl_q1 hs_q1 => ?_)
  refine hr_aload_n X dX5_speakers_4 rfl ?_
  refine hr_gI X hl_t0 hs_t0 lg_RX5_92 dX5_speakers_5 ?_
  refine hr_iload_n X dX5_speakers_8 rfl ?_
  refine hr_iast X hl_q1 hs_q1 dX5_speakers_9 (fun M2 eM2 _ => ?_)
  refine hr_aload_n X dX5_speakers_10 rfl ?_
  refine hr_gR X 6 hl_t0 hs_t0 lg_RX5_39 rfl dX5_speakers_11 (fun q3 hl_q3 hs_q3 => ?_)
  refine hr_aload_n X dX5_speakers_14 rfl ?_
  refine hr_gI X hl_t0 hs_t0 lg_RX5_92 dX5_speakers_15 ?_
  refine hr_iload_n X dX5_speakers_18 rfl ?_
  refine hr_iast X hl_q3 hs_q3 dX5_speakers_19 (fun M4 eM4 _ => ?_)
  refine hr_aload_n X dX5_speakers_20 rfl ?_
  refine hr_dup X dX5_speakers_21 rfl ?_
  refine hr_gI X hl_t0 hs_t0 lg_RX5_92 dX5_speakers_22 ?_
  refine hr_dup_x1 X dX5_speakers_25 rfl rfl ?_
  refine hr_iconst X 1 dX5_speakers_26 kc_1 ?_
  refine hr_iadd X dX5_speakers_27 ?_
  refine hr_pI X hl_t0 hs_t0 lp_RX5_92 dX5_speakers_28 (fun M5 eM5 => ?_)
  exact hr_iret X dX5_speakers_31
set_option maxRecDepth 100000 in
set_option maxHeartbeats 4000000 in
theorem c_X5_speaker  {t0 : Nat} (hl_t0 : t0 < 69) (hs_t0 : hf_shp t0 = 5) (a1 : Int32) (a2 : Int32) (M : hf_M) : hf_CI yX5_speaker cX5_speaker 3 (some .int) (2) (fun g => [.ref (hf_a g t0), .int a1, .int a2]) M (s_X5_speaker t0 a1 a2 M) := by
  refine hf_metI (by decide +kernel) (fun g => Nat.le_of_ble_eq_true rfl) (fun g p l ev s m args below meth c X => ?_)
  have X : hf_X g p s m args meth c cX5_speaker 3 RX5 (some .int) := X
  show hf_W g p l ev (2) s m args below meth c 3 (hf_QI g below args s) M 0 [some (.ref (hf_a g t0)), some (.int a1), some (.int a2)] [] (s_X5_speaker t0 a1 a2 M)
  unfold s_X5_speaker
  refine hr_iload_n X dX5_speaker_0 rfl ?_
  refine hr_if_lt X 10 dX5_speaker_1 rfl ?_ ?_
  · refine hr_aload_n X dX5_speaker_10 rfl ?_
    refine hr_iconst X (-1) dX5_speaker_11 kc_m1 ?_
    refine hr_cvI X [.int (-1)] [] (c_X5_no hl_t0 hs_t0 (-1) M) lk_RX5_99 rfl rfl rfl hl_t0 hs_t0 ⟨by decide, rfl⟩ (by decide) (Nat.le_of_ble_eq_true rfl) dX5_speaker_12 (fun r1 M2 _ => ?_)
    exact hr_iret X dX5_speaker_15
  · refine hr_iload_n X dX5_speaker_4 rfl ?_
    refine hr_bipush X 6 dX5_speaker_5 kb_6 ?_
    refine hr_icmp_le X 16 dX5_speaker_7 rfl ?_ ?_
    · refine hr_iload_n X dX5_speaker_16 rfl ?_
      refine hr_if_lt X 27 dX5_speaker_17 rfl ?_ ?_
      · refine hr_aload_n X dX5_speaker_27 rfl ?_
        refine hr_bipush X (-6) dX5_speaker_28 kb_m6 ?_
        refine hr_cvI X [.int (-6)] [] (c_X5_no hl_t0 hs_t0 (-6) M) lk_RX5_99 rfl rfl rfl hl_t0 hs_t0 ⟨by decide, rfl⟩ (by decide) (Nat.le_of_ble_eq_true rfl) dX5_speaker_30 (fun r3 M4 _ => ?_)
        exact hr_iret X dX5_speaker_33
      · refine hr_iload_n X dX5_speaker_20 rfl ?_
        refine hr_sipush X 1023 dX5_speaker_21 ks_1023 ?_
        refine hr_icmp_le X 34 dX5_speaker_24 rfl ?_ ?_
        · refine hr_aload_n X dX5_speaker_34 rfl ?_
          refine hr_gI X hl_t0 hs_t0 lg_RX5_92 dX5_speaker_35 ?_
          refine hr_bipush X 6 dX5_speaker_38 kb_6 ?_
          refine hr_icmp_ne X 52 dX5_speaker_40 rfl ?_ ?_
          · refine hr_aload_n X dX5_speaker_52 rfl ?_
            refine hr_iload_n X dX5_speaker_53 rfl ?_
            refine hr_iload_n X dX5_speaker_54 rfl ?_
            refine hr_cvI X [.int a1, .int a2] [] (c_X5_speakers hl_t0 hs_t0 a1 a2 M) lk_RX5_115 rfl rfl rfl hl_t0 hs_t0 ⟨by decide, rfl⟩ (by decide) (Nat.le_of_ble_eq_true rfl) dX5_speaker_55 (fun r5 M6 _ => ?_)
            exact hr_iret X dX5_speaker_58
          · refine hr_aload_n X dX5_speaker_43 rfl ?_
            refine hr_bipush X (-7) dX5_speaker_44 kb_m7 ?_
            refine hr_cvI X [.int (-7)] [] (c_X5_no hl_t0 hs_t0 (-7) M) lk_RX5_99 rfl rfl rfl hl_t0 hs_t0 ⟨by decide, rfl⟩ (by decide) (Nat.le_of_ble_eq_true rfl) dX5_speaker_46 (fun r7 M8 _ => ?_)
            refine hr_goto X 58 dX5_speaker_49 rfl ?_
            exact hr_iret X dX5_speaker_58
        · refine hr_aload_n X dX5_speaker_27 rfl ?_
          refine hr_bipush X (-6) dX5_speaker_28 kb_m6 ?_
          refine hr_cvI X [.int (-6)] [] (c_X5_no hl_t0 hs_t0 (-6) M) lk_RX5_99 rfl rfl rfl hl_t0 hs_t0 ⟨by decide, rfl⟩ (by decide) (Nat.le_of_ble_eq_true rfl) dX5_speaker_30 (fun r9 M10 _ => ?_)
          exact hr_iret X dX5_speaker_33
    · refine hr_aload_n X dX5_speaker_10 rfl ?_
      refine hr_iconst X (-1) dX5_speaker_11 kc_m1 ?_
      refine hr_cvI X [.int (-1)] [] (c_X5_no hl_t0 hs_t0 (-1) M) lk_RX5_99 rfl rfl rfl hl_t0 hs_t0 ⟨by decide, rfl⟩ (by decide) (Nat.le_of_ble_eq_true rfl) dX5_speaker_12 (fun r11 M12 _ => ?_)
      exact hr_iret X dX5_speaker_15
set_option maxRecDepth 100000 in
set_option maxHeartbeats 4000000 in
theorem c_X5_law  {t0 : Nat} (hl_t0 : t0 < 69) (hs_t0 : hf_shp t0 = 5) (a1 : Int32) (a2 : Int32) (M : hf_M) : hf_CI yX5_law cX5_law 4 (some .int) (2) (fun g => [.ref (hf_a g t0), .int a1, .int a2]) M (s_X5_law t0 a1 a2 M) := by
  refine hf_metI (by decide +kernel) (fun g => Nat.le_of_ble_eq_true rfl) (fun g p l ev s m args below meth c X => ?_)
  have X : hf_X g p s m args meth c cX5_law 4 RX5 (some .int) := X
  show hf_W g p l ev (2) s m args below meth c 4 (hf_QI g below args s) M 0 [some (.ref (hf_a g t0)), some (.int a1), some (.int a2), none] [] (s_X5_law t0 a1 a2 M)
  unfold s_X5_law
  refine hr_iload_n X dX5_law_0 rfl ?_
  refine hr_iconst X 2 dX5_law_1 kc_2 ?_
  refine hr_icmp_lt X 27 dX5_law_2 rfl ?_ ?_
  · refine hr_aload_n X dX5_law_27 rfl ?_
    refine hr_bipush X (-6) dX5_law_28 kb_m6 ?_
    refine hr_cvI X [.int (-6)] [] (c_X5_no hl_t0 hs_t0 (-6) M) lk_RX5_99 rfl rfl rfl hl_t0 hs_t0 ⟨by decide, rfl⟩ (by decide) (Nat.le_of_ble_eq_true rfl) dX5_law_30 (fun r1 M2 _ => ?_)
    exact hr_iret X dX5_law_33
  · refine hr_iload_n X dX5_law_5 rfl ?_
    refine hr_bipush X 10 dX5_law_6 kb_10 ?_
    refine hr_icmp_gt X 27 dX5_law_8 rfl ?_ ?_
    · refine hr_aload_n X dX5_law_27 rfl ?_
      refine hr_bipush X (-6) dX5_law_28 kb_m6 ?_
      refine hr_cvI X [.int (-6)] [] (c_X5_no hl_t0 hs_t0 (-6) M) lk_RX5_99 rfl rfl rfl hl_t0 hs_t0 ⟨by decide, rfl⟩ (by decide) (Nat.le_of_ble_eq_true rfl) dX5_law_30 (fun r3 M4 _ => ?_)
      exact hr_iret X dX5_law_33
    · refine hr_iload_n X dX5_law_11 rfl ?_
      refine hr_if_lt X 27 dX5_law_12 rfl ?_ ?_
      · refine hr_aload_n X dX5_law_27 rfl ?_
        refine hr_bipush X (-6) dX5_law_28 kb_m6 ?_
        refine hr_cvI X [.int (-6)] [] (c_X5_no hl_t0 hs_t0 (-6) M) lk_RX5_99 rfl rfl rfl hl_t0 hs_t0 ⟨by decide, rfl⟩ (by decide) (Nat.le_of_ble_eq_true rfl) dX5_law_30 (fun r5 M6 _ => ?_)
        exact hr_iret X dX5_law_33
      · refine hr_iload_n X dX5_law_15 rfl ?_
        refine hr_iload_n X dX5_law_16 rfl ?_
        refine hr_icmp_gt X 27 dX5_law_17 rfl ?_ ?_
        · refine hr_aload_n X dX5_law_27 rfl ?_
          refine hr_bipush X (-6) dX5_law_28 kb_m6 ?_
          refine hr_cvI X [.int (-6)] [] (c_X5_no hl_t0 hs_t0 (-6) M) lk_RX5_99 rfl rfl rfl hl_t0 hs_t0 ⟨by decide, rfl⟩ (by decide) (Nat.le_of_ble_eq_true rfl) dX5_law_30 (fun r7 M8 _ => ?_)
          exact hr_iret X dX5_law_33
        · refine hr_aload_n X dX5_law_20 rfl ?_
          refine hr_gI X hl_t0 hs_t0 lg_RX5_118 dX5_law_21 ?_
          refine hr_if_le X 34 dX5_law_24 rfl ?_ ?_
          · refine hr_bipush X 100 dX5_law_34 kb_100 ?_
            refine hr_aload_n X dX5_law_36 rfl ?_
            refine hr_gI X hl_t0 hs_t0 lg_RX5_7 dX5_law_37 ?_
            refine hr_imul X dX5_law_40 ?_
            refine hr_aload_n X dX5_law_41 rfl ?_
            refine hr_gI X hl_t0 hs_t0 lg_RX5_13 dX5_law_42 ?_
            refine hr_iadd X dX5_law_45 ?_
            refine hr_istore_n X dX5_law_46 (by decide) rfl ?_
            refine hr_aload_n X dX5_law_47 rfl ?_
            refine hr_iload_n X dX5_law_48 rfl ?_
            refine hr_pI X hl_t0 hs_t0 lp_RX5_7 dX5_law_49 (fun M9 eM9 => ?_)
            refine hr_aload_n X dX5_law_52 rfl ?_
            refine hr_iload_n X dX5_law_53 rfl ?_
            refine hr_pI X hl_t0 hs_t0 lp_RX5_13 dX5_law_54 (fun M10 eM10 => ?_)
            refine hr_iload_n X dX5_law_57 rfl ?_
            exact hr_iret X dX5_law_58
          · refine hr_aload_n X dX5_law_27 rfl ?_
            refine hr_bipush X (-6) dX5_law_28 kb_m6 ?_
            refine hr_cvI X [.int (-6)] [] (c_X5_no hl_t0 hs_t0 (-6) M) lk_RX5_99 rfl rfl rfl hl_t0 hs_t0 ⟨by decide, rfl⟩ (by decide) (Nat.le_of_ble_eq_true rfl) dX5_law_30 (fun r11 M12 _ => ?_)
            exact hr_iret X dX5_law_33
set_option maxRecDepth 100000 in
set_option maxHeartbeats 4000000 in
theorem c_X5_speakerOf  {t0 : Nat} (hl_t0 : t0 < 69) (hs_t0 : hf_shp t0 = 5) (a1 : Int32) (a2 : Int32) (M : hf_M) : hf_CI yX5_speakerOf cX5_speakerOf 3 (some .int) (2) (fun g => [.ref (hf_a g t0), .int a1, .int a2]) M (s_X5_speakerOf t0 a1 a2 M) := by
  refine hf_metI (by decide +kernel) (fun g => Nat.le_of_ble_eq_true rfl) (fun g p l ev s m args below meth c X => ?_)
  have X : hf_X g p s m args meth c cX5_speakerOf 3 RX5 (some .int) := X
  show hf_W g p l ev (2) s m args below meth c 3 (hf_QI g below args s) M 0 [some (.ref (hf_a g t0)), some (.int a1), some (.int a2)] [] (s_X5_speakerOf t0 a1 a2 M)
  unfold s_X5_speakerOf
  refine hr_aload_n X dX5_speakerOf_0 rfl ?_
  refine hr_iload_n X dX5_speakerOf_1 rfl ?_
  refine hr_cvI X [.int a1] [] (c_X5_isSpeaker hl_t0 hs_t0 a1 M) lk_RX5_103 rfl rfl rfl hl_t0 hs_t0 ⟨by decide, rfl⟩ (by decide) (Nat.le_of_ble_eq_true rfl) dX5_speakerOf_2 (fun r1 M2 _ => ?_)
  refine hr_if_eq X 17 dX5_speakerOf_5 rfl ?_ ?_
  · refine hr_aload_n X dX5_speakerOf_17 rfl ?_
    refine hr_bipush X (-5) dX5_speakerOf_18 kb_m5 ?_
    refine hr_cvI X [.int (-5)] [] (c_X5_no hl_t0 hs_t0 (-5) M2) lk_RX5_99 rfl rfl rfl hl_t0 hs_t0 ⟨by decide, rfl⟩ (by decide) (Nat.le_of_ble_eq_true rfl) dX5_speakerOf_20 (fun r3 M4 _ => ?_)
    exact hr_iret X dX5_speakerOf_23
  · refine hr_iload_n X dX5_speakerOf_8 rfl ?_
    refine hr_if_lt X 17 dX5_speakerOf_9 rfl ?_ ?_
    · refine hr_aload_n X dX5_speakerOf_17 rfl ?_
      refine hr_bipush X (-5) dX5_speakerOf_18 kb_m5 ?_
      refine hr_cvI X [.int (-5)] [] (c_X5_no hl_t0 hs_t0 (-5) M2) lk_RX5_99 rfl rfl rfl hl_t0 hs_t0 ⟨by decide, rfl⟩ (by decide) (Nat.le_of_ble_eq_true rfl) dX5_speakerOf_20 (fun r5 M6 _ => ?_)
      exact hr_iret X dX5_speakerOf_23
    · refine hr_iload_n X dX5_speakerOf_12 rfl ?_
      refine hr_iconst X 2 dX5_speakerOf_13 kc_2 ?_
      refine hr_icmp_le X 24 dX5_speakerOf_14 rfl ?_ ?_
      · refine hr_iload_n X dX5_speakerOf_24 rfl ?_
        refine hr_if_ne X 37 dX5_speakerOf_25 rfl ?_ ?_
        · refine hr_iload_n X dX5_speakerOf_37 rfl ?_
          refine hr_iconst X 1 dX5_speakerOf_38 kc_1 ?_
          refine hr_icmp_ne X 51 dX5_speakerOf_39 rfl ?_ ?_
          · refine hr_aload_n X dX5_speakerOf_51 rfl ?_
            refine hr_iload_n X dX5_speakerOf_52 rfl ?_
            refine hr_cvI X [.int a1] [] (c_X5_saidBy hl_t0 hs_t0 a1 M2) lk_RX5_106 rfl rfl rfl hl_t0 hs_t0 ⟨by decide, rfl⟩ (by decide) (Nat.le_of_ble_eq_true rfl) dX5_speakerOf_53 (fun r7 M8 _ => ?_)
            exact hr_iret X dX5_speakerOf_56
          · refine hr_aload_n X dX5_speakerOf_42 rfl ?_
            refine hr_gR X 6 hl_t0 hs_t0 lg_RX5_39 rfl dX5_speakerOf_43 (fun q9 hl_q9 hs_q9 => ?_)
            refine hr_iload_n X dX5_speakerOf_46 rfl ?_
            refine hr_iald X hl_q9 hs_q9 dX5_speakerOf_47 (fun r10 _ _ => ?_)
            refine hr_goto X 56 dX5_speakerOf_48 rfl ?_
            exact hr_iret X dX5_speakerOf_56
        · refine hr_aload_n X dX5_speakerOf_28 rfl ?_
          refine hr_gR X 6 hl_t0 hs_t0 lg_RX5_36 rfl dX5_speakerOf_29 (fun q11 hl_q11 hs_q11 => ?_)
          refine hr_iload_n X dX5_speakerOf_32 rfl ?_
          refine hr_iald X hl_q11 hs_q11 dX5_speakerOf_33 (fun r12 _ _ => ?_)
          refine hr_goto X 56 dX5_speakerOf_34 rfl ?_
          exact hr_iret X dX5_speakerOf_56
      · refine hr_aload_n X dX5_speakerOf_17 rfl ?_
        refine hr_bipush X (-5) dX5_speakerOf_18 kb_m5 ?_
        refine hr_cvI X [.int (-5)] [] (c_X5_no hl_t0 hs_t0 (-5) M2) lk_RX5_99 rfl rfl rfl hl_t0 hs_t0 ⟨by decide, rfl⟩ (by decide) (Nat.le_of_ble_eq_true rfl) dX5_speakerOf_20 (fun r13 M14 _ => ?_)
        exact hr_iret X dX5_speakerOf_23
set_option maxRecDepth 100000 in
set_option maxHeartbeats 4000000 in
theorem c_X5_harm  {t0 : Nat} (hl_t0 : t0 < 69) (hs_t0 : hf_shp t0 = 5) (a1 : Int32) (a2 : Int32) (M : hf_M) : hf_CI yX5_harm cX5_harm 4 (some .int) (2) (fun g => [.ref (hf_a g t0), .int a1, .int a2]) M (s_X5_harm t0 a1 a2 M) := by
  refine hf_metI (by decide +kernel) (fun g => Nat.le_of_ble_eq_true rfl) (fun g p l ev s m args below meth c X => ?_)
  have X : hf_X g p s m args meth c cX5_harm 4 RX5 (some .int) := X
  show hf_W g p l ev (2) s m args below meth c 4 (hf_QI g below args s) M 0 [some (.ref (hf_a g t0)), some (.int a1), some (.int a2), none] [] (s_X5_harm t0 a1 a2 M)
  unfold s_X5_harm
  refine hr_aload_n X dX5_harm_0 rfl ?_
  refine hr_iload_n X dX5_harm_1 rfl ?_
  refine hr_cvI X [.int a1] [] (c_X5_isFact hl_t0 hs_t0 a1 M) lk_RX5_121 rfl rfl rfl hl_t0 hs_t0 ⟨by decide, rfl⟩ (by decide) (Nat.le_of_ble_eq_true rfl) dX5_harm_2 (fun r1 M2 _ => ?_)
  refine hr_if_ne X 14 dX5_harm_5 rfl ?_ ?_
  · refine hr_iload_n X dX5_harm_14 rfl ?_
    refine hr_if_lt X 24 dX5_harm_15 rfl ?_ ?_
    · refine hr_aload_n X dX5_harm_24 rfl ?_
      refine hr_bipush X (-6) dX5_harm_25 kb_m6 ?_
      refine hr_cvI X [.int (-6)] [] (c_X5_no hl_t0 hs_t0 (-6) M2) lk_RX5_99 rfl rfl rfl hl_t0 hs_t0 ⟨by decide, rfl⟩ (by decide) (Nat.le_of_ble_eq_true rfl) dX5_harm_27 (fun r3 M4 _ => ?_)
      exact hr_iret X dX5_harm_30
    · refine hr_iload_n X dX5_harm_18 rfl ?_
      refine hr_bipush X 99 dX5_harm_19 kb_99 ?_
      refine hr_icmp_le X 31 dX5_harm_21 rfl ?_ ?_
      · refine hr_aload_n X dX5_harm_31 rfl ?_
        refine hr_gR X 6 hl_t0 hs_t0 lg_RX5_33 rfl dX5_harm_32 (fun q5 hl_q5 hs_q5 => ?_)
        refine hr_iload_n X dX5_harm_35 rfl ?_
        refine hr_iald X hl_q5 hs_q5 dX5_harm_36 (fun r6 _ _ => ?_)
        refine hr_istore_n X dX5_harm_37 (by decide) rfl ?_
        refine hr_aload_n X dX5_harm_38 rfl ?_
        refine hr_gR X 6 hl_t0 hs_t0 lg_RX5_33 rfl dX5_harm_39 (fun q7 hl_q7 hs_q7 => ?_)
        refine hr_iload_n X dX5_harm_42 rfl ?_
        refine hr_iload_n X dX5_harm_43 rfl ?_
        refine hr_iast X hl_q7 hs_q7 dX5_harm_44 (fun M8 eM8 _ => ?_)
        refine hr_iload_n X dX5_harm_45 rfl ?_
        exact hr_iret X dX5_harm_46
      · refine hr_aload_n X dX5_harm_24 rfl ?_
        refine hr_bipush X (-6) dX5_harm_25 kb_m6 ?_
        refine hr_cvI X [.int (-6)] [] (c_X5_no hl_t0 hs_t0 (-6) M2) lk_RX5_99 rfl rfl rfl hl_t0 hs_t0 ⟨by decide, rfl⟩ (by decide) (Nat.le_of_ble_eq_true rfl) dX5_harm_27 (fun r9 M10 _ => ?_)
        exact hr_iret X dX5_harm_30
  · refine hr_aload_n X dX5_harm_8 rfl ?_
    refine hr_iconst X (-1) dX5_harm_9 kc_m1 ?_
    refine hr_cvI X [.int (-1)] [] (c_X5_no hl_t0 hs_t0 (-1) M2) lk_RX5_99 rfl rfl rfl hl_t0 hs_t0 ⟨by decide, rfl⟩ (by decide) (Nat.le_of_ble_eq_true rfl) dX5_harm_10 (fun r11 M12 _ => ?_)
    exact hr_iret X dX5_harm_13
