set_option maxRecDepth 100000 in
set_option maxHeartbeats 4000000 in
theorem w_X3_possibleWithout_8 {g : hf_G} {p : Program} {l : Launch} {ev : Env} {s : State} {m : MethodId} {args : Array Value} {below : List Frame} {meth : Method} {c : Code} (X : hf_X g p s m args meth c cX3_possibleWithout 5 RX3 (some .long))    {t0 : Nat} (hl_t0 : t0 < 69) (hs_t0 : hf_shp t0 = 3) (v1 : Int32) : ∀ (n : Nat) (v2 : Int64) (v4 : Int32) (M : hf_M), hf_W g p l ev (4) s m args below meth c 5 (hf_QJ g below args s) M 8 [some (.ref (hf_a g t0)), some (.int v1), some (.long v2), none, some (.int v4)] [] (s_X3_possibleWithout_8 t0 v1 n v2 v4 M) := by
  intro n
  induction n with
  | zero =>
    intros
    exact hr_none
  | succ n ih =>
    intro v2 v4 M
    rw [s_X3_possibleWithout_8]
    refine hr_iload X dX3_possibleWithout_8 rfl ?_
    refine hr_aload_n X dX3_possibleWithout_10 rfl ?_
    refine hr_gI X hl_t0 hs_t0 lg_RX3_41 dX3_possibleWithout_11 ?_
    refine hr_icmp_ge X 41 dX3_possibleWithout_14 rfl ?_ ?_
    · refine hr_lload_n X dX3_possibleWithout_41 rfl ?_
      exact hr_lret X dX3_possibleWithout_42
    · refine hr_iload X dX3_possibleWithout_17 rfl ?_
      refine hr_iload_n X dX3_possibleWithout_19 rfl ?_
      refine hr_icmp_eq X 35 dX3_possibleWithout_20 rfl ?_ ?_
      · refine hr_iinc X (v4 + 1) dX3_possibleWithout_35 rfl (by rw [kc_1]) (by decide) rfl ?_
        refine hr_goto X 8 dX3_possibleWithout_38 rfl ?_
        exact hr_wk (hs_some (hs_some (hs_some (hs_none (hs_some (hs_nil)))))) (ih v2 (v4 + 1) M)
      · refine hr_lload_n X dX3_possibleWithout_23 rfl ?_
        refine hr_aload_n X dX3_possibleWithout_24 rfl ?_
        refine hr_iload X dX3_possibleWithout_25 rfl ?_
        refine hr_ldc2 X dX3_possibleWithout_27 (hf_c2 125 rfl rfl) ?_
        refine hr_cvJ X [.int v4, .long (-1)] [.long v2] (c_X3_allowed hl_t0 hs_t0 v4 (-1) M) lk_RX3_81 rfl rfl rfl hl_t0 hs_t0 ⟨by decide, rfl⟩ (by decide) (Nat.le_of_ble_eq_true rfl) dX3_possibleWithout_30 (fun r1 M2 _ => ?_)
        refine hr_land X dX3_possibleWithout_33 ?_
        refine hr_lstore_n X dX3_possibleWithout_34 (by decide) rfl ?_
        refine hr_iinc X (v4 + 1) dX3_possibleWithout_35 rfl (by rw [kc_1]) (by decide) rfl ?_
        refine hr_goto X 8 dX3_possibleWithout_38 rfl ?_
        exact hr_wk (hs_some (hs_some (hs_some (hs_none (hs_some (hs_nil)))))) (ih (v2 &&& r1) (v4 + 1) M2)
set_option maxRecDepth 100000 in
set_option maxHeartbeats 4000000 in
theorem c_X3_possibleWithout  {t0 : Nat} (hl_t0 : t0 < 69) (hs_t0 : hf_shp t0 = 3) (a1 : Int32) (M : hf_M) : hf_CJ yX3_possibleWithout cX3_possibleWithout 5 (some .long) (4) (fun g => [.ref (hf_a g t0), .int a1]) M (s_X3_possibleWithout t0 a1 M) := by
  refine hf_metJ (by decide +kernel) (fun g => Nat.le_of_ble_eq_true rfl) (fun g p l ev s m args below meth c X => ?_)
  have X : hf_X g p s m args meth c cX3_possibleWithout 5 RX3 (some .long) := X
  show hf_W g p l ev (4) s m args below meth c 5 (hf_QJ g below args s) M 0 [some (.ref (hf_a g t0)), some (.int a1), none, none, none] [] (s_X3_possibleWithout t0 a1 M)
  unfold s_X3_possibleWithout
  refine hr_aload_n X dX3_possibleWithout_0 rfl ?_
  refine hr_gL X hl_t0 hs_t0 lg_RX3_47 dX3_possibleWithout_1 ?_
  refine hr_lstore_n X dX3_possibleWithout_4 (by decide) rfl ?_
  refine hr_iconst X 0 dX3_possibleWithout_5 kc_0 ?_
  refine hr_istore X dX3_possibleWithout_6 (by decide) rfl ?_
  exact hr_wk (hs_some (hs_some (hs_some (hs_none (hs_some (hs_nil)))))) (w_X3_possibleWithout_8 X hl_t0 hs_t0 a1 2000 (M.2.1 t0 11) 0 M)
set_option maxRecDepth 100000 in
set_option maxHeartbeats 4000000 in
theorem c_X3_allowedNext  {t0 : Nat} (hl_t0 : t0 < 69) (hs_t0 : hf_shp t0 = 3) (a1 : Int32) (a2 : Int32) (M : hf_M) : hf_CJ yX3_allowedNext cX3_allowedNext 5 (some .long) (4) (fun g => [.ref (hf_a g t0), .int a1, .int a2]) M (s_X3_allowedNext t0 a1 a2 M) := by
  refine hf_metJ (by decide +kernel) (fun g => Nat.le_of_ble_eq_true rfl) (fun g p l ev s m args below meth c X => ?_)
  have X : hf_X g p s m args meth c cX3_allowedNext 5 RX3 (some .long) := X
  show hf_W g p l ev (4) s m args below meth c 5 (hf_QJ g below args s) M 0 [some (.ref (hf_a g t0)), some (.int a1), some (.int a2), none, none] [] (s_X3_allowedNext t0 a1 a2 M)
  unfold s_X3_allowedNext
  refine hr_aload_n X dX3_allowedNext_0 rfl ?_
  refine hr_iload_n X dX3_allowedNext_1 rfl ?_
  refine hr_iconst X 0 dX3_allowedNext_2 kc_0 ?_
  refine hr_iload_n X dX3_allowedNext_3 rfl ?_
  refine hr_if_eq X 13 dX3_allowedNext_4 rfl ?_ ?_
  · refine hr_lconst X 0 dX3_allowedNext_13 rfl ?_
    refine hr_cvV X [.int a1, .int 0, .long 0] [] (c_X3_putTrueIn hl_t0 hs_t0 a1 0 0 M) lk_RX3_76 rfl rfl rfl hl_t0 hs_t0 ⟨by decide, rfl⟩ (by decide) (Nat.le_of_ble_eq_true rfl) dX3_allowedNext_14 (fun _ M2 _ => ?_)
    refine hr_aload_n X dX3_allowedNext_17 rfl ?_
    refine hr_iload_n X dX3_allowedNext_18 rfl ?_
    refine hr_ldc2 X dX3_allowedNext_19 (hf_c2 125 rfl rfl) ?_
    refine hr_cvJ X [.int a1, .long (-1)] [] (c_X3_allowed hl_t0 hs_t0 a1 (-1) M2) lk_RX3_81 rfl rfl rfl hl_t0 hs_t0 ⟨by decide, rfl⟩ (by decide) (Nat.le_of_ble_eq_true rfl) dX3_allowedNext_22 (fun r3 M4 _ => ?_)
    refine hr_lstore_n X dX3_allowedNext_25 (by decide) rfl ?_
    refine hr_aload_n X dX3_allowedNext_26 rfl ?_
    refine hr_cvV X [] [] (c_X3_takeBack hl_t0 hs_t0 M4) lk_RX3_91 rfl rfl rfl hl_t0 hs_t0 ⟨by decide, rfl⟩ (by decide) (Nat.le_of_ble_eq_true rfl) dX3_allowedNext_27 (fun _ M6 _ => ?_)
    refine hr_lload_n X dX3_allowedNext_30 rfl ?_
    exact hr_lret X dX3_allowedNext_31
  · refine hr_ldc2 X dX3_allowedNext_7 (hf_c2 125 rfl rfl) ?_
    refine hr_goto X 14 dX3_allowedNext_10 rfl ?_
    refine hr_cvV X [.int a1, .int 0, .long (-1)] [] (c_X3_putTrueIn hl_t0 hs_t0 a1 0 (-1) M) lk_RX3_76 rfl rfl rfl hl_t0 hs_t0 ⟨by decide, rfl⟩ (by decide) (Nat.le_of_ble_eq_true rfl) dX3_allowedNext_14 (fun _ M8 _ => ?_)
    refine hr_aload_n X dX3_allowedNext_17 rfl ?_
    refine hr_iload_n X dX3_allowedNext_18 rfl ?_
    refine hr_ldc2 X dX3_allowedNext_19 (hf_c2 125 rfl rfl) ?_
    refine hr_cvJ X [.int a1, .long (-1)] [] (c_X3_allowed hl_t0 hs_t0 a1 (-1) M8) lk_RX3_81 rfl rfl rfl hl_t0 hs_t0 ⟨by decide, rfl⟩ (by decide) (Nat.le_of_ble_eq_true rfl) dX3_allowedNext_22 (fun r9 M10 _ => ?_)
    refine hr_lstore_n X dX3_allowedNext_25 (by decide) rfl ?_
    refine hr_aload_n X dX3_allowedNext_26 rfl ?_
    refine hr_cvV X [] [] (c_X3_takeBack hl_t0 hs_t0 M10) lk_RX3_91 rfl rfl rfl hl_t0 hs_t0 ⟨by decide, rfl⟩ (by decide) (Nat.le_of_ble_eq_true rfl) dX3_allowedNext_27 (fun _ M12 _ => ?_)
    refine hr_lload_n X dX3_allowedNext_30 rfl ?_
    exact hr_lret X dX3_allowedNext_31
set_option maxRecDepth 100000 in
set_option maxHeartbeats 4000000 in
theorem w_X3_lawfulRows_38 {g : hf_G} {p : Program} {l : Launch} {ev : Env} {s : State} {m : MethodId} {args : Array Value} {below : List Frame} {meth : Method} {c : Code} (X : hf_X g p s m args meth c cX3_lawfulRows 6 RX3 (some .int))    {t0 : Nat} (hl_t0 : t0 < 69) (hs_t0 : hf_shp t0 = 3) (v2 : Int32) : ∀ (n : Nat) (v3 : Int32) (v4 : Int32) (v5 : Int32) (M : hf_M), hf_W g p l ev (1) s m args below meth c 6 (hf_QI g below args s) M 38 [some (.ref (hf_a g t0)), none, some (.int v2), some (.int v3), some (.int v4), some (.int v5)] [] (s_X3_lawfulRows_38 t0 v2 n v3 v4 v5 M) := by
  intro n
  induction n with
  | zero =>
    intros
    exact hr_none
  | succ n ih =>
    intro v3 v4 v5 M
    rw [s_X3_lawfulRows_38]
    refine hr_iload X dX3_lawfulRows_38 rfl ?_
    refine hr_iload_n X dX3_lawfulRows_40 rfl ?_
    refine hr_icmp_gt X 94 dX3_lawfulRows_41 rfl ?_ ?_
    · refine hr_iload_n X dX3_lawfulRows_94 rfl ?_
      exact hr_iret X dX3_lawfulRows_95
    · refine hr_iload X dX3_lawfulRows_44 rfl ?_
      refine hr_aload_n X dX3_lawfulRows_46 rfl ?_
      refine hr_gI X hl_t0 hs_t0 lg_RX3_54 dX3_lawfulRows_47 ?_
      refine hr_icmp_gt X 74 dX3_lawfulRows_50 rfl ?_ ?_
      · refine hr_iload X dX3_lawfulRows_74 rfl ?_
        refine hr_iload_n X dX3_lawfulRows_76 rfl ?_
        refine hr_iload X dX3_lawfulRows_77 rfl ?_
        refine hr_isub X dX3_lawfulRows_79 ?_
        refine hr_imul X dX3_lawfulRows_80 ?_
        refine hr_iload X dX3_lawfulRows_81 rfl ?_
        refine hr_iconst X 1 dX3_lawfulRows_83 kc_1 ?_
        refine hr_iadd X dX3_lawfulRows_84 ?_
        refine hr_idivC X dX3_lawfulRows_85 ?_
        refine hr_istore X dX3_lawfulRows_86 (by decide) rfl ?_
        refine hr_iinc X (v5 + 1) dX3_lawfulRows_88 rfl (by rw [kc_1]) (by decide) rfl ?_
        refine hr_goto X 38 dX3_lawfulRows_91 rfl ?_
        exact hr_wk (hs_some (hs_none (hs_some (hs_some (hs_some (hs_some (hs_nil))))))) (ih v3 ((v4 * (v2 - v5)) / (v5 + 1)) (v5 + 1) M)
      · refine hr_iload_n X dX3_lawfulRows_53 rfl ?_
        refine hr_iload X dX3_lawfulRows_54 rfl ?_
        refine hr_isub X dX3_lawfulRows_56 ?_
        refine hr_aload_n X dX3_lawfulRows_57 rfl ?_
        refine hr_gI X hl_t0 hs_t0 lg_RX3_51 dX3_lawfulRows_58 ?_
        refine hr_aload_n X dX3_lawfulRows_61 rfl ?_
        refine hr_gI X hl_t0 hs_t0 lg_RX3_54 dX3_lawfulRows_62 ?_
        refine hr_isub X dX3_lawfulRows_65 ?_
        refine hr_icmp_gt X 74 dX3_lawfulRows_66 rfl ?_ ?_
        · refine hr_iload X dX3_lawfulRows_74 rfl ?_
          refine hr_iload_n X dX3_lawfulRows_76 rfl ?_
          refine hr_iload X dX3_lawfulRows_77 rfl ?_
          refine hr_isub X dX3_lawfulRows_79 ?_
          refine hr_imul X dX3_lawfulRows_80 ?_
          refine hr_iload X dX3_lawfulRows_81 rfl ?_
          refine hr_iconst X 1 dX3_lawfulRows_83 kc_1 ?_
          refine hr_iadd X dX3_lawfulRows_84 ?_
          refine hr_idivC X dX3_lawfulRows_85 ?_
          refine hr_istore X dX3_lawfulRows_86 (by decide) rfl ?_
          refine hr_iinc X (v5 + 1) dX3_lawfulRows_88 rfl (by rw [kc_1]) (by decide) rfl ?_
          refine hr_goto X 38 dX3_lawfulRows_91 rfl ?_
          exact hr_wk (hs_some (hs_none (hs_some (hs_some (hs_some (hs_some (hs_nil))))))) (ih v3 ((v4 * (v2 - v5)) / (v5 + 1)) (v5 + 1) M)
        · refine hr_iload_n X dX3_lawfulRows_69 rfl ?_
          refine hr_iload X dX3_lawfulRows_70 rfl ?_
          refine hr_iadd X dX3_lawfulRows_72 ?_
          refine hr_istore_n X dX3_lawfulRows_73 (by decide) rfl ?_
          refine hr_iload X dX3_lawfulRows_74 rfl ?_
          refine hr_iload_n X dX3_lawfulRows_76 rfl ?_
          refine hr_iload X dX3_lawfulRows_77 rfl ?_
          refine hr_isub X dX3_lawfulRows_79 ?_
          refine hr_imul X dX3_lawfulRows_80 ?_
          refine hr_iload X dX3_lawfulRows_81 rfl ?_
          refine hr_iconst X 1 dX3_lawfulRows_83 kc_1 ?_
          refine hr_iadd X dX3_lawfulRows_84 ?_
          refine hr_idivC X dX3_lawfulRows_85 ?_
          refine hr_istore X dX3_lawfulRows_86 (by decide) rfl ?_
          refine hr_iinc X (v5 + 1) dX3_lawfulRows_88 rfl (by rw [kc_1]) (by decide) rfl ?_
          refine hr_goto X 38 dX3_lawfulRows_91 rfl ?_
          exact hr_wk (hs_some (hs_none (hs_some (hs_some (hs_some (hs_some (hs_nil))))))) (ih (v3 + v4) ((v4 * (v2 - v5)) / (v5 + 1)) (v5 + 1) M)
set_option maxRecDepth 100000 in
set_option maxHeartbeats 4000000 in
theorem c_X3_lawfulRows  {t0 : Nat} (hl_t0 : t0 < 69) (hs_t0 : hf_shp t0 = 3) (a1 : Int32) (a2 : Int32) (M : hf_M) : hf_CI yX3_lawfulRows cX3_lawfulRows 6 (some .int) (1) (fun g => [.ref (hf_a g t0), .int a1, .int a2]) M (s_X3_lawfulRows t0 a1 a2 M) := by
  refine hf_metI (by decide +kernel) (fun g => Nat.le_of_ble_eq_true rfl) (fun g p l ev s m args below meth c X => ?_)
  have X : hf_X g p s m args meth c cX3_lawfulRows 6 RX3 (some .int) := X
  show hf_W g p l ev (1) s m args below meth c 6 (hf_QI g below args s) M 0 [some (.ref (hf_a g t0)), some (.int a1), some (.int a2), none, none, none] [] (s_X3_lawfulRows t0 a1 a2 M)
  unfold s_X3_lawfulRows
  refine hr_aload_n X dX3_lawfulRows_0 rfl ?_
  refine hr_gR X 6 hl_t0 hs_t0 lg_RX3_15 rfl dX3_lawfulRows_1 (fun q1 hl_q1 hs_q1 => ?_)
  refine hr_iload_n X dX3_lawfulRows_4 rfl ?_
  refine hr_iald X hl_q1 hs_q1 dX3_lawfulRows_5 (fun r2 _ _ => ?_)
  refine hr_bipush X 6 dX3_lawfulRows_6 kb_6 ?_
  refine hr_icmp_ne X 19 dX3_lawfulRows_8 rfl ?_ ?_
  · refine hr_aload_n X dX3_lawfulRows_19 rfl ?_
    refine hr_gR X 6 hl_t0 hs_t0 lg_RX3_15 rfl dX3_lawfulRows_20 (fun q3 hl_q3 hs_q3 => ?_)
    refine hr_iload_n X dX3_lawfulRows_23 rfl ?_
    refine hr_iald X hl_q3 hs_q3 dX3_lawfulRows_24 (fun r4 _ _ => ?_)
    refine hr_if_eq X 30 dX3_lawfulRows_25 rfl ?_ ?_
    · refine hr_iconst X 0 dX3_lawfulRows_30 kc_0 ?_
      refine hr_istore_n X dX3_lawfulRows_31 (by decide) rfl ?_
      refine hr_iconst X 1 dX3_lawfulRows_32 kc_1 ?_
      refine hr_istore X dX3_lawfulRows_33 (by decide) rfl ?_
      refine hr_iconst X 0 dX3_lawfulRows_35 kc_0 ?_
      refine hr_istore X dX3_lawfulRows_36 (by decide) rfl ?_
      exact hr_wk (hs_some (hs_none (hs_some (hs_some (hs_some (hs_some (hs_nil))))))) (w_X3_lawfulRows_38 X hl_t0 hs_t0 a2 2000 0 1 0 M)
    · refine hr_iconst X 1 dX3_lawfulRows_28 kc_1 ?_
      exact hr_iret X dX3_lawfulRows_29
  · refine hr_iconst X 1 dX3_lawfulRows_11 kc_1 ?_
    refine hr_iload_n X dX3_lawfulRows_12 rfl ?_
    refine hr_iconst X 1 dX3_lawfulRows_13 kc_1 ?_
    refine hr_iadd X dX3_lawfulRows_14 ?_
    refine hr_iconst X 2 dX3_lawfulRows_15 kc_2 ?_
    refine hr_idiv X dX3_lawfulRows_16 (by decide) ?_
    refine hr_ishl X dX3_lawfulRows_17 ?_
    exact hr_iret X dX3_lawfulRows_18
set_option maxRecDepth 100000 in
set_option maxHeartbeats 4000000 in
theorem c_X4_refuse_  {t0 : Nat} (hl_t0 : t0 < 69) (hs_t0 : hf_shp t0 = 4) (a1 : Int32) (a2 : Int32) (M : hf_M) : hf_CI yX4_refuse_ cX4_refuse_ 4 (some .int) (1) (fun g => [.ref (hf_a g t0), .int a1, .int a2]) M (s_X4_refuse_ t0 a1 a2 M) := by
  refine hf_metI (by decide +kernel) (fun g => Nat.le_of_ble_eq_true rfl) (fun g p l ev s m args below meth c X => ?_)
  have X : hf_X g p s m args meth c cX4_refuse_ 4 RX4 (some .int) := X
  show hf_W g p l ev (1) s m args below meth c 4 (hf_QI g below args s) M 0 [some (.ref (hf_a g t0)), some (.int a1), some (.int a2), none] [] (s_X4_refuse_ t0 a1 a2 M)
  unfold s_X4_refuse_
  refine hr_iload_n X dX4_refuse__0 rfl ?_
  refine hr_ineg X dX4_refuse__1 ?_
  refine hr_istore_n X dX4_refuse__2 (by decide) rfl ?_
  refine hr_iload_n X dX4_refuse__3 rfl ?_
  refine hr_if_le X 26 dX4_refuse__4 rfl ?_ ?_
  · refine hr_iload_n X dX4_refuse__26 rfl ?_
    exact hr_iret X dX4_refuse__27
  · refine hr_iload_n X dX4_refuse__7 rfl ?_
    refine hr_aload_n X dX4_refuse__8 rfl ?_
    refine hr_gR X 6 hl_t0 hs_t0 lg_RX4_42 rfl dX4_refuse__9 (fun q1 hl_q1 hs_q1 => ?_)
    refine hr_alenI X (Int32.ofNat (hf_len q1)) hl_q1 hs_q1 rfl dX4_refuse__12 ?_
    refine hr_icmp_ge X 26 dX4_refuse__13 rfl ?_ ?_
    · refine hr_iload_n X dX4_refuse__26 rfl ?_
      exact hr_iret X dX4_refuse__27
    · refine hr_aload_n X dX4_refuse__16 rfl ?_
      refine hr_gR X 6 hl_t0 hs_t0 lg_RX4_42 rfl dX4_refuse__17 (fun q2 hl_q2 hs_q2 => ?_)
      refine hr_iload_n X dX4_refuse__20 rfl ?_
      refine hr_dup2 X dX4_refuse__21 rfl rfl ?_
      refine hr_iald X hl_q2 hs_q2 dX4_refuse__22 (fun r3 _ _ => ?_)
      refine hr_iconst X 1 dX4_refuse__23 kc_1 ?_
      refine hr_iadd X dX4_refuse__24 ?_
      refine hr_iast X hl_q2 hs_q2 dX4_refuse__25 (fun M4 eM4 _ => ?_)
      refine hr_iload_n X dX4_refuse__26 rfl ?_
      exact hr_iret X dX4_refuse__27
set_option maxRecDepth 100000 in
set_option maxHeartbeats 4000000 in
theorem c_X4_refuse  {t0 : Nat} (hl_t0 : t0 < 69) (hs_t0 : hf_shp t0 = 4) (a1 : Int32) (M : hf_M) : hf_CI yX4_refuse cX4_refuse 2 (some .int) (2) (fun g => [.ref (hf_a g t0), .int a1]) M (s_X4_refuse t0 a1 M) := by
  refine hf_metI (by decide +kernel) (fun g => Nat.le_of_ble_eq_true rfl) (fun g p l ev s m args below meth c X => ?_)
  have X : hf_X g p s m args meth c cX4_refuse 2 RX4 (some .int) := X
  show hf_W g p l ev (2) s m args below meth c 2 (hf_QI g below args s) M 0 [some (.ref (hf_a g t0)), some (.int a1)] [] (s_X4_refuse t0 a1 M)
  unfold s_X4_refuse
  refine hr_aload_n X dX4_refuse_0 rfl ?_
  refine hr_iload_n X dX4_refuse_1 rfl ?_
  refine hr_iload_n X dX4_refuse_2 rfl ?_
  refine hr_cvI X [.int a1, .int a1] [] (c_X4_refuse_ hl_t0 hs_t0 a1 a1 M) lk_RX4_55 rfl rfl rfl hl_t0 hs_t0 ⟨by decide, rfl⟩ (by decide) (Nat.le_of_ble_eq_true rfl) dX4_refuse_3 (fun r1 M2 _ => ?_)
  exact hr_iret X dX4_refuse_6
set_option maxRecDepth 100000 in
set_option maxHeartbeats 4000000 in
theorem c_X4_isShelf  (a0 : Int32) (M : hf_M) : hf_CI yX4_isShelf cX4_isShelf 1 (some .boolean) (1) (fun g => [.int a0]) M (s_X4_isShelf a0 M) := by
  refine hf_metI (by decide +kernel) (fun g => Nat.le_of_ble_eq_true rfl) (fun g p l ev s m args below meth c X => ?_)
  have X : hf_X g p s m args meth c cX4_isShelf 1 RX4 (some .boolean) := X
  show hf_W g p l ev (1) s m args below meth c 1 (hf_QI g below args s) M 0 [some (.int a0)] [] (s_X4_isShelf a0 M)
  unfold s_X4_isShelf
  refine hr_iload_n X dX4_isShelf_0 rfl ?_
  refine hr_if_lt X 14 dX4_isShelf_1 rfl ?_ ?_
  · refine hr_iconst X 0 dX4_isShelf_14 kc_0 ?_
    exact hr_zretC X (Or.inl rfl) dX4_isShelf_15
  · refine hr_iload_n X dX4_isShelf_4 rfl ?_
    refine hr_bipush X 8 dX4_isShelf_5 kb_8 ?_
    refine hr_icmp_ge X 14 dX4_isShelf_7 rfl ?_ ?_
    · refine hr_iconst X 0 dX4_isShelf_14 kc_0 ?_
      exact hr_zretC X (Or.inl rfl) dX4_isShelf_15
    · refine hr_iconst X 1 dX4_isShelf_10 kc_1 ?_
      refine hr_goto X 15 dX4_isShelf_11 rfl ?_
      exact hr_zretC X (Or.inr rfl) dX4_isShelf_15
set_option maxRecDepth 100000 in
set_option maxHeartbeats 4000000 in
theorem c_X4_within  (a0 : Int32) (a1 : Int32) (a2 : Int32) (M : hf_M) : hf_CI yX4_within cX4_within 3 (some .boolean) (1) (fun g => [.int a0, .int a1, .int a2]) M (s_X4_within a0 a1 a2 M) := by
  refine hf_metI (by decide +kernel) (fun g => Nat.le_of_ble_eq_true rfl) (fun g p l ev s m args below meth c X => ?_)
  have X : hf_X g p s m args meth c cX4_within 3 RX4 (some .boolean) := X
  show hf_W g p l ev (1) s m args below meth c 3 (hf_QI g below args s) M 0 [some (.int a0), some (.int a1), some (.int a2)] [] (s_X4_within a0 a1 a2 M)
  unfold s_X4_within
  refine hr_iload_n X dX4_within_0 rfl ?_
  refine hr_iload_n X dX4_within_1 rfl ?_
  refine hr_icmp_lt X 14 dX4_within_2 rfl ?_ ?_
  · refine hr_iconst X 0 dX4_within_14 kc_0 ?_
    exact hr_zretC X (Or.inl rfl) dX4_within_15
  · refine hr_iload_n X dX4_within_5 rfl ?_
    refine hr_iload_n X dX4_within_6 rfl ?_
    refine hr_icmp_gt X 14 dX4_within_7 rfl ?_ ?_
    · refine hr_iconst X 0 dX4_within_14 kc_0 ?_
      exact hr_zretC X (Or.inl rfl) dX4_within_15
    · refine hr_iconst X 1 dX4_within_10 kc_1 ?_
      refine hr_goto X 15 dX4_within_11 rfl ?_
      exact hr_zretC X (Or.inr rfl) dX4_within_15
set_option maxRecDepth 100000 in
set_option maxHeartbeats 4000000 in
theorem w_X4_isUnder_4 {g : hf_G} {p : Program} {l : Launch} {ev : Env} {s : State} {m : MethodId} {args : Array Value} {below : List Frame} {meth : Method} {c : Code} (X : hf_X g p s m args meth c cX4_isUnder 4 RX4 (some .boolean))    (v1 : Int32) : ∀ (n : Nat) (v2 : Int32) (v3 : Int32) (M : hf_M), hf_W g p l ev (2) s m args below meth c 4 (hf_QI g below args s) M 4 [none, some (.int v1), some (.int v2), some (.int v3)] [] (s_X4_isUnder_4 v1 n v2 v3 M) := by
  intro n
  induction n with
  | zero =>
    intros
    exact hr_none
  | succ n ih =>
    intro v2 v3 M
    rw [s_X4_isUnder_4]
    refine hr_iload_n X dX4_isUnder_4 rfl ?_
    refine hr_gsAB X ls_RX4_65 dX4_isUnder_5 ?_
    refine hr_glAB X 7 rfl dX4_isUnder_8 ?_
    refine hr_icmp_ge X 38 dX4_isUnder_9 rfl ?_ ?_
    · refine hr_iconst X 0 dX4_isUnder_38 kc_0 ?_
      exact hr_zretC X (Or.inl rfl) dX4_isUnder_39
    · refine hr_iload_n X dX4_isUnder_12 rfl ?_
      refine hr_csI X [.int v2] [] (c_X4_isKind v2 M) lk_RX4_68 rfl rfl rfl (by decide) (Nat.le_of_ble_eq_true rfl) dX4_isUnder_13 (fun r1 M2 _ => ?_)
      refine hr_if_eq X 38 dX4_isUnder_16 rfl ?_ ?_
      · refine hr_iconst X 0 dX4_isUnder_38 kc_0 ?_
        exact hr_zretC X (Or.inl rfl) dX4_isUnder_39
      · refine hr_iload_n X dX4_isUnder_19 rfl ?_
        refine hr_iload_n X dX4_isUnder_20 rfl ?_
        refine hr_icmp_ne X 26 dX4_isUnder_21 rfl ?_ ?_
        · refine hr_gsAB X ls_RX4_65 dX4_isUnder_26 ?_
          refine hr_iload_n X dX4_isUnder_29 rfl ?_
          refine hr_ldAB X dX4_isUnder_30 (fun r3 _ _ => ?_)
          refine hr_istore_n X dX4_isUnder_31 (by decide) rfl ?_
          refine hr_iinc X (v3 + 1) dX4_isUnder_32 rfl (by rw [kc_1]) (by decide) rfl ?_
          refine hr_goto X 4 dX4_isUnder_35 rfl ?_
          exact hr_wk (hs_none (hs_some (hs_some (hs_some (hs_nil))))) (ih r3 (v3 + 1) M2)
        · refine hr_iconst X 1 dX4_isUnder_24 kc_1 ?_
          exact hr_zretC X (Or.inr rfl) dX4_isUnder_25
set_option maxRecDepth 100000 in
set_option maxHeartbeats 4000000 in
theorem c_X4_isUnder  (a0 : Int32) (a1 : Int32) (M : hf_M) : hf_CI yX4_isUnder cX4_isUnder 4 (some .boolean) (2) (fun g => [.int a0, .int a1]) M (s_X4_isUnder a0 a1 M) := by
  refine hf_metI (by decide +kernel) (fun g => Nat.le_of_ble_eq_true rfl) (fun g p l ev s m args below meth c X => ?_)
  have X : hf_X g p s m args meth c cX4_isUnder 4 RX4 (some .boolean) := X
  show hf_W g p l ev (2) s m args below meth c 4 (hf_QI g below args s) M 0 [some (.int a0), some (.int a1), none, none] [] (s_X4_isUnder a0 a1 M)
  unfold s_X4_isUnder
  refine hr_iload_n X dX4_isUnder_0 rfl ?_
  refine hr_istore_n X dX4_isUnder_1 (by decide) rfl ?_
  refine hr_iconst X 0 dX4_isUnder_2 kc_0 ?_
  refine hr_istore_n X dX4_isUnder_3 (by decide) rfl ?_
  exact hr_wk (hs_none (hs_some (hs_some (hs_some (hs_nil))))) (w_X4_isUnder_4 X a1 2000 a0 0 M)
set_option maxRecDepth 100000 in
set_option maxHeartbeats 4000000 in
theorem c_X4_noRow  {t0 : Nat} (hl_t0 : t0 < 69) (hs_t0 : hf_shp t0 = 4) (a1 : Int32) (M : hf_M) : hf_CI yX4_noRow cX4_noRow 2 (some .int) (2) (fun g => [.ref (hf_a g t0), .int a1]) M (s_X4_noRow t0 a1 M) := by
  refine hf_metI (by decide +kernel) (fun g => Nat.le_of_ble_eq_true rfl) (fun g p l ev s m args below meth c X => ?_)
  have X : hf_X g p s m args meth c cX4_noRow 2 RX4 (some .int) := X
  show hf_W g p l ev (2) s m args below meth c 2 (hf_QI g below args s) M 0 [some (.ref (hf_a g t0)), some (.int a1)] [] (s_X4_noRow t0 a1 M)
  unfold s_X4_noRow
  refine hr_iload_n X dX4_noRow_0 rfl ?_
  refine hr_csI X [.int a1] [] (c_X4_isShelf a1 M) lk_RX4_72 rfl rfl rfl (by decide) (Nat.le_of_ble_eq_true rfl) dX4_noRow_1 (fun r1 M2 _ => ?_)
  refine hr_if_ne X 9 dX4_noRow_4 rfl ?_ ?_
  · refine hr_aload_n X dX4_noRow_9 rfl ?_
    refine hr_gR X 8 hl_t0 hs_t0 lg_RX4_24 rfl dX4_noRow_10 (fun q3 hl_q3 hs_q3 => ?_)
    refine hr_iload_n X dX4_noRow_13 rfl ?_
    refine hr_aald X hl_q3 hs_q3 (hf_l8 hl_q3 hs_q3) dX4_noRow_14 (fun q4 hl_q4 hs_q4 => ?_)
    refine hr_cvI X [] [] (c_X2_isSpeaker hl_q4 hs_q4 M2) lk_RX4_75 rfl rfl rfl hl_q4 hs_q4 ⟨by decide, rfl⟩ (by decide) (Nat.le_of_ble_eq_true rfl) dX4_noRow_15 (fun r5 M6 _ => ?_)
    refine hr_if_eq X 24 dX4_noRow_18 rfl ?_ ?_
    · refine hr_aload_n X dX4_noRow_24 rfl ?_
      refine hr_gR X 8 hl_t0 hs_t0 lg_RX4_24 rfl dX4_noRow_25 (fun q7 hl_q7 hs_q7 => ?_)
      refine hr_iload_n X dX4_noRow_28 rfl ?_
      refine hr_aald X hl_q7 hs_q7 (hf_l8 hl_q7 hs_q7) dX4_noRow_29 (fun q8 hl_q8 hs_q8 => ?_)
      refine hr_cvI X [] [] (c_X2_isRow hl_q8 hs_q8 M6) lk_RX4_79 rfl rfl rfl hl_q8 hs_q8 ⟨by decide, rfl⟩ (by decide) (Nat.le_of_ble_eq_true rfl) dX4_noRow_30 (fun r9 M10 _ => ?_)
      refine hr_if_eq X 40 dX4_noRow_33 rfl ?_ ?_
      · refine hr_bipush X (-3) dX4_noRow_40 kb_m3 ?_
        exact hr_iret X dX4_noRow_42
      · refine hr_iconst X 0 dX4_noRow_36 kc_0 ?_
        refine hr_goto X 42 dX4_noRow_37 rfl ?_
        exact hr_iret X dX4_noRow_42
    · refine hr_bipush X (-2) dX4_noRow_21 kb_m2 ?_
      exact hr_iret X dX4_noRow_23
  · refine hr_iconst X (-1) dX4_noRow_7 kc_m1 ?_
    exact hr_iret X dX4_noRow_8
set_option maxRecDepth 100000 in
set_option maxHeartbeats 4000000 in
theorem c_X4_row  {t0 : Nat} (hl_t0 : t0 < 69) (hs_t0 : hf_shp t0 = 4) (a1 : Int32) (a2 : Int32) (a3 : Int32) (M : hf_M) : hf_CI yX4_row cX4_row 4 (some .int) (3) (fun g => [.ref (hf_a g t0), .int a1, .int a2, .int a3]) M (s_X4_row t0 a1 a2 a3 M) := by
  refine hf_metI (by decide +kernel) (fun g => Nat.le_of_ble_eq_true rfl) (fun g p l ev s m args below meth c X => ?_)
  have X : hf_X g p s m args meth c cX4_row 4 RX4 (some .int) := X
  show hf_W g p l ev (3) s m args below meth c 4 (hf_QI g below args s) M 0 [some (.ref (hf_a g t0)), some (.int a1), some (.int a2), some (.int a3)] [] (s_X4_row t0 a1 a2 a3 M)
  unfold s_X4_row
  refine hr_iload_n X dX4_row_0 rfl ?_
  refine hr_csI X [.int a1] [] (c_X4_isShelf a1 M) lk_RX4_72 rfl rfl rfl (by decide) (Nat.le_of_ble_eq_true rfl) dX4_row_1 (fun r1 M2 _ => ?_)
  refine hr_if_ne X 13 dX4_row_4 rfl ?_ ?_
  · refine hr_iload_n X dX4_row_13 rfl ?_
    refine hr_if_ge X 24 dX4_row_14 rfl ?_ ?_
    · refine hr_iload_n X dX4_row_24 rfl ?_
      refine hr_iconst X 0 dX4_row_25 kc_0 ?_
      refine hr_iconst X 3 dX4_row_26 kc_3 ?_
      refine hr_csI X [.int a2, .int 0, .int 3] [] (c_X4_within a2 0 3 M2) lk_RX4_85 rfl rfl rfl (by decide) (Nat.le_of_ble_eq_true rfl) dX4_row_27 (fun r3 M4 _ => ?_)
      refine hr_if_ne X 40 dX4_row_30 rfl ?_ ?_
      · refine hr_iload_n X dX4_row_40 rfl ?_
        refine hr_sipush X 160 dX4_row_41 ks_160 ?_
        refine hr_icmp_le X 54 dX4_row_44 rfl ?_ ?_
        · refine hr_aload_n X dX4_row_54 rfl ?_
          refine hr_gR X 8 hl_t0 hs_t0 lg_RX4_24 rfl dX4_row_55 (fun q5 hl_q5 hs_q5 => ?_)
          refine hr_iload_n X dX4_row_58 rfl ?_
          refine hr_aald X hl_q5 hs_q5 (hf_l8 hl_q5 hs_q5) dX4_row_59 (fun q6 hl_q6 hs_q6 => ?_)
          refine hr_iload_n X dX4_row_60 rfl ?_
          refine hr_iload_n X dX4_row_61 rfl ?_
          refine hr_cvV X [.int a2, .int a3] [] (c_X2_makeRow hl_q6 hs_q6 a2 a3 M4) lk_RX4_89 rfl rfl rfl hl_q6 hs_q6 ⟨by decide, rfl⟩ (by decide) (Nat.le_of_ble_eq_true rfl) dX4_row_62 (fun _ M8 _ => ?_)
          refine hr_iconst X 1 dX4_row_65 kc_1 ?_
          exact hr_iret X dX4_row_66
        · refine hr_aload_n X dX4_row_47 rfl ?_
          refine hr_bipush X (-7) dX4_row_48 kb_m7 ?_
          refine hr_cvI X [.int (-7)] [] (c_X4_refuse hl_t0 hs_t0 (-7) M4) lk_RX4_82 rfl rfl rfl hl_t0 hs_t0 ⟨by decide, rfl⟩ (by decide) (Nat.le_of_ble_eq_true rfl) dX4_row_50 (fun r9 M10 _ => ?_)
          exact hr_iret X dX4_row_53
      · refine hr_aload_n X dX4_row_33 rfl ?_
        refine hr_bipush X (-6) dX4_row_34 kb_m6 ?_
        refine hr_cvI X [.int (-6)] [] (c_X4_refuse hl_t0 hs_t0 (-6) M4) lk_RX4_82 rfl rfl rfl hl_t0 hs_t0 ⟨by decide, rfl⟩ (by decide) (Nat.le_of_ble_eq_true rfl) dX4_row_36 (fun r11 M12 _ => ?_)
        exact hr_iret X dX4_row_39
    · refine hr_aload_n X dX4_row_17 rfl ?_
      refine hr_bipush X (-4) dX4_row_18 kb_m4 ?_
      refine hr_cvI X [.int (-4)] [] (c_X4_refuse hl_t0 hs_t0 (-4) M2) lk_RX4_82 rfl rfl rfl hl_t0 hs_t0 ⟨by decide, rfl⟩ (by decide) (Nat.le_of_ble_eq_true rfl) dX4_row_20 (fun r13 M14 _ => ?_)
      exact hr_iret X dX4_row_23
  · refine hr_aload_n X dX4_row_7 rfl ?_
    refine hr_iconst X (-1) dX4_row_8 kc_m1 ?_
    refine hr_cvI X [.int (-1)] [] (c_X4_refuse hl_t0 hs_t0 (-1) M2) lk_RX4_82 rfl rfl rfl hl_t0 hs_t0 ⟨by decide, rfl⟩ (by decide) (Nat.le_of_ble_eq_true rfl) dX4_row_9 (fun r15 M16 _ => ?_)
    exact hr_iret X dX4_row_12
set_option maxRecDepth 100000 in
set_option maxHeartbeats 4000000 in
theorem c_X4_set  {t0 : Nat} (hl_t0 : t0 < 69) (hs_t0 : hf_shp t0 = 4) (a1 : Int32) (a2 : Int32) (a3 : Int64) (M : hf_M) : hf_CI yX4_set cX4_set 6 (some .int) (3) (fun g => [.ref (hf_a g t0), .int a1, .int a2, .long a3]) M (s_X4_set t0 a1 a2 a3 M) := by
  refine hf_metI (by decide +kernel) (fun g => Nat.le_of_ble_eq_true rfl) (fun g p l ev s m args below meth c X => ?_)
  have X : hf_X g p s m args meth c cX4_set 6 RX4 (some .int) := X
  show hf_W g p l ev (3) s m args below meth c 6 (hf_QI g below args s) M 0 [some (.ref (hf_a g t0)), some (.int a1), some (.int a2), some (.long a3), none, none] [] (s_X4_set t0 a1 a2 a3 M)
  unfold s_X4_set
  refine hr_aload_n X dX4_set_0 rfl ?_
  refine hr_iload_n X dX4_set_1 rfl ?_
  refine hr_cvI X [.int a1] [] (c_X4_noRow hl_t0 hs_t0 a1 M) lk_RX4_93 rfl rfl rfl hl_t0 hs_t0 ⟨by decide, rfl⟩ (by decide) (Nat.le_of_ble_eq_true rfl) dX4_set_2 (fun r1 M2 _ => ?_)
  refine hr_istore X dX4_set_5 (by decide) rfl ?_
  refine hr_iload X dX4_set_7 rfl ?_
  refine hr_if_eq X 19 dX4_set_9 rfl ?_ ?_
  · refine hr_aload_n X dX4_set_19 rfl ?_
    refine hr_gR X 8 hl_t0 hs_t0 lg_RX4_24 rfl dX4_set_20 (fun q3 hl_q3 hs_q3 => ?_)
    refine hr_iload_n X dX4_set_23 rfl ?_
    refine hr_aald X hl_q3 hs_q3 (hf_l8 hl_q3 hs_q3) dX4_set_24 (fun q4 hl_q4 hs_q4 => ?_)
    refine hr_iload_n X dX4_set_25 rfl ?_
    refine hr_cvI X [.int a2] [] (c_X2_has hl_q4 hs_q4 a2 M2) lk_RX4_96 rfl rfl rfl hl_q4 hs_q4 ⟨by decide, rfl⟩ (by decide) (Nat.le_of_ble_eq_true rfl) dX4_set_26 (fun r5 M6 _ => ?_)
    refine hr_if_ne X 39 dX4_set_29 rfl ?_ ?_
    · refine hr_aload_n X dX4_set_39 rfl ?_
      refine hr_gR X 8 hl_t0 hs_t0 lg_RX4_24 rfl dX4_set_40 (fun q7 hl_q7 hs_q7 => ?_)
      refine hr_iload_n X dX4_set_43 rfl ?_
      refine hr_aald X hl_q7 hs_q7 (hf_l8 hl_q7 hs_q7) dX4_set_44 (fun q8 hl_q8 hs_q8 => ?_)
      refine hr_iload_n X dX4_set_45 rfl ?_
      refine hr_lload_n X dX4_set_46 rfl ?_
      refine hr_cvV X [.int a2, .long a3] [] (c_X2_put hl_q8 hs_q8 a2 a3 M6) lk_RX4_99 rfl rfl rfl hl_q8 hs_q8 ⟨by decide, rfl⟩ (by decide) (Nat.le_of_ble_eq_true rfl) dX4_set_47 (fun _ M10 _ => ?_)
      refine hr_iconst X 1 dX4_set_50 kc_1 ?_
      exact hr_iret X dX4_set_51
    · refine hr_aload_n X dX4_set_32 rfl ?_
      refine hr_bipush X (-5) dX4_set_33 kb_m5 ?_
      refine hr_cvI X [.int (-5)] [] (c_X4_refuse hl_t0 hs_t0 (-5) M6) lk_RX4_82 rfl rfl rfl hl_t0 hs_t0 ⟨by decide, rfl⟩ (by decide) (Nat.le_of_ble_eq_true rfl) dX4_set_35 (fun r11 M12 _ => ?_)
      exact hr_iret X dX4_set_38
  · refine hr_aload_n X dX4_set_12 rfl ?_
    refine hr_iload X dX4_set_13 rfl ?_
    refine hr_cvI X [.int r1] [] (c_X4_refuse hl_t0 hs_t0 r1 M2) lk_RX4_82 rfl rfl rfl hl_t0 hs_t0 ⟨by decide, rfl⟩ (by decide) (Nat.le_of_ble_eq_true rfl) dX4_set_15 (fun r13 M14 _ => ?_)
    exact hr_iret X dX4_set_18
set_option maxRecDepth 100000 in
set_option maxHeartbeats 4000000 in
theorem c_X4_copy  {t0 : Nat} (hl_t0 : t0 < 69) (hs_t0 : hf_shp t0 = 4) (a1 : Int32) (a2 : Int32) (a3 : Int32) (a4 : Int32) (a5 : Int32) (M : hf_M) : hf_CI yX4_copy cX4_copy 8 (some .int) (3) (fun g => [.ref (hf_a g t0), .int a1, .int a2, .int a3, .int a4, .int a5]) M (s_X4_copy t0 a1 a2 a3 a4 a5 M) := by
  refine hf_metI (by decide +kernel) (fun g => Nat.le_of_ble_eq_true rfl) (fun g p l ev s m args below meth c X => ?_)
  have X : hf_X g p s m args meth c cX4_copy 8 RX4 (some .int) := X
  show hf_W g p l ev (3) s m args below meth c 8 (hf_QI g below args s) M 0 [some (.ref (hf_a g t0)), some (.int a1), some (.int a2), some (.int a3), some (.int a4), some (.int a5), none, none] [] (s_X4_copy t0 a1 a2 a3 a4 a5 M)
  unfold s_X4_copy
  refine hr_iload_n X dX4_copy_0 rfl ?_
  refine hr_csI X [.int a1] [] (c_X4_isShelf a1 M) lk_RX4_72 rfl rfl rfl (by decide) (Nat.le_of_ble_eq_true rfl) dX4_copy_1 (fun r1 M2 _ => ?_)
  refine hr_if_eq X 14 dX4_copy_4 rfl ?_ ?_
  · refine hr_aload_n X dX4_copy_14 rfl ?_
    refine hr_iconst X (-1) dX4_copy_15 kc_m1 ?_
    refine hr_cvI X [.int (-1)] [] (c_X4_refuse hl_t0 hs_t0 (-1) M2) lk_RX4_82 rfl rfl rfl hl_t0 hs_t0 ⟨by decide, rfl⟩ (by decide) (Nat.le_of_ble_eq_true rfl) dX4_copy_16 (fun r3 M4 _ => ?_)
    exact hr_iret X dX4_copy_19
  · refine hr_iload_n X dX4_copy_7 rfl ?_
    refine hr_csI X [.int a2] [] (c_X4_isShelf a2 M2) lk_RX4_72 rfl rfl rfl (by decide) (Nat.le_of_ble_eq_true rfl) dX4_copy_8 (fun r5 M6 _ => ?_)
    refine hr_if_ne X 20 dX4_copy_11 rfl ?_ ?_
    · refine hr_aload_n X dX4_copy_20 rfl ?_
      refine hr_gR X 8 hl_t0 hs_t0 lg_RX4_24 rfl dX4_copy_21 (fun q7 hl_q7 hs_q7 => ?_)
      refine hr_iload_n X dX4_copy_24 rfl ?_
      refine hr_aald X hl_q7 hs_q7 (hf_l8 hl_q7 hs_q7) dX4_copy_25 (fun q8 hl_q8 hs_q8 => ?_)
      refine hr_astore X dX4_copy_26 (by decide) rfl ?_
      refine hr_aload_n X dX4_copy_28 rfl ?_
      refine hr_gR X 8 hl_t0 hs_t0 lg_RX4_24 rfl dX4_copy_29 (fun q9 hl_q9 hs_q9 => ?_)
      refine hr_iload_n X dX4_copy_32 rfl ?_
      refine hr_aald X hl_q9 hs_q9 (hf_l8 hl_q9 hs_q9) dX4_copy_33 (fun q10 hl_q10 hs_q10 => ?_)
      refine hr_astore X dX4_copy_34 (by decide) rfl ?_
      refine hr_aload X dX4_copy_36 rfl ?_
      refine hr_cvI X [] [] (c_X2_isSpeaker hl_q8 hs_q8 M6) lk_RX4_75 rfl rfl rfl hl_q8 hs_q8 ⟨by decide, rfl⟩ (by decide) (Nat.le_of_ble_eq_true rfl) dX4_copy_38 (fun r11 M12 _ => ?_)
      refine hr_if_ne X 81 dX4_copy_41 rfl ?_ ?_
      · refine hr_aload_n X dX4_copy_81 rfl ?_
        refine hr_bipush X (-2) dX4_copy_82 kb_m2 ?_
        refine hr_cvI X [.int (-2)] [] (c_X4_refuse hl_t0 hs_t0 (-2) M12) lk_RX4_82 rfl rfl rfl hl_t0 hs_t0 ⟨by decide, rfl⟩ (by decide) (Nat.le_of_ble_eq_true rfl) dX4_copy_84 (fun r13 M14 _ => ?_)
        exact hr_iret X dX4_copy_87
      · refine hr_aload X dX4_copy_44 rfl ?_
        refine hr_cvI X [] [] (c_X2_isSpeaker hl_q10 hs_q10 M12) lk_RX4_75 rfl rfl rfl hl_q10 hs_q10 ⟨by decide, rfl⟩ (by decide) (Nat.le_of_ble_eq_true rfl) dX4_copy_46 (fun r15 M16 _ => ?_)
        refine hr_if_ne X 81 dX4_copy_49 rfl ?_ ?_
        · refine hr_aload_n X dX4_copy_81 rfl ?_
          refine hr_bipush X (-2) dX4_copy_82 kb_m2 ?_
          refine hr_cvI X [.int (-2)] [] (c_X4_refuse hl_t0 hs_t0 (-2) M16) lk_RX4_82 rfl rfl rfl hl_t0 hs_t0 ⟨by decide, rfl⟩ (by decide) (Nat.le_of_ble_eq_true rfl) dX4_copy_84 (fun r17 M18 _ => ?_)
          exact hr_iret X dX4_copy_87
        · refine hr_aload X dX4_copy_52 rfl ?_
          refine hr_cvI X [] [] (c_X2_isRow hl_q8 hs_q8 M16) lk_RX4_79 rfl rfl rfl hl_q8 hs_q8 ⟨by decide, rfl⟩ (by decide) (Nat.le_of_ble_eq_true rfl) dX4_copy_54 (fun r19 M20 _ => ?_)
          refine hr_if_eq X 88 dX4_copy_57 rfl ?_ ?_
          · refine hr_aload X dX4_copy_88 rfl ?_
            refine hr_cvI X [] [] (c_X2_isRow hl_q8 hs_q8 M20) lk_RX4_79 rfl rfl rfl hl_q8 hs_q8 ⟨by decide, rfl⟩ (by decide) (Nat.le_of_ble_eq_true rfl) dX4_copy_90 (fun r21 M22 _ => ?_)
            refine hr_if_eq X 104 dX4_copy_93 rfl ?_ ?_
            · refine hr_aload_n X dX4_copy_104 rfl ?_
              refine hr_bipush X (-3) dX4_copy_105 kb_m3 ?_
              refine hr_cvI X [.int (-3)] [] (c_X4_refuse hl_t0 hs_t0 (-3) M22) lk_RX4_82 rfl rfl rfl hl_t0 hs_t0 ⟨by decide, rfl⟩ (by decide) (Nat.le_of_ble_eq_true rfl) dX4_copy_107 (fun r23 M24 _ => ?_)
              exact hr_iret X dX4_copy_110
            · refine hr_aload X dX4_copy_96 rfl ?_
              refine hr_cvI X [] [] (c_X2_isRow hl_q10 hs_q10 M22) lk_RX4_79 rfl rfl rfl hl_q10 hs_q10 ⟨by decide, rfl⟩ (by decide) (Nat.le_of_ble_eq_true rfl) dX4_copy_98 (fun r25 M26 _ => ?_)
              refine hr_if_ne X 111 dX4_copy_101 rfl ?_ ?_
              · refine hr_iload X dX4_copy_111 rfl ?_
                refine hr_if_ge X 123 dX4_copy_113 rfl ?_ ?_
                · refine hr_aload X dX4_copy_123 rfl ?_
                  refine hr_iload_n X dX4_copy_125 rfl ?_
                  refine hr_iload X dX4_copy_126 rfl ?_
                  refine hr_cvI X [.int a3, .int a5] [] (c_X2_hasPart hl_q8 hs_q8 a3 a5 M26) lk_RX4_106 rfl rfl rfl hl_q8 hs_q8 ⟨by decide, rfl⟩ (by decide) (Nat.le_of_ble_eq_true rfl) dX4_copy_128 (fun r27 M28 _ => ?_)
                  refine hr_if_eq X 146 dX4_copy_131 rfl ?_ ?_
                  · refine hr_aload_n X dX4_copy_146 rfl ?_
                    refine hr_bipush X (-5) dX4_copy_147 kb_m5 ?_
                    refine hr_cvI X [.int (-5)] [] (c_X4_refuse hl_t0 hs_t0 (-5) M28) lk_RX4_82 rfl rfl rfl hl_t0 hs_t0 ⟨by decide, rfl⟩ (by decide) (Nat.le_of_ble_eq_true rfl) dX4_copy_149 (fun r29 M30 _ => ?_)
                    exact hr_iret X dX4_copy_152
                  · refine hr_aload X dX4_copy_134 rfl ?_
                    refine hr_iload X dX4_copy_136 rfl ?_
                    refine hr_iload X dX4_copy_138 rfl ?_
                    refine hr_cvI X [.int a4, .int a5] [] (c_X2_hasPart hl_q10 hs_q10 a4 a5 M28) lk_RX4_106 rfl rfl rfl hl_q10 hs_q10 ⟨by decide, rfl⟩ (by decide) (Nat.le_of_ble_eq_true rfl) dX4_copy_140 (fun r31 M32 _ => ?_)
                    refine hr_if_ne X 153 dX4_copy_143 rfl ?_ ?_
                    · refine hr_aload X dX4_copy_153 rfl ?_
                      refine hr_gR X 7 hl_q8 hs_q8 lg_RX4_110 rfl dX4_copy_155 (fun q33 hl_q33 hs_q33 => ?_)
                      refine hr_iload_n X dX4_copy_158 rfl ?_
                      refine hr_aload X dX4_copy_159 rfl ?_
                      refine hr_gR X 7 hl_q10 hs_q10 lg_RX4_110 rfl dX4_copy_161 (fun q34 hl_q34 hs_q34 => ?_)
                      refine hr_iload X dX4_copy_164 rfl ?_
                      refine hr_iload X dX4_copy_166 rfl ?_
                      refine hr_acL X (hf_c2 22 rfl rfl) (hf_c2 24 rfl rfl) (hf_c2 23 rfl rfl) (hf_c1 8 rfl rfl) hl_q33 hs_q33 hl_q34 hs_q34 (by decide) (Nat.le_of_ble_eq_true rfl) dX4_copy_168 (fun M35 eM35 => ?_)
                      refine hr_iconst X 1 dX4_copy_171 kc_1 ?_
                      exact hr_iret X dX4_copy_172
                    · refine hr_aload_n X dX4_copy_146 rfl ?_
                      refine hr_bipush X (-5) dX4_copy_147 kb_m5 ?_
                      refine hr_cvI X [.int (-5)] [] (c_X4_refuse hl_t0 hs_t0 (-5) M32) lk_RX4_82 rfl rfl rfl hl_t0 hs_t0 ⟨by decide, rfl⟩ (by decide) (Nat.le_of_ble_eq_true rfl) dX4_copy_149 (fun r36 M37 _ => ?_)
                      exact hr_iret X dX4_copy_152
                · refine hr_aload_n X dX4_copy_116 rfl ?_
                  refine hr_bipush X (-4) dX4_copy_117 kb_m4 ?_
                  refine hr_cvI X [.int (-4)] [] (c_X4_refuse hl_t0 hs_t0 (-4) M26) lk_RX4_82 rfl rfl rfl hl_t0 hs_t0 ⟨by decide, rfl⟩ (by decide) (Nat.le_of_ble_eq_true rfl) dX4_copy_119 (fun r38 M39 _ => ?_)
                  exact hr_iret X dX4_copy_122
              · refine hr_aload_n X dX4_copy_104 rfl ?_
                refine hr_bipush X (-3) dX4_copy_105 kb_m3 ?_
                refine hr_cvI X [.int (-3)] [] (c_X4_refuse hl_t0 hs_t0 (-3) M26) lk_RX4_82 rfl rfl rfl hl_t0 hs_t0 ⟨by decide, rfl⟩ (by decide) (Nat.le_of_ble_eq_true rfl) dX4_copy_107 (fun r40 M41 _ => ?_)
                exact hr_iret X dX4_copy_110
          · refine hr_aload X dX4_copy_60 rfl ?_
            refine hr_cvI X [] [] (c_X2_isRow hl_q10 hs_q10 M20) lk_RX4_79 rfl rfl rfl hl_q10 hs_q10 ⟨by decide, rfl⟩ (by decide) (Nat.le_of_ble_eq_true rfl) dX4_copy_62 (fun r42 M43 _ => ?_)
            refine hr_if_eq X 88 dX4_copy_65 rfl ?_ ?_
            · refine hr_aload X dX4_copy_88 rfl ?_
              refine hr_cvI X [] [] (c_X2_isRow hl_q8 hs_q8 M43) lk_RX4_79 rfl rfl rfl hl_q8 hs_q8 ⟨by decide, rfl⟩ (by decide) (Nat.le_of_ble_eq_true rfl) dX4_copy_90 (fun r44 M45 _ => ?_)
              refine hr_if_eq X 104 dX4_copy_93 rfl ?_ ?_
              · refine hr_aload_n X dX4_copy_104 rfl ?_
                refine hr_bipush X (-3) dX4_copy_105 kb_m3 ?_
                refine hr_cvI X [.int (-3)] [] (c_X4_refuse hl_t0 hs_t0 (-3) M45) lk_RX4_82 rfl rfl rfl hl_t0 hs_t0 ⟨by decide, rfl⟩ (by decide) (Nat.le_of_ble_eq_true rfl) dX4_copy_107 (fun r46 M47 _ => ?_)
                exact hr_iret X dX4_copy_110
              · refine hr_aload X dX4_copy_96 rfl ?_
                refine hr_cvI X [] [] (c_X2_isRow hl_q10 hs_q10 M45) lk_RX4_79 rfl rfl rfl hl_q10 hs_q10 ⟨by decide, rfl⟩ (by decide) (Nat.le_of_ble_eq_true rfl) dX4_copy_98 (fun r48 M49 _ => ?_)
                refine hr_if_ne X 111 dX4_copy_101 rfl ?_ ?_
                · refine hr_iload X dX4_copy_111 rfl ?_
                  refine hr_if_ge X 123 dX4_copy_113 rfl ?_ ?_
                  · refine hr_aload X dX4_copy_123 rfl ?_
                    refine hr_iload_n X dX4_copy_125 rfl ?_
                    refine hr_iload X dX4_copy_126 rfl ?_
                    refine hr_cvI X [.int a3, .int a5] [] (c_X2_hasPart hl_q8 hs_q8 a3 a5 M49) lk_RX4_106 rfl rfl rfl hl_q8 hs_q8 ⟨by decide, rfl⟩ (by decide) (Nat.le_of_ble_eq_true rfl) dX4_copy_128 (fun r50 M51 _ => ?_)
                    refine hr_if_eq X 146 dX4_copy_131 rfl ?_ ?_
                    · refine hr_aload_n X dX4_copy_146 rfl ?_
                      refine hr_bipush X (-5) dX4_copy_147 kb_m5 ?_
                      refine hr_cvI X [.int (-5)] [] (c_X4_refuse hl_t0 hs_t0 (-5) M51) lk_RX4_82 rfl rfl rfl hl_t0 hs_t0 ⟨by decide, rfl⟩ (by decide) (Nat.le_of_ble_eq_true rfl) dX4_copy_149 (fun r52 M53 _ => ?_)
                      exact hr_iret X dX4_copy_152
                    · refine hr_aload X dX4_copy_134 rfl ?_
                      refine hr_iload X dX4_copy_136 rfl ?_
                      refine hr_iload X dX4_copy_138 rfl ?_
                      refine hr_cvI X [.int a4, .int a5] [] (c_X2_hasPart hl_q10 hs_q10 a4 a5 M51) lk_RX4_106 rfl rfl rfl hl_q10 hs_q10 ⟨by decide, rfl⟩ (by decide) (Nat.le_of_ble_eq_true rfl) dX4_copy_140 (fun r54 M55 _ => ?_)
                      refine hr_if_ne X 153 dX4_copy_143 rfl ?_ ?_
                      · refine hr_aload X dX4_copy_153 rfl ?_
                        refine hr_gR X 7 hl_q8 hs_q8 lg_RX4_110 rfl dX4_copy_155 (fun q56 hl_q56 hs_q56 => ?_)
                        refine hr_iload_n X dX4_copy_158 rfl ?_
                        refine hr_aload X dX4_copy_159 rfl ?_
                        refine hr_gR X 7 hl_q10 hs_q10 lg_RX4_110 rfl dX4_copy_161 (fun q57 hl_q57 hs_q57 => ?_)
                        refine hr_iload X dX4_copy_164 rfl ?_
                        refine hr_iload X dX4_copy_166 rfl ?_
                        refine hr_acL X (hf_c2 22 rfl rfl) (hf_c2 24 rfl rfl) (hf_c2 23 rfl rfl) (hf_c1 8 rfl rfl) hl_q56 hs_q56 hl_q57 hs_q57 (by decide) (Nat.le_of_ble_eq_true rfl) dX4_copy_168 (fun M58 eM58 => ?_)
                        refine hr_iconst X 1 dX4_copy_171 kc_1 ?_
                        exact hr_iret X dX4_copy_172
                      · refine hr_aload_n X dX4_copy_146 rfl ?_
                        refine hr_bipush X (-5) dX4_copy_147 kb_m5 ?_
                        refine hr_cvI X [.int (-5)] [] (c_X4_refuse hl_t0 hs_t0 (-5) M55) lk_RX4_82 rfl rfl rfl hl_t0 hs_t0 ⟨by decide, rfl⟩ (by decide) (Nat.le_of_ble_eq_true rfl) dX4_copy_149 (fun r59 M60 _ => ?_)
                        exact hr_iret X dX4_copy_152
                  · refine hr_aload_n X dX4_copy_116 rfl ?_
                    refine hr_bipush X (-4) dX4_copy_117 kb_m4 ?_
                    refine hr_cvI X [.int (-4)] [] (c_X4_refuse hl_t0 hs_t0 (-4) M49) lk_RX4_82 rfl rfl rfl hl_t0 hs_t0 ⟨by decide, rfl⟩ (by decide) (Nat.le_of_ble_eq_true rfl) dX4_copy_119 (fun r61 M62 _ => ?_)
                    exact hr_iret X dX4_copy_122
                · refine hr_aload_n X dX4_copy_104 rfl ?_
                  refine hr_bipush X (-3) dX4_copy_105 kb_m3 ?_
                  refine hr_cvI X [.int (-3)] [] (c_X4_refuse hl_t0 hs_t0 (-3) M49) lk_RX4_82 rfl rfl rfl hl_t0 hs_t0 ⟨by decide, rfl⟩ (by decide) (Nat.le_of_ble_eq_true rfl) dX4_copy_107 (fun r63 M64 _ => ?_)
                  exact hr_iret X dX4_copy_110
            · refine hr_aload X dX4_copy_68 rfl ?_
              refine hr_gI X hl_q8 hs_q8 lg_RX4_103 dX4_copy_70 ?_
              refine hr_aload X dX4_copy_73 rfl ?_
              refine hr_gI X hl_q10 hs_q10 lg_RX4_103 dX4_copy_75 ?_
              refine hr_icmp_eq X 88 dX4_copy_78 rfl ?_ ?_
              · refine hr_aload X dX4_copy_88 rfl ?_
                refine hr_cvI X [] [] (c_X2_isRow hl_q8 hs_q8 M43) lk_RX4_79 rfl rfl rfl hl_q8 hs_q8 ⟨by decide, rfl⟩ (by decide) (Nat.le_of_ble_eq_true rfl) dX4_copy_90 (fun r65 M66 _ => ?_)
                refine hr_if_eq X 104 dX4_copy_93 rfl ?_ ?_
                · refine hr_aload_n X dX4_copy_104 rfl ?_
                  refine hr_bipush X (-3) dX4_copy_105 kb_m3 ?_
                  refine hr_cvI X [.int (-3)] [] (c_X4_refuse hl_t0 hs_t0 (-3) M66) lk_RX4_82 rfl rfl rfl hl_t0 hs_t0 ⟨by decide, rfl⟩ (by decide) (Nat.le_of_ble_eq_true rfl) dX4_copy_107 (fun r67 M68 _ => ?_)
                  exact hr_iret X dX4_copy_110
                · refine hr_aload X dX4_copy_96 rfl ?_
                  refine hr_cvI X [] [] (c_X2_isRow hl_q10 hs_q10 M66) lk_RX4_79 rfl rfl rfl hl_q10 hs_q10 ⟨by decide, rfl⟩ (by decide) (Nat.le_of_ble_eq_true rfl) dX4_copy_98 (fun r69 M70 _ => ?_)
                  refine hr_if_ne X 111 dX4_copy_101 rfl ?_ ?_
                  · refine hr_iload X dX4_copy_111 rfl ?_
                    refine hr_if_ge X 123 dX4_copy_113 rfl ?_ ?_
                    · refine hr_aload X dX4_copy_123 rfl ?_
                      refine hr_iload_n X dX4_copy_125 rfl ?_
                      refine hr_iload X dX4_copy_126 rfl ?_
                      refine hr_cvI X [.int a3, .int a5] [] (c_X2_hasPart hl_q8 hs_q8 a3 a5 M70) lk_RX4_106 rfl rfl rfl hl_q8 hs_q8 ⟨by decide, rfl⟩ (by decide) (Nat.le_of_ble_eq_true rfl) dX4_copy_128 (fun r71 M72 _ => ?_)
                      refine hr_if_eq X 146 dX4_copy_131 rfl ?_ ?_
                      · refine hr_aload_n X dX4_copy_146 rfl ?_
                        refine hr_bipush X (-5) dX4_copy_147 kb_m5 ?_
                        refine hr_cvI X [.int (-5)] [] (c_X4_refuse hl_t0 hs_t0 (-5) M72) lk_RX4_82 rfl rfl rfl hl_t0 hs_t0 ⟨by decide, rfl⟩ (by decide) (Nat.le_of_ble_eq_true rfl) dX4_copy_149 (fun r73 M74 _ => ?_)
                        exact hr_iret X dX4_copy_152
                      · refine hr_aload X dX4_copy_134 rfl ?_
                        refine hr_iload X dX4_copy_136 rfl ?_
                        refine hr_iload X dX4_copy_138 rfl ?_
                        refine hr_cvI X [.int a4, .int a5] [] (c_X2_hasPart hl_q10 hs_q10 a4 a5 M72) lk_RX4_106 rfl rfl rfl hl_q10 hs_q10 ⟨by decide, rfl⟩ (by decide) (Nat.le_of_ble_eq_true rfl) dX4_copy_140 (fun r75 M76 _ => ?_)
                        refine hr_if_ne X 153 dX4_copy_143 rfl ?_ ?_
                        · refine hr_aload X dX4_copy_153 rfl ?_
                          refine hr_gR X 7 hl_q8 hs_q8 lg_RX4_110 rfl dX4_copy_155 (fun q77 hl_q77 hs_q77 => ?_)
                          refine hr_iload_n X dX4_copy_158 rfl ?_
                          refine hr_aload X dX4_copy_159 rfl ?_
                          refine hr_gR X 7 hl_q10 hs_q10 lg_RX4_110 rfl dX4_copy_161 (fun q78 hl_q78 hs_q78 => ?_)
                          refine hr_iload X dX4_copy_164 rfl ?_
                          refine hr_iload X dX4_copy_166 rfl ?_
                          refine hr_acL X (hf_c2 22 rfl rfl) (hf_c2 24 rfl rfl) (hf_c2 23 rfl rfl) (hf_c1 8 rfl rfl) hl_q77 hs_q77 hl_q78 hs_q78 (by decide) (Nat.le_of_ble_eq_true rfl) dX4_copy_168 (fun M79 eM79 => ?_)
                          refine hr_iconst X 1 dX4_copy_171 kc_1 ?_
                          exact hr_iret X dX4_copy_172
                        · refine hr_aload_n X dX4_copy_146 rfl ?_
                          refine hr_bipush X (-5) dX4_copy_147 kb_m5 ?_
                          refine hr_cvI X [.int (-5)] [] (c_X4_refuse hl_t0 hs_t0 (-5) M76) lk_RX4_82 rfl rfl rfl hl_t0 hs_t0 ⟨by decide, rfl⟩ (by decide) (Nat.le_of_ble_eq_true rfl) dX4_copy_149 (fun r80 M81 _ => ?_)
                          exact hr_iret X dX4_copy_152
                    · refine hr_aload_n X dX4_copy_116 rfl ?_
                      refine hr_bipush X (-4) dX4_copy_117 kb_m4 ?_
                      refine hr_cvI X [.int (-4)] [] (c_X4_refuse hl_t0 hs_t0 (-4) M70) lk_RX4_82 rfl rfl rfl hl_t0 hs_t0 ⟨by decide, rfl⟩ (by decide) (Nat.le_of_ble_eq_true rfl) dX4_copy_119 (fun r82 M83 _ => ?_)
                      exact hr_iret X dX4_copy_122
                  · refine hr_aload_n X dX4_copy_104 rfl ?_
                    refine hr_bipush X (-3) dX4_copy_105 kb_m3 ?_
                    refine hr_cvI X [.int (-3)] [] (c_X4_refuse hl_t0 hs_t0 (-3) M70) lk_RX4_82 rfl rfl rfl hl_t0 hs_t0 ⟨by decide, rfl⟩ (by decide) (Nat.le_of_ble_eq_true rfl) dX4_copy_107 (fun r84 M85 _ => ?_)
                    exact hr_iret X dX4_copy_110
              · refine hr_aload_n X dX4_copy_81 rfl ?_
                refine hr_bipush X (-2) dX4_copy_82 kb_m2 ?_
                refine hr_cvI X [.int (-2)] [] (c_X4_refuse hl_t0 hs_t0 (-2) M43) lk_RX4_82 rfl rfl rfl hl_t0 hs_t0 ⟨by decide, rfl⟩ (by decide) (Nat.le_of_ble_eq_true rfl) dX4_copy_84 (fun r86 M87 _ => ?_)
                exact hr_iret X dX4_copy_87
    · refine hr_aload_n X dX4_copy_14 rfl ?_
      refine hr_iconst X (-1) dX4_copy_15 kc_m1 ?_
      refine hr_cvI X [.int (-1)] [] (c_X4_refuse hl_t0 hs_t0 (-1) M6) lk_RX4_82 rfl rfl rfl hl_t0 hs_t0 ⟨by decide, rfl⟩ (by decide) (Nat.le_of_ble_eq_true rfl) dX4_copy_16 (fun r88 M89 _ => ?_)
      exact hr_iret X dX4_copy_19
set_option maxRecDepth 100000 in
set_option maxHeartbeats 4000000 in
theorem c_X4_element  {t0 : Nat} (hl_t0 : t0 < 69) (hs_t0 : hf_shp t0 = 4) (a1 : Int32) (a2 : Int32) (M : hf_M) : hf_CJ yX4_element cX4_element 3 (some .long) (3) (fun g => [.ref (hf_a g t0), .int a1, .int a2]) M (s_X4_element t0 a1 a2 M) := by
  refine hf_metJ (by decide +kernel) (fun g => Nat.le_of_ble_eq_true rfl) (fun g p l ev s m args below meth c X => ?_)
  have X : hf_X g p s m args meth c cX4_element 3 RX4 (some .long) := X
  show hf_W g p l ev (3) s m args below meth c 3 (hf_QJ g below args s) M 0 [some (.ref (hf_a g t0)), some (.int a1), some (.int a2)] [] (s_X4_element t0 a1 a2 M)
  unfold s_X4_element
  refine hr_iload_n X dX4_element_0 rfl ?_
  refine hr_csI X [.int a1] [] (c_X4_isShelf a1 M) lk_RX4_72 rfl rfl rfl (by decide) (Nat.le_of_ble_eq_true rfl) dX4_element_1 (fun r1 M2 _ => ?_)
  refine hr_if_eq X 34 dX4_element_4 rfl ?_ ?_
  · refine hr_lconst X 0 dX4_element_34 rfl ?_
    exact hr_lret X dX4_element_35
  · refine hr_aload_n X dX4_element_7 rfl ?_
    refine hr_gR X 8 hl_t0 hs_t0 lg_RX4_24 rfl dX4_element_8 (fun q3 hl_q3 hs_q3 => ?_)
    refine hr_iload_n X dX4_element_11 rfl ?_
    refine hr_aald X hl_q3 hs_q3 (hf_l8 hl_q3 hs_q3) dX4_element_12 (fun q4 hl_q4 hs_q4 => ?_)
    refine hr_iload_n X dX4_element_13 rfl ?_
    refine hr_cvI X [.int a2] [] (c_X2_has hl_q4 hs_q4 a2 M2) lk_RX4_96 rfl rfl rfl hl_q4 hs_q4 ⟨by decide, rfl⟩ (by decide) (Nat.le_of_ble_eq_true rfl) dX4_element_14 (fun r5 M6 _ => ?_)
    refine hr_if_eq X 34 dX4_element_17 rfl ?_ ?_
    · refine hr_lconst X 0 dX4_element_34 rfl ?_
      exact hr_lret X dX4_element_35
    · refine hr_aload_n X dX4_element_20 rfl ?_
      refine hr_gR X 8 hl_t0 hs_t0 lg_RX4_24 rfl dX4_element_21 (fun q7 hl_q7 hs_q7 => ?_)
      refine hr_iload_n X dX4_element_24 rfl ?_
      refine hr_aald X hl_q7 hs_q7 (hf_l8 hl_q7 hs_q7) dX4_element_25 (fun q8 hl_q8 hs_q8 => ?_)
      refine hr_gR X 7 hl_q8 hs_q8 lg_RX4_110 rfl dX4_element_26 (fun q9 hl_q9 hs_q9 => ?_)
      refine hr_iload_n X dX4_element_29 rfl ?_
      refine hr_lald X hl_q9 hs_q9 dX4_element_30 (fun r10 _ _ => ?_)
      refine hr_goto X 35 dX4_element_31 rfl ?_
      exact hr_lret X dX4_element_35
set_option maxRecDepth 100000 in
set_option maxHeartbeats 4000000 in
theorem c_X4_show  {t0 : Nat} (hl_t0 : t0 < 69) (hs_t0 : hf_shp t0 = 4) (a1 : Int32) (a2 : Int32) (M : hf_M) : hf_CI yX4_show cX4_show 3 (some .int) (3) (fun g => [.ref (hf_a g t0), .int a1, .int a2]) M (s_X4_show t0 a1 a2 M) := by
  refine hf_metI (by decide +kernel) (fun g => Nat.le_of_ble_eq_true rfl) (fun g p l ev s m args below meth c X => ?_)
  have X : hf_X g p s m args meth c cX4_show 3 RX4 (some .int) := X
  show hf_W g p l ev (3) s m args below meth c 3 (hf_QI g below args s) M 0 [some (.ref (hf_a g t0)), some (.int a1), some (.int a2)] [] (s_X4_show t0 a1 a2 M)
  unfold s_X4_show
  refine hr_iload_n X dX4_show_0 rfl ?_
  refine hr_csI X [.int a1] [] (c_X4_isShelf a1 M) lk_RX4_72 rfl rfl rfl (by decide) (Nat.le_of_ble_eq_true rfl) dX4_show_1 (fun r1 M2 _ => ?_)
  refine hr_if_eq X 23 dX4_show_4 rfl ?_ ?_
  · refine hr_aload_n X dX4_show_23 rfl ?_
    refine hr_iconst X (-1) dX4_show_24 kc_m1 ?_
    refine hr_cvI X [.int (-1)] [] (c_X4_refuse hl_t0 hs_t0 (-1) M2) lk_RX4_82 rfl rfl rfl hl_t0 hs_t0 ⟨by decide, rfl⟩ (by decide) (Nat.le_of_ble_eq_true rfl) dX4_show_25 (fun r3 M4 _ => ?_)
    exact hr_iret X dX4_show_28
  · refine hr_iload_n X dX4_show_7 rfl ?_
    refine hr_iconst X (-1) dX4_show_8 kc_m1 ?_
    refine hr_icmp_eq X 29 dX4_show_9 rfl ?_ ?_
    · refine hr_aload_n X dX4_show_29 rfl ?_
      refine hr_gR X 8 hl_t0 hs_t0 lg_RX4_24 rfl dX4_show_30 (fun q5 hl_q5 hs_q5 => ?_)
      refine hr_iload_n X dX4_show_33 rfl ?_
      refine hr_aald X hl_q5 hs_q5 (hf_l8 hl_q5 hs_q5) dX4_show_34 (fun q6 hl_q6 hs_q6 => ?_)
      refine hr_iload_n X dX4_show_35 rfl ?_
      refine hr_pI X hl_q6 hs_q6 lp_RX4_103 dX4_show_36 (fun M7 eM7 => ?_)
      refine hr_iload_n X dX4_show_39 rfl ?_
      refine hr_iconst X (-1) dX4_show_40 kc_m1 ?_
      refine hr_icmp_ne X 48 dX4_show_41 rfl ?_ ?_
      · refine hr_iconst X 1 dX4_show_48 kc_1 ?_
        exact hr_iret X dX4_show_49
      · refine hr_iconst X 0 dX4_show_44 kc_0 ?_
        refine hr_goto X 49 dX4_show_45 rfl ?_
        exact hr_iret X dX4_show_49
    · refine hr_aload_n X dX4_show_12 rfl ?_
      refine hr_gR X 3 hl_t0 hs_t0 lg_RX4_10 rfl dX4_show_13 (fun q8 hl_q8 hs_q8 => ?_)
      refine hr_iload_n X dX4_show_16 rfl ?_
      refine hr_cvI X [.int a2] [] (c_X3_isSpeaker hl_q8 hs_q8 a2 M2) lk_RX4_119 rfl rfl rfl hl_q8 hs_q8 ⟨by decide, rfl⟩ (by decide) (Nat.le_of_ble_eq_true rfl) dX4_show_17 (fun r9 M10 _ => ?_)
      refine hr_if_ne X 29 dX4_show_20 rfl ?_ ?_
      · refine hr_aload_n X dX4_show_29 rfl ?_
        refine hr_gR X 8 hl_t0 hs_t0 lg_RX4_24 rfl dX4_show_30 (fun q11 hl_q11 hs_q11 => ?_)
        refine hr_iload_n X dX4_show_33 rfl ?_
        refine hr_aald X hl_q11 hs_q11 (hf_l8 hl_q11 hs_q11) dX4_show_34 (fun q12 hl_q12 hs_q12 => ?_)
        refine hr_iload_n X dX4_show_35 rfl ?_
        refine hr_pI X hl_q12 hs_q12 lp_RX4_103 dX4_show_36 (fun M13 eM13 => ?_)
        refine hr_iload_n X dX4_show_39 rfl ?_
        refine hr_iconst X (-1) dX4_show_40 kc_m1 ?_
        refine hr_icmp_ne X 48 dX4_show_41 rfl ?_ ?_
        · refine hr_iconst X 1 dX4_show_48 kc_1 ?_
          exact hr_iret X dX4_show_49
        · refine hr_iconst X 0 dX4_show_44 kc_0 ?_
          refine hr_goto X 49 dX4_show_45 rfl ?_
          exact hr_iret X dX4_show_49
      · refine hr_aload_n X dX4_show_23 rfl ?_
        refine hr_iconst X (-1) dX4_show_24 kc_m1 ?_
        refine hr_cvI X [.int (-1)] [] (c_X4_refuse hl_t0 hs_t0 (-1) M10) lk_RX4_82 rfl rfl rfl hl_t0 hs_t0 ⟨by decide, rfl⟩ (by decide) (Nat.le_of_ble_eq_true rfl) dX4_show_25 (fun r14 M15 _ => ?_)
        exact hr_iret X dX4_show_28
set_option maxRecDepth 100000 in
set_option maxHeartbeats 4000000 in
theorem c_X4_holds  {t0 : Nat} (hl_t0 : t0 < 69) (hs_t0 : hf_shp t0 = 4) (a1 : Int32) (M : hf_M) : hf_CI yX4_holds cX4_holds 2 (some .int) (2) (fun g => [.ref (hf_a g t0), .int a1]) M (s_X4_holds t0 a1 M) := by
  refine hf_metI (by decide +kernel) (fun g => Nat.le_of_ble_eq_true rfl) (fun g p l ev s m args below meth c X => ?_)
  have X : hf_X g p s m args meth c cX4_holds 2 RX4 (some .int) := X
  show hf_W g p l ev (2) s m args below meth c 2 (hf_QI g below args s) M 0 [some (.ref (hf_a g t0)), some (.int a1)] [] (s_X4_holds t0 a1 M)
  unfold s_X4_holds
  refine hr_iload_n X dX4_holds_0 rfl ?_
  refine hr_csI X [.int a1] [] (c_X4_isShelf a1 M) lk_RX4_72 rfl rfl rfl (by decide) (Nat.le_of_ble_eq_true rfl) dX4_holds_1 (fun r1 M2 _ => ?_)
  refine hr_if_eq X 19 dX4_holds_4 rfl ?_ ?_
  · refine hr_iconst X (-1) dX4_holds_19 kc_m1 ?_
    exact hr_iret X dX4_holds_20
  · refine hr_aload_n X dX4_holds_7 rfl ?_
    refine hr_gR X 8 hl_t0 hs_t0 lg_RX4_24 rfl dX4_holds_8 (fun q3 hl_q3 hs_q3 => ?_)
    refine hr_iload_n X dX4_holds_11 rfl ?_
    refine hr_aald X hl_q3 hs_q3 (hf_l8 hl_q3 hs_q3) dX4_holds_12 (fun q4 hl_q4 hs_q4 => ?_)
    refine hr_gI X hl_q4 hs_q4 lg_RX4_103 dX4_holds_13 ?_
    refine hr_goto X 20 dX4_holds_16 rfl ?_
    exact hr_iret X dX4_holds_20
set_option maxRecDepth 100000 in
set_option maxHeartbeats 4000000 in
theorem c_X4_says  {t0 : Nat} (hl_t0 : t0 < 69) (hs_t0 : hf_shp t0 = 4) (a1 : Int32) (a2 : Int32) (M : hf_M) : hf_CI yX4_says cX4_says 5 (some .int) (3) (fun g => [.ref (hf_a g t0), .int a1, .int a2]) M (s_X4_says t0 a1 a2 M) := by
  refine hf_metI (by decide +kernel) (fun g => Nat.le_of_ble_eq_true rfl) (fun g p l ev s m args below meth c X => ?_)
  have X : hf_X g p s m args meth c cX4_says 5 RX4 (some .int) := X
  show hf_W g p l ev (3) s m args below meth c 5 (hf_QI g below args s) M 0 [some (.ref (hf_a g t0)), some (.int a1), some (.int a2), none, none] [] (s_X4_says t0 a1 a2 M)
  unfold s_X4_says
  refine hr_iload_n X dX4_says_0 rfl ?_
  refine hr_csI X [.int a1] [] (c_X4_isShelf a1 M) lk_RX4_72 rfl rfl rfl (by decide) (Nat.le_of_ble_eq_true rfl) dX4_says_1 (fun r1 M2 _ => ?_)
  refine hr_if_eq X 14 dX4_says_4 rfl ?_ ?_
  · refine hr_aload_n X dX4_says_14 rfl ?_
    refine hr_iconst X (-1) dX4_says_15 kc_m1 ?_
    refine hr_cvI X [.int (-1)] [] (c_X4_refuse hl_t0 hs_t0 (-1) M2) lk_RX4_82 rfl rfl rfl hl_t0 hs_t0 ⟨by decide, rfl⟩ (by decide) (Nat.le_of_ble_eq_true rfl) dX4_says_16 (fun r3 M4 _ => ?_)
    exact hr_iret X dX4_says_19
  · refine hr_iload_n X dX4_says_7 rfl ?_
    refine hr_csI X [.int a2] [] (c_X4_isKind a2 M2) lk_RX4_68 rfl rfl rfl (by decide) (Nat.le_of_ble_eq_true rfl) dX4_says_8 (fun r5 M6 _ => ?_)
    refine hr_if_ne X 20 dX4_says_11 rfl ?_ ?_
    · refine hr_aload_n X dX4_says_20 rfl ?_
      refine hr_gR X 8 hl_t0 hs_t0 lg_RX4_24 rfl dX4_says_21 (fun q7 hl_q7 hs_q7 => ?_)
      refine hr_iload_n X dX4_says_24 rfl ?_
      refine hr_aald X hl_q7 hs_q7 (hf_l8 hl_q7 hs_q7) dX4_says_25 (fun q8 hl_q8 hs_q8 => ?_)
      refine hr_cvI X [] [] (c_X2_isRow hl_q8 hs_q8 M6) lk_RX4_79 rfl rfl rfl hl_q8 hs_q8 ⟨by decide, rfl⟩ (by decide) (Nat.le_of_ble_eq_true rfl) dX4_says_26 (fun r9 M10 _ => ?_)
      refine hr_if_eq X 39 dX4_says_29 rfl ?_ ?_
      · refine hr_aload_n X dX4_says_39 rfl ?_
        refine hr_gR X 8 hl_t0 hs_t0 lg_RX4_24 rfl dX4_says_40 (fun q11 hl_q11 hs_q11 => ?_)
        refine hr_iload_n X dX4_says_43 rfl ?_
        refine hr_aald X hl_q11 hs_q11 (hf_l8 hl_q11 hs_q11) dX4_says_44 (fun q12 hl_q12 hs_q12 => ?_)
        refine hr_gI X hl_q12 hs_q12 lg_RX4_103 dX4_says_45 ?_
        refine hr_istore_n X dX4_says_48 (by decide) rfl ?_
        refine hr_aload_n X dX4_says_49 rfl ?_
        refine hr_gR X 3 hl_t0 hs_t0 lg_RX4_10 rfl dX4_says_50 (fun q13 hl_q13 hs_q13 => ?_)
        refine hr_iload_n X dX4_says_53 rfl ?_
        refine hr_cvI X [.int (M10.1 q12 1)] [] (c_X3_isSpeaker hl_q13 hs_q13 (M10.1 q12 1) M10) lk_RX4_119 rfl rfl rfl hl_q13 hs_q13 ⟨by decide, rfl⟩ (by decide) (Nat.le_of_ble_eq_true rfl) dX4_says_54 (fun r14 M15 _ => ?_)
        refine hr_if_ne X 67 dX4_says_57 rfl ?_ ?_
        · refine hr_aload_n X dX4_says_67 rfl ?_
          refine hr_gR X 3 hl_t0 hs_t0 lg_RX4_10 rfl dX4_says_68 (fun q16 hl_q16 hs_q16 => ?_)
          refine hr_gR X 6 hl_q16 hs_q16 lg_RX4_121 rfl dX4_says_71 (fun q17 hl_q17 hs_q17 => ?_)
          refine hr_iload_n X dX4_says_74 rfl ?_
          refine hr_iald X hl_q17 hs_q17 dX4_says_75 (fun r18 _ _ => ?_)
          refine hr_iload_n X dX4_says_76 rfl ?_
          refine hr_csI X [.int r18, .int a2] [] (c_X4_isUnder r18 a2 M15) lk_RX4_124 rfl rfl rfl (by decide) (Nat.le_of_ble_eq_true rfl) dX4_says_77 (fun r19 M20 _ => ?_)
          refine hr_if_ne X 90 dX4_says_80 rfl ?_ ?_
          · refine hr_aload_n X dX4_says_90 rfl ?_
            refine hr_gR X 3 hl_t0 hs_t0 lg_RX4_10 rfl dX4_says_91 (fun q21 hl_q21 hs_q21 => ?_)
            refine hr_gR X 6 hl_q21 hs_q21 lg_RX4_127 rfl dX4_says_94 (fun q22 hl_q22 hs_q22 => ?_)
            refine hr_iload_n X dX4_says_97 rfl ?_
            refine hr_iald X hl_q22 hs_q22 dX4_says_98 (fun r23 _ _ => ?_)
            refine hr_istore X dX4_says_99 (by decide) rfl ?_
            refine hr_iload_n X dX4_says_101 rfl ?_
            refine hr_if_ne X 108 dX4_says_102 rfl ?_ ?_
            · refine hr_iload_n X dX4_says_108 rfl ?_
              refine hr_bipush X 6 dX4_says_109 kb_6 ?_
              refine hr_icmp_ne X 119 dX4_says_111 rfl ?_ ?_
              · refine hr_aload_n X dX4_says_119 rfl ?_
                refine hr_gR X 3 hl_t0 hs_t0 lg_RX4_10 rfl dX4_says_120 (fun q24 hl_q24 hs_q24 => ?_)
                refine hr_iload_n X dX4_says_123 rfl ?_
                refine hr_iload X dX4_says_124 rfl ?_
                refine hr_cvI X [.int (M10.1 q12 1), .int r23] [] (c_X3_mustBeTrue hl_q24 hs_q24 (M10.1 q12 1) r23 M20) lk_RX4_130 rfl rfl rfl hl_q24 hs_q24 ⟨by decide, rfl⟩ (by decide) (Nat.le_of_ble_eq_true rfl) dX4_says_126 (fun r25 M26 _ => ?_)
                refine hr_if_eq X 136 dX4_says_129 rfl ?_ ?_
                · refine hr_iconst X 0 dX4_says_136 kc_0 ?_
                  exact hr_iret X dX4_says_137
                · refine hr_iconst X 1 dX4_says_132 kc_1 ?_
                  refine hr_goto X 137 dX4_says_133 rfl ?_
                  exact hr_iret X dX4_says_137
              · refine hr_iload X dX4_says_114 rfl ?_
                refine hr_iconst X 2 dX4_says_116 kc_2 ?_
                refine hr_idiv X dX4_says_117 (by decide) ?_
                exact hr_iret X dX4_says_118
            · refine hr_iload X dX4_says_105 rfl ?_
              exact hr_iret X dX4_says_107
          · refine hr_aload_n X dX4_says_83 rfl ?_
            refine hr_bipush X (-2) dX4_says_84 kb_m2 ?_
            refine hr_cvI X [.int (-2)] [] (c_X4_refuse hl_t0 hs_t0 (-2) M20) lk_RX4_82 rfl rfl rfl hl_t0 hs_t0 ⟨by decide, rfl⟩ (by decide) (Nat.le_of_ble_eq_true rfl) dX4_says_86 (fun r27 M28 _ => ?_)
            exact hr_iret X dX4_says_89
        · refine hr_aload_n X dX4_says_60 rfl ?_
          refine hr_bipush X (-3) dX4_says_61 kb_m3 ?_
          refine hr_cvI X [.int (-3)] [] (c_X4_refuse hl_t0 hs_t0 (-3) M15) lk_RX4_82 rfl rfl rfl hl_t0 hs_t0 ⟨by decide, rfl⟩ (by decide) (Nat.le_of_ble_eq_true rfl) dX4_says_63 (fun r29 M30 _ => ?_)
          exact hr_iret X dX4_says_66
      · refine hr_aload_n X dX4_says_32 rfl ?_
        refine hr_bipush X (-2) dX4_says_33 kb_m2 ?_
        refine hr_cvI X [.int (-2)] [] (c_X4_refuse hl_t0 hs_t0 (-2) M10) lk_RX4_82 rfl rfl rfl hl_t0 hs_t0 ⟨by decide, rfl⟩ (by decide) (Nat.le_of_ble_eq_true rfl) dX4_says_35 (fun r31 M32 _ => ?_)
        exact hr_iret X dX4_says_38
    · refine hr_aload_n X dX4_says_14 rfl ?_
      refine hr_iconst X (-1) dX4_says_15 kc_m1 ?_
      refine hr_cvI X [.int (-1)] [] (c_X4_refuse hl_t0 hs_t0 (-1) M6) lk_RX4_82 rfl rfl rfl hl_t0 hs_t0 ⟨by decide, rfl⟩ (by decide) (Nat.le_of_ble_eq_true rfl) dX4_says_16 (fun r33 M34 _ => ?_)
      exact hr_iret X dX4_says_19
set_option maxRecDepth 100000 in
set_option maxHeartbeats 4000000 in
theorem c_X4_fact  {t0 : Nat} (hl_t0 : t0 < 69) (hs_t0 : hf_shp t0 = 4) (a1 : Int32) (M : hf_M) : hf_CI yX4_fact cX4_fact 2 (some .int) (3) (fun g => [.ref (hf_a g t0), .int a1]) M (s_X4_fact t0 a1 M) := by
  refine hf_metI (by decide +kernel) (fun g => Nat.le_of_ble_eq_true rfl) (fun g p l ev s m args below meth c X => ?_)
  have X : hf_X g p s m args meth c cX4_fact 2 RX4 (some .int) := X
  show hf_W g p l ev (3) s m args below meth c 2 (hf_QI g below args s) M 0 [some (.ref (hf_a g t0)), some (.int a1)] [] (s_X4_fact t0 a1 M)
  unfold s_X4_fact
  refine hr_iload_n X dX4_fact_0 rfl ?_
  refine hr_iconst X 0 dX4_fact_1 kc_0 ?_
  refine hr_bipush X 99 dX4_fact_2 kb_99 ?_
  refine hr_csI X [.int a1, .int 0, .int 99] [] (c_X4_within a1 0 99 M) lk_RX4_85 rfl rfl rfl (by decide) (Nat.le_of_ble_eq_true rfl) dX4_fact_4 (fun r1 M2 _ => ?_)
  refine hr_if_ne X 17 dX4_fact_7 rfl ?_ ?_
  · refine hr_aload_n X dX4_fact_17 rfl ?_
    refine hr_gR X 3 hl_t0 hs_t0 lg_RX4_10 rfl dX4_fact_18 (fun q3 hl_q3 hs_q3 => ?_)
    refine hr_gI X hl_q3 hs_q3 lg_RX4_133 dX4_fact_21 ?_
    refine hr_bipush X 6 dX4_fact_24 kb_6 ?_
    refine hr_icmp_lt X 36 dX4_fact_26 rfl ?_ ?_
    · refine hr_aload_n X dX4_fact_36 rfl ?_
      refine hr_gR X 3 hl_t0 hs_t0 lg_RX4_10 rfl dX4_fact_37 (fun q4 hl_q4 hs_q4 => ?_)
      refine hr_iload_n X dX4_fact_40 rfl ?_
      refine hr_cvV X [.int a1] [] (c_X3_addFact hl_q4 hs_q4 a1 M2) lk_RX4_136 rfl rfl rfl hl_q4 hs_q4 ⟨by decide, rfl⟩ (by decide) (Nat.le_of_ble_eq_true rfl) dX4_fact_41 (fun _ M6 _ => ?_)
      refine hr_aload_n X dX4_fact_44 rfl ?_
      refine hr_gR X 3 hl_t0 hs_t0 lg_RX4_10 rfl dX4_fact_45 (fun q7 hl_q7 hs_q7 => ?_)
      refine hr_gI X hl_q7 hs_q7 lg_RX4_133 dX4_fact_48 ?_
      refine hr_iconst X 1 dX4_fact_51 kc_1 ?_
      refine hr_isub X dX4_fact_52 ?_
      exact hr_iret X dX4_fact_53
    · refine hr_aload_n X dX4_fact_29 rfl ?_
      refine hr_bipush X (-7) dX4_fact_30 kb_m7 ?_
      refine hr_cvI X [.int (-7)] [] (c_X4_refuse hl_t0 hs_t0 (-7) M2) lk_RX4_82 rfl rfl rfl hl_t0 hs_t0 ⟨by decide, rfl⟩ (by decide) (Nat.le_of_ble_eq_true rfl) dX4_fact_32 (fun r8 M9 _ => ?_)
      exact hr_iret X dX4_fact_35
  · refine hr_aload_n X dX4_fact_10 rfl ?_
    refine hr_bipush X (-6) dX4_fact_11 kb_m6 ?_
    refine hr_cvI X [.int (-6)] [] (c_X4_refuse hl_t0 hs_t0 (-6) M2) lk_RX4_82 rfl rfl rfl hl_t0 hs_t0 ⟨by decide, rfl⟩ (by decide) (Nat.le_of_ble_eq_true rfl) dX4_fact_13 (fun r10 M11 _ => ?_)
    exact hr_iret X dX4_fact_16
set_option maxRecDepth 100000 in
set_option maxHeartbeats 4000000 in
theorem c_X4_speaker  {t0 : Nat} (hl_t0 : t0 < 69) (hs_t0 : hf_shp t0 = 4) (a1 : Int32) (a2 : Int32) (M : hf_M) : hf_CI yX4_speaker cX4_speaker 3 (some .int) (3) (fun g => [.ref (hf_a g t0), .int a1, .int a2]) M (s_X4_speaker t0 a1 a2 M) := by
  refine hf_metI (by decide +kernel) (fun g => Nat.le_of_ble_eq_true rfl) (fun g p l ev s m args below meth c X => ?_)
  have X : hf_X g p s m args meth c cX4_speaker 3 RX4 (some .int) := X
  show hf_W g p l ev (3) s m args below meth c 3 (hf_QI g below args s) M 0 [some (.ref (hf_a g t0)), some (.int a1), some (.int a2)] [] (s_X4_speaker t0 a1 a2 M)
  unfold s_X4_speaker
  refine hr_iload_n X dX4_speaker_0 rfl ?_
  refine hr_csI X [.int a1] [] (c_X4_isKind a1 M) lk_RX4_68 rfl rfl rfl (by decide) (Nat.le_of_ble_eq_true rfl) dX4_speaker_1 (fun r1 M2 _ => ?_)
  refine hr_if_ne X 13 dX4_speaker_4 rfl ?_ ?_
  · refine hr_iload_n X dX4_speaker_13 rfl ?_
    refine hr_iconst X 0 dX4_speaker_14 kc_0 ?_
    refine hr_sipush X 1023 dX4_speaker_15 ks_1023 ?_
    refine hr_csI X [.int a2, .int 0, .int 1023] [] (c_X4_within a2 0 1023 M2) lk_RX4_85 rfl rfl rfl (by decide) (Nat.le_of_ble_eq_true rfl) dX4_speaker_18 (fun r3 M4 _ => ?_)
    refine hr_if_ne X 31 dX4_speaker_21 rfl ?_ ?_
    · refine hr_aload_n X dX4_speaker_31 rfl ?_
      refine hr_gR X 3 hl_t0 hs_t0 lg_RX4_10 rfl dX4_speaker_32 (fun q5 hl_q5 hs_q5 => ?_)
      refine hr_gI X hl_q5 hs_q5 lg_RX4_140 dX4_speaker_35 ?_
      refine hr_bipush X 6 dX4_speaker_38 kb_6 ?_
      refine hr_icmp_lt X 50 dX4_speaker_40 rfl ?_ ?_
      · refine hr_aload_n X dX4_speaker_50 rfl ?_
        refine hr_gR X 3 hl_t0 hs_t0 lg_RX4_10 rfl dX4_speaker_51 (fun q6 hl_q6 hs_q6 => ?_)
        refine hr_iload_n X dX4_speaker_54 rfl ?_
        refine hr_iload_n X dX4_speaker_55 rfl ?_
        refine hr_cvV X [.int a1, .int a2] [] (c_X3_addSpeaker hl_q6 hs_q6 a1 a2 M4) lk_RX4_143 rfl rfl rfl hl_q6 hs_q6 ⟨by decide, rfl⟩ (by decide) (Nat.le_of_ble_eq_true rfl) dX4_speaker_56 (fun _ M8 _ => ?_)
        refine hr_aload_n X dX4_speaker_59 rfl ?_
        refine hr_gR X 3 hl_t0 hs_t0 lg_RX4_10 rfl dX4_speaker_60 (fun q9 hl_q9 hs_q9 => ?_)
        refine hr_gI X hl_q9 hs_q9 lg_RX4_140 dX4_speaker_63 ?_
        refine hr_iconst X 1 dX4_speaker_66 kc_1 ?_
        refine hr_isub X dX4_speaker_67 ?_
        exact hr_iret X dX4_speaker_68
      · refine hr_aload_n X dX4_speaker_43 rfl ?_
        refine hr_bipush X (-7) dX4_speaker_44 kb_m7 ?_
        refine hr_cvI X [.int (-7)] [] (c_X4_refuse hl_t0 hs_t0 (-7) M4) lk_RX4_82 rfl rfl rfl hl_t0 hs_t0 ⟨by decide, rfl⟩ (by decide) (Nat.le_of_ble_eq_true rfl) dX4_speaker_46 (fun r10 M11 _ => ?_)
        exact hr_iret X dX4_speaker_49
    · refine hr_aload_n X dX4_speaker_24 rfl ?_
      refine hr_bipush X (-6) dX4_speaker_25 kb_m6 ?_
      refine hr_cvI X [.int (-6)] [] (c_X4_refuse hl_t0 hs_t0 (-6) M4) lk_RX4_82 rfl rfl rfl hl_t0 hs_t0 ⟨by decide, rfl⟩ (by decide) (Nat.le_of_ble_eq_true rfl) dX4_speaker_27 (fun r12 M13 _ => ?_)
      exact hr_iret X dX4_speaker_30
  · refine hr_aload_n X dX4_speaker_7 rfl ?_
    refine hr_iconst X (-1) dX4_speaker_8 kc_m1 ?_
    refine hr_cvI X [.int (-1)] [] (c_X4_refuse hl_t0 hs_t0 (-1) M2) lk_RX4_82 rfl rfl rfl hl_t0 hs_t0 ⟨by decide, rfl⟩ (by decide) (Nat.le_of_ble_eq_true rfl) dX4_speaker_9 (fun r14 M15 _ => ?_)
    exact hr_iret X dX4_speaker_12
set_option maxRecDepth 100000 in
set_option maxHeartbeats 4000000 in
theorem c_X4_law  {t0 : Nat} (hl_t0 : t0 < 69) (hs_t0 : hf_shp t0 = 4) (a1 : Int32) (a2 : Int32) (M : hf_M) : hf_CI yX4_law cX4_law 4 (some .int) (3) (fun g => [.ref (hf_a g t0), .int a1, .int a2]) M (s_X4_law t0 a1 a2 M) := by
  refine hf_metI (by decide +kernel) (fun g => Nat.le_of_ble_eq_true rfl) (fun g p l ev s m args below meth c X => ?_)
  have X : hf_X g p s m args meth c cX4_law 4 RX4 (some .int) := X
  show hf_W g p l ev (3) s m args below meth c 4 (hf_QI g below args s) M 0 [some (.ref (hf_a g t0)), some (.int a1), some (.int a2), none] [] (s_X4_law t0 a1 a2 M)
  unfold s_X4_law
  refine hr_iload_n X dX4_law_0 rfl ?_
  refine hr_iconst X 2 dX4_law_1 kc_2 ?_
  refine hr_bipush X 10 dX4_law_2 kb_10 ?_
  refine hr_csI X [.int a1, .int 2, .int 10] [] (c_X4_within a1 2 10 M) lk_RX4_85 rfl rfl rfl (by decide) (Nat.le_of_ble_eq_true rfl) dX4_law_4 (fun r1 M2 _ => ?_)
  refine hr_if_eq X 29 dX4_law_7 rfl ?_ ?_
  · refine hr_aload_n X dX4_law_29 rfl ?_
    refine hr_bipush X (-6) dX4_law_30 kb_m6 ?_
    refine hr_cvI X [.int (-6)] [] (c_X4_refuse hl_t0 hs_t0 (-6) M2) lk_RX4_82 rfl rfl rfl hl_t0 hs_t0 ⟨by decide, rfl⟩ (by decide) (Nat.le_of_ble_eq_true rfl) dX4_law_32 (fun r3 M4 _ => ?_)
    exact hr_iret X dX4_law_35
  · refine hr_iload_n X dX4_law_10 rfl ?_
    refine hr_iconst X 0 dX4_law_11 kc_0 ?_
    refine hr_iload_n X dX4_law_12 rfl ?_
    refine hr_csI X [.int a2, .int 0, .int a1] [] (c_X4_within a2 0 a1 M2) lk_RX4_85 rfl rfl rfl (by decide) (Nat.le_of_ble_eq_true rfl) dX4_law_13 (fun r5 M6 _ => ?_)
    refine hr_if_eq X 29 dX4_law_16 rfl ?_ ?_
    · refine hr_aload_n X dX4_law_29 rfl ?_
      refine hr_bipush X (-6) dX4_law_30 kb_m6 ?_
      refine hr_cvI X [.int (-6)] [] (c_X4_refuse hl_t0 hs_t0 (-6) M6) lk_RX4_82 rfl rfl rfl hl_t0 hs_t0 ⟨by decide, rfl⟩ (by decide) (Nat.le_of_ble_eq_true rfl) dX4_law_32 (fun r7 M8 _ => ?_)
      exact hr_iret X dX4_law_35
    · refine hr_aload_n X dX4_law_19 rfl ?_
      refine hr_gR X 3 hl_t0 hs_t0 lg_RX4_10 rfl dX4_law_20 (fun q9 hl_q9 hs_q9 => ?_)
      refine hr_gI X hl_q9 hs_q9 lg_RX4_146 dX4_law_23 ?_
      refine hr_if_le X 36 dX4_law_26 rfl ?_ ?_
      · refine hr_bipush X 100 dX4_law_36 kb_100 ?_
        refine hr_aload_n X dX4_law_38 rfl ?_
        refine hr_gR X 3 hl_t0 hs_t0 lg_RX4_10 rfl dX4_law_39 (fun q10 hl_q10 hs_q10 => ?_)
        refine hr_gI X hl_q10 hs_q10 lg_RX4_149 dX4_law_42 ?_
        refine hr_imul X dX4_law_45 ?_
        refine hr_aload_n X dX4_law_46 rfl ?_
        refine hr_gR X 3 hl_t0 hs_t0 lg_RX4_10 rfl dX4_law_47 (fun q11 hl_q11 hs_q11 => ?_)
        refine hr_gI X hl_q11 hs_q11 lg_RX4_152 dX4_law_50 ?_
        refine hr_iadd X dX4_law_53 ?_
        refine hr_istore_n X dX4_law_54 (by decide) rfl ?_
        refine hr_aload_n X dX4_law_55 rfl ?_
        refine hr_gR X 3 hl_t0 hs_t0 lg_RX4_10 rfl dX4_law_56 (fun q12 hl_q12 hs_q12 => ?_)
        refine hr_iload_n X dX4_law_59 rfl ?_
        refine hr_pI X hl_q12 hs_q12 lp_RX4_149 dX4_law_60 (fun M13 eM13 => ?_)
        refine hr_aload_n X dX4_law_63 rfl ?_
        refine hr_gR X 3 hl_t0 hs_t0 lg_RX4_10 rfl dX4_law_64 (fun q14 hl_q14 hs_q14 => ?_)
        refine hr_iload_n X dX4_law_67 rfl ?_
        refine hr_pI X hl_q14 hs_q14 lp_RX4_152 dX4_law_68 (fun M15 eM15 => ?_)
        refine hr_iload_n X dX4_law_71 rfl ?_
        exact hr_iret X dX4_law_72
      · refine hr_aload_n X dX4_law_29 rfl ?_
        refine hr_bipush X (-6) dX4_law_30 kb_m6 ?_
        refine hr_cvI X [.int (-6)] [] (c_X4_refuse hl_t0 hs_t0 (-6) M6) lk_RX4_82 rfl rfl rfl hl_t0 hs_t0 ⟨by decide, rfl⟩ (by decide) (Nat.le_of_ble_eq_true rfl) dX4_law_32 (fun r16 M17 _ => ?_)
        exact hr_iret X dX4_law_35
set_option maxRecDepth 100000 in
set_option maxHeartbeats 4000000 in
theorem c_X4_speakerOf  {t0 : Nat} (hl_t0 : t0 < 69) (hs_t0 : hf_shp t0 = 4) (a1 : Int32) (a2 : Int32) (M : hf_M) : hf_CI yX4_speakerOf cX4_speakerOf 3 (some .int) (3) (fun g => [.ref (hf_a g t0), .int a1, .int a2]) M (s_X4_speakerOf t0 a1 a2 M) := by
  refine hf_metI (by decide +kernel) (fun g => Nat.le_of_ble_eq_true rfl) (fun g p l ev s m args below meth c X => ?_)
  have X : hf_X g p s m args meth c cX4_speakerOf 3 RX4 (some .int) := X
  show hf_W g p l ev (3) s m args below meth c 3 (hf_QI g below args s) M 0 [some (.ref (hf_a g t0)), some (.int a1), some (.int a2)] [] (s_X4_speakerOf t0 a1 a2 M)
  unfold s_X4_speakerOf
  refine hr_aload_n X dX4_speakerOf_0 rfl ?_
  refine hr_gR X 3 hl_t0 hs_t0 lg_RX4_10 rfl dX4_speakerOf_1 (fun q1 hl_q1 hs_q1 => ?_)
  refine hr_iload_n X dX4_speakerOf_4 rfl ?_
  refine hr_cvI X [.int a1] [] (c_X3_isSpeaker hl_q1 hs_q1 a1 M) lk_RX4_119 rfl rfl rfl hl_q1 hs_q1 ⟨by decide, rfl⟩ (by decide) (Nat.le_of_ble_eq_true rfl) dX4_speakerOf_5 (fun r2 M3 _ => ?_)
  refine hr_if_ne X 18 dX4_speakerOf_8 rfl ?_ ?_
  · refine hr_iload_n X dX4_speakerOf_18 rfl ?_
    refine hr_case 0 (fun _ => ?_) (fun n19_0 => ?_)
    · refine hr_tabIn X 44 dX4_speakerOf_19 (by decide) (by decide) rfl rfl ?_
      refine hr_aload_n X dX4_speakerOf_44 rfl ?_
      refine hr_gR X 3 hl_t0 hs_t0 lg_RX4_10 rfl dX4_speakerOf_45 (fun q4 hl_q4 hs_q4 => ?_)
      refine hr_gR X 6 hl_q4 hs_q4 lg_RX4_121 rfl dX4_speakerOf_48 (fun q5 hl_q5 hs_q5 => ?_)
      refine hr_iload_n X dX4_speakerOf_51 rfl ?_
      refine hr_iald X hl_q5 hs_q5 dX4_speakerOf_52 (fun r6 _ _ => ?_)
      exact hr_iret X dX4_speakerOf_53
    refine hr_case 1 (fun _ => ?_) (fun n19_1 => ?_)
    · refine hr_tabIn X 54 dX4_speakerOf_19 (by decide) (by decide) rfl rfl ?_
      refine hr_aload_n X dX4_speakerOf_54 rfl ?_
      refine hr_gR X 3 hl_t0 hs_t0 lg_RX4_10 rfl dX4_speakerOf_55 (fun q7 hl_q7 hs_q7 => ?_)
      refine hr_gR X 6 hl_q7 hs_q7 lg_RX4_155 rfl dX4_speakerOf_58 (fun q8 hl_q8 hs_q8 => ?_)
      refine hr_iload_n X dX4_speakerOf_61 rfl ?_
      refine hr_iald X hl_q8 hs_q8 dX4_speakerOf_62 (fun r9 _ _ => ?_)
      exact hr_iret X dX4_speakerOf_63
    refine hr_case 2 (fun _ => ?_) (fun n19_2 => ?_)
    · refine hr_tabIn X 64 dX4_speakerOf_19 (by decide) (by decide) rfl rfl ?_
      refine hr_aload_n X dX4_speakerOf_64 rfl ?_
      refine hr_gR X 3 hl_t0 hs_t0 lg_RX4_10 rfl dX4_speakerOf_65 (fun q10 hl_q10 hs_q10 => ?_)
      refine hr_gR X 6 hl_q10 hs_q10 lg_RX4_127 rfl dX4_speakerOf_68 (fun q11 hl_q11 hs_q11 => ?_)
      refine hr_iload_n X dX4_speakerOf_71 rfl ?_
      refine hr_iald X hl_q11 hs_q11 dX4_speakerOf_72 (fun r12 _ _ => ?_)
      exact hr_iret X dX4_speakerOf_73
    · have e0 := hf_neT 0 n19_0 (by decide)
      have e1 := hf_neT 1 n19_1 (by decide)
      have e2 := hf_neT 2 n19_2 (by decide)
      refine hr_tabOut X 74 dX4_speakerOf_19 (by omega) rfl ?_
      refine hr_aload_n X dX4_speakerOf_74 rfl ?_
      refine hr_bipush X (-5) dX4_speakerOf_75 kb_m5 ?_
      refine hr_cvI X [.int (-5)] [] (c_X4_refuse hl_t0 hs_t0 (-5) M3) lk_RX4_82 rfl rfl rfl hl_t0 hs_t0 ⟨by decide, rfl⟩ (by decide) (Nat.le_of_ble_eq_true rfl) dX4_speakerOf_77 (fun r13 M14 _ => ?_)
      exact hr_iret X dX4_speakerOf_80
  · refine hr_aload_n X dX4_speakerOf_11 rfl ?_
    refine hr_bipush X (-5) dX4_speakerOf_12 kb_m5 ?_
    refine hr_cvI X [.int (-5)] [] (c_X4_refuse hl_t0 hs_t0 (-5) M3) lk_RX4_82 rfl rfl rfl hl_t0 hs_t0 ⟨by decide, rfl⟩ (by decide) (Nat.le_of_ble_eq_true rfl) dX4_speakerOf_14 (fun r15 M16 _ => ?_)
    exact hr_iret X dX4_speakerOf_17
set_option maxRecDepth 100000 in
set_option maxHeartbeats 4000000 in
theorem c_X4_harm  {t0 : Nat} (hl_t0 : t0 < 69) (hs_t0 : hf_shp t0 = 4) (a1 : Int32) (a2 : Int32) (M : hf_M) : hf_CI yX4_harm cX4_harm 4 (some .int) (3) (fun g => [.ref (hf_a g t0), .int a1, .int a2]) M (s_X4_harm t0 a1 a2 M) := by
  refine hf_metI (by decide +kernel) (fun g => Nat.le_of_ble_eq_true rfl) (fun g p l ev s m args below meth c X => ?_)
  have X : hf_X g p s m args meth c cX4_harm 4 RX4 (some .int) := X
  show hf_W g p l ev (3) s m args below meth c 4 (hf_QI g below args s) M 0 [some (.ref (hf_a g t0)), some (.int a1), some (.int a2), none] [] (s_X4_harm t0 a1 a2 M)
  unfold s_X4_harm
  refine hr_aload_n X dX4_harm_0 rfl ?_
  refine hr_gR X 3 hl_t0 hs_t0 lg_RX4_10 rfl dX4_harm_1 (fun q1 hl_q1 hs_q1 => ?_)
  refine hr_iload_n X dX4_harm_4 rfl ?_
  refine hr_cvI X [.int a1] [] (c_X3_isFact hl_q1 hs_q1 a1 M) lk_RX4_158 rfl rfl rfl hl_q1 hs_q1 ⟨by decide, rfl⟩ (by decide) (Nat.le_of_ble_eq_true rfl) dX4_harm_5 (fun r2 M3 _ => ?_)
  refine hr_if_ne X 17 dX4_harm_8 rfl ?_ ?_
  · refine hr_iload_n X dX4_harm_17 rfl ?_
    refine hr_iconst X 0 dX4_harm_18 kc_0 ?_
    refine hr_bipush X 99 dX4_harm_19 kb_99 ?_
    refine hr_csI X [.int a2, .int 0, .int 99] [] (c_X4_within a2 0 99 M3) lk_RX4_85 rfl rfl rfl (by decide) (Nat.le_of_ble_eq_true rfl) dX4_harm_21 (fun r4 M5 _ => ?_)
    refine hr_if_ne X 34 dX4_harm_24 rfl ?_ ?_
    · refine hr_aload_n X dX4_harm_34 rfl ?_
      refine hr_gR X 3 hl_t0 hs_t0 lg_RX4_10 rfl dX4_harm_35 (fun q6 hl_q6 hs_q6 => ?_)
      refine hr_gR X 6 hl_q6 hs_q6 lg_RX4_161 rfl dX4_harm_38 (fun q7 hl_q7 hs_q7 => ?_)
      refine hr_iload_n X dX4_harm_41 rfl ?_
      refine hr_iald X hl_q7 hs_q7 dX4_harm_42 (fun r8 _ _ => ?_)
      refine hr_istore_n X dX4_harm_43 (by decide) rfl ?_
      refine hr_aload_n X dX4_harm_44 rfl ?_
      refine hr_gR X 3 hl_t0 hs_t0 lg_RX4_10 rfl dX4_harm_45 (fun q9 hl_q9 hs_q9 => ?_)
      refine hr_gR X 6 hl_q9 hs_q9 lg_RX4_161 rfl dX4_harm_48 (fun q10 hl_q10 hs_q10 => ?_)
      refine hr_iload_n X dX4_harm_51 rfl ?_
      refine hr_iload_n X dX4_harm_52 rfl ?_
      refine hr_iast X hl_q10 hs_q10 dX4_harm_53 (fun M11 eM11 _ => ?_)
      refine hr_iload_n X dX4_harm_54 rfl ?_
      exact hr_iret X dX4_harm_55
    · refine hr_aload_n X dX4_harm_27 rfl ?_
      refine hr_bipush X (-6) dX4_harm_28 kb_m6 ?_
      refine hr_cvI X [.int (-6)] [] (c_X4_refuse hl_t0 hs_t0 (-6) M5) lk_RX4_82 rfl rfl rfl hl_t0 hs_t0 ⟨by decide, rfl⟩ (by decide) (Nat.le_of_ble_eq_true rfl) dX4_harm_30 (fun r12 M13 _ => ?_)
      exact hr_iret X dX4_harm_33
  · refine hr_aload_n X dX4_harm_11 rfl ?_
    refine hr_iconst X (-1) dX4_harm_12 kc_m1 ?_
    refine hr_cvI X [.int (-1)] [] (c_X4_refuse hl_t0 hs_t0 (-1) M3) lk_RX4_82 rfl rfl rfl hl_t0 hs_t0 ⟨by decide, rfl⟩ (by decide) (Nat.le_of_ble_eq_true rfl) dX4_harm_13 (fun r14 M15 _ => ?_)
    exact hr_iret X dX4_harm_16
set_option maxRecDepth 100000 in
set_option maxHeartbeats 4000000 in
theorem c_J13_bitCount_95d88  (a0 : Int64) (M : hf_M) : hf_CI yJ13_bitCount_95d88 cJ13_bitCount_95d88 2 (some .int) (1) (fun g => [.long a0]) M (s_J13_bitCount_95d88 a0 M) := by
  refine hf_metI (by decide +kernel) (fun g => Nat.le_of_ble_eq_true rfl) (fun g p l ev s m args below meth c X => ?_)
  have X : hf_X g p s m args meth c cJ13_bitCount_95d88 2 RJ13 (some .int) := X
  show hf_W g p l ev (1) s m args below meth c 2 (hf_QI g below args s) M 0 [some (.long a0), none] [] (s_J13_bitCount_95d88 a0 M)
  unfold s_J13_bitCount_95d88
  refine hr_lload_n X dJ13_bitCount_95d88_0 rfl ?_
  refine hr_lload_n X dJ13_bitCount_95d88_1 rfl ?_
  refine hr_iconst X 1 dJ13_bitCount_95d88_2 kc_1 ?_
  refine hr_lushr X dJ13_bitCount_95d88_3 ?_
  refine hr_ldc2 X dJ13_bitCount_95d88_4 (hf_c2 156 rfl rfl) ?_
  refine hr_land X dJ13_bitCount_95d88_7 ?_
  refine hr_lsub X dJ13_bitCount_95d88_8 ?_
  refine hr_lstore_n X dJ13_bitCount_95d88_9 (by decide) rfl ?_
  refine hr_lload_n X dJ13_bitCount_95d88_10 rfl ?_
  refine hr_ldc2 X dJ13_bitCount_95d88_11 (hf_c2 157 rfl rfl) ?_
  refine hr_land X dJ13_bitCount_95d88_14 ?_
  refine hr_lload_n X dJ13_bitCount_95d88_15 rfl ?_
  refine hr_iconst X 2 dJ13_bitCount_95d88_16 kc_2 ?_
  refine hr_lushr X dJ13_bitCount_95d88_17 ?_
  refine hr_ldc2 X dJ13_bitCount_95d88_18 (hf_c2 157 rfl rfl) ?_
  refine hr_land X dJ13_bitCount_95d88_21 ?_
  refine hr_ladd X dJ13_bitCount_95d88_22 ?_
  refine hr_lstore_n X dJ13_bitCount_95d88_23 (by decide) rfl ?_
  refine hr_lload_n X dJ13_bitCount_95d88_24 rfl ?_
  refine hr_lload_n X dJ13_bitCount_95d88_25 rfl ?_
  refine hr_iconst X 4 dJ13_bitCount_95d88_26 kc_4 ?_
  refine hr_lushr X dJ13_bitCount_95d88_27 ?_
  refine hr_ladd X dJ13_bitCount_95d88_28 ?_
  refine hr_ldc2 X dJ13_bitCount_95d88_29 (hf_c2 158 rfl rfl) ?_
  refine hr_land X dJ13_bitCount_95d88_32 ?_
  refine hr_lstore_n X dJ13_bitCount_95d88_33 (by decide) rfl ?_
  refine hr_lload_n X dJ13_bitCount_95d88_34 rfl ?_
  refine hr_lload_n X dJ13_bitCount_95d88_35 rfl ?_
  refine hr_bipush X 8 dJ13_bitCount_95d88_36 kb_8 ?_
  refine hr_lushr X dJ13_bitCount_95d88_38 ?_
  refine hr_ladd X dJ13_bitCount_95d88_39 ?_
  refine hr_lstore_n X dJ13_bitCount_95d88_40 (by decide) rfl ?_
  refine hr_lload_n X dJ13_bitCount_95d88_41 rfl ?_
  refine hr_lload_n X dJ13_bitCount_95d88_42 rfl ?_
  refine hr_bipush X 16 dJ13_bitCount_95d88_43 kb_16 ?_
  refine hr_lushr X dJ13_bitCount_95d88_45 ?_
  refine hr_ladd X dJ13_bitCount_95d88_46 ?_
  refine hr_lstore_n X dJ13_bitCount_95d88_47 (by decide) rfl ?_
  refine hr_lload_n X dJ13_bitCount_95d88_48 rfl ?_
  refine hr_lload_n X dJ13_bitCount_95d88_49 rfl ?_
  refine hr_bipush X 32 dJ13_bitCount_95d88_50 kb_32 ?_
  refine hr_lushr X dJ13_bitCount_95d88_52 ?_
  refine hr_ladd X dJ13_bitCount_95d88_53 ?_
  refine hr_lstore_n X dJ13_bitCount_95d88_54 (by decide) rfl ?_
  refine hr_lload_n X dJ13_bitCount_95d88_55 rfl ?_
  refine hr_l2i X dJ13_bitCount_95d88_56 ?_
  refine hr_bipush X 127 dJ13_bitCount_95d88_57 kb_127 ?_
  refine hr_iand X dJ13_bitCount_95d88_59 ?_
  exact hr_iret X dJ13_bitCount_95d88_60
set_option maxRecDepth 100000 in
set_option maxHeartbeats 4000000 in
theorem c_X4_say  {t0 : Nat} (hl_t0 : t0 < 69) (hs_t0 : hf_shp t0 = 4) (a1 : Int32) (a2 : Int32) (a3 : Int32) (M : hf_M) : hf_CI yX4_say cX4_say 6 (some .int) (5) (fun g => [.ref (hf_a g t0), .int a1, .int a2, .int a3]) M (s_X4_say t0 a1 a2 a3 M) := by
  refine hf_metI (by decide +kernel) (fun g => Nat.le_of_ble_eq_true rfl) (fun g p l ev s m args below meth c X => ?_)
  have X : hf_X g p s m args meth c cX4_say 6 RX4 (some .int) := X
  show hf_W g p l ev (5) s m args below meth c 6 (hf_QI g below args s) M 0 [some (.ref (hf_a g t0)), some (.int a1), some (.int a2), some (.int a3), none, none] [] (s_X4_say t0 a1 a2 a3 M)
  unfold s_X4_say
  refine hr_aload_n X dX4_say_0 rfl ?_
  refine hr_gR X 3 hl_t0 hs_t0 lg_RX4_10 rfl dX4_say_1 (fun q1 hl_q1 hs_q1 => ?_)
  refine hr_iload_n X dX4_say_4 rfl ?_
  refine hr_cvI X [.int a1] [] (c_X3_isSpeaker hl_q1 hs_q1 a1 M) lk_RX4_119 rfl rfl rfl hl_q1 hs_q1 ⟨by decide, rfl⟩ (by decide) (Nat.le_of_ble_eq_true rfl) dX4_say_5 (fun r2 M3 _ => ?_)
  refine hr_if_eq X 22 dX4_say_8 rfl ?_ ?_
  · refine hr_aload_n X dX4_say_22 rfl ?_
    refine hr_iconst X (-1) dX4_say_23 kc_m1 ?_
    refine hr_cvI X [.int (-1)] [] (c_X4_refuse hl_t0 hs_t0 (-1) M3) lk_RX4_82 rfl rfl rfl hl_t0 hs_t0 ⟨by decide, rfl⟩ (by decide) (Nat.le_of_ble_eq_true rfl) dX4_say_24 (fun r4 M5 _ => ?_)
    exact hr_iret X dX4_say_27
  · refine hr_aload_n X dX4_say_11 rfl ?_
    refine hr_gR X 3 hl_t0 hs_t0 lg_RX4_10 rfl dX4_say_12 (fun q6 hl_q6 hs_q6 => ?_)
    refine hr_iload_n X dX4_say_15 rfl ?_
    refine hr_cvI X [.int a2] [] (c_X3_isFact hl_q6 hs_q6 a2 M3) lk_RX4_158 rfl rfl rfl hl_q6 hs_q6 ⟨by decide, rfl⟩ (by decide) (Nat.le_of_ble_eq_true rfl) dX4_say_16 (fun r7 M8 _ => ?_)
    refine hr_if_ne X 28 dX4_say_19 rfl ?_ ?_
    · refine hr_aload_n X dX4_say_28 rfl ?_
      refine hr_gR X 3 hl_t0 hs_t0 lg_RX4_10 rfl dX4_say_29 (fun q9 hl_q9 hs_q9 => ?_)
      refine hr_iload_n X dX4_say_32 rfl ?_
      refine hr_cvI X [.int a1] [] (c_X3_isFull hl_q9 hs_q9 a1 M8) lk_RX4_164 rfl rfl rfl hl_q9 hs_q9 ⟨by decide, rfl⟩ (by decide) (Nat.le_of_ble_eq_true rfl) dX4_say_33 (fun r10 M11 _ => ?_)
      refine hr_if_eq X 46 dX4_say_36 rfl ?_ ?_
      · refine hr_aload_n X dX4_say_46 rfl ?_
        refine hr_gR X 3 hl_t0 hs_t0 lg_RX4_10 rfl dX4_say_47 (fun q12 hl_q12 hs_q12 => ?_)
        refine hr_iload_n X dX4_say_50 rfl ?_
        refine hr_iload_n X dX4_say_51 rfl ?_
        refine hr_iload_n X dX4_say_52 rfl ?_
        refine hr_aload_n X dX4_say_53 rfl ?_
        refine hr_gR X 3 hl_t0 hs_t0 lg_RX4_10 rfl dX4_say_54 (fun q13 hl_q13 hs_q13 => ?_)
        refine hr_ldc2 X dX4_say_57 (hf_c2 101 rfl rfl) ?_
        refine hr_cvJ X [.long (-1)] [.int a3, .int a2, .int a1, .ref (hf_a g q12)] (c_X3_possible hl_q13 hs_q13 (-1) M11) lk_RX4_167 rfl rfl rfl hl_q13 hs_q13 ⟨by decide, rfl⟩ (by decide) (Nat.le_of_ble_eq_true rfl) dX4_say_60 (fun r14 M15 _ => ?_)
        refine hr_cvJ X [.int a1, .int a2, .int a3, .long r14] [] (c_X3_after hl_q12 hs_q12 a1 a2 a3 r14 M15) lk_RX4_171 rfl rfl rfl hl_q12 hs_q12 ⟨by decide, rfl⟩ (by decide) (Nat.le_of_ble_eq_true rfl) dX4_say_63 (fun r16 M17 _ => ?_)
        refine hr_lstore X dX4_say_66 (by decide) rfl ?_
        refine hr_lload X dX4_say_68 rfl ?_
        refine hr_lconst X 0 dX4_say_70 rfl ?_
        refine hr_lcmp X dX4_say_71 ?_
        refine hr_if_ne X 82 dX4_say_72 rfl ?_ ?_
        · refine hr_aload_n X dX4_say_82 rfl ?_
          refine hr_gR X 3 hl_t0 hs_t0 lg_RX4_10 rfl dX4_say_83 (fun q18 hl_q18 hs_q18 => ?_)
          refine hr_gI X hl_q18 hs_q18 lg_RX4_146 dX4_say_86 ?_
          refine hr_bipush X 24 dX4_say_89 kb_24 ?_
          refine hr_icmp_lt X 101 dX4_say_91 rfl ?_ ?_
          · refine hr_aload_n X dX4_say_101 rfl ?_
            refine hr_gR X 3 hl_t0 hs_t0 lg_RX4_10 rfl dX4_say_102 (fun q19 hl_q19 hs_q19 => ?_)
            refine hr_iload_n X dX4_say_105 rfl ?_
            refine hr_iload_n X dX4_say_106 rfl ?_
            refine hr_iload_n X dX4_say_107 rfl ?_
            refine hr_cvV X [.int a1, .int a2, .int a3] [] (c_X3_put hl_q19 hs_q19 a1 a2 a3 M17) lk_RX4_175 rfl rfl rfl hl_q19 hs_q19 ⟨by decide, rfl⟩ (by decide) (Nat.le_of_ble_eq_true rfl) dX4_say_108 (fun _ M21 _ => ?_)
            refine hr_lload X dX4_say_111 rfl ?_
            refine hr_csI X [.long r16] [] (c_J13_bitCount_95d88 r16 M21) lk_RX4_178 rfl rfl rfl (by decide) (Nat.le_of_ble_eq_true rfl) dX4_say_113 (fun r22 M23 _ => ?_)
            exact hr_iret X dX4_say_116
          · refine hr_aload_n X dX4_say_94 rfl ?_
            refine hr_bipush X (-7) dX4_say_95 kb_m7 ?_
            refine hr_cvI X [.int (-7)] [] (c_X4_refuse hl_t0 hs_t0 (-7) M17) lk_RX4_82 rfl rfl rfl hl_t0 hs_t0 ⟨by decide, rfl⟩ (by decide) (Nat.le_of_ble_eq_true rfl) dX4_say_97 (fun r24 M25 _ => ?_)
            exact hr_iret X dX4_say_100
        · refine hr_aload_n X dX4_say_75 rfl ?_
          refine hr_bipush X (-6) dX4_say_76 kb_m6 ?_
          refine hr_cvI X [.int (-6)] [] (c_X4_refuse hl_t0 hs_t0 (-6) M17) lk_RX4_82 rfl rfl rfl hl_t0 hs_t0 ⟨by decide, rfl⟩ (by decide) (Nat.le_of_ble_eq_true rfl) dX4_say_78 (fun r26 M27 _ => ?_)
          exact hr_iret X dX4_say_81
      · refine hr_aload_n X dX4_say_39 rfl ?_
        refine hr_bipush X (-6) dX4_say_40 kb_m6 ?_
        refine hr_cvI X [.int (-6)] [] (c_X4_refuse hl_t0 hs_t0 (-6) M11) lk_RX4_82 rfl rfl rfl hl_t0 hs_t0 ⟨by decide, rfl⟩ (by decide) (Nat.le_of_ble_eq_true rfl) dX4_say_42 (fun r28 M29 _ => ?_)
        exact hr_iret X dX4_say_45
    · refine hr_aload_n X dX4_say_22 rfl ?_
      refine hr_iconst X (-1) dX4_say_23 kc_m1 ?_
      refine hr_cvI X [.int (-1)] [] (c_X4_refuse hl_t0 hs_t0 (-1) M8) lk_RX4_82 rfl rfl rfl hl_t0 hs_t0 ⟨by decide, rfl⟩ (by decide) (Nat.le_of_ble_eq_true rfl) dX4_say_24 (fun r30 M31 _ => ?_)
      exact hr_iret X dX4_say_27
set_option maxRecDepth 100000 in
set_option maxHeartbeats 4000000 in
theorem c_X4_unsay  {t0 : Nat} (hl_t0 : t0 < 69) (hs_t0 : hf_shp t0 = 4) (M : hf_M) : hf_CI yX4_unsay cX4_unsay 1 (some .int) (3) (fun g => [.ref (hf_a g t0)]) M (s_X4_unsay t0 M) := by
  refine hf_metI (by decide +kernel) (fun g => Nat.le_of_ble_eq_true rfl) (fun g p l ev s m args below meth c X => ?_)
  have X : hf_X g p s m args meth c cX4_unsay 1 RX4 (some .int) := X
  show hf_W g p l ev (3) s m args below meth c 1 (hf_QI g below args s) M 0 [some (.ref (hf_a g t0))] [] (s_X4_unsay t0 M)
  unfold s_X4_unsay
  refine hr_aload_n X dX4_unsay_0 rfl ?_
  refine hr_gR X 3 hl_t0 hs_t0 lg_RX4_10 rfl dX4_unsay_1 (fun q1 hl_q1 hs_q1 => ?_)
  refine hr_gI X hl_q1 hs_q1 lg_RX4_146 dX4_unsay_4 ?_
  refine hr_if_ne X 17 dX4_unsay_7 rfl ?_ ?_
  · refine hr_aload_n X dX4_unsay_17 rfl ?_
    refine hr_gR X 3 hl_t0 hs_t0 lg_RX4_10 rfl dX4_unsay_18 (fun q2 hl_q2 hs_q2 => ?_)
    refine hr_cvV X [] [] (c_X3_takeBack hl_q2 hs_q2 M) lk_RX4_184 rfl rfl rfl hl_q2 hs_q2 ⟨by decide, rfl⟩ (by decide) (Nat.le_of_ble_eq_true rfl) dX4_unsay_21 (fun _ M4 _ => ?_)
    refine hr_aload_n X dX4_unsay_24 rfl ?_
    refine hr_gR X 3 hl_t0 hs_t0 lg_RX4_10 rfl dX4_unsay_25 (fun q5 hl_q5 hs_q5 => ?_)
    refine hr_gI X hl_q5 hs_q5 lg_RX4_146 dX4_unsay_28 ?_
    exact hr_iret X dX4_unsay_31
  · refine hr_aload_n X dX4_unsay_10 rfl ?_
    refine hr_bipush X (-6) dX4_unsay_11 kb_m6 ?_
    refine hr_cvI X [.int (-6)] [] (c_X4_refuse hl_t0 hs_t0 (-6) M) lk_RX4_82 rfl rfl rfl hl_t0 hs_t0 ⟨by decide, rfl⟩ (by decide) (Nat.le_of_ble_eq_true rfl) dX4_unsay_13 (fun r6 M7 _ => ?_)
    exact hr_iret X dX4_unsay_16
set_option maxRecDepth 100000 in
set_option maxHeartbeats 4000000 in
theorem c_X4_sayingOf  {t0 : Nat} (hl_t0 : t0 < 69) (hs_t0 : hf_shp t0 = 4) (a1 : Int32) (M : hf_M) : hf_CI yX4_sayingOf cX4_sayingOf 2 (some .int) (1) (fun g => [.ref (hf_a g t0), .int a1]) M (s_X4_sayingOf t0 a1 M) := by
  refine hf_metI (by decide +kernel) (fun g => Nat.le_of_ble_eq_true rfl) (fun g p l ev s m args below meth c X => ?_)
  have X : hf_X g p s m args meth c cX4_sayingOf 2 RX4 (some .int) := X
  show hf_W g p l ev (1) s m args below meth c 2 (hf_QI g below args s) M 0 [some (.ref (hf_a g t0)), some (.int a1)] [] (s_X4_sayingOf t0 a1 M)
  unfold s_X4_sayingOf
  refine hr_iload_n X dX4_sayingOf_0 rfl ?_
  refine hr_if_lt X 27 dX4_sayingOf_1 rfl ?_ ?_
  · refine hr_iconst X (-1) dX4_sayingOf_27 kc_m1 ?_
    exact hr_iret X dX4_sayingOf_28
  · refine hr_iload_n X dX4_sayingOf_4 rfl ?_
    refine hr_aload_n X dX4_sayingOf_5 rfl ?_
    refine hr_gR X 3 hl_t0 hs_t0 lg_RX4_10 rfl dX4_sayingOf_6 (fun q1 hl_q1 hs_q1 => ?_)
    refine hr_gI X hl_q1 hs_q1 lg_RX4_146 dX4_sayingOf_9 ?_
    refine hr_icmp_ge X 27 dX4_sayingOf_12 rfl ?_ ?_
    · refine hr_iconst X (-1) dX4_sayingOf_27 kc_m1 ?_
      exact hr_iret X dX4_sayingOf_28
    · refine hr_aload_n X dX4_sayingOf_15 rfl ?_
      refine hr_gR X 3 hl_t0 hs_t0 lg_RX4_10 rfl dX4_sayingOf_16 (fun q2 hl_q2 hs_q2 => ?_)
      refine hr_gR X 6 hl_q2 hs_q2 lg_RX4_187 rfl dX4_sayingOf_19 (fun q3 hl_q3 hs_q3 => ?_)
      refine hr_iload_n X dX4_sayingOf_22 rfl ?_
      refine hr_iald X hl_q3 hs_q3 dX4_sayingOf_23 (fun r4 _ _ => ?_)
      refine hr_goto X 28 dX4_sayingOf_24 rfl ?_
      exact hr_iret X dX4_sayingOf_28
set_option maxRecDepth 100000 in
set_option maxHeartbeats 4000000 in
theorem c_X4_known  {t0 : Nat} (hl_t0 : t0 < 69) (hs_t0 : hf_shp t0 = 4) (a1 : Int32) (a2 : Int32) (M : hf_M) : hf_CI yX4_known cX4_known 3 (some .int) (5) (fun g => [.ref (hf_a g t0), .int a1, .int a2]) M (s_X4_known t0 a1 a2 M) := by
  refine hf_metI (by decide +kernel) (fun g => Nat.le_of_ble_eq_true rfl) (fun g p l ev s m args below meth c X => ?_)
  have X : hf_X g p s m args meth c cX4_known 3 RX4 (some .int) := X
  show hf_W g p l ev (5) s m args below meth c 3 (hf_QI g below args s) M 0 [some (.ref (hf_a g t0)), some (.int a1), some (.int a2)] [] (s_X4_known t0 a1 a2 M)
  unfold s_X4_known
  refine hr_aload_n X dX4_known_0 rfl ?_
  refine hr_gR X 3 hl_t0 hs_t0 lg_RX4_10 rfl dX4_known_1 (fun q1 hl_q1 hs_q1 => ?_)
  refine hr_iload_n X dX4_known_4 rfl ?_
  refine hr_cvI X [.int a1] [] (c_X3_isFact hl_q1 hs_q1 a1 M) lk_RX4_158 rfl rfl rfl hl_q1 hs_q1 ⟨by decide, rfl⟩ (by decide) (Nat.le_of_ble_eq_true rfl) dX4_known_5 (fun r2 M3 _ => ?_)
  refine hr_if_ne X 17 dX4_known_8 rfl ?_ ?_
  · refine hr_aload_n X dX4_known_17 rfl ?_
    refine hr_gR X 3 hl_t0 hs_t0 lg_RX4_10 rfl dX4_known_18 (fun q4 hl_q4 hs_q4 => ?_)
    refine hr_ldc2 X dX4_known_21 (hf_c2 101 rfl rfl) ?_
    refine hr_cvJ X [.long (-1)] [] (c_X3_possible hl_q4 hs_q4 (-1) M3) lk_RX4_167 rfl rfl rfl hl_q4 hs_q4 ⟨by decide, rfl⟩ (by decide) (Nat.le_of_ble_eq_true rfl) dX4_known_24 (fun r5 M6 _ => ?_)
    refine hr_iload_n X dX4_known_27 rfl ?_
    refine hr_iload_n X dX4_known_28 rfl ?_
    refine hr_csJ X [.int a1, .int a2] [.long r5] (c_X4_truthOf a1 a2 M6) lk_RX4_190 rfl rfl rfl (by decide) (Nat.le_of_ble_eq_true rfl) dX4_known_29 (fun r7 M8 _ => ?_)
    refine hr_land X dX4_known_32 ?_
    refine hr_lconst X 0 dX4_known_33 rfl ?_
    refine hr_lcmp X dX4_known_34 ?_
    refine hr_if_ne X 45 dX4_known_35 rfl ?_ ?_
    · refine hr_aload_n X dX4_known_45 rfl ?_
      refine hr_gR X 3 hl_t0 hs_t0 lg_RX4_10 rfl dX4_known_46 (fun q9 hl_q9 hs_q9 => ?_)
      refine hr_iload_n X dX4_known_49 rfl ?_
      refine hr_iload_n X dX4_known_50 rfl ?_
      refine hr_cvV X [.int a1, .int a2] [] (c_X3_learn hl_q9 hs_q9 a1 a2 M8) lk_RX4_194 rfl rfl rfl hl_q9 hs_q9 ⟨by decide, rfl⟩ (by decide) (Nat.le_of_ble_eq_true rfl) dX4_known_51 (fun _ M11 _ => ?_)
      refine hr_aload_n X dX4_known_54 rfl ?_
      refine hr_gR X 3 hl_t0 hs_t0 lg_RX4_10 rfl dX4_known_55 (fun q12 hl_q12 hs_q12 => ?_)
      refine hr_gL X hl_q12 hs_q12 lg_RX4_198 dX4_known_58 ?_
      refine hr_csI X [.long (M11.2.1 q12 11)] [] (c_J13_bitCount_95d88 (M11.2.1 q12 11) M11) lk_RX4_178 rfl rfl rfl (by decide) (Nat.le_of_ble_eq_true rfl) dX4_known_61 (fun r13 M14 _ => ?_)
      exact hr_iret X dX4_known_64
    · refine hr_aload_n X dX4_known_38 rfl ?_
      refine hr_bipush X (-6) dX4_known_39 kb_m6 ?_
      refine hr_cvI X [.int (-6)] [] (c_X4_refuse hl_t0 hs_t0 (-6) M8) lk_RX4_82 rfl rfl rfl hl_t0 hs_t0 ⟨by decide, rfl⟩ (by decide) (Nat.le_of_ble_eq_true rfl) dX4_known_41 (fun r15 M16 _ => ?_)
      exact hr_iret X dX4_known_44
  · refine hr_aload_n X dX4_known_11 rfl ?_
    refine hr_iconst X (-1) dX4_known_12 kc_m1 ?_
    refine hr_cvI X [.int (-1)] [] (c_X4_refuse hl_t0 hs_t0 (-1) M3) lk_RX4_82 rfl rfl rfl hl_t0 hs_t0 ⟨by decide, rfl⟩ (by decide) (Nat.le_of_ble_eq_true rfl) dX4_known_13 (fun r17 M18 _ => ?_)
    exact hr_iret X dX4_known_16
set_option maxRecDepth 100000 in
set_option maxHeartbeats 4000000 in
theorem c_X4_town  {t0 : Nat} (hl_t0 : t0 < 69) (hs_t0 : hf_shp t0 = 4) (a1 : Int32) (M : hf_M) : hf_CI yX4_town cX4_town 3 (some .int) (9) (fun g => [.ref (hf_a g t0), .int a1]) M (s_X4_town t0 a1 M) := by
  refine hf_metI (by decide +kernel) (fun g => Nat.le_of_ble_eq_true rfl) (fun g p l ev s m args below meth c X => ?_)
  have X : hf_X g p s m args meth c cX4_town 3 RX4 (some .int) := X
  show hf_W g p l ev (9) s m args below meth c 3 (hf_QI g below args s) M 0 [some (.ref (hf_a g t0)), some (.int a1), none] [] (s_X4_town t0 a1 M)
  unfold s_X4_town
  refine hr_aload_n X dX4_town_0 rfl ?_
  refine hr_iload_n X dX4_town_1 rfl ?_
  refine hr_cvI X [.int a1] [] (c_X4_noRow hl_t0 hs_t0 a1 M) lk_RX4_93 rfl rfl rfl hl_t0 hs_t0 ⟨by decide, rfl⟩ (by decide) (Nat.le_of_ble_eq_true rfl) dX4_town_2 (fun r1 M2 _ => ?_)
  refine hr_istore_n X dX4_town_5 (by decide) rfl ?_
  refine hr_iload_n X dX4_town_6 rfl ?_
  refine hr_if_eq X 16 dX4_town_7 rfl ?_ ?_
  · refine hr_aload_n X dX4_town_16 rfl ?_
    refine hr_gR X 3 hl_t0 hs_t0 lg_RX4_19 rfl dX4_town_17 (fun q3 hl_q3 hs_q3 => ?_)
    refine hr_aload_n X dX4_town_20 rfl ?_
    refine hr_gR X 3 hl_t0 hs_t0 lg_RX4_10 rfl dX4_town_21 (fun q4 hl_q4 hs_q4 => ?_)
    refine hr_cvV X [.ref (hf_a g q4)] [] (c_X3_takeOver hl_q3 hs_q3 hl_q4 hs_q4 M2) lk_RX4_202 rfl rfl rfl hl_q3 hs_q3 ⟨by decide, rfl⟩ (by decide) (Nat.le_of_ble_eq_true rfl) dX4_town_24 (fun _ M6 _ => ?_)
    refine hr_aload_n X dX4_town_27 rfl ?_
    refine hr_aload_n X dX4_town_28 rfl ?_
    refine hr_gR X 1 hl_t0 hs_t0 lg_RX4_31 rfl dX4_town_29 (fun q7 hl_q7 hs_q7 => ?_)
    refine hr_aload_n X dX4_town_32 rfl ?_
    refine hr_gR X 8 hl_t0 hs_t0 lg_RX4_24 rfl dX4_town_33 (fun q8 hl_q8 hs_q8 => ?_)
    refine hr_iload_n X dX4_town_36 rfl ?_
    refine hr_aald X hl_q8 hs_q8 (hf_l8 hl_q8 hs_q8) dX4_town_37 (fun q9 hl_q9 hs_q9 => ?_)
    refine hr_aload_n X dX4_town_38 rfl ?_
    refine hr_gR X 3 hl_t0 hs_t0 lg_RX4_19 rfl dX4_town_39 (fun q10 hl_q10 hs_q10 => ?_)
    refine hr_cvI X [.ref (hf_a g q9), .ref (hf_a g q10)] [.ref (hf_a g t0)] (c_X1_read hl_q7 hs_q7 hl_q9 hs_q9 hl_q10 hs_q10 M6) lk_RX4_206 rfl rfl rfl hl_q7 hs_q7 ⟨by decide, rfl⟩ (by decide) (Nat.le_of_ble_eq_true rfl) dX4_town_42 (fun r11 M12 _ => ?_)
    refine hr_pI X hl_t0 hs_t0 lp_RX4_50 dX4_town_45 (fun M13 eM13 => ?_)
    refine hr_aload_n X dX4_town_48 rfl ?_
    refine hr_gI X hl_t0 hs_t0 lg_RX4_50 dX4_town_49 ?_
    refine hr_iconst X (-1) dX4_town_52 kc_m1 ?_
    refine hr_icmp_eq X 63 dX4_town_53 rfl ?_ ?_
    · refine hr_aload_n X dX4_town_63 rfl ?_
      refine hr_gR X 3 hl_t0 hs_t0 lg_RX4_10 rfl dX4_town_64 (fun q14 hl_q14 hs_q14 => ?_)
      refine hr_aload_n X dX4_town_67 rfl ?_
      refine hr_gR X 3 hl_t0 hs_t0 lg_RX4_19 rfl dX4_town_68 (fun q15 hl_q15 hs_q15 => ?_)
      refine hr_cvV X [.ref (hf_a g q15)] [] (c_X3_takeOver hl_q14 hs_q14 hl_q15 hs_q15 M13) lk_RX4_202 rfl rfl rfl hl_q14 hs_q14 ⟨by decide, rfl⟩ (by decide) (Nat.le_of_ble_eq_true rfl) dX4_town_71 (fun _ M17 _ => ?_)
      refine hr_aload_n X dX4_town_74 rfl ?_
      refine hr_gR X 1 hl_t0 hs_t0 lg_RX4_31 rfl dX4_town_75 (fun q18 hl_q18 hs_q18 => ?_)
      refine hr_gI X hl_q18 hs_q18 lg_RX4_210 dX4_town_78 ?_
      exact hr_iret X dX4_town_81
    · refine hr_aload_n X dX4_town_56 rfl ?_
      refine hr_bipush X (-6) dX4_town_57 kb_m6 ?_
      refine hr_cvI X [.int (-6)] [] (c_X4_refuse hl_t0 hs_t0 (-6) M13) lk_RX4_82 rfl rfl rfl hl_t0 hs_t0 ⟨by decide, rfl⟩ (by decide) (Nat.le_of_ble_eq_true rfl) dX4_town_59 (fun r19 M20 _ => ?_)
      exact hr_iret X dX4_town_62
  · refine hr_aload_n X dX4_town_10 rfl ?_
    refine hr_iload_n X dX4_town_11 rfl ?_
    refine hr_cvI X [.int r1] [] (c_X4_refuse hl_t0 hs_t0 r1 M2) lk_RX4_82 rfl rfl rfl hl_t0 hs_t0 ⟨by decide, rfl⟩ (by decide) (Nat.le_of_ble_eq_true rfl) dX4_town_12 (fun r21 M22 _ => ?_)
    exact hr_iret X dX4_town_15
set_option maxRecDepth 100000 in
set_option maxHeartbeats 4000000 in
theorem c_X4_fault  {t0 : Nat} (hl_t0 : t0 < 69) (hs_t0 : hf_shp t0 = 4) (M : hf_M) : hf_CI yX4_fault cX4_fault 1 (some .int) (1) (fun g => [.ref (hf_a g t0)]) M (s_X4_fault t0 M) := by
  refine hf_metI (by decide +kernel) (fun g => Nat.le_of_ble_eq_true rfl) (fun g p l ev s m args below meth c X => ?_)
  have X : hf_X g p s m args meth c cX4_fault 1 RX4 (some .int) := X
  show hf_W g p l ev (1) s m args below meth c 1 (hf_QI g below args s) M 0 [some (.ref (hf_a g t0))] [] (s_X4_fault t0 M)
  unfold s_X4_fault
  refine hr_aload_n X dX4_fault_0 rfl ?_
  refine hr_gI X hl_t0 hs_t0 lg_RX4_50 dX4_fault_1 ?_
  exact hr_iret X dX4_fault_4
set_option maxRecDepth 100000 in
set_option maxHeartbeats 4000000 in
theorem c_X4_bit  (a0 : Int64) (a2 : Int32) (M : hf_M) : hf_CI yX4_bit cX4_bit 3 (some .int) (1) (fun g => [.long a0, .int a2]) M (s_X4_bit a0 a2 M) := by
  refine hf_metI (by decide +kernel) (fun g => Nat.le_of_ble_eq_true rfl) (fun g p l ev s m args below meth c X => ?_)
  have X : hf_X g p s m args meth c cX4_bit 3 RX4 (some .int) := X
  show hf_W g p l ev (1) s m args below meth c 3 (hf_QI g below args s) M 0 [some (.long a0), none, some (.int a2)] [] (s_X4_bit a0 a2 M)
  unfold s_X4_bit
  refine hr_lload_n X dX4_bit_0 rfl ?_
  refine hr_iload_n X dX4_bit_1 rfl ?_
  refine hr_lushr X dX4_bit_2 ?_
  refine hr_lconst X 1 dX4_bit_3 rfl ?_
  refine hr_land X dX4_bit_4 ?_
  refine hr_l2i X dX4_bit_5 ?_
  exact hr_iret X dX4_bit_6
set_option maxRecDepth 100000 in
set_option maxHeartbeats 4000000 in
theorem c_X4_canBe  {t0 : Nat} (hl_t0 : t0 < 69) (hs_t0 : hf_shp t0 = 4) (a1 : Int32) (a2 : Int32) (M : hf_M) : hf_CI yX4_canBe cX4_canBe 3 (some .int) (4) (fun g => [.ref (hf_a g t0), .int a1, .int a2]) M (s_X4_canBe t0 a1 a2 M) := by
  refine hf_metI (by decide +kernel) (fun g => Nat.le_of_ble_eq_true rfl) (fun g p l ev s m args below meth c X => ?_)
  have X : hf_X g p s m args meth c cX4_canBe 3 RX4 (some .int) := X
  show hf_W g p l ev (4) s m args below meth c 3 (hf_QI g below args s) M 0 [some (.ref (hf_a g t0)), some (.int a1), some (.int a2)] [] (s_X4_canBe t0 a1 a2 M)
  unfold s_X4_canBe
  refine hr_aload_n X dX4_canBe_0 rfl ?_
  refine hr_gR X 3 hl_t0 hs_t0 lg_RX4_10 rfl dX4_canBe_1 (fun q1 hl_q1 hs_q1 => ?_)
  refine hr_iload_n X dX4_canBe_4 rfl ?_
  refine hr_cvI X [.int a1] [] (c_X3_isSpeaker hl_q1 hs_q1 a1 M) lk_RX4_119 rfl rfl rfl hl_q1 hs_q1 ⟨by decide, rfl⟩ (by decide) (Nat.le_of_ble_eq_true rfl) dX4_canBe_5 (fun r2 M3 _ => ?_)
  refine hr_if_eq X 22 dX4_canBe_8 rfl ?_ ?_
  · refine hr_aload_n X dX4_canBe_22 rfl ?_
    refine hr_iconst X (-1) dX4_canBe_23 kc_m1 ?_
    refine hr_cvI X [.int (-1)] [] (c_X4_refuse hl_t0 hs_t0 (-1) M3) lk_RX4_82 rfl rfl rfl hl_t0 hs_t0 ⟨by decide, rfl⟩ (by decide) (Nat.le_of_ble_eq_true rfl) dX4_canBe_24 (fun r4 M5 _ => ?_)
    exact hr_iret X dX4_canBe_27
  · refine hr_aload_n X dX4_canBe_11 rfl ?_
    refine hr_gR X 3 hl_t0 hs_t0 lg_RX4_10 rfl dX4_canBe_12 (fun q6 hl_q6 hs_q6 => ?_)
    refine hr_iload_n X dX4_canBe_15 rfl ?_
    refine hr_cvI X [.int a2] [] (c_X3_isWorld hl_q6 hs_q6 a2 M3) lk_RX4_213 rfl rfl rfl hl_q6 hs_q6 ⟨by decide, rfl⟩ (by decide) (Nat.le_of_ble_eq_true rfl) dX4_canBe_16 (fun r7 M8 _ => ?_)
    refine hr_if_ne X 28 dX4_canBe_19 rfl ?_ ?_
    · refine hr_aload_n X dX4_canBe_28 rfl ?_
      refine hr_gR X 3 hl_t0 hs_t0 lg_RX4_10 rfl dX4_canBe_29 (fun q9 hl_q9 hs_q9 => ?_)
      refine hr_iload_n X dX4_canBe_32 rfl ?_
      refine hr_ldc2 X dX4_canBe_33 (hf_c2 101 rfl rfl) ?_
      refine hr_cvJ X [.int a1, .long (-1)] [] (c_X3_allowed hl_q9 hs_q9 a1 (-1) M8) lk_RX4_216 rfl rfl rfl hl_q9 hs_q9 ⟨by decide, rfl⟩ (by decide) (Nat.le_of_ble_eq_true rfl) dX4_canBe_36 (fun r10 M11 _ => ?_)
      refine hr_iload_n X dX4_canBe_39 rfl ?_
      refine hr_csI X [.long r10, .int a2] [] (c_X4_bit r10 a2 M11) lk_RX4_220 rfl rfl rfl (by decide) (Nat.le_of_ble_eq_true rfl) dX4_canBe_40 (fun r12 M13 _ => ?_)
      exact hr_iret X dX4_canBe_43
    · refine hr_aload_n X dX4_canBe_22 rfl ?_
      refine hr_iconst X (-1) dX4_canBe_23 kc_m1 ?_
      refine hr_cvI X [.int (-1)] [] (c_X4_refuse hl_t0 hs_t0 (-1) M8) lk_RX4_82 rfl rfl rfl hl_t0 hs_t0 ⟨by decide, rfl⟩ (by decide) (Nat.le_of_ble_eq_true rfl) dX4_canBe_24 (fun r14 M15 _ => ?_)
      exact hr_iret X dX4_canBe_27
set_option maxRecDepth 100000 in
set_option maxHeartbeats 4000000 in
theorem c_X4_isAny  (a0 : Int64) (M : hf_M) : hf_CI yX4_isAny cX4_isAny 2 (some .int) (1) (fun g => [.long a0]) M (s_X4_isAny a0 M) := by
  refine hf_metI (by decide +kernel) (fun g => Nat.le_of_ble_eq_true rfl) (fun g p l ev s m args below meth c X => ?_)
  have X : hf_X g p s m args meth c cX4_isAny 2 RX4 (some .int) := X
  show hf_W g p l ev (1) s m args below meth c 2 (hf_QI g below args s) M 0 [some (.long a0), none] [] (s_X4_isAny a0 M)
  unfold s_X4_isAny
  refine hr_lload_n X dX4_isAny_0 rfl ?_
  refine hr_lconst X 0 dX4_isAny_1 rfl ?_
  refine hr_lcmp X dX4_isAny_2 ?_
  refine hr_if_ne X 10 dX4_isAny_3 rfl ?_ ?_
  · refine hr_iconst X 1 dX4_isAny_10 kc_1 ?_
    exact hr_iret X dX4_isAny_11
  · refine hr_iconst X 0 dX4_isAny_6 kc_0 ?_
    refine hr_goto X 11 dX4_isAny_7 rfl ?_
    exact hr_iret X dX4_isAny_11
set_option maxRecDepth 100000 in
set_option maxHeartbeats 4000000 in
theorem c_X4_can  {t0 : Nat} (hl_t0 : t0 < 69) (hs_t0 : hf_shp t0 = 4) (a1 : Int32) (a2 : Int32) (a3 : Int32) (M : hf_M) : hf_CI yX4_can cX4_can 10 (some .int) (5) (fun g => [.ref (hf_a g t0), .int a1, .int a2, .int a3]) M (s_X4_can t0 a1 a2 a3 M) := by
  refine hf_metI (by decide +kernel) (fun g => Nat.le_of_ble_eq_true rfl) (fun g p l ev s m args below meth c X => ?_)
  have X : hf_X g p s m args meth c cX4_can 10 RX4 (some .int) := X
  show hf_W g p l ev (5) s m args below meth c 10 (hf_QI g below args s) M 0 [some (.ref (hf_a g t0)), some (.int a1), some (.int a2), some (.int a3), none, none, none, none, none, none] [] (s_X4_can t0 a1 a2 a3 M)
  unfold s_X4_can
  refine hr_aload_n X dX4_can_0 rfl ?_
  refine hr_gR X 3 hl_t0 hs_t0 lg_RX4_10 rfl dX4_can_1 (fun q1 hl_q1 hs_q1 => ?_)
  refine hr_iload_n X dX4_can_4 rfl ?_
  refine hr_cvI X [.int a1] [] (c_X3_isSpeaker hl_q1 hs_q1 a1 M) lk_RX4_119 rfl rfl rfl hl_q1 hs_q1 ⟨by decide, rfl⟩ (by decide) (Nat.le_of_ble_eq_true rfl) dX4_can_5 (fun r2 M3 _ => ?_)
  refine hr_if_eq X 22 dX4_can_8 rfl ?_ ?_
  · refine hr_aload_n X dX4_can_22 rfl ?_
    refine hr_iconst X (-1) dX4_can_23 kc_m1 ?_
    refine hr_cvI X [.int (-1)] [] (c_X4_refuse hl_t0 hs_t0 (-1) M3) lk_RX4_82 rfl rfl rfl hl_t0 hs_t0 ⟨by decide, rfl⟩ (by decide) (Nat.le_of_ble_eq_true rfl) dX4_can_24 (fun r4 M5 _ => ?_)
    exact hr_iret X dX4_can_27
  · refine hr_aload_n X dX4_can_11 rfl ?_
    refine hr_gR X 3 hl_t0 hs_t0 lg_RX4_10 rfl dX4_can_12 (fun q6 hl_q6 hs_q6 => ?_)
    refine hr_iload_n X dX4_can_15 rfl ?_
    refine hr_cvI X [.int a2] [] (c_X3_isFact hl_q6 hs_q6 a2 M3) lk_RX4_158 rfl rfl rfl hl_q6 hs_q6 ⟨by decide, rfl⟩ (by decide) (Nat.le_of_ble_eq_true rfl) dX4_can_16 (fun r7 M8 _ => ?_)
    refine hr_if_ne X 28 dX4_can_19 rfl ?_ ?_
    · refine hr_iload_n X dX4_can_28 rfl ?_
      refine hr_iconst X 0 dX4_can_29 kc_0 ?_
      refine hr_iconst X 3 dX4_can_30 kc_3 ?_
      refine hr_csI X [.int a3, .int 0, .int 3] [] (c_X4_within a3 0 3 M8) lk_RX4_85 rfl rfl rfl (by decide) (Nat.le_of_ble_eq_true rfl) dX4_can_31 (fun r9 M10 _ => ?_)
      refine hr_if_ne X 44 dX4_can_34 rfl ?_ ?_
      · refine hr_aload_n X dX4_can_44 rfl ?_
        refine hr_gR X 3 hl_t0 hs_t0 lg_RX4_10 rfl dX4_can_45 (fun q11 hl_q11 hs_q11 => ?_)
        refine hr_iload_n X dX4_can_48 rfl ?_
        refine hr_cvI X [.int a1] [] (c_X3_isFull hl_q11 hs_q11 a1 M10) lk_RX4_164 rfl rfl rfl hl_q11 hs_q11 ⟨by decide, rfl⟩ (by decide) (Nat.le_of_ble_eq_true rfl) dX4_can_49 (fun r12 M13 _ => ?_)
        refine hr_if_eq X 57 dX4_can_52 rfl ?_ ?_
        · refine hr_aload_n X dX4_can_57 rfl ?_
          refine hr_gR X 3 hl_t0 hs_t0 lg_RX4_10 rfl dX4_can_58 (fun q14 hl_q14 hs_q14 => ?_)
          refine hr_ldc2 X dX4_can_61 (hf_c2 101 rfl rfl) ?_
          refine hr_cvJ X [.long (-1)] [] (c_X3_possible hl_q14 hs_q14 (-1) M13) lk_RX4_167 rfl rfl rfl hl_q14 hs_q14 ⟨by decide, rfl⟩ (by decide) (Nat.le_of_ble_eq_true rfl) dX4_can_64 (fun r15 M16 _ => ?_)
          refine hr_lstore X dX4_can_67 (by decide) rfl ?_
          refine hr_aload_n X dX4_can_69 rfl ?_
          refine hr_gR X 3 hl_t0 hs_t0 lg_RX4_10 rfl dX4_can_70 (fun q17 hl_q17 hs_q17 => ?_)
          refine hr_iload_n X dX4_can_73 rfl ?_
          refine hr_iload_n X dX4_can_74 rfl ?_
          refine hr_iconst X 1 dX4_can_75 kc_1 ?_
          refine hr_lload X dX4_can_76 rfl ?_
          refine hr_cvJ X [.int a1, .int a2, .int 1, .long r15] [] (c_X3_after hl_q17 hs_q17 a1 a2 1 r15 M16) lk_RX4_171 rfl rfl rfl hl_q17 hs_q17 ⟨by decide, rfl⟩ (by decide) (Nat.le_of_ble_eq_true rfl) dX4_can_78 (fun r18 M19 _ => ?_)
          refine hr_lstore X dX4_can_81 (by decide) rfl ?_
          refine hr_aload_n X dX4_can_83 rfl ?_
          refine hr_gR X 3 hl_t0 hs_t0 lg_RX4_10 rfl dX4_can_84 (fun q20 hl_q20 hs_q20 => ?_)
          refine hr_iload_n X dX4_can_87 rfl ?_
          refine hr_iload_n X dX4_can_88 rfl ?_
          refine hr_iconst X 0 dX4_can_89 kc_0 ?_
          refine hr_lload X dX4_can_90 rfl ?_
          refine hr_cvJ X [.int a1, .int a2, .int 0, .long r15] [] (c_X3_after hl_q20 hs_q20 a1 a2 0 r15 M19) lk_RX4_171 rfl rfl rfl hl_q20 hs_q20 ⟨by decide, rfl⟩ (by decide) (Nat.le_of_ble_eq_true rfl) dX4_can_92 (fun r21 M22 _ => ?_)
          refine hr_lstore X dX4_can_95 (by decide) rfl ?_
          refine hr_iload_n X dX4_can_97 rfl ?_
          refine hr_case 0 (fun _ => ?_) (fun n98_0 => ?_)
          · refine hr_tabIn X 124 dX4_can_98 (by decide) (by decide) rfl rfl ?_
            refine hr_lload X dX4_can_124 rfl ?_
            refine hr_gsSO X ls_RX4_59 dX4_can_126 ?_
            refine hr_iload_n X dX4_can_129 rfl ?_
            refine hr_ldSO X dX4_can_130 (fun r23 _ _ => ?_)
            refine hr_ldc2 X dX4_can_131 (hf_c2 101 rfl rfl) ?_
            refine hr_lxor X dX4_can_134 ?_
            refine hr_land X dX4_can_135 ?_
            refine hr_lload X dX4_can_136 rfl ?_
            refine hr_gsSO X ls_RX4_59 dX4_can_138 ?_
            refine hr_iload_n X dX4_can_141 rfl ?_
            refine hr_ldSO X dX4_can_142 (fun r24 _ _ => ?_)
            refine hr_land X dX4_can_143 ?_
            refine hr_lor X dX4_can_144 ?_
            refine hr_csI X [.long ((r18 &&& (r23 ^^^ (-1))) ||| (r21 &&& r24))] [] (c_X4_isAny ((r18 &&& (r23 ^^^ (-1))) ||| (r21 &&& r24)) M22) lk_RX4_224 rfl rfl rfl (by decide) (Nat.le_of_ble_eq_true rfl) dX4_can_145 (fun r25 M26 _ => ?_)
            exact hr_iret X dX4_can_148
          refine hr_case 1 (fun _ => ?_) (fun n98_1 => ?_)
          · refine hr_tabIn X 149 dX4_can_98 (by decide) (by decide) rfl rfl ?_
            refine hr_lload X dX4_can_149 rfl ?_
            refine hr_gsSO X ls_RX4_59 dX4_can_151 ?_
            refine hr_iload_n X dX4_can_154 rfl ?_
            refine hr_ldSO X dX4_can_155 (fun r27 _ _ => ?_)
            refine hr_land X dX4_can_156 ?_
            refine hr_lload X dX4_can_157 rfl ?_
            refine hr_gsSO X ls_RX4_59 dX4_can_159 ?_
            refine hr_iload_n X dX4_can_162 rfl ?_
            refine hr_ldSO X dX4_can_163 (fun r28 _ _ => ?_)
            refine hr_ldc2 X dX4_can_164 (hf_c2 101 rfl rfl) ?_
            refine hr_lxor X dX4_can_167 ?_
            refine hr_land X dX4_can_168 ?_
            refine hr_lor X dX4_can_169 ?_
            refine hr_csI X [.long ((r18 &&& r27) ||| (r21 &&& (r28 ^^^ (-1))))] [] (c_X4_isAny ((r18 &&& r27) ||| (r21 &&& (r28 ^^^ (-1)))) M22) lk_RX4_224 rfl rfl rfl (by decide) (Nat.le_of_ble_eq_true rfl) dX4_can_170 (fun r29 M30 _ => ?_)
            exact hr_iret X dX4_can_173
          refine hr_case 2 (fun _ => ?_) (fun n98_2 => ?_)
          · refine hr_tabIn X 174 dX4_can_98 (by decide) (by decide) rfl rfl ?_
            refine hr_lload X dX4_can_174 rfl ?_
            refine hr_csI X [.long r18] [] (c_X4_isAny r18 M22) lk_RX4_224 rfl rfl rfl (by decide) (Nat.le_of_ble_eq_true rfl) dX4_can_176 (fun r31 M32 _ => ?_)
            exact hr_iret X dX4_can_179
          · have e0 := hf_neT 0 n98_0 (by decide)
            have e1 := hf_neT 1 n98_1 (by decide)
            have e2 := hf_neT 2 n98_2 (by decide)
            refine hr_tabOut X 180 dX4_can_98 (by omega) rfl ?_
            refine hr_lload X dX4_can_180 rfl ?_
            refine hr_csI X [.long r21] [] (c_X4_isAny r21 M22) lk_RX4_224 rfl rfl rfl (by decide) (Nat.le_of_ble_eq_true rfl) dX4_can_182 (fun r33 M34 _ => ?_)
            exact hr_iret X dX4_can_185
        · refine hr_iconst X 0 dX4_can_55 kc_0 ?_
          exact hr_iret X dX4_can_56
      · refine hr_aload_n X dX4_can_37 rfl ?_
        refine hr_bipush X (-5) dX4_can_38 kb_m5 ?_
        refine hr_cvI X [.int (-5)] [] (c_X4_refuse hl_t0 hs_t0 (-5) M10) lk_RX4_82 rfl rfl rfl hl_t0 hs_t0 ⟨by decide, rfl⟩ (by decide) (Nat.le_of_ble_eq_true rfl) dX4_can_40 (fun r35 M36 _ => ?_)
        exact hr_iret X dX4_can_43
    · refine hr_aload_n X dX4_can_22 rfl ?_
      refine hr_iconst X (-1) dX4_can_23 kc_m1 ?_
      refine hr_cvI X [.int (-1)] [] (c_X4_refuse hl_t0 hs_t0 (-1) M8) lk_RX4_82 rfl rfl rfl hl_t0 hs_t0 ⟨by decide, rfl⟩ (by decide) (Nat.le_of_ble_eq_true rfl) dX4_can_24 (fun r37 M38 _ => ?_)
      exact hr_iret X dX4_can_27
set_option maxRecDepth 100000 in
set_option maxHeartbeats 4000000 in
theorem c_X4_worlds  {t0 : Nat} (hl_t0 : t0 < 69) (hs_t0 : hf_shp t0 = 4) (M : hf_M) : hf_CJ yX4_worlds cX4_worlds 1 (some .long) (5) (fun g => [.ref (hf_a g t0)]) M (s_X4_worlds t0 M) := by
  refine hf_metJ (by decide +kernel) (fun g => Nat.le_of_ble_eq_true rfl) (fun g p l ev s m args below meth c X => ?_)
  have X : hf_X g p s m args meth c cX4_worlds 1 RX4 (some .long) := X
  show hf_W g p l ev (5) s m args below meth c 1 (hf_QJ g below args s) M 0 [some (.ref (hf_a g t0))] [] (s_X4_worlds t0 M)
  unfold s_X4_worlds
  refine hr_aload_n X dX4_worlds_0 rfl ?_
  refine hr_gR X 3 hl_t0 hs_t0 lg_RX4_10 rfl dX4_worlds_1 (fun q1 hl_q1 hs_q1 => ?_)
  refine hr_ldc2 X dX4_worlds_4 (hf_c2 101 rfl rfl) ?_
  refine hr_cvJ X [.long (-1)] [] (c_X3_possible hl_q1 hs_q1 (-1) M) lk_RX4_167 rfl rfl rfl hl_q1 hs_q1 ⟨by decide, rfl⟩ (by decide) (Nat.le_of_ble_eq_true rfl) dX4_worlds_7 (fun r2 M3 _ => ?_)
  exact hr_lret X dX4_worlds_10
set_option maxRecDepth 100000 in
set_option maxHeartbeats 4000000 in
theorem c_X4_many  {t0 : Nat} (hl_t0 : t0 < 69) (hs_t0 : hf_shp t0 = 4) (M : hf_M) : hf_CI yX4_many cX4_many 1 (some .int) (5) (fun g => [.ref (hf_a g t0)]) M (s_X4_many t0 M) := by
  refine hf_metI (by decide +kernel) (fun g => Nat.le_of_ble_eq_true rfl) (fun g p l ev s m args below meth c X => ?_)
  have X : hf_X g p s m args meth c cX4_many 1 RX4 (some .int) := X
  show hf_W g p l ev (5) s m args below meth c 1 (hf_QI g below args s) M 0 [some (.ref (hf_a g t0))] [] (s_X4_many t0 M)
  unfold s_X4_many
  refine hr_aload_n X dX4_many_0 rfl ?_
  refine hr_gR X 3 hl_t0 hs_t0 lg_RX4_10 rfl dX4_many_1 (fun q1 hl_q1 hs_q1 => ?_)
  refine hr_ldc2 X dX4_many_4 (hf_c2 101 rfl rfl) ?_
  refine hr_cvJ X [.long (-1)] [] (c_X3_possible hl_q1 hs_q1 (-1) M) lk_RX4_167 rfl rfl rfl hl_q1 hs_q1 ⟨by decide, rfl⟩ (by decide) (Nat.le_of_ble_eq_true rfl) dX4_many_7 (fun r2 M3 _ => ?_)
  refine hr_csI X [.long r2] [] (c_J13_bitCount_95d88 r2 M3) lk_RX4_178 rfl rfl rfl (by decide) (Nat.le_of_ble_eq_true rfl) dX4_many_10 (fun r4 M5 _ => ?_)
  exact hr_iret X dX4_many_13
set_option maxRecDepth 100000 in
set_option maxHeartbeats 4000000 in
theorem c_X4_surety  (a0 : Int64) (a2 : Int32) (M : hf_M) : hf_CI yX4_surety cX4_surety 5 (some .int) (1) (fun g => [.long a0, .int a2]) M (s_X4_surety a0 a2 M) := by
  refine hf_metI (by decide +kernel) (fun g => Nat.le_of_ble_eq_true rfl) (fun g p l ev s m args below meth c X => ?_)
  have X : hf_X g p s m args meth c cX4_surety 5 RX4 (some .int) := X
  show hf_W g p l ev (1) s m args below meth c 5 (hf_QI g below args s) M 0 [some (.long a0), none, some (.int a2), none, none] [] (s_X4_surety a0 a2 M)
  unfold s_X4_surety
  refine hr_lload_n X dX4_surety_0 rfl ?_
  refine hr_gsSO X ls_RX4_59 dX4_surety_1 ?_
  refine hr_iload_n X dX4_surety_4 rfl ?_
  refine hr_ldSO X dX4_surety_5 (fun r1 _ _ => ?_)
  refine hr_land X dX4_surety_6 ?_
  refine hr_lconst X 0 dX4_surety_7 rfl ?_
  refine hr_lcmp X dX4_surety_8 ?_
  refine hr_if_eq X 16 dX4_surety_9 rfl ?_ ?_
  · refine hr_iconst X 0 dX4_surety_16 kc_0 ?_
    refine hr_istore_n X dX4_surety_17 (by decide) rfl ?_
    refine hr_lload_n X dX4_surety_18 rfl ?_
    refine hr_gsSO X ls_RX4_59 dX4_surety_19 ?_
    refine hr_iload_n X dX4_surety_22 rfl ?_
    refine hr_ldSO X dX4_surety_23 (fun r2 _ _ => ?_)
    refine hr_ldc2 X dX4_surety_24 (hf_c2 101 rfl rfl) ?_
    refine hr_lxor X dX4_surety_27 ?_
    refine hr_land X dX4_surety_28 ?_
    refine hr_lconst X 0 dX4_surety_29 rfl ?_
    refine hr_lcmp X dX4_surety_30 ?_
    refine hr_if_eq X 38 dX4_surety_31 rfl ?_ ?_
    · refine hr_iconst X 0 dX4_surety_38 kc_0 ?_
      refine hr_istore X dX4_surety_39 (by decide) rfl ?_
      refine hr_iload_n X dX4_surety_41 rfl ?_
      refine hr_iload X dX4_surety_42 rfl ?_
      refine hr_icmp_ne_F X 49 (by decide) dX4_surety_44 rfl ?_
      refine hr_iconst X (-1) dX4_surety_47 kc_m1 ?_
      exact hr_iret X dX4_surety_48
    · refine hr_iconst X 1 dX4_surety_34 kc_1 ?_
      refine hr_goto X 39 dX4_surety_35 rfl ?_
      refine hr_istore X dX4_surety_39 (by decide) rfl ?_
      refine hr_iload_n X dX4_surety_41 rfl ?_
      refine hr_iload X dX4_surety_42 rfl ?_
      refine hr_icmp_ne_T X 49 (by decide) dX4_surety_44 rfl ?_
      refine hr_iload_n X dX4_surety_49 rfl ?_
      refine hr_if_eq_T X 57 (by decide) dX4_surety_50 rfl ?_
      refine hr_iconst X 0 dX4_surety_57 kc_0 ?_
      exact hr_iret X dX4_surety_58
  · refine hr_iconst X 1 dX4_surety_12 kc_1 ?_
    refine hr_goto X 17 dX4_surety_13 rfl ?_
    refine hr_istore_n X dX4_surety_17 (by decide) rfl ?_
    refine hr_lload_n X dX4_surety_18 rfl ?_
    refine hr_gsSO X ls_RX4_59 dX4_surety_19 ?_
    refine hr_iload_n X dX4_surety_22 rfl ?_
    refine hr_ldSO X dX4_surety_23 (fun r3 _ _ => ?_)
    refine hr_ldc2 X dX4_surety_24 (hf_c2 101 rfl rfl) ?_
    refine hr_lxor X dX4_surety_27 ?_
    refine hr_land X dX4_surety_28 ?_
    refine hr_lconst X 0 dX4_surety_29 rfl ?_
    refine hr_lcmp X dX4_surety_30 ?_
    refine hr_if_eq X 38 dX4_surety_31 rfl ?_ ?_
    · refine hr_iconst X 0 dX4_surety_38 kc_0 ?_
      refine hr_istore X dX4_surety_39 (by decide) rfl ?_
      refine hr_iload_n X dX4_surety_41 rfl ?_
      refine hr_iload X dX4_surety_42 rfl ?_
      refine hr_icmp_ne_T X 49 (by decide) dX4_surety_44 rfl ?_
      refine hr_iload_n X dX4_surety_49 rfl ?_
      refine hr_if_eq_F X 57 (by decide) dX4_surety_50 rfl ?_
      refine hr_iconst X 1 dX4_surety_53 kc_1 ?_
      refine hr_goto X 58 dX4_surety_54 rfl ?_
      exact hr_iret X dX4_surety_58
    · refine hr_iconst X 1 dX4_surety_34 kc_1 ?_
      refine hr_goto X 39 dX4_surety_35 rfl ?_
      refine hr_istore X dX4_surety_39 (by decide) rfl ?_
      refine hr_iload_n X dX4_surety_41 rfl ?_
      refine hr_iload X dX4_surety_42 rfl ?_
      refine hr_icmp_ne_F X 49 (by decide) dX4_surety_44 rfl ?_
      refine hr_iconst X (-1) dX4_surety_47 kc_m1 ?_
      exact hr_iret X dX4_surety_48
set_option maxRecDepth 100000 in
set_option maxHeartbeats 4000000 in
theorem c_X4_sure  {t0 : Nat} (hl_t0 : t0 < 69) (hs_t0 : hf_shp t0 = 4) (a1 : Int32) (M : hf_M) : hf_CI yX4_sure cX4_sure 2 (some .int) (5) (fun g => [.ref (hf_a g t0), .int a1]) M (s_X4_sure t0 a1 M) := by
  refine hf_metI (by decide +kernel) (fun g => Nat.le_of_ble_eq_true rfl) (fun g p l ev s m args below meth c X => ?_)
  have X : hf_X g p s m args meth c cX4_sure 2 RX4 (some .int) := X
  show hf_W g p l ev (5) s m args below meth c 2 (hf_QI g below args s) M 0 [some (.ref (hf_a g t0)), some (.int a1)] [] (s_X4_sure t0 a1 M)
  unfold s_X4_sure
  refine hr_aload_n X dX4_sure_0 rfl ?_
  refine hr_gR X 3 hl_t0 hs_t0 lg_RX4_10 rfl dX4_sure_1 (fun q1 hl_q1 hs_q1 => ?_)
  refine hr_iload_n X dX4_sure_4 rfl ?_
  refine hr_cvI X [.int a1] [] (c_X3_isFact hl_q1 hs_q1 a1 M) lk_RX4_158 rfl rfl rfl hl_q1 hs_q1 ⟨by decide, rfl⟩ (by decide) (Nat.le_of_ble_eq_true rfl) dX4_sure_5 (fun r2 M3 _ => ?_)
  refine hr_if_ne X 19 dX4_sure_8 rfl ?_ ?_
  · refine hr_aload_n X dX4_sure_19 rfl ?_
    refine hr_gR X 3 hl_t0 hs_t0 lg_RX4_10 rfl dX4_sure_20 (fun q4 hl_q4 hs_q4 => ?_)
    refine hr_ldc2 X dX4_sure_23 (hf_c2 101 rfl rfl) ?_
    refine hr_cvJ X [.long (-1)] [] (c_X3_possible hl_q4 hs_q4 (-1) M3) lk_RX4_167 rfl rfl rfl hl_q4 hs_q4 ⟨by decide, rfl⟩ (by decide) (Nat.le_of_ble_eq_true rfl) dX4_sure_26 (fun r5 M6 _ => ?_)
    refine hr_iload_n X dX4_sure_29 rfl ?_
    refine hr_csI X [.long r5, .int a1] [] (c_X4_surety r5 a1 M6) lk_RX4_227 rfl rfl rfl (by decide) (Nat.le_of_ble_eq_true rfl) dX4_sure_30 (fun r7 M8 _ => ?_)
    exact hr_iret X dX4_sure_33
  · refine hr_aload_n X dX4_sure_11 rfl ?_
    refine hr_iconst X (-1) dX4_sure_12 kc_m1 ?_
    refine hr_bipush X (-11) dX4_sure_13 kb_m11 ?_
    refine hr_cvI X [.int (-1), .int (-11)] [] (c_X4_refuse_ hl_t0 hs_t0 (-1) (-11) M3) lk_RX4_55 rfl rfl rfl hl_t0 hs_t0 ⟨by decide, rfl⟩ (by decide) (Nat.le_of_ble_eq_true rfl) dX4_sure_15 (fun r9 M10 _ => ?_)
    exact hr_iret X dX4_sure_18
set_option maxRecDepth 100000 in
set_option maxHeartbeats 4000000 in
theorem w_X4_sures_16 {g : hf_G} {p : Program} {l : Launch} {ev : Env} {s : State} {m : MethodId} {args : Array Value} {below : List Frame} {meth : Method} {c : Code} (X : hf_X g p s m args meth c cX4_sures 5 RX4 (some .int))    {t0 : Nat} (hl_t0 : t0 < 69) (hs_t0 : hf_shp t0 = 4) (v1 : Int64) : ∀ (n : Nat) (v3 : Int32) (v4 : Int32) (M : hf_M), hf_W g p l ev (5) s m args below meth c 5 (hf_QI g below args s) M 16 [some (.ref (hf_a g t0)), some (.long v1), none, some (.int v3), some (.int v4)] [] (s_X4_sures_16 t0 v1 n v3 v4 M) := by
  intro n
  induction n with
  | zero =>
    intros
    exact hr_none
  | succ n ih =>
    intro v3 v4 M
    rw [s_X4_sures_16]
    refine hr_iload X dX4_sures_16 rfl ?_
    refine hr_aload_n X dX4_sures_18 rfl ?_
    refine hr_gR X 3 hl_t0 hs_t0 lg_RX4_10 rfl dX4_sures_19 (fun q1 hl_q1 hs_q1 => ?_)
    refine hr_gI X hl_q1 hs_q1 lg_RX4_133 dX4_sures_22 ?_
    refine hr_icmp_ge X 51 dX4_sures_25 rfl ?_ ?_
    · refine hr_iload_n X dX4_sures_51 rfl ?_
      exact hr_iret X dX4_sures_52
    · refine hr_lload_n X dX4_sures_28 rfl ?_
      refine hr_iload X dX4_sures_29 rfl ?_
      refine hr_csI X [.long v1, .int v4] [] (c_X4_surety v1 v4 M) lk_RX4_227 rfl rfl rfl (by decide) (Nat.le_of_ble_eq_true rfl) dX4_sures_31 (fun r2 M3 _ => ?_)
      refine hr_iconst X (-1) dX4_sures_34 kc_m1 ?_
      refine hr_icmp_eq X 45 dX4_sures_35 rfl ?_ ?_
      · refine hr_iinc X (v4 + 1) dX4_sures_45 rfl (by rw [kc_1]) (by decide) rfl ?_
        refine hr_goto X 16 dX4_sures_48 rfl ?_
        exact hr_wk (hs_some (hs_some (hs_none (hs_some (hs_some (hs_nil)))))) (ih v3 (v4 + 1) M3)
      · refine hr_iload_n X dX4_sures_38 rfl ?_
        refine hr_iconst X 1 dX4_sures_39 kc_1 ?_
        refine hr_iload X dX4_sures_40 rfl ?_
        refine hr_ishl X dX4_sures_42 ?_
        refine hr_ior X dX4_sures_43 ?_
        refine hr_istore_n X dX4_sures_44 (by decide) rfl ?_
        refine hr_iinc X (v4 + 1) dX4_sures_45 rfl (by rw [kc_1]) (by decide) rfl ?_
        refine hr_goto X 16 dX4_sures_48 rfl ?_
        exact hr_wk (hs_some (hs_some (hs_none (hs_some (hs_some (hs_nil)))))) (ih (v3 ||| (hn_ishl 1 v4)) (v4 + 1) M3)
set_option maxRecDepth 100000 in
set_option maxHeartbeats 4000000 in
theorem c_X4_sures  {t0 : Nat} (hl_t0 : t0 < 69) (hs_t0 : hf_shp t0 = 4) (M : hf_M) : hf_CI yX4_sures cX4_sures 5 (some .int) (5) (fun g => [.ref (hf_a g t0)]) M (s_X4_sures t0 M) := by
  refine hf_metI (by decide +kernel) (fun g => Nat.le_of_ble_eq_true rfl) (fun g p l ev s m args below meth c X => ?_)
  have X : hf_X g p s m args meth c cX4_sures 5 RX4 (some .int) := X
  show hf_W g p l ev (5) s m args below meth c 5 (hf_QI g below args s) M 0 [some (.ref (hf_a g t0)), none, none, none, none] [] (s_X4_sures t0 M)
  unfold s_X4_sures
  refine hr_aload_n X dX4_sures_0 rfl ?_
  refine hr_gR X 3 hl_t0 hs_t0 lg_RX4_10 rfl dX4_sures_1 (fun q1 hl_q1 hs_q1 => ?_)
  refine hr_ldc2 X dX4_sures_4 (hf_c2 101 rfl rfl) ?_
  refine hr_cvJ X [.long (-1)] [] (c_X3_possible hl_q1 hs_q1 (-1) M) lk_RX4_167 rfl rfl rfl hl_q1 hs_q1 ⟨by decide, rfl⟩ (by decide) (Nat.le_of_ble_eq_true rfl) dX4_sures_7 (fun r2 M3 _ => ?_)
  refine hr_lstore_n X dX4_sures_10 (by decide) rfl ?_
  refine hr_iconst X 0 dX4_sures_11 kc_0 ?_
  refine hr_istore_n X dX4_sures_12 (by decide) rfl ?_
  refine hr_iconst X 0 dX4_sures_13 kc_0 ?_
  refine hr_istore X dX4_sures_14 (by decide) rfl ?_
  exact hr_wk (hs_some (hs_some (hs_none (hs_some (hs_some (hs_nil)))))) (w_X4_sures_16 X hl_t0 hs_t0 r2 2000 0 0 M3)
set_option maxRecDepth 100000 in
set_option maxHeartbeats 4000000 in
theorem w_X4_shown_44 {g : hf_G} {p : Program} {l : Launch} {ev : Env} {s : State} {m : MethodId} {args : Array Value} {below : List Frame} {meth : Method} {c : Code} (X : hf_X g p s m args meth c cX4_shown 3 RX4 (some .int))    {t0 : Nat} (hl_t0 : t0 < 69) (hs_t0 : hf_shp t0 = 4) (v1 : Int32) : ∀ (n : Nat) (v2 : Int32) (M : hf_M), hf_W g p l ev (5) s m args below meth c 3 (hf_QI g below args s) M 44 [some (.ref (hf_a g t0)), some (.int v1), some (.int v2)] [] (s_X4_shown_44 t0 v1 n v2 M) := by
  intro n
  induction n with
  | zero =>
    intros
    exact hr_none
  | succ n ih =>
    intro v2 M
    rw [s_X4_shown_44]
    refine hr_iload_n X dX4_shown_44 rfl ?_
    refine hr_aload_n X dX4_shown_45 rfl ?_
    refine hr_gR X 3 hl_t0 hs_t0 lg_RX4_10 rfl dX4_shown_46 (fun q1 hl_q1 hs_q1 => ?_)
    refine hr_gI X hl_q1 hs_q1 lg_RX4_146 dX4_shown_49 ?_
    refine hr_icmp_ge X 83 dX4_shown_52 rfl ?_ ?_
    · refine hr_aload_n X dX4_shown_83 rfl ?_
      refine hr_gR X 3 hl_t0 hs_t0 lg_RX4_10 rfl dX4_shown_84 (fun q2 hl_q2 hs_q2 => ?_)
      refine hr_gI X hl_q2 hs_q2 lg_RX4_146 dX4_shown_87 ?_
      exact hr_iret X dX4_shown_90
    · refine hr_aload_n X dX4_shown_55 rfl ?_
      refine hr_gR X 3 hl_t0 hs_t0 lg_RX4_10 rfl dX4_shown_56 (fun q3 hl_q3 hs_q3 => ?_)
      refine hr_lconst X 1 dX4_shown_59 rfl ?_
      refine hr_iload_n X dX4_shown_60 rfl ?_
      refine hr_lshl X dX4_shown_61 ?_
      refine hr_lconst X 1 dX4_shown_62 rfl ?_
      refine hr_lsub X dX4_shown_63 ?_
      refine hr_cvJ X [.long ((hn_lshl 1 v2) - 1)] [] (c_X3_possible hl_q3 hs_q3 ((hn_lshl 1 v2) - 1) M) lk_RX4_167 rfl rfl rfl hl_q3 hs_q3 ⟨by decide, rfl⟩ (by decide) (Nat.le_of_ble_eq_true rfl) dX4_shown_64 (fun r4 M5 _ => ?_)
      refine hr_iload_n X dX4_shown_67 rfl ?_
      refine hr_csI X [.long r4, .int v1] [] (c_X4_surety r4 v1 M5) lk_RX4_227 rfl rfl rfl (by decide) (Nat.le_of_ble_eq_true rfl) dX4_shown_68 (fun r6 M7 _ => ?_)
      refine hr_iconst X (-1) dX4_shown_71 kc_m1 ?_
      refine hr_icmp_eq X 77 dX4_shown_72 rfl ?_ ?_
      · refine hr_iinc X (v2 + 1) dX4_shown_77 rfl (by rw [kc_1]) (by decide) rfl ?_
        refine hr_goto X 44 dX4_shown_80 rfl ?_
        exact hr_wk (hs_some (hs_some (hs_some (hs_nil)))) (ih (v2 + 1) M7)
      · refine hr_iload_n X dX4_shown_75 rfl ?_
        exact hr_iret X dX4_shown_76
set_option maxRecDepth 100000 in
set_option maxHeartbeats 4000000 in
theorem c_X4_shown  {t0 : Nat} (hl_t0 : t0 < 69) (hs_t0 : hf_shp t0 = 4) (a1 : Int32) (M : hf_M) : hf_CI yX4_shown cX4_shown 3 (some .int) (5) (fun g => [.ref (hf_a g t0), .int a1]) M (s_X4_shown t0 a1 M) := by
  refine hf_metI (by decide +kernel) (fun g => Nat.le_of_ble_eq_true rfl) (fun g p l ev s m args below meth c X => ?_)
  have X : hf_X g p s m args meth c cX4_shown 3 RX4 (some .int) := X
  show hf_W g p l ev (5) s m args below meth c 3 (hf_QI g below args s) M 0 [some (.ref (hf_a g t0)), some (.int a1), none] [] (s_X4_shown t0 a1 M)
  unfold s_X4_shown
  refine hr_aload_n X dX4_shown_0 rfl ?_
  refine hr_gR X 3 hl_t0 hs_t0 lg_RX4_10 rfl dX4_shown_1 (fun q1 hl_q1 hs_q1 => ?_)
  refine hr_iload_n X dX4_shown_4 rfl ?_
  refine hr_cvI X [.int a1] [] (c_X3_isFact hl_q1 hs_q1 a1 M) lk_RX4_158 rfl rfl rfl hl_q1 hs_q1 ⟨by decide, rfl⟩ (by decide) (Nat.le_of_ble_eq_true rfl) dX4_shown_5 (fun r2 M3 _ => ?_)
  refine hr_if_ne X 17 dX4_shown_8 rfl ?_ ?_
  · refine hr_aload_n X dX4_shown_17 rfl ?_
    refine hr_gR X 3 hl_t0 hs_t0 lg_RX4_10 rfl dX4_shown_18 (fun q4 hl_q4 hs_q4 => ?_)
    refine hr_ldc2 X dX4_shown_21 (hf_c2 101 rfl rfl) ?_
    refine hr_cvJ X [.long (-1)] [] (c_X3_possible hl_q4 hs_q4 (-1) M3) lk_RX4_167 rfl rfl rfl hl_q4 hs_q4 ⟨by decide, rfl⟩ (by decide) (Nat.le_of_ble_eq_true rfl) dX4_shown_24 (fun r5 M6 _ => ?_)
    refine hr_iload_n X dX4_shown_27 rfl ?_
    refine hr_csI X [.long r5, .int a1] [] (c_X4_surety r5 a1 M6) lk_RX4_227 rfl rfl rfl (by decide) (Nat.le_of_ble_eq_true rfl) dX4_shown_28 (fun r7 M8 _ => ?_)
    refine hr_iconst X (-1) dX4_shown_31 kc_m1 ?_
    refine hr_icmp_ne X 42 dX4_shown_32 rfl ?_ ?_
    · refine hr_iconst X 0 dX4_shown_42 kc_0 ?_
      refine hr_istore_n X dX4_shown_43 (by decide) rfl ?_
      exact hr_wk (hs_some (hs_some (hs_some (hs_nil)))) (w_X4_shown_44 X hl_t0 hs_t0 a1 2000 0 M8)
    · refine hr_aload_n X dX4_shown_35 rfl ?_
      refine hr_bipush X (-5) dX4_shown_36 kb_m5 ?_
      refine hr_cvI X [.int (-5)] [] (c_X4_refuse hl_t0 hs_t0 (-5) M8) lk_RX4_82 rfl rfl rfl hl_t0 hs_t0 ⟨by decide, rfl⟩ (by decide) (Nat.le_of_ble_eq_true rfl) dX4_shown_38 (fun r9 M10 _ => ?_)
      exact hr_iret X dX4_shown_41
  · refine hr_aload_n X dX4_shown_11 rfl ?_
    refine hr_iconst X (-1) dX4_shown_12 kc_m1 ?_
    refine hr_cvI X [.int (-1)] [] (c_X4_refuse hl_t0 hs_t0 (-1) M3) lk_RX4_82 rfl rfl rfl hl_t0 hs_t0 ⟨by decide, rfl⟩ (by decide) (Nat.le_of_ble_eq_true rfl) dX4_shown_13 (fun r11 M12 _ => ?_)
    exact hr_iret X dX4_shown_16
set_option maxRecDepth 100000 in
set_option maxHeartbeats 4000000 in
theorem c_J6_bitCount_0f7a4  (a0 : Int32) (M : hf_M) : hf_CI yJ6_bitCount_0f7a4 cJ6_bitCount_0f7a4 1 (some .int) (1) (fun g => [.int a0]) M (s_J6_bitCount_0f7a4 a0 M) := by
  refine hf_metI (by decide +kernel) (fun g => Nat.le_of_ble_eq_true rfl) (fun g p l ev s m args below meth c X => ?_)
  have X : hf_X g p s m args meth c cJ6_bitCount_0f7a4 1 RJ6 (some .int) := X
  show hf_W g p l ev (1) s m args below meth c 1 (hf_QI g below args s) M 0 [some (.int a0)] [] (s_J6_bitCount_0f7a4 a0 M)
  unfold s_J6_bitCount_0f7a4
  refine hr_iload_n X dJ6_bitCount_0f7a4_0 rfl ?_
  refine hr_iload_n X dJ6_bitCount_0f7a4_1 rfl ?_
  refine hr_iconst X 1 dJ6_bitCount_0f7a4_2 kc_1 ?_
  refine hr_iushr X dJ6_bitCount_0f7a4_3 ?_
  refine hr_ldc_w X dJ6_bitCount_0f7a4_4 (hf_c3 118 rfl rfl) ?_
  refine hr_iand X dJ6_bitCount_0f7a4_7 ?_
  refine hr_isub X dJ6_bitCount_0f7a4_8 ?_
  refine hr_istore_n X dJ6_bitCount_0f7a4_9 (by decide) rfl ?_
  refine hr_iload_n X dJ6_bitCount_0f7a4_10 rfl ?_
  refine hr_ldc_w X dJ6_bitCount_0f7a4_11 (hf_c3 119 rfl rfl) ?_
  refine hr_iand X dJ6_bitCount_0f7a4_14 ?_
  refine hr_iload_n X dJ6_bitCount_0f7a4_15 rfl ?_
  refine hr_iconst X 2 dJ6_bitCount_0f7a4_16 kc_2 ?_
  refine hr_iushr X dJ6_bitCount_0f7a4_17 ?_
  refine hr_ldc_w X dJ6_bitCount_0f7a4_18 (hf_c3 119 rfl rfl) ?_
  refine hr_iand X dJ6_bitCount_0f7a4_21 ?_
  refine hr_iadd X dJ6_bitCount_0f7a4_22 ?_
  refine hr_istore_n X dJ6_bitCount_0f7a4_23 (by decide) rfl ?_
  refine hr_iload_n X dJ6_bitCount_0f7a4_24 rfl ?_
  refine hr_iload_n X dJ6_bitCount_0f7a4_25 rfl ?_
  refine hr_iconst X 4 dJ6_bitCount_0f7a4_26 kc_4 ?_
  refine hr_iushr X dJ6_bitCount_0f7a4_27 ?_
  refine hr_iadd X dJ6_bitCount_0f7a4_28 ?_
  refine hr_ldc_w X dJ6_bitCount_0f7a4_29 (hf_c3 120 rfl rfl) ?_
  refine hr_iand X dJ6_bitCount_0f7a4_32 ?_
  refine hr_istore_n X dJ6_bitCount_0f7a4_33 (by decide) rfl ?_
  refine hr_iload_n X dJ6_bitCount_0f7a4_34 rfl ?_
  refine hr_iload_n X dJ6_bitCount_0f7a4_35 rfl ?_
  refine hr_bipush X 8 dJ6_bitCount_0f7a4_36 kb_8 ?_
  refine hr_iushr X dJ6_bitCount_0f7a4_38 ?_
  refine hr_iadd X dJ6_bitCount_0f7a4_39 ?_
  refine hr_istore_n X dJ6_bitCount_0f7a4_40 (by decide) rfl ?_
  refine hr_iload_n X dJ6_bitCount_0f7a4_41 rfl ?_
  refine hr_iload_n X dJ6_bitCount_0f7a4_42 rfl ?_
  refine hr_bipush X 16 dJ6_bitCount_0f7a4_43 kb_16 ?_
  refine hr_iushr X dJ6_bitCount_0f7a4_45 ?_
  refine hr_iadd X dJ6_bitCount_0f7a4_46 ?_
  refine hr_istore_n X dJ6_bitCount_0f7a4_47 (by decide) rfl ?_
  refine hr_iload_n X dJ6_bitCount_0f7a4_48 rfl ?_
  refine hr_bipush X 63 dJ6_bitCount_0f7a4_49 kb_63 ?_
  refine hr_iand X dJ6_bitCount_0f7a4_51 ?_
  exact hr_iret X dJ6_bitCount_0f7a4_52
set_option maxRecDepth 100000 in
set_option maxHeartbeats 4000000 in
theorem w_X4_proof_74 {g : hf_G} {p : Program} {l : Launch} {ev : Env} {s : State} {m : MethodId} {args : Array Value} {below : List Frame} {meth : Method} {c : Code} (X : hf_X g p s m args meth c cX4_proof 6 RX4 (some .int))    {t0 : Nat} (hl_t0 : t0 < 69) (hs_t0 : hf_shp t0 = 4) (v1 : Int32) (v2 : Int32) : ∀ (n : Nat) (v3 : Int32) (v4 : Int32) (M : hf_M), hf_W g p l ev (5) s m args below meth c 6 (hf_QI g below args s) M 74 [some (.ref (hf_a g t0)), some (.int v1), some (.int v2), some (.int v3), some (.int v4), none] [] (s_X4_proof_74 t0 v1 v2 n v3 v4 M) := by
  intro n
  induction n with
  | zero =>
    intros
    exact hr_none
  | succ n ih =>
    intro v3 v4 M
    rw [s_X4_proof_74]
    refine hr_iload X dX4_proof_74 rfl ?_
    refine hr_iconst X 1 dX4_proof_76 kc_1 ?_
    refine hr_aload_n X dX4_proof_77 rfl ?_
    refine hr_gR X 3 hl_t0 hs_t0 lg_RX4_10 rfl dX4_proof_78 (fun q1 hl_q1 hs_q1 => ?_)
    refine hr_gI X hl_q1 hs_q1 lg_RX4_146 dX4_proof_81 ?_
    refine hr_ishl X dX4_proof_84 ?_
    refine hr_icmp_ge X 128 dX4_proof_85 rfl ?_ ?_
    · refine hr_iload_n X dX4_proof_128 rfl ?_
      exact hr_iret X dX4_proof_129
    · refine hr_iload X dX4_proof_88 rfl ?_
      refine hr_csI X [.int v4] [] (c_J6_bitCount_0f7a4 v4 M) lk_RX4_230 rfl rfl rfl (by decide) (Nat.le_of_ble_eq_true rfl) dX4_proof_90 (fun r2 M3 _ => ?_)
      refine hr_istore X dX4_proof_93 (by decide) rfl ?_
      refine hr_iload X dX4_proof_95 rfl ?_
      refine hr_iload_n X dX4_proof_97 rfl ?_
      refine hr_icmp_ge X 122 dX4_proof_98 rfl ?_ ?_
      · refine hr_iinc X (v4 + 1) dX4_proof_122 rfl (by rw [kc_1]) (by decide) rfl ?_
        refine hr_goto X 74 dX4_proof_125 rfl ?_
        exact hr_wk (hs_some (hs_some (hs_some (hs_some (hs_some (hs_none (hs_nil))))))) (ih v3 (v4 + 1) M3)
      · refine hr_aload_n X dX4_proof_101 rfl ?_
        refine hr_gR X 3 hl_t0 hs_t0 lg_RX4_10 rfl dX4_proof_102 (fun q4 hl_q4 hs_q4 => ?_)
        refine hr_iload X dX4_proof_105 rfl ?_
        refine hr_i2l X dX4_proof_107 ?_
        refine hr_cvJ X [.long v4.toInt64] [] (c_X3_possible hl_q4 hs_q4 v4.toInt64 M3) lk_RX4_167 rfl rfl rfl hl_q4 hs_q4 ⟨by decide, rfl⟩ (by decide) (Nat.le_of_ble_eq_true rfl) dX4_proof_108 (fun r5 M6 _ => ?_)
        refine hr_iload_n X dX4_proof_111 rfl ?_
        refine hr_csI X [.long r5, .int v1] [] (c_X4_surety r5 v1 M6) lk_RX4_227 rfl rfl rfl (by decide) (Nat.le_of_ble_eq_true rfl) dX4_proof_112 (fun r7 M8 _ => ?_)
        refine hr_iload_n X dX4_proof_115 rfl ?_
        refine hr_icmp_ne X 122 dX4_proof_116 rfl ?_ ?_
        · refine hr_iinc X (v4 + 1) dX4_proof_122 rfl (by rw [kc_1]) (by decide) rfl ?_
          refine hr_goto X 74 dX4_proof_125 rfl ?_
          exact hr_wk (hs_some (hs_some (hs_some (hs_some (hs_some (hs_none (hs_nil))))))) (ih v3 (v4 + 1) M8)
        · refine hr_iload X dX4_proof_119 rfl ?_
          refine hr_istore_n X dX4_proof_121 (by decide) rfl ?_
          refine hr_iinc X (v4 + 1) dX4_proof_122 rfl (by rw [kc_1]) (by decide) rfl ?_
          refine hr_goto X 74 dX4_proof_125 rfl ?_
          exact hr_wk (hs_some (hs_some (hs_some (hs_some (hs_some (hs_none (hs_nil))))))) (ih r2 (v4 + 1) M8)
set_option maxRecDepth 100000 in
set_option maxHeartbeats 4000000 in
theorem c_X4_proof  {t0 : Nat} (hl_t0 : t0 < 69) (hs_t0 : hf_shp t0 = 4) (a1 : Int32) (M : hf_M) : hf_CI yX4_proof cX4_proof 6 (some .int) (5) (fun g => [.ref (hf_a g t0), .int a1]) M (s_X4_proof t0 a1 M) := by
  refine hf_metI (by decide +kernel) (fun g => Nat.le_of_ble_eq_true rfl) (fun g p l ev s m args below meth c X => ?_)
  have X : hf_X g p s m args meth c cX4_proof 6 RX4 (some .int) := X
  show hf_W g p l ev (5) s m args below meth c 6 (hf_QI g below args s) M 0 [some (.ref (hf_a g t0)), some (.int a1), none, none, none, none] [] (s_X4_proof t0 a1 M)
  unfold s_X4_proof
  refine hr_aload_n X dX4_proof_0 rfl ?_
  refine hr_gR X 3 hl_t0 hs_t0 lg_RX4_10 rfl dX4_proof_1 (fun q1 hl_q1 hs_q1 => ?_)
  refine hr_iload_n X dX4_proof_4 rfl ?_
  refine hr_cvI X [.int a1] [] (c_X3_isFact hl_q1 hs_q1 a1 M) lk_RX4_158 rfl rfl rfl hl_q1 hs_q1 ⟨by decide, rfl⟩ (by decide) (Nat.le_of_ble_eq_true rfl) dX4_proof_5 (fun r2 M3 _ => ?_)
  refine hr_if_ne X 17 dX4_proof_8 rfl ?_ ?_
  · refine hr_aload_n X dX4_proof_17 rfl ?_
    refine hr_gR X 3 hl_t0 hs_t0 lg_RX4_10 rfl dX4_proof_18 (fun q4 hl_q4 hs_q4 => ?_)
    refine hr_ldc2 X dX4_proof_21 (hf_c2 101 rfl rfl) ?_
    refine hr_cvJ X [.long (-1)] [] (c_X3_possible hl_q4 hs_q4 (-1) M3) lk_RX4_167 rfl rfl rfl hl_q4 hs_q4 ⟨by decide, rfl⟩ (by decide) (Nat.le_of_ble_eq_true rfl) dX4_proof_24 (fun r5 M6 _ => ?_)
    refine hr_iload_n X dX4_proof_27 rfl ?_
    refine hr_csI X [.long r5, .int a1] [] (c_X4_surety r5 a1 M6) lk_RX4_227 rfl rfl rfl (by decide) (Nat.le_of_ble_eq_true rfl) dX4_proof_28 (fun r7 M8 _ => ?_)
    refine hr_istore_n X dX4_proof_31 (by decide) rfl ?_
    refine hr_iload_n X dX4_proof_32 rfl ?_
    refine hr_iconst X (-1) dX4_proof_33 kc_m1 ?_
    refine hr_icmp_ne X 44 dX4_proof_34 rfl ?_ ?_
    · refine hr_aload_n X dX4_proof_44 rfl ?_
      refine hr_gR X 3 hl_t0 hs_t0 lg_RX4_10 rfl dX4_proof_45 (fun q9 hl_q9 hs_q9 => ?_)
      refine hr_gI X hl_q9 hs_q9 lg_RX4_146 dX4_proof_48 ?_
      refine hr_bipush X 10 dX4_proof_51 kb_10 ?_
      refine hr_icmp_le X 63 dX4_proof_53 rfl ?_ ?_
      · refine hr_aload_n X dX4_proof_63 rfl ?_
        refine hr_gR X 3 hl_t0 hs_t0 lg_RX4_10 rfl dX4_proof_64 (fun q10 hl_q10 hs_q10 => ?_)
        refine hr_gI X hl_q10 hs_q10 lg_RX4_146 dX4_proof_67 ?_
        refine hr_istore_n X dX4_proof_70 (by decide) rfl ?_
        refine hr_iconst X 0 dX4_proof_71 kc_0 ?_
        refine hr_istore X dX4_proof_72 (by decide) rfl ?_
        exact hr_wk (hs_some (hs_some (hs_some (hs_some (hs_some (hs_none (hs_nil))))))) (w_X4_proof_74 X hl_t0 hs_t0 a1 r7 2000 (M8.1 q10 10) 0 M8)
      · refine hr_aload_n X dX4_proof_56 rfl ?_
        refine hr_bipush X (-7) dX4_proof_57 kb_m7 ?_
        refine hr_cvI X [.int (-7)] [] (c_X4_refuse hl_t0 hs_t0 (-7) M8) lk_RX4_82 rfl rfl rfl hl_t0 hs_t0 ⟨by decide, rfl⟩ (by decide) (Nat.le_of_ble_eq_true rfl) dX4_proof_59 (fun r11 M12 _ => ?_)
        exact hr_iret X dX4_proof_62
    · refine hr_aload_n X dX4_proof_37 rfl ?_
      refine hr_bipush X (-5) dX4_proof_38 kb_m5 ?_
      refine hr_cvI X [.int (-5)] [] (c_X4_refuse hl_t0 hs_t0 (-5) M8) lk_RX4_82 rfl rfl rfl hl_t0 hs_t0 ⟨by decide, rfl⟩ (by decide) (Nat.le_of_ble_eq_true rfl) dX4_proof_40 (fun r13 M14 _ => ?_)
      exact hr_iret X dX4_proof_43
  · refine hr_aload_n X dX4_proof_11 rfl ?_
    refine hr_iconst X (-1) dX4_proof_12 kc_m1 ?_
    refine hr_cvI X [.int (-1)] [] (c_X4_refuse hl_t0 hs_t0 (-1) M3) lk_RX4_82 rfl rfl rfl hl_t0 hs_t0 ⟨by decide, rfl⟩ (by decide) (Nat.le_of_ble_eq_true rfl) dX4_proof_13 (fun r15 M16 _ => ?_)
    exact hr_iret X dX4_proof_16
set_option maxRecDepth 100000 in
set_option maxHeartbeats 4000000 in
theorem c_X4_worstOf  {t0 : Nat} (hl_t0 : t0 < 69) (hs_t0 : hf_shp t0 = 4) (a1 : Int32) (a2 : Int32) (a3 : Int64) (M : hf_M) : hf_CI yX4_worstOf cX4_worstOf 7 (some .int) (5) (fun g => [.ref (hf_a g t0), .int a1, .int a2, .long a3]) M (s_X4_worstOf t0 a1 a2 a3 M) := by
  refine hf_metI (by decide +kernel) (fun g => Nat.le_of_ble_eq_true rfl) (fun g p l ev s m args below meth c X => ?_)
  have X : hf_X g p s m args meth c cX4_worstOf 7 RX4 (some .int) := X
  show hf_W g p l ev (5) s m args below meth c 7 (hf_QI g below args s) M 0 [some (.ref (hf_a g t0)), some (.int a1), some (.int a2), some (.long a3), none, none, none] [] (s_X4_worstOf t0 a1 a2 a3 M)
  unfold s_X4_worstOf
  refine hr_aload_n X dX4_worstOf_0 rfl ?_
  refine hr_gR X 3 hl_t0 hs_t0 lg_RX4_10 rfl dX4_worstOf_1 (fun q1 hl_q1 hs_q1 => ?_)
  refine hr_iload_n X dX4_worstOf_4 rfl ?_
  refine hr_iload_n X dX4_worstOf_5 rfl ?_
  refine hr_iconst X 1 dX4_worstOf_6 kc_1 ?_
  refine hr_lload_n X dX4_worstOf_7 rfl ?_
  refine hr_cvJ X [.int a1, .int a2, .int 1, .long a3] [] (c_X3_after hl_q1 hs_q1 a1 a2 1 a3 M) lk_RX4_171 rfl rfl rfl hl_q1 hs_q1 ⟨by decide, rfl⟩ (by decide) (Nat.le_of_ble_eq_true rfl) dX4_worstOf_8 (fun r2 M3 _ => ?_)
  refine hr_csI X [.long r2] [] (c_J13_bitCount_95d88 r2 M3) lk_RX4_178 rfl rfl rfl (by decide) (Nat.le_of_ble_eq_true rfl) dX4_worstOf_11 (fun r4 M5 _ => ?_)
  refine hr_istore X dX4_worstOf_14 (by decide) rfl ?_
  refine hr_aload_n X dX4_worstOf_16 rfl ?_
  refine hr_gR X 3 hl_t0 hs_t0 lg_RX4_10 rfl dX4_worstOf_17 (fun q6 hl_q6 hs_q6 => ?_)
  refine hr_iload_n X dX4_worstOf_20 rfl ?_
  refine hr_iload_n X dX4_worstOf_21 rfl ?_
  refine hr_iconst X 0 dX4_worstOf_22 kc_0 ?_
  refine hr_lload_n X dX4_worstOf_23 rfl ?_
  refine hr_cvJ X [.int a1, .int a2, .int 0, .long a3] [] (c_X3_after hl_q6 hs_q6 a1 a2 0 a3 M5) lk_RX4_171 rfl rfl rfl hl_q6 hs_q6 ⟨by decide, rfl⟩ (by decide) (Nat.le_of_ble_eq_true rfl) dX4_worstOf_24 (fun r7 M8 _ => ?_)
  refine hr_csI X [.long r7] [] (c_J13_bitCount_95d88 r7 M8) lk_RX4_178 rfl rfl rfl (by decide) (Nat.le_of_ble_eq_true rfl) dX4_worstOf_27 (fun r9 M10 _ => ?_)
  refine hr_istore X dX4_worstOf_30 (by decide) rfl ?_
  refine hr_iload X dX4_worstOf_32 rfl ?_
  refine hr_iload X dX4_worstOf_34 rfl ?_
  refine hr_mmax X (hf_c3 129 rfl rfl) (hf_c2 120 rfl rfl) (hf_c1 7 rfl rfl) (hf_c2 121 rfl rfl) (by decide) (Nat.le_of_ble_eq_true rfl) dX4_worstOf_36 ?_
  exact hr_iret X dX4_worstOf_39
set_option maxRecDepth 100000 in
set_option maxHeartbeats 4000000 in
theorem c_X4_worst  {t0 : Nat} (hl_t0 : t0 < 69) (hs_t0 : hf_shp t0 = 4) (a1 : Int32) (a2 : Int32) (M : hf_M) : hf_CI yX4_worst cX4_worst 3 (some .int) (6) (fun g => [.ref (hf_a g t0), .int a1, .int a2]) M (s_X4_worst t0 a1 a2 M) := by
  refine hf_metI (by decide +kernel) (fun g => Nat.le_of_ble_eq_true rfl) (fun g p l ev s m args below meth c X => ?_)
  have X : hf_X g p s m args meth c cX4_worst 3 RX4 (some .int) := X
  show hf_W g p l ev (6) s m args below meth c 3 (hf_QI g below args s) M 0 [some (.ref (hf_a g t0)), some (.int a1), some (.int a2)] [] (s_X4_worst t0 a1 a2 M)
  unfold s_X4_worst
  refine hr_aload_n X dX4_worst_0 rfl ?_
  refine hr_gR X 3 hl_t0 hs_t0 lg_RX4_10 rfl dX4_worst_1 (fun q1 hl_q1 hs_q1 => ?_)
  refine hr_iload_n X dX4_worst_4 rfl ?_
  refine hr_cvI X [.int a1] [] (c_X3_isSpeaker hl_q1 hs_q1 a1 M) lk_RX4_119 rfl rfl rfl hl_q1 hs_q1 ⟨by decide, rfl⟩ (by decide) (Nat.le_of_ble_eq_true rfl) dX4_worst_5 (fun r2 M3 _ => ?_)
  refine hr_if_eq X 22 dX4_worst_8 rfl ?_ ?_
  · refine hr_aload_n X dX4_worst_22 rfl ?_
    refine hr_iconst X (-1) dX4_worst_23 kc_m1 ?_
    refine hr_cvI X [.int (-1)] [] (c_X4_refuse hl_t0 hs_t0 (-1) M3) lk_RX4_82 rfl rfl rfl hl_t0 hs_t0 ⟨by decide, rfl⟩ (by decide) (Nat.le_of_ble_eq_true rfl) dX4_worst_24 (fun r4 M5 _ => ?_)
    exact hr_iret X dX4_worst_27
  · refine hr_aload_n X dX4_worst_11 rfl ?_
    refine hr_gR X 3 hl_t0 hs_t0 lg_RX4_10 rfl dX4_worst_12 (fun q6 hl_q6 hs_q6 => ?_)
    refine hr_iload_n X dX4_worst_15 rfl ?_
    refine hr_cvI X [.int a2] [] (c_X3_isFact hl_q6 hs_q6 a2 M3) lk_RX4_158 rfl rfl rfl hl_q6 hs_q6 ⟨by decide, rfl⟩ (by decide) (Nat.le_of_ble_eq_true rfl) dX4_worst_16 (fun r7 M8 _ => ?_)
    refine hr_if_ne X 28 dX4_worst_19 rfl ?_ ?_
    · refine hr_aload_n X dX4_worst_28 rfl ?_
      refine hr_gR X 3 hl_t0 hs_t0 lg_RX4_10 rfl dX4_worst_29 (fun q9 hl_q9 hs_q9 => ?_)
      refine hr_iload_n X dX4_worst_32 rfl ?_
      refine hr_cvI X [.int a1] [] (c_X3_isFull hl_q9 hs_q9 a1 M8) lk_RX4_164 rfl rfl rfl hl_q9 hs_q9 ⟨by decide, rfl⟩ (by decide) (Nat.le_of_ble_eq_true rfl) dX4_worst_33 (fun r10 M11 _ => ?_)
      refine hr_if_eq X 46 dX4_worst_36 rfl ?_ ?_
      · refine hr_aload_n X dX4_worst_46 rfl ?_
        refine hr_iload_n X dX4_worst_47 rfl ?_
        refine hr_iload_n X dX4_worst_48 rfl ?_
        refine hr_aload_n X dX4_worst_49 rfl ?_
        refine hr_gR X 3 hl_t0 hs_t0 lg_RX4_10 rfl dX4_worst_50 (fun q12 hl_q12 hs_q12 => ?_)
        refine hr_ldc2 X dX4_worst_53 (hf_c2 101 rfl rfl) ?_
        refine hr_cvJ X [.long (-1)] [.int a2, .int a1, .ref (hf_a g t0)] (c_X3_possible hl_q12 hs_q12 (-1) M11) lk_RX4_167 rfl rfl rfl hl_q12 hs_q12 ⟨by decide, rfl⟩ (by decide) (Nat.le_of_ble_eq_true rfl) dX4_worst_56 (fun r13 M14 _ => ?_)
        refine hr_cvI X [.int a1, .int a2, .long r13] [] (c_X4_worstOf hl_t0 hs_t0 a1 a2 r13 M14) lk_RX4_234 rfl rfl rfl hl_t0 hs_t0 ⟨by decide, rfl⟩ (by decide) (Nat.le_of_ble_eq_true rfl) dX4_worst_59 (fun r15 M16 _ => ?_)
        exact hr_iret X dX4_worst_62
      · refine hr_aload_n X dX4_worst_39 rfl ?_
        refine hr_bipush X (-6) dX4_worst_40 kb_m6 ?_
        refine hr_cvI X [.int (-6)] [] (c_X4_refuse hl_t0 hs_t0 (-6) M11) lk_RX4_82 rfl rfl rfl hl_t0 hs_t0 ⟨by decide, rfl⟩ (by decide) (Nat.le_of_ble_eq_true rfl) dX4_worst_42 (fun r17 M18 _ => ?_)
        exact hr_iret X dX4_worst_45
    · refine hr_aload_n X dX4_worst_22 rfl ?_
      refine hr_iconst X (-1) dX4_worst_23 kc_m1 ?_
      refine hr_cvI X [.int (-1)] [] (c_X4_refuse hl_t0 hs_t0 (-1) M8) lk_RX4_82 rfl rfl rfl hl_t0 hs_t0 ⟨by decide, rfl⟩ (by decide) (Nat.le_of_ble_eq_true rfl) dX4_worst_24 (fun r19 M20 _ => ?_)
      exact hr_iret X dX4_worst_27
set_option maxRecDepth 100000 in
set_option maxHeartbeats 4000000 in
theorem w_X4_next_34 {g : hf_G} {p : Program} {l : Launch} {ev : Env} {s : State} {m : MethodId} {args : Array Value} {below : List Frame} {meth : Method} {c : Code} (X : hf_X g p s m args meth c cX4_next 8 RX4 (some .int))  {t0 : Nat} (hl_t0 : t0 < 69) (hs_t0 : hf_shp t0 = 4) (v1 : Int64) (k19 : Int32 → Int32 → Int32 → hf_M → Option (Int32 × hf_M)) (hk19 : ∀ (v3 : Int32) (v4 : Int32) (v5 : Int32) (M : hf_M), hf_W g p l ev (6) s m args below meth c 8 (hf_QI g below args s) M 19 [some (.ref (hf_a g t0)), some (.long v1), none, some (.int v3), some (.int v4), some (.int v5), none, none] [] (k19 v3 v4 v5 M)) (v5 : Int32) : ∀ (n : Nat) (v3 : Int32) (v4 : Int32) (v6 : Int32) (M : hf_M), hf_W g p l ev (6) s m args below meth c 8 (hf_QI g below args s) M 34 [some (.ref (hf_a g t0)), some (.long v1), none, some (.int v3), some (.int v4), some (.int v5), some (.int v6), none] [] (s_X4_next_34 k19 t0 v1 v5 n v3 v4 v6 M) := by
  intro n
  induction n with
  | zero =>
    intros
    exact hr_none
  | succ n ih =>
    intro v3 v4 v6 M
    rw [s_X4_next_34]
    refine hr_iload X dX4_next_34 rfl ?_
    refine hr_aload_n X dX4_next_36 rfl ?_
    refine hr_gR X 3 hl_t0 hs_t0 lg_RX4_10 rfl dX4_next_37 (fun q1 hl_q1 hs_q1 => ?_)
    refine hr_gI X hl_q1 hs_q1 lg_RX4_133 dX4_next_40 ?_
    refine hr_icmp_ge X 100 dX4_next_43 rfl ?_ ?_
    · refine hr_iinc X (v5 + 1) dX4_next_100 rfl (by rw [kc_1]) (by decide) rfl ?_
      refine hr_goto X 19 dX4_next_103 rfl ?_
      exact hr_wk (hs_some (hs_some (hs_none (hs_some (hs_some (hs_some (hs_none (hs_none (hs_nil))))))))) (hk19 v3 v4 (v5 + 1) M)
    · refine hr_aload_n X dX4_next_46 rfl ?_
      refine hr_gR X 3 hl_t0 hs_t0 lg_RX4_10 rfl dX4_next_47 (fun q2 hl_q2 hs_q2 => ?_)
      refine hr_iload X dX4_next_50 rfl ?_
      refine hr_cvI X [.int v5] [] (c_X3_isFull hl_q2 hs_q2 v5 M) lk_RX4_164 rfl rfl rfl hl_q2 hs_q2 ⟨by decide, rfl⟩ (by decide) (Nat.le_of_ble_eq_true rfl) dX4_next_52 (fun r3 M4 _ => ?_)
      refine hr_if_ne X 100 dX4_next_55 rfl ?_ ?_
      · refine hr_iinc X (v5 + 1) dX4_next_100 rfl (by rw [kc_1]) (by decide) rfl ?_
        refine hr_goto X 19 dX4_next_103 rfl ?_
        exact hr_wk (hs_some (hs_some (hs_none (hs_some (hs_some (hs_some (hs_none (hs_none (hs_nil))))))))) (hk19 v3 v4 (v5 + 1) M4)
      · refine hr_aload_n X dX4_next_58 rfl ?_
        refine hr_iload X dX4_next_59 rfl ?_
        refine hr_iload X dX4_next_61 rfl ?_
        refine hr_lload_n X dX4_next_63 rfl ?_
        refine hr_cvI X [.int v5, .int v6, .long v1] [] (c_X4_worstOf hl_t0 hs_t0 v5 v6 v1 M4) lk_RX4_234 rfl rfl rfl hl_t0 hs_t0 ⟨by decide, rfl⟩ (by decide) (Nat.le_of_ble_eq_true rfl) dX4_next_64 (fun r5 M6 _ => ?_)
        refine hr_istore X dX4_next_67 (by decide) rfl ?_
        refine hr_iload_n X dX4_next_69 rfl ?_
        refine hr_iconst X (-1) dX4_next_70 kc_m1 ?_
        refine hr_icmp_eq X 81 dX4_next_71 rfl ?_ ?_
        · refine hr_bipush X 10 dX4_next_81 kb_10 ?_
          refine hr_iload X dX4_next_83 rfl ?_
          refine hr_imul X dX4_next_85 ?_
          refine hr_iload X dX4_next_86 rfl ?_
          refine hr_iadd X dX4_next_88 ?_
          refine hr_istore_n X dX4_next_89 (by decide) rfl ?_
          refine hr_iload X dX4_next_90 rfl ?_
          refine hr_istore X dX4_next_92 (by decide) rfl ?_
          refine hr_iinc X (v6 + 1) dX4_next_94 rfl (by rw [kc_1]) (by decide) rfl ?_
          refine hr_goto X 34 dX4_next_97 rfl ?_
          exact hr_wk (hs_some (hs_some (hs_none (hs_some (hs_some (hs_some (hs_some (hs_none (hs_nil))))))))) (ih ((10 * v5) + v6) r5 (v6 + 1) M6)
        · refine hr_iload X dX4_next_74 rfl ?_
          refine hr_iload X dX4_next_76 rfl ?_
          refine hr_icmp_ge X 94 dX4_next_78 rfl ?_ ?_
          · refine hr_iinc X (v6 + 1) dX4_next_94 rfl (by rw [kc_1]) (by decide) rfl ?_
            refine hr_goto X 34 dX4_next_97 rfl ?_
            exact hr_wk (hs_some (hs_some (hs_none (hs_some (hs_some (hs_some (hs_some (hs_none (hs_nil))))))))) (ih v3 v4 (v6 + 1) M6)
          · refine hr_bipush X 10 dX4_next_81 kb_10 ?_
            refine hr_iload X dX4_next_83 rfl ?_
            refine hr_imul X dX4_next_85 ?_
            refine hr_iload X dX4_next_86 rfl ?_
            refine hr_iadd X dX4_next_88 ?_
            refine hr_istore_n X dX4_next_89 (by decide) rfl ?_
            refine hr_iload X dX4_next_90 rfl ?_
            refine hr_istore X dX4_next_92 (by decide) rfl ?_
            refine hr_iinc X (v6 + 1) dX4_next_94 rfl (by rw [kc_1]) (by decide) rfl ?_
            refine hr_goto X 34 dX4_next_97 rfl ?_
            exact hr_wk (hs_some (hs_some (hs_none (hs_some (hs_some (hs_some (hs_some (hs_none (hs_nil))))))))) (ih ((10 * v5) + v6) r5 (v6 + 1) M6)
set_option maxRecDepth 100000 in
set_option maxHeartbeats 4000000 in
theorem w_X4_next_19 {g : hf_G} {p : Program} {l : Launch} {ev : Env} {s : State} {m : MethodId} {args : Array Value} {below : List Frame} {meth : Method} {c : Code} (X : hf_X g p s m args meth c cX4_next 8 RX4 (some .int))    {t0 : Nat} (hl_t0 : t0 < 69) (hs_t0 : hf_shp t0 = 4) (v1 : Int64) : ∀ (n : Nat) (v3 : Int32) (v4 : Int32) (v5 : Int32) (M : hf_M), hf_W g p l ev (6) s m args below meth c 8 (hf_QI g below args s) M 19 [some (.ref (hf_a g t0)), some (.long v1), none, some (.int v3), some (.int v4), some (.int v5), none, none] [] (s_X4_next_19 t0 v1 n v3 v4 v5 M) := by
  intro n
  induction n with
  | zero =>
    intros
    exact hr_none
  | succ n ih =>
    intro v3 v4 v5 M
    rw [s_X4_next_19]
    refine hr_iload X dX4_next_19 rfl ?_
    refine hr_aload_n X dX4_next_21 rfl ?_
    refine hr_gR X 3 hl_t0 hs_t0 lg_RX4_10 rfl dX4_next_22 (fun q1 hl_q1 hs_q1 => ?_)
    refine hr_gI X hl_q1 hs_q1 lg_RX4_140 dX4_next_25 ?_
    refine hr_icmp_ge X 106 dX4_next_28 rfl ?_ ?_
    · refine hr_iload_n X dX4_next_106 rfl ?_
      refine hr_iconst X (-1) dX4_next_107 kc_m1 ?_
      refine hr_icmp_ne X 120 dX4_next_108 rfl ?_ ?_
      · refine hr_iload_n X dX4_next_120 rfl ?_
        exact hr_iret X dX4_next_121
      · refine hr_aload_n X dX4_next_111 rfl ?_
        refine hr_bipush X (-5) dX4_next_112 kb_m5 ?_
        refine hr_cvI X [.int (-5)] [] (c_X4_refuse hl_t0 hs_t0 (-5) M) lk_RX4_82 rfl rfl rfl hl_t0 hs_t0 ⟨by decide, rfl⟩ (by decide) (Nat.le_of_ble_eq_true rfl) dX4_next_114 (fun r2 M3 _ => ?_)
        refine hr_goto X 121 dX4_next_117 rfl ?_
        exact hr_iret X dX4_next_121
    · refine hr_iconst X 0 dX4_next_31 kc_0 ?_
      refine hr_istore X dX4_next_32 (by decide) rfl ?_
      exact hr_wk (hs_some (hs_some (hs_none (hs_some (hs_some (hs_some (hs_some (hs_none (hs_nil))))))))) (w_X4_next_34 X hl_t0 hs_t0 v1 (s_X4_next_19 t0 v1 n) ih v5 2000 v3 v4 0 M)
set_option maxRecDepth 100000 in
set_option maxHeartbeats 4000000 in
theorem c_X4_next  {t0 : Nat} (hl_t0 : t0 < 69) (hs_t0 : hf_shp t0 = 4) (M : hf_M) : hf_CI yX4_next cX4_next 8 (some .int) (6) (fun g => [.ref (hf_a g t0)]) M (s_X4_next t0 M) := by
  refine hf_metI (by decide +kernel) (fun g => Nat.le_of_ble_eq_true rfl) (fun g p l ev s m args below meth c X => ?_)
  have X : hf_X g p s m args meth c cX4_next 8 RX4 (some .int) := X
  show hf_W g p l ev (6) s m args below meth c 8 (hf_QI g below args s) M 0 [some (.ref (hf_a g t0)), none, none, none, none, none, none, none] [] (s_X4_next t0 M)
  unfold s_X4_next
  refine hr_aload_n X dX4_next_0 rfl ?_
  refine hr_gR X 3 hl_t0 hs_t0 lg_RX4_10 rfl dX4_next_1 (fun q1 hl_q1 hs_q1 => ?_)
  refine hr_ldc2 X dX4_next_4 (hf_c2 101 rfl rfl) ?_
  refine hr_cvJ X [.long (-1)] [] (c_X3_possible hl_q1 hs_q1 (-1) M) lk_RX4_167 rfl rfl rfl hl_q1 hs_q1 ⟨by decide, rfl⟩ (by decide) (Nat.le_of_ble_eq_true rfl) dX4_next_7 (fun r2 M3 _ => ?_)
  refine hr_lstore_n X dX4_next_10 (by decide) rfl ?_
  refine hr_iconst X (-1) dX4_next_11 kc_m1 ?_
  refine hr_istore_n X dX4_next_12 (by decide) rfl ?_
  refine hr_iconst X 0 dX4_next_13 kc_0 ?_
  refine hr_istore X dX4_next_14 (by decide) rfl ?_
  refine hr_iconst X 0 dX4_next_16 kc_0 ?_
  refine hr_istore X dX4_next_17 (by decide) rfl ?_
  exact hr_wk (hs_some (hs_some (hs_none (hs_some (hs_some (hs_some (hs_none (hs_none (hs_nil))))))))) (w_X4_next_19 X hl_t0 hs_t0 r2 2000 (-1) 0 0 M3)
set_option maxRecDepth 100000 in
set_option maxHeartbeats 4000000 in
theorem c_X4_leavesKnown (fR : Nat → Int32 → Int32 → Int64 → hf_M → Option (Int32 × hf_M)) (dR : Nat) (hB : 4 ≤ dR) (hR : ∀ {t0 : Nat} (_ : t0 < 69) (_ : hf_shp t0 = 4) (a1 : Int32) (a2 : Int32) (a3 : Int64) (M : hf_M), hf_CI yX4_isKnownIn cX4_isKnownIn 7 (some .boolean) (dR) (fun g => [.ref (hf_a g t0), .int a1, .int a2, .long a3]) M (fR t0 a1 a2 a3 M)) {t0 : Nat} (hl_t0 : t0 < 69) (hs_t0 : hf_shp t0 = 4) (a1 : Int32) (a2 : Int32) (a3 : Int64) (a5 : Int32) (a6 : Int32) (a7 : Int32) (M : hf_M) : hf_CI yX4_leavesKnown cX4_leavesKnown 11 (some .boolean) (dR + 1) (fun g => [.ref (hf_a g t0), .int a1, .int a2, .long a3, .int a5, .int a6, .int a7]) M (s_X4_leavesKnown fR t0 a1 a2 a3 a5 a6 a7 M) := by
  refine hf_metI (by decide +kernel) (fun g => Nat.le_of_ble_eq_true rfl) (fun g p l ev s m args below meth c X => ?_)
  have X : hf_X g p s m args meth c cX4_leavesKnown 11 RX4 (some .boolean) := X
  show hf_W g p l ev (dR + 1) s m args below meth c 11 (hf_QI g below args s) M 0 [some (.ref (hf_a g t0)), some (.int a1), some (.int a2), some (.long a3), none, some (.int a5), some (.int a6), some (.int a7), none, none, none] [] (s_X4_leavesKnown fR t0 a1 a2 a3 a5 a6 a7 M)
  unfold s_X4_leavesKnown
  refine hr_aload_n X dX4_leavesKnown_0 rfl ?_
  refine hr_gR X 3 hl_t0 hs_t0 lg_RX4_10 rfl dX4_leavesKnown_1 (fun q1 hl_q1 hs_q1 => ?_)
  refine hr_iload X dX4_leavesKnown_4 rfl ?_
  refine hr_iload X dX4_leavesKnown_6 rfl ?_
  refine hr_iload X dX4_leavesKnown_8 rfl ?_
  refine hr_cvV X [.int a5, .int a6, .int a7] [] (c_X3_put hl_q1 hs_q1 a5 a6 a7 M) lk_RX4_175 rfl rfl rfl hl_q1 hs_q1 ⟨by decide, rfl⟩ (by omega) (Nat.le_of_ble_eq_true rfl) dX4_leavesKnown_10 (fun _ M3 _ => ?_)
  refine hr_lload_n X dX4_leavesKnown_13 rfl ?_
  refine hr_aload_n X dX4_leavesKnown_14 rfl ?_
  refine hr_gR X 3 hl_t0 hs_t0 lg_RX4_10 rfl dX4_leavesKnown_15 (fun q4 hl_q4 hs_q4 => ?_)
  refine hr_iload X dX4_leavesKnown_18 rfl ?_
  refine hr_ldc2 X dX4_leavesKnown_20 (hf_c2 101 rfl rfl) ?_
  refine hr_cvJ X [.int a5, .long (-1)] [.long a3] (c_X3_allowed hl_q4 hs_q4 a5 (-1) M3) lk_RX4_216 rfl rfl rfl hl_q4 hs_q4 ⟨by decide, rfl⟩ (by omega) (Nat.le_of_ble_eq_true rfl) dX4_leavesKnown_23 (fun r5 M6 _ => ?_)
  refine hr_land X dX4_leavesKnown_26 ?_
  refine hr_lstore X dX4_leavesKnown_27 (by decide) rfl ?_
  refine hr_lload X dX4_leavesKnown_29 rfl ?_
  refine hr_lconst X 0 dX4_leavesKnown_31 rfl ?_
  refine hr_lcmp X dX4_leavesKnown_32 ?_
  refine hr_if_eq X 49 dX4_leavesKnown_33 rfl ?_ ?_
  · refine hr_iconst X 1 dX4_leavesKnown_49 kc_1 ?_
    refine hr_goto X 54 dX4_leavesKnown_50 rfl ?_
    refine hr_istore X dX4_leavesKnown_54 (by decide) rfl ?_
    refine hr_aload_n X dX4_leavesKnown_56 rfl ?_
    refine hr_gR X 3 hl_t0 hs_t0 lg_RX4_10 rfl dX4_leavesKnown_57 (fun q7 hl_q7 hs_q7 => ?_)
    refine hr_cvV X [] [] (c_X3_takeBack hl_q7 hs_q7 M6) lk_RX4_184 rfl rfl rfl hl_q7 hs_q7 ⟨by decide, rfl⟩ (by omega) (Nat.le_of_ble_eq_true rfl) dX4_leavesKnown_60 (fun _ M9 _ => ?_)
    refine hr_iload X dX4_leavesKnown_63 rfl ?_
    exact hr_zretC X (Or.inr rfl) dX4_leavesKnown_65
  · refine hr_aload_n X dX4_leavesKnown_36 rfl ?_
    refine hr_iload_n X dX4_leavesKnown_37 rfl ?_
    refine hr_iconst X 1 dX4_leavesKnown_38 kc_1 ?_
    refine hr_isub X dX4_leavesKnown_39 ?_
    refine hr_iload_n X dX4_leavesKnown_40 rfl ?_
    refine hr_lload X dX4_leavesKnown_41 rfl ?_
    refine hr_cvI X [.int (a1 - 1), .int a2, .long (a3 &&& r5)] [] (hR hl_t0 hs_t0 (a1 - 1) a2 (a3 &&& r5) M6) lk_RX4_243 rfl rfl rfl hl_t0 hs_t0 ⟨by decide, rfl⟩ (by omega) (Nat.le_of_ble_eq_true rfl) dX4_leavesKnown_43 (fun r10 M11 _ => ?_)
    refine hr_if_eq X 53 dX4_leavesKnown_46 rfl ?_ ?_
    · refine hr_iconst X 0 dX4_leavesKnown_53 kc_0 ?_
      refine hr_istore X dX4_leavesKnown_54 (by decide) rfl ?_
      refine hr_aload_n X dX4_leavesKnown_56 rfl ?_
      refine hr_gR X 3 hl_t0 hs_t0 lg_RX4_10 rfl dX4_leavesKnown_57 (fun q12 hl_q12 hs_q12 => ?_)
      refine hr_cvV X [] [] (c_X3_takeBack hl_q12 hs_q12 M11) lk_RX4_184 rfl rfl rfl hl_q12 hs_q12 ⟨by decide, rfl⟩ (by omega) (Nat.le_of_ble_eq_true rfl) dX4_leavesKnown_60 (fun _ M14 _ => ?_)
      refine hr_iload X dX4_leavesKnown_63 rfl ?_
      exact hr_zretC X (Or.inl rfl) dX4_leavesKnown_65
    · refine hr_iconst X 1 dX4_leavesKnown_49 kc_1 ?_
      refine hr_goto X 54 dX4_leavesKnown_50 rfl ?_
      refine hr_istore X dX4_leavesKnown_54 (by decide) rfl ?_
      refine hr_aload_n X dX4_leavesKnown_56 rfl ?_
      refine hr_gR X 3 hl_t0 hs_t0 lg_RX4_10 rfl dX4_leavesKnown_57 (fun q15 hl_q15 hs_q15 => ?_)
      refine hr_cvV X [] [] (c_X3_takeBack hl_q15 hs_q15 M11) lk_RX4_184 rfl rfl rfl hl_q15 hs_q15 ⟨by decide, rfl⟩ (by omega) (Nat.le_of_ble_eq_true rfl) dX4_leavesKnown_60 (fun _ M17 _ => ?_)
      refine hr_iload X dX4_leavesKnown_63 rfl ?_
      exact hr_zretC X (Or.inr rfl) dX4_leavesKnown_65
set_option maxRecDepth 100000 in
set_option maxHeartbeats 4000000 in
theorem w_X4_isKnownIn_40 {g : hf_G} {p : Program} {l : Launch} {ev : Env} {s : State} {m : MethodId} {args : Array Value} {below : List Frame} {meth : Method} {c : Code} (X : hf_X g p s m args meth c cX4_isKnownIn 7 RX4 (some .boolean)) (fR : Nat → Int32 → Int32 → Int64 → hf_M → Option (Int32 × hf_M)) (dR : Nat) (hB : 4 ≤ dR) (hR : ∀ {t0 : Nat} (_ : t0 < 69) (_ : hf_shp t0 = 4) (a1 : Int32) (a2 : Int32) (a3 : Int64) (M : hf_M), hf_CI yX4_isKnownIn cX4_isKnownIn 7 (some .boolean) (dR) (fun g => [.ref (hf_a g t0), .int a1, .int a2, .long a3]) M (fR t0 a1 a2 a3 M)) {t0 : Nat} (hl_t0 : t0 < 69) (hs_t0 : hf_shp t0 = 4) (v1 : Int32) (v2 : Int32) (v3 : Int64) (k25 : Int32 → hf_M → Option (Int32 × hf_M)) (hk25 : ∀ (v5 : Int32) (M : hf_M), hf_W g p l ev (dR + 2) s m args below meth c 7 (hf_QI g below args s) M 25 [some (.ref (hf_a g t0)), some (.int v1), some (.int v2), some (.long v3), none, some (.int v5), none] [] (k25 v5 M)) (v5 : Int32) : ∀ (n : Nat) (v6 : Int32) (M : hf_M), hf_W g p l ev (dR + 2) s m args below meth c 7 (hf_QI g below args s) M 40 [some (.ref (hf_a g t0)), some (.int v1), some (.int v2), some (.long v3), none, some (.int v5), some (.int v6)] [] (s_X4_isKnownIn_40 fR k25 t0 v1 v2 v3 v5 n v6 M) := by
  intro n
  induction n with
  | zero =>
    intros
    exact hr_none
  | succ n ih =>
    intro v6 M
    rw [s_X4_isKnownIn_40]
    refine hr_iload X dX4_isKnownIn_40 rfl ?_
    refine hr_aload_n X dX4_isKnownIn_42 rfl ?_
    refine hr_gR X 3 hl_t0 hs_t0 lg_RX4_10 rfl dX4_isKnownIn_43 (fun q1 hl_q1 hs_q1 => ?_)
    refine hr_gI X hl_q1 hs_q1 lg_RX4_133 dX4_isKnownIn_46 ?_
    refine hr_icmp_ge X 102 dX4_isKnownIn_49 rfl ?_ ?_
    · refine hr_iinc X (v5 + 1) dX4_isKnownIn_102 rfl (by rw [kc_1]) (by decide) rfl ?_
      refine hr_goto X 25 dX4_isKnownIn_105 rfl ?_
      exact hr_wk (hs_some (hs_some (hs_some (hs_some (hs_none (hs_some (hs_none (hs_nil)))))))) (hk25 (v5 + 1) M)
    · refine hr_aload_n X dX4_isKnownIn_52 rfl ?_
      refine hr_gR X 3 hl_t0 hs_t0 lg_RX4_10 rfl dX4_isKnownIn_53 (fun q2 hl_q2 hs_q2 => ?_)
      refine hr_iload X dX4_isKnownIn_56 rfl ?_
      refine hr_cvI X [.int v5] [] (c_X3_isFull hl_q2 hs_q2 v5 M) lk_RX4_164 rfl rfl rfl hl_q2 hs_q2 ⟨by decide, rfl⟩ (by omega) (Nat.le_of_ble_eq_true rfl) dX4_isKnownIn_58 (fun r3 M4 _ => ?_)
      refine hr_if_ne X 102 dX4_isKnownIn_61 rfl ?_ ?_
      · refine hr_iinc X (v5 + 1) dX4_isKnownIn_102 rfl (by rw [kc_1]) (by decide) rfl ?_
        refine hr_goto X 25 dX4_isKnownIn_105 rfl ?_
        exact hr_wk (hs_some (hs_some (hs_some (hs_some (hs_none (hs_some (hs_none (hs_nil)))))))) (hk25 (v5 + 1) M4)
      · refine hr_aload_n X dX4_isKnownIn_64 rfl ?_
        refine hr_iload_n X dX4_isKnownIn_65 rfl ?_
        refine hr_iload_n X dX4_isKnownIn_66 rfl ?_
        refine hr_lload_n X dX4_isKnownIn_67 rfl ?_
        refine hr_iload X dX4_isKnownIn_68 rfl ?_
        refine hr_iload X dX4_isKnownIn_70 rfl ?_
        refine hr_iconst X 1 dX4_isKnownIn_72 kc_1 ?_
        refine hr_cvI X [.int v1, .int v2, .long v3, .int v5, .int v6, .int 1] [] (c_X4_leavesKnown fR dR hB hR hl_t0 hs_t0 v1 v2 v3 v5 v6 1 M4) lk_RX4_247 rfl rfl rfl hl_t0 hs_t0 ⟨by decide, rfl⟩ (by omega) (Nat.le_of_ble_eq_true rfl) dX4_isKnownIn_73 (fun r5 M6 _ => ?_)
        refine hr_if_eq X 96 dX4_isKnownIn_76 rfl ?_ ?_
        · refine hr_iinc X (v6 + 1) dX4_isKnownIn_96 rfl (by rw [kc_1]) (by decide) rfl ?_
          refine hr_goto X 40 dX4_isKnownIn_99 rfl ?_
          exact hr_wk (hs_some (hs_some (hs_some (hs_some (hs_none (hs_some (hs_some (hs_nil)))))))) (ih (v6 + 1) M6)
        · refine hr_aload_n X dX4_isKnownIn_79 rfl ?_
          refine hr_iload_n X dX4_isKnownIn_80 rfl ?_
          refine hr_iload_n X dX4_isKnownIn_81 rfl ?_
          refine hr_lload_n X dX4_isKnownIn_82 rfl ?_
          refine hr_iload X dX4_isKnownIn_83 rfl ?_
          refine hr_iload X dX4_isKnownIn_85 rfl ?_
          refine hr_iconst X 0 dX4_isKnownIn_87 kc_0 ?_
          refine hr_cvI X [.int v1, .int v2, .long v3, .int v5, .int v6, .int 0] [] (c_X4_leavesKnown fR dR hB hR hl_t0 hs_t0 v1 v2 v3 v5 v6 0 M6) lk_RX4_247 rfl rfl rfl hl_t0 hs_t0 ⟨by decide, rfl⟩ (by omega) (Nat.le_of_ble_eq_true rfl) dX4_isKnownIn_88 (fun r7 M8 _ => ?_)
          refine hr_if_eq X 96 dX4_isKnownIn_91 rfl ?_ ?_
          · refine hr_iinc X (v6 + 1) dX4_isKnownIn_96 rfl (by rw [kc_1]) (by decide) rfl ?_
            refine hr_goto X 40 dX4_isKnownIn_99 rfl ?_
            exact hr_wk (hs_some (hs_some (hs_some (hs_some (hs_none (hs_some (hs_some (hs_nil)))))))) (ih (v6 + 1) M8)
          · refine hr_iconst X 1 dX4_isKnownIn_94 kc_1 ?_
            exact hr_zretC X (Or.inr rfl) dX4_isKnownIn_95
set_option maxRecDepth 100000 in
set_option maxHeartbeats 4000000 in
theorem w_X4_isKnownIn_25 {g : hf_G} {p : Program} {l : Launch} {ev : Env} {s : State} {m : MethodId} {args : Array Value} {below : List Frame} {meth : Method} {c : Code} (X : hf_X g p s m args meth c cX4_isKnownIn 7 RX4 (some .boolean)) (fR : Nat → Int32 → Int32 → Int64 → hf_M → Option (Int32 × hf_M)) (dR : Nat) (hB : 4 ≤ dR) (hR : ∀ {t0 : Nat} (_ : t0 < 69) (_ : hf_shp t0 = 4) (a1 : Int32) (a2 : Int32) (a3 : Int64) (M : hf_M), hf_CI yX4_isKnownIn cX4_isKnownIn 7 (some .boolean) (dR) (fun g => [.ref (hf_a g t0), .int a1, .int a2, .long a3]) M (fR t0 a1 a2 a3 M))   {t0 : Nat} (hl_t0 : t0 < 69) (hs_t0 : hf_shp t0 = 4) (v1 : Int32) (v2 : Int32) (v3 : Int64) : ∀ (n : Nat) (v5 : Int32) (M : hf_M), hf_W g p l ev (dR + 2) s m args below meth c 7 (hf_QI g below args s) M 25 [some (.ref (hf_a g t0)), some (.int v1), some (.int v2), some (.long v3), none, some (.int v5), none] [] (s_X4_isKnownIn_25 fR t0 v1 v2 v3 n v5 M) := by
  intro n
  induction n with
  | zero =>
    intros
    exact hr_none
  | succ n ih =>
    intro v5 M
    rw [s_X4_isKnownIn_25]
    refine hr_iload X dX4_isKnownIn_25 rfl ?_
    refine hr_aload_n X dX4_isKnownIn_27 rfl ?_
    refine hr_gR X 3 hl_t0 hs_t0 lg_RX4_10 rfl dX4_isKnownIn_28 (fun q1 hl_q1 hs_q1 => ?_)
    refine hr_gI X hl_q1 hs_q1 lg_RX4_140 dX4_isKnownIn_31 ?_
    refine hr_icmp_ge X 108 dX4_isKnownIn_34 rfl ?_ ?_
    · refine hr_iconst X 0 dX4_isKnownIn_108 kc_0 ?_
      exact hr_zretC X (Or.inl rfl) dX4_isKnownIn_109
    · refine hr_iconst X 0 dX4_isKnownIn_37 kc_0 ?_
      refine hr_istore X dX4_isKnownIn_38 (by decide) rfl ?_
      exact hr_wk (hs_some (hs_some (hs_some (hs_some (hs_none (hs_some (hs_some (hs_nil)))))))) (w_X4_isKnownIn_40 X fR dR hB hR hl_t0 hs_t0 v1 v2 v3 (s_X4_isKnownIn_25 fR t0 v1 v2 v3 n) ih v5 2000 0 M)
set_option maxRecDepth 100000 in
set_option maxHeartbeats 4000000 in
theorem c_X4_isKnownIn_b (fR : Nat → Int32 → Int32 → Int64 → hf_M → Option (Int32 × hf_M)) (dR : Nat) (hB : 4 ≤ dR) (hR : ∀ {t0 : Nat} (_ : t0 < 69) (_ : hf_shp t0 = 4) (a1 : Int32) (a2 : Int32) (a3 : Int64) (M : hf_M), hf_CI yX4_isKnownIn cX4_isKnownIn 7 (some .boolean) (dR) (fun g => [.ref (hf_a g t0), .int a1, .int a2, .long a3]) M (fR t0 a1 a2 a3 M)) {t0 : Nat} (hl_t0 : t0 < 69) (hs_t0 : hf_shp t0 = 4) (a1 : Int32) (a2 : Int32) (a3 : Int64) (M : hf_M) : hf_CI yX4_isKnownIn cX4_isKnownIn 7 (some .boolean) (dR + 2) (fun g => [.ref (hf_a g t0), .int a1, .int a2, .long a3]) M (s_X4_isKnownIn_b fR t0 a1 a2 a3 M) := by
  refine hf_metI (by decide +kernel) (fun g => Nat.le_of_ble_eq_true rfl) (fun g p l ev s m args below meth c X => ?_)
  have X : hf_X g p s m args meth c cX4_isKnownIn 7 RX4 (some .boolean) := X
  show hf_W g p l ev (dR + 2) s m args below meth c 7 (hf_QI g below args s) M 0 [some (.ref (hf_a g t0)), some (.int a1), some (.int a2), some (.long a3), none, none, none] [] (s_X4_isKnownIn_b fR t0 a1 a2 a3 M)
  unfold s_X4_isKnownIn_b
  refine hr_lload_n X dX4_isKnownIn_0 rfl ?_
  refine hr_iload_n X dX4_isKnownIn_1 rfl ?_
  refine hr_csI X [.long a3, .int a2] [] (c_X4_surety a3 a2 M) lk_RX4_227 rfl rfl rfl (by omega) (Nat.le_of_ble_eq_true rfl) dX4_isKnownIn_2 (fun r1 M2 _ => ?_)
  refine hr_iconst X (-1) dX4_isKnownIn_5 kc_m1 ?_
  refine hr_icmp_eq X 11 dX4_isKnownIn_6 rfl ?_ ?_
  · refine hr_iload_n X dX4_isKnownIn_11 rfl ?_
    refine hr_if_le X 20 dX4_isKnownIn_12 rfl ?_ ?_
    · refine hr_iconst X 0 dX4_isKnownIn_20 kc_0 ?_
      exact hr_zretC X (Or.inl rfl) dX4_isKnownIn_21
    · refine hr_iload_n X dX4_isKnownIn_15 rfl ?_
      refine hr_iconst X 2 dX4_isKnownIn_16 kc_2 ?_
      refine hr_icmp_le X 22 dX4_isKnownIn_17 rfl ?_ ?_
      · refine hr_iconst X 0 dX4_isKnownIn_22 kc_0 ?_
        refine hr_istore X dX4_isKnownIn_23 (by decide) rfl ?_
        exact hr_wk (hs_some (hs_some (hs_some (hs_some (hs_none (hs_some (hs_none (hs_nil)))))))) (w_X4_isKnownIn_25 X fR dR hB hR hl_t0 hs_t0 a1 a2 a3 2000 0 M2)
      · refine hr_iconst X 0 dX4_isKnownIn_20 kc_0 ?_
        exact hr_zretC X (Or.inl rfl) dX4_isKnownIn_21
  · refine hr_iconst X 1 dX4_isKnownIn_9 kc_1 ?_
    exact hr_zretC X (Or.inr rfl) dX4_isKnownIn_10
theorem c_X4_isKnownIn_n : ∀ (n : Nat), ∀ {t0 : Nat} (_ : t0 < 69) (_ : hf_shp t0 = 4) (a1 : Int32) (a2 : Int32) (a3 : Int64) (M : hf_M), hf_CI yX4_isKnownIn cX4_isKnownIn 7 (some .boolean) (4 + 2 * n) (fun g => [.ref (hf_a g t0), .int a1, .int a2, .long a3]) M (s_X4_isKnownIn n t0 a1 a2 a3 M) := by
  intro n
  induction n with
  | zero => intros; intro l g r M' h; cases h
  | succ n ih => intro t0 hl_t0 hs_t0 a1 a2 a3 M; exact c_X4_isKnownIn_b (s_X4_isKnownIn n) (4 + 2 * n) (by omega) ih hl_t0 hs_t0 a1 a2 a3 M
theorem c_X4_isKnownIn (n : Nat) {t0 : Nat} (hl_t0 : t0 < 69) (hs_t0 : hf_shp t0 = 4) (a1 : Int32) (a2 : Int32) (a3 : Int64) (M : hf_M) : hf_CI yX4_isKnownIn cX4_isKnownIn 7 (some .boolean) (4 + 2 * n) (fun g => [.ref (hf_a g t0), .int a1, .int a2, .long a3]) M (s_X4_isKnownIn n t0 a1 a2 a3 M) := c_X4_isKnownIn_n n hl_t0 hs_t0 a1 a2 a3 M
set_option maxRecDepth 100000 in
set_option maxHeartbeats 4000000 in
theorem c_X4_knows  {t0 : Nat} (hl_t0 : t0 < 69) (hs_t0 : hf_shp t0 = 4) (a1 : Int32) (a2 : Int32) (M : hf_M) : hf_CI yX4_knows cX4_knows 3 (some .int) (13) (fun g => [.ref (hf_a g t0), .int a1, .int a2]) M (s_X4_knows t0 a1 a2 M) := by
  refine hf_metI (by decide +kernel) (fun g => Nat.le_of_ble_eq_true rfl) (fun g p l ev s m args below meth c X => ?_)
  have X : hf_X g p s m args meth c cX4_knows 3 RX4 (some .int) := X
  show hf_W g p l ev (13) s m args below meth c 3 (hf_QI g below args s) M 0 [some (.ref (hf_a g t0)), some (.int a1), some (.int a2)] [] (s_X4_knows t0 a1 a2 M)
  unfold s_X4_knows
  refine hr_aload_n X dX4_knows_0 rfl ?_
  refine hr_gR X 3 hl_t0 hs_t0 lg_RX4_10 rfl dX4_knows_1 (fun q1 hl_q1 hs_q1 => ?_)
  refine hr_iload_n X dX4_knows_4 rfl ?_
  refine hr_cvI X [.int a1] [] (c_X3_isFact hl_q1 hs_q1 a1 M) lk_RX4_158 rfl rfl rfl hl_q1 hs_q1 ⟨by decide, rfl⟩ (by decide) (Nat.le_of_ble_eq_true rfl) dX4_knows_5 (fun r2 M3 _ => ?_)
  refine hr_if_ne X 17 dX4_knows_8 rfl ?_ ?_
  · refine hr_iload_n X dX4_knows_17 rfl ?_
    refine hr_iconst X 0 dX4_knows_18 kc_0 ?_
    refine hr_iconst X 2 dX4_knows_19 kc_2 ?_
    refine hr_csI X [.int a2, .int 0, .int 2] [] (c_X4_within a2 0 2 M3) lk_RX4_85 rfl rfl rfl (by decide) (Nat.le_of_ble_eq_true rfl) dX4_knows_20 (fun r4 M5 _ => ?_)
    refine hr_if_ne X 33 dX4_knows_23 rfl ?_ ?_
    · refine hr_aload_n X dX4_knows_33 rfl ?_
      refine hr_iload_n X dX4_knows_34 rfl ?_
      refine hr_iload_n X dX4_knows_35 rfl ?_
      refine hr_aload_n X dX4_knows_36 rfl ?_
      refine hr_gR X 3 hl_t0 hs_t0 lg_RX4_10 rfl dX4_knows_37 (fun q6 hl_q6 hs_q6 => ?_)
      refine hr_ldc2 X dX4_knows_40 (hf_c2 101 rfl rfl) ?_
      refine hr_cvJ X [.long (-1)] [.int a1, .int a2, .ref (hf_a g t0)] (c_X3_possible hl_q6 hs_q6 (-1) M5) lk_RX4_167 rfl rfl rfl hl_q6 hs_q6 ⟨by decide, rfl⟩ (by decide) (Nat.le_of_ble_eq_true rfl) dX4_knows_43 (fun r7 M8 _ => ?_)
      refine hr_cvI X [.int a2, .int a1, .long r7] [] (c_X4_isKnownIn 4 hl_t0 hs_t0 a2 a1 r7 M8) lk_RX4_243 rfl rfl rfl hl_t0 hs_t0 ⟨by decide, rfl⟩ (by decide) (Nat.le_of_ble_eq_true rfl) dX4_knows_46 (fun r9 M10 _ => ?_)
      refine hr_if_eq X 56 dX4_knows_49 rfl ?_ ?_
      · refine hr_iconst X 0 dX4_knows_56 kc_0 ?_
        exact hr_iret X dX4_knows_57
      · refine hr_iconst X 1 dX4_knows_52 kc_1 ?_
        refine hr_goto X 57 dX4_knows_53 rfl ?_
        exact hr_iret X dX4_knows_57
    · refine hr_aload_n X dX4_knows_26 rfl ?_
      refine hr_bipush X (-6) dX4_knows_27 kb_m6 ?_
      refine hr_cvI X [.int (-6)] [] (c_X4_refuse hl_t0 hs_t0 (-6) M5) lk_RX4_82 rfl rfl rfl hl_t0 hs_t0 ⟨by decide, rfl⟩ (by decide) (Nat.le_of_ble_eq_true rfl) dX4_knows_29 (fun r11 M12 _ => ?_)
      exact hr_iret X dX4_knows_32
  · refine hr_aload_n X dX4_knows_11 rfl ?_
    refine hr_iconst X (-1) dX4_knows_12 kc_m1 ?_
    refine hr_cvI X [.int (-1)] [] (c_X4_refuse hl_t0 hs_t0 (-1) M3) lk_RX4_82 rfl rfl rfl hl_t0 hs_t0 ⟨by decide, rfl⟩ (by decide) (Nat.le_of_ble_eq_true rfl) dX4_knows_13 (fun r13 M14 _ => ?_)
    exact hr_iret X dX4_knows_16
set_option maxRecDepth 100000 in
set_option maxHeartbeats 4000000 in
theorem w_X4_tree_33 {g : hf_G} {p : Program} {l : Launch} {ev : Env} {s : State} {m : MethodId} {args : Array Value} {below : List Frame} {meth : Method} {c : Code} (X : hf_X g p s m args meth c cX4_tree 5 RX4 (some .int))    {t0 : Nat} (hl_t0 : t0 < 69) (hs_t0 : hf_shp t0 = 4) (v1 : Int32) (v2 : Int64) : ∀ (n : Nat) (v4 : Int32) (M : hf_M), hf_W g p l ev (13) s m args below meth c 5 (hf_QI g below args s) M 33 [some (.ref (hf_a g t0)), some (.int v1), some (.long v2), none, some (.int v4)] [] (s_X4_tree_33 t0 v1 v2 n v4 M) := by
  intro n
  induction n with
  | zero =>
    intros
    exact hr_none
  | succ n ih =>
    intro v4 M
    rw [s_X4_tree_33]
    refine hr_iload X dX4_tree_33 rfl ?_
    refine hr_iconst X 2 dX4_tree_35 kc_2 ?_
    refine hr_icmp_gt X 59 dX4_tree_36 rfl ?_ ?_
    · refine hr_iconst X (-1) dX4_tree_59 kc_m1 ?_
      exact hr_iret X dX4_tree_60
    · refine hr_aload_n X dX4_tree_39 rfl ?_
      refine hr_iload X dX4_tree_40 rfl ?_
      refine hr_iload_n X dX4_tree_42 rfl ?_
      refine hr_lload_n X dX4_tree_43 rfl ?_
      refine hr_cvI X [.int v4, .int v1, .long v2] [] (c_X4_isKnownIn 4 hl_t0 hs_t0 v4 v1 v2 M) lk_RX4_243 rfl rfl rfl hl_t0 hs_t0 ⟨by decide, rfl⟩ (by decide) (Nat.le_of_ble_eq_true rfl) dX4_tree_44 (fun r1 M2 _ => ?_)
      refine hr_if_eq X 53 dX4_tree_47 rfl ?_ ?_
      · refine hr_iinc X (v4 + 1) dX4_tree_53 rfl (by rw [kc_1]) (by decide) rfl ?_
        refine hr_goto X 33 dX4_tree_56 rfl ?_
        exact hr_wk (hs_some (hs_some (hs_some (hs_none (hs_some (hs_nil)))))) (ih (v4 + 1) M2)
      · refine hr_iload X dX4_tree_50 rfl ?_
        exact hr_iret X dX4_tree_52
set_option maxRecDepth 100000 in
set_option maxHeartbeats 4000000 in
theorem c_X4_tree  {t0 : Nat} (hl_t0 : t0 < 69) (hs_t0 : hf_shp t0 = 4) (a1 : Int32) (M : hf_M) : hf_CI yX4_tree cX4_tree 5 (some .int) (13) (fun g => [.ref (hf_a g t0), .int a1]) M (s_X4_tree t0 a1 M) := by
  refine hf_metI (by decide +kernel) (fun g => Nat.le_of_ble_eq_true rfl) (fun g p l ev s m args below meth c X => ?_)
  have X : hf_X g p s m args meth c cX4_tree 5 RX4 (some .int) := X
  show hf_W g p l ev (13) s m args below meth c 5 (hf_QI g below args s) M 0 [some (.ref (hf_a g t0)), some (.int a1), none, none, none] [] (s_X4_tree t0 a1 M)
  unfold s_X4_tree
  refine hr_aload_n X dX4_tree_0 rfl ?_
  refine hr_gR X 3 hl_t0 hs_t0 lg_RX4_10 rfl dX4_tree_1 (fun q1 hl_q1 hs_q1 => ?_)
  refine hr_iload_n X dX4_tree_4 rfl ?_
  refine hr_cvI X [.int a1] [] (c_X3_isFact hl_q1 hs_q1 a1 M) lk_RX4_158 rfl rfl rfl hl_q1 hs_q1 ⟨by decide, rfl⟩ (by decide) (Nat.le_of_ble_eq_true rfl) dX4_tree_5 (fun r2 M3 _ => ?_)
  refine hr_if_ne X 19 dX4_tree_8 rfl ?_ ?_
  · refine hr_aload_n X dX4_tree_19 rfl ?_
    refine hr_gR X 3 hl_t0 hs_t0 lg_RX4_10 rfl dX4_tree_20 (fun q4 hl_q4 hs_q4 => ?_)
    refine hr_ldc2 X dX4_tree_23 (hf_c2 101 rfl rfl) ?_
    refine hr_cvJ X [.long (-1)] [] (c_X3_possible hl_q4 hs_q4 (-1) M3) lk_RX4_167 rfl rfl rfl hl_q4 hs_q4 ⟨by decide, rfl⟩ (by decide) (Nat.le_of_ble_eq_true rfl) dX4_tree_26 (fun r5 M6 _ => ?_)
    refine hr_lstore_n X dX4_tree_29 (by decide) rfl ?_
    refine hr_iconst X 0 dX4_tree_30 kc_0 ?_
    refine hr_istore X dX4_tree_31 (by decide) rfl ?_
    exact hr_wk (hs_some (hs_some (hs_some (hs_none (hs_some (hs_nil)))))) (w_X4_tree_33 X hl_t0 hs_t0 a1 r5 2000 0 M6)
  · refine hr_aload_n X dX4_tree_11 rfl ?_
    refine hr_iconst X (-1) dX4_tree_12 kc_m1 ?_
    refine hr_bipush X (-11) dX4_tree_13 kb_m11 ?_
    refine hr_cvI X [.int (-1), .int (-11)] [] (c_X4_refuse_ hl_t0 hs_t0 (-1) (-11) M3) lk_RX4_55 rfl rfl rfl hl_t0 hs_t0 ⟨by decide, rfl⟩ (by decide) (Nat.le_of_ble_eq_true rfl) dX4_tree_15 (fun r7 M8 _ => ?_)
    exact hr_iret X dX4_tree_18
set_option maxRecDepth 100000 in
set_option maxHeartbeats 4000000 in
theorem c_X4_rows  {t0 : Nat} (hl_t0 : t0 < 69) (hs_t0 : hf_shp t0 = 4) (a1 : Int32) (a2 : Int32) (M : hf_M) : hf_CI yX4_rows cX4_rows 3 (some .int) (3) (fun g => [.ref (hf_a g t0), .int a1, .int a2]) M (s_X4_rows t0 a1 a2 M) := by
  refine hf_metI (by decide +kernel) (fun g => Nat.le_of_ble_eq_true rfl) (fun g p l ev s m args below meth c X => ?_)
  have X : hf_X g p s m args meth c cX4_rows 3 RX4 (some .int) := X
  show hf_W g p l ev (3) s m args below meth c 3 (hf_QI g below args s) M 0 [some (.ref (hf_a g t0)), some (.int a1), some (.int a2)] [] (s_X4_rows t0 a1 a2 M)
  unfold s_X4_rows
  refine hr_aload_n X dX4_rows_0 rfl ?_
  refine hr_gR X 3 hl_t0 hs_t0 lg_RX4_10 rfl dX4_rows_1 (fun q1 hl_q1 hs_q1 => ?_)
  refine hr_iload_n X dX4_rows_4 rfl ?_
  refine hr_cvI X [.int a1] [] (c_X3_isSpeaker hl_q1 hs_q1 a1 M) lk_RX4_119 rfl rfl rfl hl_q1 hs_q1 ⟨by decide, rfl⟩ (by decide) (Nat.le_of_ble_eq_true rfl) dX4_rows_5 (fun r2 M3 _ => ?_)
  refine hr_if_ne X 17 dX4_rows_8 rfl ?_ ?_
  · refine hr_iload_n X dX4_rows_17 rfl ?_
    refine hr_iconst X 0 dX4_rows_18 kc_0 ?_
    refine hr_aload_n X dX4_rows_19 rfl ?_
    refine hr_gR X 3 hl_t0 hs_t0 lg_RX4_10 rfl dX4_rows_20 (fun q4 hl_q4 hs_q4 => ?_)
    refine hr_gI X hl_q4 hs_q4 lg_RX4_149 dX4_rows_23 ?_
    refine hr_csI X [.int a2, .int 0, .int (M3.1 q4 12)] [] (c_X4_within a2 0 (M3.1 q4 12) M3) lk_RX4_85 rfl rfl rfl (by decide) (Nat.le_of_ble_eq_true rfl) dX4_rows_26 (fun r5 M6 _ => ?_)
    refine hr_if_ne X 39 dX4_rows_29 rfl ?_ ?_
    · refine hr_aload_n X dX4_rows_39 rfl ?_
      refine hr_gR X 3 hl_t0 hs_t0 lg_RX4_10 rfl dX4_rows_40 (fun q7 hl_q7 hs_q7 => ?_)
      refine hr_iload_n X dX4_rows_43 rfl ?_
      refine hr_iload_n X dX4_rows_44 rfl ?_
      refine hr_cvI X [.int a1, .int a2] [] (c_X3_lawfulRows hl_q7 hs_q7 a1 a2 M6) lk_RX4_251 rfl rfl rfl hl_q7 hs_q7 ⟨by decide, rfl⟩ (by decide) (Nat.le_of_ble_eq_true rfl) dX4_rows_45 (fun r8 M9 _ => ?_)
      exact hr_iret X dX4_rows_48
    · refine hr_aload_n X dX4_rows_32 rfl ?_
      refine hr_bipush X (-6) dX4_rows_33 kb_m6 ?_
      refine hr_cvI X [.int (-6)] [] (c_X4_refuse hl_t0 hs_t0 (-6) M6) lk_RX4_82 rfl rfl rfl hl_t0 hs_t0 ⟨by decide, rfl⟩ (by decide) (Nat.le_of_ble_eq_true rfl) dX4_rows_35 (fun r10 M11 _ => ?_)
      exact hr_iret X dX4_rows_38
  · refine hr_aload_n X dX4_rows_11 rfl ?_
    refine hr_iconst X (-1) dX4_rows_12 kc_m1 ?_
    refine hr_cvI X [.int (-1)] [] (c_X4_refuse hl_t0 hs_t0 (-1) M3) lk_RX4_82 rfl rfl rfl hl_t0 hs_t0 ⟨by decide, rfl⟩ (by decide) (Nat.le_of_ble_eq_true rfl) dX4_rows_13 (fun r12 M13 _ => ?_)
    exact hr_iret X dX4_rows_16
set_option maxRecDepth 100000 in
set_option maxHeartbeats 4000000 in
theorem w_X4_tells_41 {g : hf_G} {p : Program} {l : Launch} {ev : Env} {s : State} {m : MethodId} {args : Array Value} {below : List Frame} {meth : Method} {c : Code} (X : hf_X g p s m args meth c cX4_tells 4 RX4 (some .int))    {t0 : Nat} (hl_t0 : t0 < 69) (hs_t0 : hf_shp t0 = 4) (v1 : Int32) (v2 : Int32) : ∀ (n : Nat) (v3 : Int32) (M : hf_M), hf_W g p l ev (2) s m args below meth c 4 (hf_QI g below args s) M 41 [some (.ref (hf_a g t0)), some (.int v1), some (.int v2), some (.int v3)] [] (s_X4_tells_41 t0 v1 v2 n v3 M) := by
  intro n
  induction n with
  | zero =>
    intros
    exact hr_none
  | succ n ih =>
    intro v3 M
    rw [s_X4_tells_41]
    refine hr_iload_n X dX4_tells_41 rfl ?_
    refine hr_aload_n X dX4_tells_42 rfl ?_
    refine hr_gR X 3 hl_t0 hs_t0 lg_RX4_10 rfl dX4_tells_43 (fun q1 hl_q1 hs_q1 => ?_)
    refine hr_gI X hl_q1 hs_q1 lg_RX4_149 dX4_tells_46 ?_
    refine hr_icmp_gt X 73 dX4_tells_49 rfl ?_ ?_
    · refine hr_iconst X (-1) dX4_tells_73 kc_m1 ?_
      exact hr_iret X dX4_tells_74
    · refine hr_aload_n X dX4_tells_52 rfl ?_
      refine hr_gR X 3 hl_t0 hs_t0 lg_RX4_10 rfl dX4_tells_53 (fun q2 hl_q2 hs_q2 => ?_)
      refine hr_iload_n X dX4_tells_56 rfl ?_
      refine hr_iload_n X dX4_tells_57 rfl ?_
      refine hr_cvI X [.int v1, .int v3] [] (c_X3_lawfulRows hl_q2 hs_q2 v1 v3 M) lk_RX4_251 rfl rfl rfl hl_q2 hs_q2 ⟨by decide, rfl⟩ (by decide) (Nat.le_of_ble_eq_true rfl) dX4_tells_58 (fun r3 M4 _ => ?_)
      refine hr_iload_n X dX4_tells_61 rfl ?_
      refine hr_icmp_lt X 67 dX4_tells_62 rfl ?_ ?_
      · refine hr_iinc X (v3 + 1) dX4_tells_67 rfl (by rw [kc_1]) (by decide) rfl ?_
        refine hr_goto X 41 dX4_tells_70 rfl ?_
        exact hr_wk (hs_some (hs_some (hs_some (hs_some (hs_nil))))) (ih (v3 + 1) M4)
      · refine hr_iload_n X dX4_tells_65 rfl ?_
        exact hr_iret X dX4_tells_66
set_option maxRecDepth 100000 in
set_option maxHeartbeats 4000000 in
theorem c_X4_tells  {t0 : Nat} (hl_t0 : t0 < 69) (hs_t0 : hf_shp t0 = 4) (a1 : Int32) (a2 : Int32) (M : hf_M) : hf_CI yX4_tells cX4_tells 4 (some .int) (2) (fun g => [.ref (hf_a g t0), .int a1, .int a2]) M (s_X4_tells t0 a1 a2 M) := by
  refine hf_metI (by decide +kernel) (fun g => Nat.le_of_ble_eq_true rfl) (fun g p l ev s m args below meth c X => ?_)
  have X : hf_X g p s m args meth c cX4_tells 4 RX4 (some .int) := X
  show hf_W g p l ev (2) s m args below meth c 4 (hf_QI g below args s) M 0 [some (.ref (hf_a g t0)), some (.int a1), some (.int a2), none] [] (s_X4_tells t0 a1 a2 M)
  unfold s_X4_tells
  refine hr_aload_n X dX4_tells_0 rfl ?_
  refine hr_gR X 3 hl_t0 hs_t0 lg_RX4_10 rfl dX4_tells_1 (fun q1 hl_q1 hs_q1 => ?_)
  refine hr_iload_n X dX4_tells_4 rfl ?_
  refine hr_cvI X [.int a1] [] (c_X3_isSpeaker hl_q1 hs_q1 a1 M) lk_RX4_119 rfl rfl rfl hl_q1 hs_q1 ⟨by decide, rfl⟩ (by decide) (Nat.le_of_ble_eq_true rfl) dX4_tells_5 (fun r2 M3 _ => ?_)
  refine hr_if_ne X 19 dX4_tells_8 rfl ?_ ?_
  · refine hr_iload_n X dX4_tells_19 rfl ?_
    refine hr_iconst X 1 dX4_tells_20 kc_1 ?_
    refine hr_sipush X 1024 dX4_tells_21 ks_1024 ?_
    refine hr_csI X [.int a2, .int 1, .int 1024] [] (c_X4_within a2 1 1024 M3) lk_RX4_85 rfl rfl rfl (by decide) (Nat.le_of_ble_eq_true rfl) dX4_tells_24 (fun r4 M5 _ => ?_)
    refine hr_if_ne X 39 dX4_tells_27 rfl ?_ ?_
    · refine hr_iconst X 0 dX4_tells_39 kc_0 ?_
      refine hr_istore_n X dX4_tells_40 (by decide) rfl ?_
      exact hr_wk (hs_some (hs_some (hs_some (hs_some (hs_nil))))) (w_X4_tells_41 X hl_t0 hs_t0 a1 a2 2000 0 M5)
    · refine hr_aload_n X dX4_tells_30 rfl ?_
      refine hr_bipush X (-6) dX4_tells_31 kb_m6 ?_
      refine hr_bipush X (-16) dX4_tells_33 kb_m16 ?_
      refine hr_cvI X [.int (-6), .int (-16)] [] (c_X4_refuse_ hl_t0 hs_t0 (-6) (-16) M5) lk_RX4_55 rfl rfl rfl hl_t0 hs_t0 ⟨by decide, rfl⟩ (by decide) (Nat.le_of_ble_eq_true rfl) dX4_tells_35 (fun r6 M7 _ => ?_)
      exact hr_iret X dX4_tells_38
  · refine hr_aload_n X dX4_tells_11 rfl ?_
    refine hr_iconst X (-1) dX4_tells_12 kc_m1 ?_
    refine hr_bipush X (-11) dX4_tells_13 kb_m11 ?_
    refine hr_cvI X [.int (-1), .int (-11)] [] (c_X4_refuse_ hl_t0 hs_t0 (-1) (-11) M3) lk_RX4_55 rfl rfl rfl hl_t0 hs_t0 ⟨by decide, rfl⟩ (by decide) (Nat.le_of_ble_eq_true rfl) dX4_tells_15 (fun r8 M9 _ => ?_)
    exact hr_iret X dX4_tells_18
set_option maxRecDepth 100000 in
set_option maxHeartbeats 4000000 in
theorem w_X4_leastHarmful_8 {g : hf_G} {p : Program} {l : Launch} {ev : Env} {s : State} {m : MethodId} {args : Array Value} {below : List Frame} {meth : Method} {c : Code} (X : hf_X g p s m args meth c cX4_leastHarmful 7 RX4 (some .int))    {t0 : Nat} (hl_t0 : t0 < 69) (hs_t0 : hf_shp t0 = 4) {t1 : Nat} (hl_t1 : t1 < 69) (hs_t1 : hf_shp t1 = 2) (v2 : Int32) : ∀ (n : Nat) (v3 : Int32) (v4 : Int32) (v5 : Int32) (M : hf_M), hf_W g p l ev (2) s m args below meth c 7 (hf_QI g below args s) M 8 [some (.ref (hf_a g t0)), some (.ref (hf_a g t1)), some (.int v2), some (.int v3), some (.int v4), some (.int v5), none] [] (s_X4_leastHarmful_8 t0 t1 v2 n v3 v4 v5 M) := by
  intro n
  induction n with
  | zero =>
    intros
    exact hr_none
  | succ n ih =>
    intro v3 v4 v5 M
    rw [s_X4_leastHarmful_8]
    refine hr_iload X dX4_leastHarmful_8 rfl ?_
    refine hr_aload_n X dX4_leastHarmful_10 rfl ?_
    refine hr_gI X hl_t1 hs_t1 lg_RX4_261 dX4_leastHarmful_11 ?_
    refine hr_icmp_ge X 87 dX4_leastHarmful_14 rfl ?_ ?_
    · refine hr_iload_n X dX4_leastHarmful_87 rfl ?_
      exact hr_iret X dX4_leastHarmful_88
    · refine hr_aload_n X dX4_leastHarmful_17 rfl ?_
      refine hr_iload X dX4_leastHarmful_18 rfl ?_
      refine hr_cvI X [.int v5] [] (c_X2_asInt hl_t1 hs_t1 v5 M) lk_RX4_264 rfl rfl rfl hl_t1 hs_t1 ⟨by decide, rfl⟩ (by decide) (Nat.le_of_ble_eq_true rfl) dX4_leastHarmful_20 (fun r1 M2 _ => ?_)
      refine hr_istore X dX4_leastHarmful_23 (by decide) rfl ?_
      refine hr_iload_n X dX4_leastHarmful_25 rfl ?_
      refine hr_iload X dX4_leastHarmful_26 rfl ?_
      refine hr_ishr X dX4_leastHarmful_28 ?_
      refine hr_iconst X 1 dX4_leastHarmful_29 kc_1 ?_
      refine hr_iand X dX4_leastHarmful_30 ?_
      refine hr_if_ne X 81 dX4_leastHarmful_31 rfl ?_ ?_
      · refine hr_iinc X (v5 + 1) dX4_leastHarmful_81 rfl (by rw [kc_1]) (by decide) rfl ?_
        refine hr_goto X 8 dX4_leastHarmful_84 rfl ?_
        exact hr_wk (hs_some (hs_some (hs_some (hs_some (hs_some (hs_some (hs_none (hs_nil)))))))) (ih v3 v4 (v5 + 1) M2)
      · refine hr_aload_n X dX4_leastHarmful_34 rfl ?_
        refine hr_gR X 3 hl_t0 hs_t0 lg_RX4_10 rfl dX4_leastHarmful_35 (fun q3 hl_q3 hs_q3 => ?_)
        refine hr_iload X dX4_leastHarmful_38 rfl ?_
        refine hr_cvI X [.int r1] [] (c_X3_isFact hl_q3 hs_q3 r1 M2) lk_RX4_158 rfl rfl rfl hl_q3 hs_q3 ⟨by decide, rfl⟩ (by decide) (Nat.le_of_ble_eq_true rfl) dX4_leastHarmful_40 (fun r4 M5 _ => ?_)
        refine hr_if_eq X 81 dX4_leastHarmful_43 rfl ?_ ?_
        · refine hr_iinc X (v5 + 1) dX4_leastHarmful_81 rfl (by rw [kc_1]) (by decide) rfl ?_
          refine hr_goto X 8 dX4_leastHarmful_84 rfl ?_
          exact hr_wk (hs_some (hs_some (hs_some (hs_some (hs_some (hs_some (hs_none (hs_nil)))))))) (ih v3 v4 (v5 + 1) M5)
        · refine hr_iload_n X dX4_leastHarmful_46 rfl ?_
          refine hr_iconst X (-1) dX4_leastHarmful_47 kc_m1 ?_
          refine hr_icmp_eq X 66 dX4_leastHarmful_48 rfl ?_ ?_
          · refine hr_iload X dX4_leastHarmful_66 rfl ?_
            refine hr_istore_n X dX4_leastHarmful_68 (by decide) rfl ?_
            refine hr_aload_n X dX4_leastHarmful_69 rfl ?_
            refine hr_gR X 3 hl_t0 hs_t0 lg_RX4_10 rfl dX4_leastHarmful_70 (fun q6 hl_q6 hs_q6 => ?_)
            refine hr_gR X 6 hl_q6 hs_q6 lg_RX4_161 rfl dX4_leastHarmful_73 (fun q7 hl_q7 hs_q7 => ?_)
            refine hr_iload X dX4_leastHarmful_76 rfl ?_
            refine hr_iald X hl_q7 hs_q7 dX4_leastHarmful_78 (fun r8 _ _ => ?_)
            refine hr_istore X dX4_leastHarmful_79 (by decide) rfl ?_
            refine hr_iinc X (v5 + 1) dX4_leastHarmful_81 rfl (by rw [kc_1]) (by decide) rfl ?_
            refine hr_goto X 8 dX4_leastHarmful_84 rfl ?_
            exact hr_wk (hs_some (hs_some (hs_some (hs_some (hs_some (hs_some (hs_none (hs_nil)))))))) (ih v5 r8 (v5 + 1) M5)
          · refine hr_aload_n X dX4_leastHarmful_51 rfl ?_
            refine hr_gR X 3 hl_t0 hs_t0 lg_RX4_10 rfl dX4_leastHarmful_52 (fun q9 hl_q9 hs_q9 => ?_)
            refine hr_gR X 6 hl_q9 hs_q9 lg_RX4_161 rfl dX4_leastHarmful_55 (fun q10 hl_q10 hs_q10 => ?_)
            refine hr_iload X dX4_leastHarmful_58 rfl ?_
            refine hr_iald X hl_q10 hs_q10 dX4_leastHarmful_60 (fun r11 _ _ => ?_)
            refine hr_iload X dX4_leastHarmful_61 rfl ?_
            refine hr_icmp_ge X 81 dX4_leastHarmful_63 rfl ?_ ?_
            · refine hr_iinc X (v5 + 1) dX4_leastHarmful_81 rfl (by rw [kc_1]) (by decide) rfl ?_
              refine hr_goto X 8 dX4_leastHarmful_84 rfl ?_
              exact hr_wk (hs_some (hs_some (hs_some (hs_some (hs_some (hs_some (hs_none (hs_nil)))))))) (ih v3 v4 (v5 + 1) M5)
            · refine hr_iload X dX4_leastHarmful_66 rfl ?_
              refine hr_istore_n X dX4_leastHarmful_68 (by decide) rfl ?_
              refine hr_aload_n X dX4_leastHarmful_69 rfl ?_
              refine hr_gR X 3 hl_t0 hs_t0 lg_RX4_10 rfl dX4_leastHarmful_70 (fun q12 hl_q12 hs_q12 => ?_)
              refine hr_gR X 6 hl_q12 hs_q12 lg_RX4_161 rfl dX4_leastHarmful_73 (fun q13 hl_q13 hs_q13 => ?_)
              refine hr_iload X dX4_leastHarmful_76 rfl ?_
              refine hr_iald X hl_q13 hs_q13 dX4_leastHarmful_78 (fun r14 _ _ => ?_)
              refine hr_istore X dX4_leastHarmful_79 (by decide) rfl ?_
              refine hr_iinc X (v5 + 1) dX4_leastHarmful_81 rfl (by rw [kc_1]) (by decide) rfl ?_
              refine hr_goto X 8 dX4_leastHarmful_84 rfl ?_
              exact hr_wk (hs_some (hs_some (hs_some (hs_some (hs_some (hs_some (hs_none (hs_nil)))))))) (ih v5 r14 (v5 + 1) M5)
set_option maxRecDepth 100000 in
set_option maxHeartbeats 4000000 in
theorem c_X4_leastHarmful  {t0 : Nat} (hl_t0 : t0 < 69) (hs_t0 : hf_shp t0 = 4) {t1 : Nat} (hl_t1 : t1 < 69) (hs_t1 : hf_shp t1 = 2) (a2 : Int32) (M : hf_M) : hf_CI yX4_leastHarmful cX4_leastHarmful 7 (some .int) (2) (fun g => [.ref (hf_a g t0), .ref (hf_a g t1), .int a2]) M (s_X4_leastHarmful t0 t1 a2 M) := by
  refine hf_metI (by decide +kernel) (fun g => Nat.le_of_ble_eq_true rfl) (fun g p l ev s m args below meth c X => ?_)
  have X : hf_X g p s m args meth c cX4_leastHarmful 7 RX4 (some .int) := X
  show hf_W g p l ev (2) s m args below meth c 7 (hf_QI g below args s) M 0 [some (.ref (hf_a g t0)), some (.ref (hf_a g t1)), some (.int a2), none, none, none, none] [] (s_X4_leastHarmful t0 t1 a2 M)
  unfold s_X4_leastHarmful
  refine hr_iconst X (-1) dX4_leastHarmful_0 kc_m1 ?_
  refine hr_istore_n X dX4_leastHarmful_1 (by decide) rfl ?_
  refine hr_iconst X 0 dX4_leastHarmful_2 kc_0 ?_
  refine hr_istore X dX4_leastHarmful_3 (by decide) rfl ?_
  refine hr_iconst X 0 dX4_leastHarmful_5 kc_0 ?_
  refine hr_istore X dX4_leastHarmful_6 (by decide) rfl ?_
  exact hr_wk (hs_some (hs_some (hs_some (hs_some (hs_some (hs_some (hs_none (hs_nil)))))))) (w_X4_leastHarmful_8 X hl_t0 hs_t0 hl_t1 hs_t1 a2 2000 (-1) 0 0 M)
set_option maxRecDepth 100000 in
set_option maxHeartbeats 4000000 in
theorem w_X4_liesPlaced_24 {g : hf_G} {p : Program} {l : Launch} {ev : Env} {s : State} {m : MethodId} {args : Array Value} {below : List Frame} {meth : Method} {c : Code} (X : hf_X g p s m args meth c cX4_liesPlaced 7 RX4 (some .int))    {t0 : Nat} (hl_t0 : t0 < 69) (hs_t0 : hf_shp t0 = 4) {t1 : Nat} (hl_t1 : t1 < 69) (hs_t1 : hf_shp t1 = 2) (v3 : Int32) : ∀ (n : Nat) (v4 : Int32) (v5 : Int32) (M : hf_M), hf_W g p l ev (3) s m args below meth c 7 (hf_QI g below args s) M 24 [some (.ref (hf_a g t0)), some (.ref (hf_a g t1)), none, some (.int v3), some (.int v4), some (.int v5), none] [] (s_X4_liesPlaced_24 t0 t1 v3 n v4 v5 M) := by
  intro n
  induction n with
  | zero =>
    intros
    exact hr_none
  | succ n ih =>
    intro v4 v5 M
    rw [s_X4_liesPlaced_24]
    refine hr_iload X dX4_liesPlaced_24 rfl ?_
    refine hr_iload_n X dX4_liesPlaced_26 rfl ?_
    refine hr_icmp_ge X 63 dX4_liesPlaced_27 rfl ?_ ?_
    · refine hr_iload X dX4_liesPlaced_63 rfl ?_
      exact hr_iret X dX4_liesPlaced_65
    · refine hr_aload_n X dX4_liesPlaced_30 rfl ?_
      refine hr_aload_n X dX4_liesPlaced_31 rfl ?_
      refine hr_iload X dX4_liesPlaced_32 rfl ?_
      refine hr_cvI X [.ref (hf_a g t1), .int v4] [] (c_X4_leastHarmful hl_t0 hs_t0 hl_t1 hs_t1 v4 M) lk_RX4_267 rfl rfl rfl hl_t0 hs_t0 ⟨by decide, rfl⟩ (by decide) (Nat.le_of_ble_eq_true rfl) dX4_liesPlaced_34 (fun r1 M2 _ => ?_)
      refine hr_istore X dX4_liesPlaced_37 (by decide) rfl ?_
      refine hr_iload X dX4_liesPlaced_39 rfl ?_
      refine hr_iconst X (-1) dX4_liesPlaced_41 kc_m1 ?_
      refine hr_icmp_ne X 48 dX4_liesPlaced_42 rfl ?_ ?_
      · refine hr_iload X dX4_liesPlaced_48 rfl ?_
        refine hr_iconst X 1 dX4_liesPlaced_50 kc_1 ?_
        refine hr_iload X dX4_liesPlaced_51 rfl ?_
        refine hr_ishl X dX4_liesPlaced_53 ?_
        refine hr_ior X dX4_liesPlaced_54 ?_
        refine hr_istore X dX4_liesPlaced_55 (by decide) rfl ?_
        refine hr_iinc X (v5 + 1) dX4_liesPlaced_57 rfl (by rw [kc_1]) (by decide) rfl ?_
        refine hr_goto X 24 dX4_liesPlaced_60 rfl ?_
        exact hr_wk (hs_some (hs_some (hs_none (hs_some (hs_some (hs_some (hs_none (hs_nil)))))))) (ih (v4 ||| (hn_ishl 1 r1)) (v5 + 1) M2)
      · refine hr_iload X dX4_liesPlaced_45 rfl ?_
        exact hr_iret X dX4_liesPlaced_47
set_option maxRecDepth 100000 in
set_option maxHeartbeats 4000000 in
theorem c_X4_liesPlaced  {t0 : Nat} (hl_t0 : t0 < 69) (hs_t0 : hf_shp t0 = 4) {t1 : Nat} (hl_t1 : t1 < 69) (hs_t1 : hf_shp t1 = 2) (a2 : Int32) (M : hf_M) : hf_CI yX4_liesPlaced cX4_liesPlaced 7 (some .int) (3) (fun g => [.ref (hf_a g t0), .ref (hf_a g t1), .int a2]) M (s_X4_liesPlaced t0 t1 a2 M) := by
  refine hf_metI (by decide +kernel) (fun g => Nat.le_of_ble_eq_true rfl) (fun g p l ev s m args below meth c X => ?_)
  have X : hf_X g p s m args meth c cX4_liesPlaced 7 RX4 (some .int) := X
  show hf_W g p l ev (3) s m args below meth c 7 (hf_QI g below args s) M 0 [some (.ref (hf_a g t0)), some (.ref (hf_a g t1)), some (.int a2), none, none, none, none] [] (s_X4_liesPlaced t0 t1 a2 M)
  unfold s_X4_liesPlaced
  refine hr_aload_n X dX4_liesPlaced_0 rfl ?_
  refine hr_gR X 3 hl_t0 hs_t0 lg_RX4_10 rfl dX4_liesPlaced_1 (fun q1 hl_q1 hs_q1 => ?_)
  refine hr_gI X hl_q1 hs_q1 lg_RX4_149 dX4_liesPlaced_4 ?_
  refine hr_aload_n X dX4_liesPlaced_7 rfl ?_
  refine hr_gR X 3 hl_t0 hs_t0 lg_RX4_10 rfl dX4_liesPlaced_8 (fun q2 hl_q2 hs_q2 => ?_)
  refine hr_gI X hl_q2 hs_q2 lg_RX4_152 dX4_liesPlaced_11 ?_
  refine hr_isub X dX4_liesPlaced_14 ?_
  refine hr_iload_n X dX4_liesPlaced_15 rfl ?_
  refine hr_isub X dX4_liesPlaced_16 ?_
  refine hr_istore_n X dX4_liesPlaced_17 (by decide) rfl ?_
  refine hr_iconst X 0 dX4_liesPlaced_18 kc_0 ?_
  refine hr_istore X dX4_liesPlaced_19 (by decide) rfl ?_
  refine hr_iconst X 0 dX4_liesPlaced_21 kc_0 ?_
  refine hr_istore X dX4_liesPlaced_22 (by decide) rfl ?_
  exact hr_wk (hs_some (hs_some (hs_none (hs_some (hs_some (hs_some (hs_none (hs_nil)))))))) (w_X4_liesPlaced_24 X hl_t0 hs_t0 hl_t1 hs_t1 (((M.1 q1 12) - (M.1 q2 13)) - a2) 2000 0 0 M)
