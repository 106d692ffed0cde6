set_option maxRecDepth 100000 in
set_option maxHeartbeats 4000000 in
theorem c_X5_sureBy  {t0 : Nat} (hl_t0 : t0 < 69) (hs_t0 : hf_shp t0 = 5) (a1 : Int32) (a2 : Int64) (M : hf_M) : hf_CI yX5_sureBy cX5_sureBy 6 (some .int) (2) (fun g => [.ref (hf_a g t0), .int a1, .long a2]) M (s_X5_sureBy t0 a1 a2 M) := by
  refine hf_metI (by decide +kernel) (fun g => Nat.le_of_ble_eq_true rfl) (fun g p l ev s m args below meth c X => ?_)
  have X : hf_X g p s m args meth c cX5_sureBy 6 RX5 (some .int) := X
  show hf_W g p l ev (2) s m args below meth c 6 (hf_QI g below args s) M 0 [some (.ref (hf_a g t0)), some (.int a1), some (.long a2), none, none, none] [] (s_X5_sureBy t0 a1 a2 M)
  unfold s_X5_sureBy
  refine hr_lload_n X dX5_sureBy_0 rfl ?_
  refine hr_aload_n X dX5_sureBy_1 rfl ?_
  refine hr_iload_n X dX5_sureBy_2 rfl ?_
  refine hr_iconst X 1 dX5_sureBy_3 kc_1 ?_
  refine hr_cvJ X [.int a1, .int 1] [.long a2] (c_X5_those hl_t0 hs_t0 a1 1 M) lk_RX5_157 rfl rfl rfl hl_t0 hs_t0 ⟨by decide, rfl⟩ (by decide) (Nat.le_of_ble_eq_true rfl) dX5_sureBy_4 (fun r1 M2 _ => ?_)
  refine hr_land X dX5_sureBy_7 ?_
  refine hr_lstore X dX5_sureBy_8 (by decide) rfl ?_
  refine hr_lload_n X dX5_sureBy_10 rfl ?_
  refine hr_lconst X 0 dX5_sureBy_11 rfl ?_
  refine hr_lcmp X dX5_sureBy_12 ?_
  refine hr_if_ne X 20 dX5_sureBy_13 rfl ?_ ?_
  · refine hr_lload X dX5_sureBy_20 rfl ?_
    refine hr_lload_n X dX5_sureBy_22 rfl ?_
    refine hr_lcmp X dX5_sureBy_23 ?_
    refine hr_if_ne X 31 dX5_sureBy_24 rfl ?_ ?_
    · refine hr_lload X dX5_sureBy_31 rfl ?_
      refine hr_lconst X 0 dX5_sureBy_33 rfl ?_
      refine hr_lcmp X dX5_sureBy_34 ?_
      refine hr_if_ne X 42 dX5_sureBy_35 rfl ?_ ?_
      · refine hr_iconst X (-1) dX5_sureBy_42 kc_m1 ?_
        exact hr_iret X dX5_sureBy_43
      · refine hr_iconst X 0 dX5_sureBy_38 kc_0 ?_
        refine hr_goto X 43 dX5_sureBy_39 rfl ?_
        exact hr_iret X dX5_sureBy_43
    · refine hr_iconst X 1 dX5_sureBy_27 kc_1 ?_
      refine hr_goto X 43 dX5_sureBy_28 rfl ?_
      exact hr_iret X dX5_sureBy_43
  · refine hr_iconst X (-1) dX5_sureBy_16 kc_m1 ?_
    refine hr_goto X 43 dX5_sureBy_17 rfl ?_
    exact hr_iret X dX5_sureBy_43
set_option maxRecDepth 100000 in
set_option maxHeartbeats 4000000 in
theorem c_X5_sure  {t0 : Nat} (hl_t0 : t0 < 69) (hs_t0 : hf_shp t0 = 5) (a1 : Int32) (M : hf_M) : hf_CI yX5_sure cX5_sure 2 (some .int) (5) (fun g => [.ref (hf_a g t0), .int a1]) M (s_X5_sure t0 a1 M) := by
  refine hf_metI (by decide +kernel) (fun g => Nat.le_of_ble_eq_true rfl) (fun g p l ev s m args below meth c X => ?_)
  have X : hf_X g p s m args meth c cX5_sure 2 RX5 (some .int) := X
  show hf_W g p l ev (5) s m args below meth c 2 (hf_QI g below args s) M 0 [some (.ref (hf_a g t0)), some (.int a1)] [] (s_X5_sure t0 a1 M)
  unfold s_X5_sure
  refine hr_aload_n X dX5_sure_0 rfl ?_
  refine hr_iload_n X dX5_sure_1 rfl ?_
  refine hr_cvI X [.int a1] [] (c_X5_isFact hl_t0 hs_t0 a1 M) lk_RX5_121 rfl rfl rfl hl_t0 hs_t0 ⟨by decide, rfl⟩ (by decide) (Nat.le_of_ble_eq_true rfl) dX5_sure_2 (fun r1 M2 _ => ?_)
  refine hr_if_eq X 20 dX5_sure_5 rfl ?_ ?_
  · refine hr_aload_n X dX5_sure_20 rfl ?_
    refine hr_iconst X (-1) dX5_sure_21 kc_m1 ?_
    refine hr_cvI X [.int (-1)] [] (c_X5_noTen hl_t0 hs_t0 (-1) M2) lk_RX5_226 rfl rfl rfl hl_t0 hs_t0 ⟨by decide, rfl⟩ (by decide) (Nat.le_of_ble_eq_true rfl) dX5_sure_22 (fun r3 M4 _ => ?_)
    exact hr_iret X dX5_sure_25
  · refine hr_aload_n X dX5_sure_8 rfl ?_
    refine hr_iload_n X dX5_sure_9 rfl ?_
    refine hr_aload_n X dX5_sure_10 rfl ?_
    refine hr_cvJ X [] [.int a1, .ref (hf_a g t0)] (c_X5_worldsNow hl_t0 hs_t0 M2) lk_RX5_142 rfl rfl rfl hl_t0 hs_t0 ⟨by decide, rfl⟩ (by decide) (Nat.le_of_ble_eq_true rfl) dX5_sure_11 (fun r5 M6 _ => ?_)
    refine hr_cvI X [.int a1, .long r5] [] (c_X5_sureBy hl_t0 hs_t0 a1 r5 M6) lk_RX5_222 rfl rfl rfl hl_t0 hs_t0 ⟨by decide, rfl⟩ (by decide) (Nat.le_of_ble_eq_true rfl) dX5_sure_14 (fun r7 M8 _ => ?_)
    refine hr_goto X 25 dX5_sure_17 rfl ?_
    exact hr_iret X dX5_sure_25
set_option maxRecDepth 100000 in
set_option maxHeartbeats 4000000 in
theorem w_X5_sures_10 {g : hf_G} {p : Program} {l : Launch} {ev : Env} {s : State} {m : MethodId} {args : Array Value} {below : List Frame} {meth : Method} {c : Code} (X : hf_X g p s m args meth c cX5_sures 5 RX5 (some .int))    {t0 : Nat} (hl_t0 : t0 < 69) (hs_t0 : hf_shp t0 = 5) (v1 : Int64) : ∀ (n : Nat) (v3 : Int32) (v4 : Int32) (M : hf_M), hf_W g p l ev (5) s m args below meth c 5 (hf_QI g below args s) M 10 [some (.ref (hf_a g t0)), some (.long v1), none, some (.int v3), some (.int v4)] [] (s_X5_sures_10 t0 v1 n v3 v4 M) := by
  intro n
  induction n with
  | zero =>
    intros
    exact hr_none
  | succ n ih =>
    intro v3 v4 M
    rw [s_X5_sures_10]
    refine hr_iload X dX5_sures_10 rfl ?_
    refine hr_aload_n X dX5_sures_12 rfl ?_
    refine hr_gI X hl_t0 hs_t0 lg_RX5_89 dX5_sures_13 ?_
    refine hr_icmp_ge X 43 dX5_sures_16 rfl ?_ ?_
    · refine hr_iload_n X dX5_sures_43 rfl ?_
      exact hr_iret X dX5_sures_44
    · refine hr_aload_n X dX5_sures_19 rfl ?_
      refine hr_iload X dX5_sures_20 rfl ?_
      refine hr_lload_n X dX5_sures_22 rfl ?_
      refine hr_cvI X [.int v4, .long v1] [] (c_X5_sureBy hl_t0 hs_t0 v4 v1 M) lk_RX5_222 rfl rfl rfl hl_t0 hs_t0 ⟨by decide, rfl⟩ (by decide) (Nat.le_of_ble_eq_true rfl) dX5_sures_23 (fun r1 M2 _ => ?_)
      refine hr_iconst X (-1) dX5_sures_26 kc_m1 ?_
      refine hr_icmp_eq X 37 dX5_sures_27 rfl ?_ ?_
      · refine hr_iinc X (v4 + 1) dX5_sures_37 rfl (by rw [kc_1]) (by decide) rfl ?_
        refine hr_goto X 10 dX5_sures_40 rfl ?_
        exact hr_wk (hs_some (hs_some (hs_none (hs_some (hs_some (hs_nil)))))) (ih v3 (v4 + 1) M2)
      · refine hr_iload_n X dX5_sures_30 rfl ?_
        refine hr_iconst X 1 dX5_sures_31 kc_1 ?_
        refine hr_iload X dX5_sures_32 rfl ?_
        refine hr_ishl X dX5_sures_34 ?_
        refine hr_ior X dX5_sures_35 ?_
        refine hr_istore_n X dX5_sures_36 (by decide) rfl ?_
        refine hr_iinc X (v4 + 1) dX5_sures_37 rfl (by rw [kc_1]) (by decide) rfl ?_
        refine hr_goto X 10 dX5_sures_40 rfl ?_
        exact hr_wk (hs_some (hs_some (hs_none (hs_some (hs_some (hs_nil)))))) (ih (v3 ||| (hn_ishl 1 v4)) (v4 + 1) M2)
set_option maxRecDepth 100000 in
set_option maxHeartbeats 4000000 in
theorem c_X5_sures  {t0 : Nat} (hl_t0 : t0 < 69) (hs_t0 : hf_shp t0 = 5) (M : hf_M) : hf_CI yX5_sures cX5_sures 5 (some .int) (5) (fun g => [.ref (hf_a g t0)]) M (s_X5_sures t0 M) := by
  refine hf_metI (by decide +kernel) (fun g => Nat.le_of_ble_eq_true rfl) (fun g p l ev s m args below meth c X => ?_)
  have X : hf_X g p s m args meth c cX5_sures 5 RX5 (some .int) := X
  show hf_W g p l ev (5) s m args below meth c 5 (hf_QI g below args s) M 0 [some (.ref (hf_a g t0)), none, none, none, none] [] (s_X5_sures t0 M)
  unfold s_X5_sures
  refine hr_aload_n X dX5_sures_0 rfl ?_
  refine hr_cvJ X [] [] (c_X5_worldsNow hl_t0 hs_t0 M) lk_RX5_142 rfl rfl rfl hl_t0 hs_t0 ⟨by decide, rfl⟩ (by decide) (Nat.le_of_ble_eq_true rfl) dX5_sures_1 (fun r1 M2 _ => ?_)
  refine hr_lstore_n X dX5_sures_4 (by decide) rfl ?_
  refine hr_iconst X 0 dX5_sures_5 kc_0 ?_
  refine hr_istore_n X dX5_sures_6 (by decide) rfl ?_
  refine hr_iconst X 0 dX5_sures_7 kc_0 ?_
  refine hr_istore X dX5_sures_8 (by decide) rfl ?_
  exact hr_wk (hs_some (hs_some (hs_none (hs_some (hs_some (hs_nil)))))) (w_X5_sures_10 X hl_t0 hs_t0 r1 2000 0 0 M2)
set_option maxRecDepth 100000 in
set_option maxHeartbeats 4000000 in
theorem w_X5_shown_36 {g : hf_G} {p : Program} {l : Launch} {ev : Env} {s : State} {m : MethodId} {args : Array Value} {below : List Frame} {meth : Method} {c : Code} (X : hf_X g p s m args meth c cX5_shown 3 RX5 (some .int))    {t0 : Nat} (hl_t0 : t0 < 69) (hs_t0 : hf_shp t0 = 5) (v1 : Int32) : ∀ (n : Nat) (v2 : Int32) (M : hf_M), hf_W g p l ev (5) s m args below meth c 3 (hf_QI g below args s) M 36 [some (.ref (hf_a g t0)), some (.int v1), some (.int v2)] [] (s_X5_shown_36 t0 v1 n v2 M) := by
  intro n
  induction n with
  | zero =>
    intros
    exact hr_none
  | succ n ih =>
    intro v2 M
    rw [s_X5_shown_36]
    refine hr_aload_n X dX5_shown_36 rfl ?_
    refine hr_iload_n X dX5_shown_37 rfl ?_
    refine hr_aload_n X dX5_shown_38 rfl ?_
    refine hr_iconst X 1 dX5_shown_39 kc_1 ?_
    refine hr_iload_n X dX5_shown_40 rfl ?_
    refine hr_ishl X dX5_shown_41 ?_
    refine hr_iconst X 1 dX5_shown_42 kc_1 ?_
    refine hr_isub X dX5_shown_43 ?_
    refine hr_iconst X (-1) dX5_shown_44 kc_m1 ?_
    refine hr_cvJ X [.int ((hn_ishl 1 v2) - 1), .int (-1)] [.int v1, .ref (hf_a g t0)] (c_X5_worldsOf hl_t0 hs_t0 ((hn_ishl 1 v2) - 1) (-1) M) lk_RX5_134 rfl rfl rfl hl_t0 hs_t0 ⟨by decide, rfl⟩ (by decide) (Nat.le_of_ble_eq_true rfl) dX5_shown_45 (fun r1 M2 _ => ?_)
    refine hr_cvI X [.int v1, .long r1] [] (c_X5_sureBy hl_t0 hs_t0 v1 r1 M2) lk_RX5_222 rfl rfl rfl hl_t0 hs_t0 ⟨by decide, rfl⟩ (by decide) (Nat.le_of_ble_eq_true rfl) dX5_shown_48 (fun r3 M4 _ => ?_)
    refine hr_iconst X (-1) dX5_shown_51 kc_m1 ?_
    refine hr_icmp_ne X 61 dX5_shown_52 rfl ?_ ?_
    · refine hr_iload_n X dX5_shown_61 rfl ?_
      exact hr_iret X dX5_shown_62
    · refine hr_iinc X (v2 + 1) dX5_shown_55 rfl (by rw [kc_1]) (by decide) rfl ?_
      refine hr_goto X 36 dX5_shown_58 rfl ?_
      exact hr_wk (hs_some (hs_some (hs_some (hs_nil)))) (ih (v2 + 1) M4)
set_option maxRecDepth 100000 in
set_option maxHeartbeats 4000000 in
theorem c_X5_shown  {t0 : Nat} (hl_t0 : t0 < 69) (hs_t0 : hf_shp t0 = 5) (a1 : Int32) (M : hf_M) : hf_CI yX5_shown cX5_shown 3 (some .int) (5) (fun g => [.ref (hf_a g t0), .int a1]) M (s_X5_shown t0 a1 M) := by
  refine hf_metI (by decide +kernel) (fun g => Nat.le_of_ble_eq_true rfl) (fun g p l ev s m args below meth c X => ?_)
  have X : hf_X g p s m args meth c cX5_shown 3 RX5 (some .int) := X
  show hf_W g p l ev (5) s m args below meth c 3 (hf_QI g below args s) M 0 [some (.ref (hf_a g t0)), some (.int a1), none] [] (s_X5_shown t0 a1 M)
  unfold s_X5_shown
  refine hr_aload_n X dX5_shown_0 rfl ?_
  refine hr_iload_n X dX5_shown_1 rfl ?_
  refine hr_cvI X [.int a1] [] (c_X5_isFact hl_t0 hs_t0 a1 M) lk_RX5_121 rfl rfl rfl hl_t0 hs_t0 ⟨by decide, rfl⟩ (by decide) (Nat.le_of_ble_eq_true rfl) dX5_shown_2 (fun r1 M2 _ => ?_)
  refine hr_if_ne X 14 dX5_shown_5 rfl ?_ ?_
  · refine hr_aload_n X dX5_shown_14 rfl ?_
    refine hr_iload_n X dX5_shown_15 rfl ?_
    refine hr_aload_n X dX5_shown_16 rfl ?_
    refine hr_cvJ X [] [.int a1, .ref (hf_a g t0)] (c_X5_worldsNow hl_t0 hs_t0 M2) lk_RX5_142 rfl rfl rfl hl_t0 hs_t0 ⟨by decide, rfl⟩ (by decide) (Nat.le_of_ble_eq_true rfl) dX5_shown_17 (fun r3 M4 _ => ?_)
    refine hr_cvI X [.int a1, .long r3] [] (c_X5_sureBy hl_t0 hs_t0 a1 r3 M4) lk_RX5_222 rfl rfl rfl hl_t0 hs_t0 ⟨by decide, rfl⟩ (by decide) (Nat.le_of_ble_eq_true rfl) dX5_shown_20 (fun r5 M6 _ => ?_)
    refine hr_iconst X (-1) dX5_shown_23 kc_m1 ?_
    refine hr_icmp_ne X 34 dX5_shown_24 rfl ?_ ?_
    · refine hr_iconst X 0 dX5_shown_34 kc_0 ?_
      refine hr_istore_n X dX5_shown_35 (by decide) rfl ?_
      exact hr_wk (hs_some (hs_some (hs_some (hs_nil)))) (w_X5_shown_36 X hl_t0 hs_t0 a1 2000 0 M6)
    · refine hr_aload_n X dX5_shown_27 rfl ?_
      refine hr_bipush X (-5) dX5_shown_28 kb_m5 ?_
      refine hr_cvI X [.int (-5)] [] (c_X5_no hl_t0 hs_t0 (-5) M6) lk_RX5_99 rfl rfl rfl hl_t0 hs_t0 ⟨by decide, rfl⟩ (by decide) (Nat.le_of_ble_eq_true rfl) dX5_shown_30 (fun r7 M8 _ => ?_)
      exact hr_iret X dX5_shown_33
  · refine hr_aload_n X dX5_shown_8 rfl ?_
    refine hr_iconst X (-1) dX5_shown_9 kc_m1 ?_
    refine hr_cvI X [.int (-1)] [] (c_X5_no hl_t0 hs_t0 (-1) M2) lk_RX5_99 rfl rfl rfl hl_t0 hs_t0 ⟨by decide, rfl⟩ (by decide) (Nat.le_of_ble_eq_true rfl) dX5_shown_10 (fun r9 M10 _ => ?_)
    exact hr_iret X dX5_shown_13
set_option maxRecDepth 100000 in
set_option maxHeartbeats 4000000 in
theorem w_X5_proof_60 {g : hf_G} {p : Program} {l : Launch} {ev : Env} {s : State} {m : MethodId} {args : Array Value} {below : List Frame} {meth : Method} {c : Code} (X : hf_X g p s m args meth c cX5_proof 6 RX5 (some .int))    {t0 : Nat} (hl_t0 : t0 < 69) (hs_t0 : hf_shp t0 = 5) (v1 : Int32) (v2 : Int32) : ∀ (n : Nat) (v3 : Int32) (v4 : Int32) (M : hf_M), hf_W g p l ev (5) s m args below meth c 6 (hf_QI g below args s) M 60 [some (.ref (hf_a g t0)), some (.int v1), some (.int v2), some (.int v3), some (.int v4), none] [] (s_X5_proof_60 t0 v1 v2 n v3 v4 M) := by
  intro n
  induction n with
  | zero =>
    intros
    exact hr_none
  | succ n ih =>
    intro v3 v4 M
    rw [s_X5_proof_60]
    refine hr_iload X dX5_proof_60 rfl ?_
    refine hr_iconst X 1 dX5_proof_62 kc_1 ?_
    refine hr_aload_n X dX5_proof_63 rfl ?_
    refine hr_gI X hl_t0 hs_t0 lg_RX5_118 dX5_proof_64 ?_
    refine hr_ishl X dX5_proof_67 ?_
    refine hr_icmp_ge X 111 dX5_proof_68 rfl ?_ ?_
    · refine hr_iload_n X dX5_proof_111 rfl ?_
      exact hr_iret X dX5_proof_112
    · refine hr_aload_n X dX5_proof_71 rfl ?_
      refine hr_iload X dX5_proof_72 rfl ?_
      refine hr_i2l X dX5_proof_74 ?_
      refine hr_cvI X [.long v4.toInt64] [] (c_X5_count hl_t0 hs_t0 v4.toInt64 M) lk_RX5_146 rfl rfl rfl hl_t0 hs_t0 ⟨by decide, rfl⟩ (by decide) (Nat.le_of_ble_eq_true rfl) dX5_proof_75 (fun r1 M2 _ => ?_)
      refine hr_istore X dX5_proof_78 (by decide) rfl ?_
      refine hr_iload X dX5_proof_80 rfl ?_
      refine hr_iload_n X dX5_proof_82 rfl ?_
      refine hr_icmp_ge X 105 dX5_proof_83 rfl ?_ ?_
      · refine hr_iinc X (v4 + 1) dX5_proof_105 rfl (by rw [kc_1]) (by decide) rfl ?_
        refine hr_goto X 60 dX5_proof_108 rfl ?_
        exact hr_wk (hs_some (hs_some (hs_some (hs_some (hs_some (hs_none (hs_nil))))))) (ih v3 (v4 + 1) M2)
      · refine hr_aload_n X dX5_proof_86 rfl ?_
        refine hr_iload_n X dX5_proof_87 rfl ?_
        refine hr_aload_n X dX5_proof_88 rfl ?_
        refine hr_iload X dX5_proof_89 rfl ?_
        refine hr_iconst X (-1) dX5_proof_91 kc_m1 ?_
        refine hr_cvJ X [.int v4, .int (-1)] [.int v1, .ref (hf_a g t0)] (c_X5_worldsOf hl_t0 hs_t0 v4 (-1) M2) lk_RX5_134 rfl rfl rfl hl_t0 hs_t0 ⟨by decide, rfl⟩ (by decide) (Nat.le_of_ble_eq_true rfl) dX5_proof_92 (fun r3 M4 _ => ?_)
        refine hr_cvI X [.int v1, .long r3] [] (c_X5_sureBy hl_t0 hs_t0 v1 r3 M4) lk_RX5_222 rfl rfl rfl hl_t0 hs_t0 ⟨by decide, rfl⟩ (by decide) (Nat.le_of_ble_eq_true rfl) dX5_proof_95 (fun r5 M6 _ => ?_)
        refine hr_iload_n X dX5_proof_98 rfl ?_
        refine hr_icmp_ne X 105 dX5_proof_99 rfl ?_ ?_
        · refine hr_iinc X (v4 + 1) dX5_proof_105 rfl (by rw [kc_1]) (by decide) rfl ?_
          refine hr_goto X 60 dX5_proof_108 rfl ?_
          exact hr_wk (hs_some (hs_some (hs_some (hs_some (hs_some (hs_none (hs_nil))))))) (ih v3 (v4 + 1) M6)
        · refine hr_iload X dX5_proof_102 rfl ?_
          refine hr_istore_n X dX5_proof_104 (by decide) rfl ?_
          refine hr_iinc X (v4 + 1) dX5_proof_105 rfl (by rw [kc_1]) (by decide) rfl ?_
          refine hr_goto X 60 dX5_proof_108 rfl ?_
          exact hr_wk (hs_some (hs_some (hs_some (hs_some (hs_some (hs_none (hs_nil))))))) (ih r1 (v4 + 1) M6)
set_option maxRecDepth 100000 in
set_option maxHeartbeats 4000000 in
theorem c_X5_proof  {t0 : Nat} (hl_t0 : t0 < 69) (hs_t0 : hf_shp t0 = 5) (a1 : Int32) (M : hf_M) : hf_CI yX5_proof cX5_proof 6 (some .int) (5) (fun g => [.ref (hf_a g t0), .int a1]) M (s_X5_proof t0 a1 M) := by
  refine hf_metI (by decide +kernel) (fun g => Nat.le_of_ble_eq_true rfl) (fun g p l ev s m args below meth c X => ?_)
  have X : hf_X g p s m args meth c cX5_proof 6 RX5 (some .int) := X
  show hf_W g p l ev (5) s m args below meth c 6 (hf_QI g below args s) M 0 [some (.ref (hf_a g t0)), some (.int a1), none, none, none, none] [] (s_X5_proof t0 a1 M)
  unfold s_X5_proof
  refine hr_aload_n X dX5_proof_0 rfl ?_
  refine hr_iload_n X dX5_proof_1 rfl ?_
  refine hr_cvI X [.int a1] [] (c_X5_isFact hl_t0 hs_t0 a1 M) lk_RX5_121 rfl rfl rfl hl_t0 hs_t0 ⟨by decide, rfl⟩ (by decide) (Nat.le_of_ble_eq_true rfl) dX5_proof_2 (fun r1 M2 _ => ?_)
  refine hr_if_ne X 14 dX5_proof_5 rfl ?_ ?_
  · refine hr_aload_n X dX5_proof_14 rfl ?_
    refine hr_iload_n X dX5_proof_15 rfl ?_
    refine hr_aload_n X dX5_proof_16 rfl ?_
    refine hr_cvJ X [] [.int a1, .ref (hf_a g t0)] (c_X5_worldsNow hl_t0 hs_t0 M2) lk_RX5_142 rfl rfl rfl hl_t0 hs_t0 ⟨by decide, rfl⟩ (by decide) (Nat.le_of_ble_eq_true rfl) dX5_proof_17 (fun r3 M4 _ => ?_)
    refine hr_cvI X [.int a1, .long r3] [] (c_X5_sureBy hl_t0 hs_t0 a1 r3 M4) lk_RX5_222 rfl rfl rfl hl_t0 hs_t0 ⟨by decide, rfl⟩ (by decide) (Nat.le_of_ble_eq_true rfl) dX5_proof_20 (fun r5 M6 _ => ?_)
    refine hr_istore_n X dX5_proof_23 (by decide) rfl ?_
    refine hr_iload_n X dX5_proof_24 rfl ?_
    refine hr_iconst X (-1) dX5_proof_25 kc_m1 ?_
    refine hr_icmp_ne X 36 dX5_proof_26 rfl ?_ ?_
    · refine hr_aload_n X dX5_proof_36 rfl ?_
      refine hr_gI X hl_t0 hs_t0 lg_RX5_118 dX5_proof_37 ?_
      refine hr_bipush X 10 dX5_proof_40 kb_10 ?_
      refine hr_icmp_le X 52 dX5_proof_42 rfl ?_ ?_
      · refine hr_aload_n X dX5_proof_52 rfl ?_
        refine hr_gI X hl_t0 hs_t0 lg_RX5_118 dX5_proof_53 ?_
        refine hr_istore_n X dX5_proof_56 (by decide) rfl ?_
        refine hr_iconst X 0 dX5_proof_57 kc_0 ?_
        refine hr_istore X dX5_proof_58 (by decide) rfl ?_
        exact hr_wk (hs_some (hs_some (hs_some (hs_some (hs_some (hs_none (hs_nil))))))) (w_X5_proof_60 X hl_t0 hs_t0 a1 r5 2000 (M6.1 t0 2) 0 M6)
      · refine hr_aload_n X dX5_proof_45 rfl ?_
        refine hr_bipush X (-7) dX5_proof_46 kb_m7 ?_
        refine hr_cvI X [.int (-7)] [] (c_X5_no hl_t0 hs_t0 (-7) M6) lk_RX5_99 rfl rfl rfl hl_t0 hs_t0 ⟨by decide, rfl⟩ (by decide) (Nat.le_of_ble_eq_true rfl) dX5_proof_48 (fun r7 M8 _ => ?_)
        exact hr_iret X dX5_proof_51
    · refine hr_aload_n X dX5_proof_29 rfl ?_
      refine hr_bipush X (-5) dX5_proof_30 kb_m5 ?_
      refine hr_cvI X [.int (-5)] [] (c_X5_no hl_t0 hs_t0 (-5) M6) lk_RX5_99 rfl rfl rfl hl_t0 hs_t0 ⟨by decide, rfl⟩ (by decide) (Nat.le_of_ble_eq_true rfl) dX5_proof_32 (fun r9 M10 _ => ?_)
      exact hr_iret X dX5_proof_35
  · refine hr_aload_n X dX5_proof_8 rfl ?_
    refine hr_iconst X (-1) dX5_proof_9 kc_m1 ?_
    refine hr_cvI X [.int (-1)] [] (c_X5_no hl_t0 hs_t0 (-1) M2) lk_RX5_99 rfl rfl rfl hl_t0 hs_t0 ⟨by decide, rfl⟩ (by decide) (Nat.le_of_ble_eq_true rfl) dX5_proof_10 (fun r11 M12 _ => ?_)
    exact hr_iret X dX5_proof_13
set_option maxRecDepth 100000 in
set_option maxHeartbeats 4000000 in
theorem c_X5_worstOf  {t0 : Nat} (hl_t0 : t0 < 69) (hs_t0 : hf_shp t0 = 5) (a1 : Int32) (a2 : Int32) (M : hf_M) : hf_CI yX5_worstOf cX5_worstOf 5 (some .int) (6) (fun g => [.ref (hf_a g t0), .int a1, .int a2]) M (s_X5_worstOf t0 a1 a2 M) := by
  refine hf_metI (by decide +kernel) (fun g => Nat.le_of_ble_eq_true rfl) (fun g p l ev s m args below meth c X => ?_)
  have X : hf_X g p s m args meth c cX5_worstOf 5 RX5 (some .int) := X
  show hf_W g p l ev (6) s m args below meth c 5 (hf_QI g below args s) M 0 [some (.ref (hf_a g t0)), some (.int a1), some (.int a2), none, none] [] (s_X5_worstOf t0 a1 a2 M)
  unfold s_X5_worstOf
  refine hr_aload_n X dX5_worstOf_0 rfl ?_
  refine hr_iload_n X dX5_worstOf_1 rfl ?_
  refine hr_iload_n X dX5_worstOf_2 rfl ?_
  refine hr_iconst X 1 dX5_worstOf_3 kc_1 ?_
  refine hr_cvI X [.int a1, .int a2, .int 1] [] (c_X5_leaves hl_t0 hs_t0 a1 a2 1 M) lk_RX5_153 rfl rfl rfl hl_t0 hs_t0 ⟨by decide, rfl⟩ (by decide) (Nat.le_of_ble_eq_true rfl) dX5_worstOf_4 (fun r1 M2 _ => ?_)
  refine hr_istore_n X dX5_worstOf_7 (by decide) rfl ?_
  refine hr_aload_n X dX5_worstOf_8 rfl ?_
  refine hr_iload_n X dX5_worstOf_9 rfl ?_
  refine hr_iload_n X dX5_worstOf_10 rfl ?_
  refine hr_iconst X 0 dX5_worstOf_11 kc_0 ?_
  refine hr_cvI X [.int a1, .int a2, .int 0] [] (c_X5_leaves hl_t0 hs_t0 a1 a2 0 M2) lk_RX5_153 rfl rfl rfl hl_t0 hs_t0 ⟨by decide, rfl⟩ (by decide) (Nat.le_of_ble_eq_true rfl) dX5_worstOf_12 (fun r3 M4 _ => ?_)
  refine hr_istore X dX5_worstOf_15 (by decide) rfl ?_
  refine hr_iload_n X dX5_worstOf_17 rfl ?_
  refine hr_iload X dX5_worstOf_18 rfl ?_
  refine hr_icmp_le X 27 dX5_worstOf_20 rfl ?_ ?_
  · refine hr_iload X dX5_worstOf_27 rfl ?_
    exact hr_iret X dX5_worstOf_29
  · refine hr_iload_n X dX5_worstOf_23 rfl ?_
    refine hr_goto X 29 dX5_worstOf_24 rfl ?_
    exact hr_iret X dX5_worstOf_29
set_option maxRecDepth 100000 in
set_option maxHeartbeats 4000000 in
theorem c_X5_worst  {t0 : Nat} (hl_t0 : t0 < 69) (hs_t0 : hf_shp t0 = 5) (a1 : Int32) (a2 : Int32) (M : hf_M) : hf_CI yX5_worst cX5_worst 3 (some .int) (7) (fun g => [.ref (hf_a g t0), .int a1, .int a2]) M (s_X5_worst t0 a1 a2 M) := by
  refine hf_metI (by decide +kernel) (fun g => Nat.le_of_ble_eq_true rfl) (fun g p l ev s m args below meth c X => ?_)
  have X : hf_X g p s m args meth c cX5_worst 3 RX5 (some .int) := X
  show hf_W g p l ev (7) s m args below meth c 3 (hf_QI g below args s) M 0 [some (.ref (hf_a g t0)), some (.int a1), some (.int a2)] [] (s_X5_worst t0 a1 a2 M)
  unfold s_X5_worst
  refine hr_aload_n X dX5_worst_0 rfl ?_
  refine hr_iload_n X dX5_worst_1 rfl ?_
  refine hr_cvI X [.int a1] [] (c_X5_isSpeaker hl_t0 hs_t0 a1 M) lk_RX5_103 rfl rfl rfl hl_t0 hs_t0 ⟨by decide, rfl⟩ (by decide) (Nat.le_of_ble_eq_true rfl) dX5_worst_2 (fun r1 M2 _ => ?_)
  refine hr_if_eq X 16 dX5_worst_5 rfl ?_ ?_
  · refine hr_aload_n X dX5_worst_16 rfl ?_
    refine hr_iconst X (-1) dX5_worst_17 kc_m1 ?_
    refine hr_cvI X [.int (-1)] [] (c_X5_no hl_t0 hs_t0 (-1) M2) lk_RX5_99 rfl rfl rfl hl_t0 hs_t0 ⟨by decide, rfl⟩ (by decide) (Nat.le_of_ble_eq_true rfl) dX5_worst_18 (fun r3 M4 _ => ?_)
    exact hr_iret X dX5_worst_21
  · refine hr_aload_n X dX5_worst_8 rfl ?_
    refine hr_iload_n X dX5_worst_9 rfl ?_
    refine hr_cvI X [.int a2] [] (c_X5_isFact hl_t0 hs_t0 a2 M2) lk_RX5_121 rfl rfl rfl hl_t0 hs_t0 ⟨by decide, rfl⟩ (by decide) (Nat.le_of_ble_eq_true rfl) dX5_worst_10 (fun r5 M6 _ => ?_)
    refine hr_if_ne X 22 dX5_worst_13 rfl ?_ ?_
    · refine hr_aload_n X dX5_worst_22 rfl ?_
      refine hr_iload_n X dX5_worst_23 rfl ?_
      refine hr_cvI X [.int a1] [] (c_X5_isFull hl_t0 hs_t0 a1 M6) lk_RX5_150 rfl rfl rfl hl_t0 hs_t0 ⟨by decide, rfl⟩ (by decide) (Nat.le_of_ble_eq_true rfl) dX5_worst_24 (fun r7 M8 _ => ?_)
      refine hr_if_eq X 39 dX5_worst_27 rfl ?_ ?_
      · refine hr_aload_n X dX5_worst_39 rfl ?_
        refine hr_iload_n X dX5_worst_40 rfl ?_
        refine hr_iload_n X dX5_worst_41 rfl ?_
        refine hr_cvI X [.int a1, .int a2] [] (c_X5_worstOf hl_t0 hs_t0 a1 a2 M8) lk_RX5_229 rfl rfl rfl hl_t0 hs_t0 ⟨by decide, rfl⟩ (by decide) (Nat.le_of_ble_eq_true rfl) dX5_worst_42 (fun r9 M10 _ => ?_)
        exact hr_iret X dX5_worst_45
      · refine hr_aload_n X dX5_worst_30 rfl ?_
        refine hr_bipush X (-6) dX5_worst_31 kb_m6 ?_
        refine hr_cvI X [.int (-6)] [] (c_X5_no hl_t0 hs_t0 (-6) M8) lk_RX5_99 rfl rfl rfl hl_t0 hs_t0 ⟨by decide, rfl⟩ (by decide) (Nat.le_of_ble_eq_true rfl) dX5_worst_33 (fun r11 M12 _ => ?_)
        refine hr_goto X 45 dX5_worst_36 rfl ?_
        exact hr_iret X dX5_worst_45
    · refine hr_aload_n X dX5_worst_16 rfl ?_
      refine hr_iconst X (-1) dX5_worst_17 kc_m1 ?_
      refine hr_cvI X [.int (-1)] [] (c_X5_no hl_t0 hs_t0 (-1) M6) lk_RX5_99 rfl rfl rfl hl_t0 hs_t0 ⟨by decide, rfl⟩ (by decide) (Nat.le_of_ble_eq_true rfl) dX5_worst_18 (fun r13 M14 _ => ?_)
      exact hr_iret X dX5_worst_21
set_option maxRecDepth 100000 in
set_option maxHeartbeats 4000000 in
theorem w_X5_next_17 {g : hf_G} {p : Program} {l : Launch} {ev : Env} {s : State} {m : MethodId} {args : Array Value} {below : List Frame} {meth : Method} {c : Code} (X : hf_X g p s m args meth c cX5_next 6 RX5 (some .int))  {t0 : Nat} (hl_t0 : t0 < 69) (hs_t0 : hf_shp t0 = 5) (k6 : Int32 → Int32 → Int32 → hf_M → Option (Int32 × hf_M)) (hk6 : ∀ (v1 : Int32) (v2 : Int32) (v3 : Int32) (M : hf_M), hf_W g p l ev (7) s m args below meth c 6 (hf_QI g below args s) M 6 [some (.ref (hf_a g t0)), some (.int v1), some (.int v2), some (.int v3), none, none] [] (k6 v1 v2 v3 M)) (v3 : Int32) : ∀ (n : Nat) (v1 : Int32) (v2 : Int32) (v4 : Int32) (M : hf_M), hf_W g p l ev (7) s m args below meth c 6 (hf_QI g below args s) M 17 [some (.ref (hf_a g t0)), some (.int v1), some (.int v2), some (.int v3), some (.int v4), none] [] (s_X5_next_17 k6 t0 v3 n v1 v2 v4 M) := by
  intro n
  induction n with
  | zero =>
    intros
    exact hr_none
  | succ n ih =>
    intro v1 v2 v4 M
    rw [s_X5_next_17]
    refine hr_iload X dX5_next_17 rfl ?_
    refine hr_aload_n X dX5_next_19 rfl ?_
    refine hr_gI X hl_t0 hs_t0 lg_RX5_89 dX5_next_20 ?_
    refine hr_icmp_ge X 74 dX5_next_23 rfl ?_ ?_
    · refine hr_iinc X (v3 + 1) dX5_next_74 rfl (by rw [kc_1]) (by decide) rfl ?_
      refine hr_goto X 6 dX5_next_77 rfl ?_
      exact hr_wk (hs_some (hs_some (hs_some (hs_some (hs_none (hs_none (hs_nil))))))) (hk6 v1 v2 (v3 + 1) M)
    · refine hr_aload_n X dX5_next_26 rfl ?_
      refine hr_iload_n X dX5_next_27 rfl ?_
      refine hr_cvI X [.int v3] [] (c_X5_isFull hl_t0 hs_t0 v3 M) lk_RX5_150 rfl rfl rfl hl_t0 hs_t0 ⟨by decide, rfl⟩ (by decide) (Nat.le_of_ble_eq_true rfl) dX5_next_28 (fun r1 M2 _ => ?_)
      refine hr_if_ne X 74 dX5_next_31 rfl ?_ ?_
      · refine hr_iinc X (v3 + 1) dX5_next_74 rfl (by rw [kc_1]) (by decide) rfl ?_
        refine hr_goto X 6 dX5_next_77 rfl ?_
        exact hr_wk (hs_some (hs_some (hs_some (hs_some (hs_none (hs_none (hs_nil))))))) (hk6 v1 v2 (v3 + 1) M2)
      · refine hr_aload_n X dX5_next_34 rfl ?_
        refine hr_iload_n X dX5_next_35 rfl ?_
        refine hr_iload X dX5_next_36 rfl ?_
        refine hr_cvI X [.int v3, .int v4] [] (c_X5_worstOf hl_t0 hs_t0 v3 v4 M2) lk_RX5_229 rfl rfl rfl hl_t0 hs_t0 ⟨by decide, rfl⟩ (by decide) (Nat.le_of_ble_eq_true rfl) dX5_next_38 (fun r3 M4 _ => ?_)
        refine hr_istore X dX5_next_41 (by decide) rfl ?_
        refine hr_iload_n X dX5_next_43 rfl ?_
        refine hr_iconst X (-1) dX5_next_44 kc_m1 ?_
        refine hr_icmp_eq X 57 dX5_next_45 rfl ?_ ?_
        · refine hr_bipush X 10 dX5_next_57 kb_10 ?_
          refine hr_iload_n X dX5_next_59 rfl ?_
          refine hr_imul X dX5_next_60 ?_
          refine hr_iload X dX5_next_61 rfl ?_
          refine hr_iadd X dX5_next_63 ?_
          refine hr_istore_n X dX5_next_64 (by decide) rfl ?_
          refine hr_iload X dX5_next_65 rfl ?_
          refine hr_istore_n X dX5_next_67 (by decide) rfl ?_
          refine hr_iinc X (v4 + 1) dX5_next_68 rfl (by rw [kc_1]) (by decide) rfl ?_
          refine hr_goto X 17 dX5_next_71 rfl ?_
          exact hr_wk (hs_some (hs_some (hs_some (hs_some (hs_some (hs_none (hs_nil))))))) (ih ((10 * v3) + v4) r3 (v4 + 1) M4)
        · refine hr_iload X dX5_next_48 rfl ?_
          refine hr_iload_n X dX5_next_50 rfl ?_
          refine hr_icmp_lt X 57 dX5_next_51 rfl ?_ ?_
          · refine hr_bipush X 10 dX5_next_57 kb_10 ?_
            refine hr_iload_n X dX5_next_59 rfl ?_
            refine hr_imul X dX5_next_60 ?_
            refine hr_iload X dX5_next_61 rfl ?_
            refine hr_iadd X dX5_next_63 ?_
            refine hr_istore_n X dX5_next_64 (by decide) rfl ?_
            refine hr_iload X dX5_next_65 rfl ?_
            refine hr_istore_n X dX5_next_67 (by decide) rfl ?_
            refine hr_iinc X (v4 + 1) dX5_next_68 rfl (by rw [kc_1]) (by decide) rfl ?_
            refine hr_goto X 17 dX5_next_71 rfl ?_
            exact hr_wk (hs_some (hs_some (hs_some (hs_some (hs_some (hs_none (hs_nil))))))) (ih ((10 * v3) + v4) r3 (v4 + 1) M4)
          · refine hr_goto X 68 dX5_next_54 rfl ?_
            refine hr_iinc X (v4 + 1) dX5_next_68 rfl (by rw [kc_1]) (by decide) rfl ?_
            refine hr_goto X 17 dX5_next_71 rfl ?_
            exact hr_wk (hs_some (hs_some (hs_some (hs_some (hs_some (hs_none (hs_nil))))))) (ih v1 v2 (v4 + 1) M4)
set_option maxRecDepth 100000 in
set_option maxHeartbeats 4000000 in
theorem w_X5_next_6 {g : hf_G} {p : Program} {l : Launch} {ev : Env} {s : State} {m : MethodId} {args : Array Value} {below : List Frame} {meth : Method} {c : Code} (X : hf_X g p s m args meth c cX5_next 6 RX5 (some .int))    {t0 : Nat} (hl_t0 : t0 < 69) (hs_t0 : hf_shp t0 = 5) : ∀ (n : Nat) (v1 : Int32) (v2 : Int32) (v3 : Int32) (M : hf_M), hf_W g p l ev (7) s m args below meth c 6 (hf_QI g below args s) M 6 [some (.ref (hf_a g t0)), some (.int v1), some (.int v2), some (.int v3), none, none] [] (s_X5_next_6 t0 n v1 v2 v3 M) := by
  intro n
  induction n with
  | zero =>
    intros
    exact hr_none
  | succ n ih =>
    intro v1 v2 v3 M
    rw [s_X5_next_6]
    refine hr_iload_n X dX5_next_6 rfl ?_
    refine hr_aload_n X dX5_next_7 rfl ?_
    refine hr_gI X hl_t0 hs_t0 lg_RX5_92 dX5_next_8 ?_
    refine hr_icmp_ge X 80 dX5_next_11 rfl ?_ ?_
    · refine hr_iload_n X dX5_next_80 rfl ?_
      refine hr_iconst X (-1) dX5_next_81 kc_m1 ?_
      refine hr_icmp_ne X 94 dX5_next_82 rfl ?_ ?_
      · refine hr_iload_n X dX5_next_94 rfl ?_
        exact hr_iret X dX5_next_95
      · refine hr_aload_n X dX5_next_85 rfl ?_
        refine hr_bipush X (-5) dX5_next_86 kb_m5 ?_
        refine hr_cvI X [.int (-5)] [] (c_X5_no hl_t0 hs_t0 (-5) M) lk_RX5_99 rfl rfl rfl hl_t0 hs_t0 ⟨by decide, rfl⟩ (by decide) (Nat.le_of_ble_eq_true rfl) dX5_next_88 (fun r1 M2 _ => ?_)
        refine hr_goto X 95 dX5_next_91 rfl ?_
        exact hr_iret X dX5_next_95
    · refine hr_iconst X 0 dX5_next_14 kc_0 ?_
      refine hr_istore X dX5_next_15 (by decide) rfl ?_
      exact hr_wk (hs_some (hs_some (hs_some (hs_some (hs_some (hs_none (hs_nil))))))) (w_X5_next_17 X hl_t0 hs_t0 (s_X5_next_6 t0 n) ih v3 2000 v1 v2 0 M)
set_option maxRecDepth 100000 in
set_option maxHeartbeats 4000000 in
theorem c_X5_next  {t0 : Nat} (hl_t0 : t0 < 69) (hs_t0 : hf_shp t0 = 5) (M : hf_M) : hf_CI yX5_next cX5_next 6 (some .int) (7) (fun g => [.ref (hf_a g t0)]) M (s_X5_next t0 M) := by
  refine hf_metI (by decide +kernel) (fun g => Nat.le_of_ble_eq_true rfl) (fun g p l ev s m args below meth c X => ?_)
  have X : hf_X g p s m args meth c cX5_next 6 RX5 (some .int) := X
  show hf_W g p l ev (7) s m args below meth c 6 (hf_QI g below args s) M 0 [some (.ref (hf_a g t0)), none, none, none, none, none] [] (s_X5_next t0 M)
  unfold s_X5_next
  refine hr_iconst X (-1) dX5_next_0 kc_m1 ?_
  refine hr_istore_n X dX5_next_1 (by decide) rfl ?_
  refine hr_iconst X 0 dX5_next_2 kc_0 ?_
  refine hr_istore_n X dX5_next_3 (by decide) rfl ?_
  refine hr_iconst X 0 dX5_next_4 kc_0 ?_
  refine hr_istore_n X dX5_next_5 (by decide) rfl ?_
  exact hr_wk (hs_some (hs_some (hs_some (hs_some (hs_none (hs_none (hs_nil))))))) (w_X5_next_6 X hl_t0 hs_t0 2000 (-1) 0 0 M)
set_option maxRecDepth 100000 in
set_option maxHeartbeats 4000000 in
theorem w_X5_isKnown_60 {g : hf_G} {p : Program} {l : Launch} {ev : Env} {s : State} {m : MethodId} {args : Array Value} {below : List Frame} {meth : Method} {c : Code} (X : hf_X g p s m args meth c cX5_isKnown 7 RX5 (some .boolean)) (fR : Nat → Int32 → Int32 → hf_M → Option (Int32 × hf_M)) (dR : Nat) (hB : 6 ≤ dR) (hR : ∀ {t0 : Nat} (_ : t0 < 69) (_ : hf_shp t0 = 5) (a1 : Int32) (a2 : Int32) (M : hf_M), hf_CI yX5_isKnown cX5_isKnown 7 (some .boolean) (dR) (fun g => [.ref (hf_a g t0), .int a1, .int a2]) M (fR t0 a1 a2 M)) {t0 : Nat} (hl_t0 : t0 < 69) (hs_t0 : hf_shp t0 = 5) (v1 : Int32) (v2 : Int32) (v3 : Int32) (k45 : Int32 → hf_M → Option (Int32 × hf_M)) (hk45 : ∀ (v4 : Int32) (M : hf_M), hf_W g p l ev (dR + 2) s m args below meth c 7 (hf_QI g below args s) M 45 [some (.ref (hf_a g t0)), some (.int v1), some (.int v2), some (.int v3), some (.int v4), none, none] [] (k45 v4 M)) (v4 : Int32) : ∀ (n : Nat) (v5 : Int32) (v6 : Int32) (M : hf_M), hf_W g p l ev (dR + 2) s m args below meth c 7 (hf_QI g below args s) M 60 [some (.ref (hf_a g t0)), some (.int v1), some (.int v2), some (.int v3), some (.int v4), some (.int v5), some (.int v6)] [] (s_X5_isKnown_60 fR k45 t0 v1 v2 v3 v4 n v5 v6 M) := by
  intro n
  induction n with
  | zero =>
    intros
    exact hr_none
  | succ n ih =>
    intro v5 v6 M
    rw [s_X5_isKnown_60]
    refine hr_iload X dX5_isKnown_60 rfl ?_
    refine hr_iconst X 2 dX5_isKnown_62 kc_2 ?_
    refine hr_icmp_ge X 121 dX5_isKnown_63 rfl ?_ ?_
    · refine hr_iload X dX5_isKnown_121 rfl ?_
      refine hr_if_eq X 128 dX5_isKnown_123 rfl ?_ ?_
      · refine hr_iinc X (v4 + 1) dX5_isKnown_128 rfl (by rw [kc_1]) (by decide) rfl ?_
        refine hr_goto X 45 dX5_isKnown_131 rfl ?_
        exact hr_wk (hs_some (hs_some (hs_some (hs_some (hs_some (hs_none (hs_none (hs_nil)))))))) (hk45 (v4 + 1) M)
      · refine hr_iconst X 1 dX5_isKnown_126 kc_1 ?_
        exact hr_zretC X (Or.inr rfl) dX5_isKnown_127
    · refine hr_iload X dX5_isKnown_66 rfl ?_
      refine hr_if_eq X 121 dX5_isKnown_68 rfl ?_ ?_
      · refine hr_iload X dX5_isKnown_121 rfl ?_
        refine hr_if_eq X 128 dX5_isKnown_123 rfl ?_ ?_
        · refine hr_iinc X (v4 + 1) dX5_isKnown_128 rfl (by rw [kc_1]) (by decide) rfl ?_
          refine hr_goto X 45 dX5_isKnown_131 rfl ?_
          exact hr_wk (hs_some (hs_some (hs_some (hs_some (hs_some (hs_none (hs_none (hs_nil)))))))) (hk45 (v4 + 1) M)
        · refine hr_iconst X 1 dX5_isKnown_126 kc_1 ?_
          exact hr_zretC X (Or.inr rfl) dX5_isKnown_127
      · refine hr_aload_n X dX5_isKnown_71 rfl ?_
        refine hr_iload_n X dX5_isKnown_72 rfl ?_
        refine hr_iload X dX5_isKnown_73 rfl ?_
        refine hr_iload X dX5_isKnown_75 rfl ?_
        refine hr_cvI X [.int v3, .int v4, .int v6] [] (c_X5_leaves hl_t0 hs_t0 v3 v4 v6 M) lk_RX5_153 rfl rfl rfl hl_t0 hs_t0 ⟨by decide, rfl⟩ (by omega) (Nat.le_of_ble_eq_true rfl) dX5_isKnown_77 (fun r1 M2 _ => ?_)
        refine hr_if_ne X 86 dX5_isKnown_80 rfl ?_ ?_
        · refine hr_aload_n X dX5_isKnown_86 rfl ?_
          refine hr_iload_n X dX5_isKnown_87 rfl ?_
          refine hr_iload X dX5_isKnown_88 rfl ?_
          refine hr_iload X dX5_isKnown_90 rfl ?_
          refine hr_cvV X [.int v3, .int v4, .int v6] [] (c_X5_adds hl_t0 hs_t0 v3 v4 v6 M2) lk_RX5_138 rfl rfl rfl hl_t0 hs_t0 ⟨by decide, rfl⟩ (by omega) (Nat.le_of_ble_eq_true rfl) dX5_isKnown_92 (fun _ M4 _ => ?_)
          refine hr_aload_n X dX5_isKnown_95 rfl ?_
          refine hr_iload_n X dX5_isKnown_96 rfl ?_
          refine hr_iload_n X dX5_isKnown_97 rfl ?_
          refine hr_iconst X 1 dX5_isKnown_98 kc_1 ?_
          refine hr_isub X dX5_isKnown_99 ?_
          refine hr_cvI X [.int v1, .int (v2 - 1)] [] (hR hl_t0 hs_t0 v1 (v2 - 1) M4) lk_RX5_232 rfl rfl rfl hl_t0 hs_t0 ⟨by decide, rfl⟩ (by omega) (Nat.le_of_ble_eq_true rfl) dX5_isKnown_100 (fun r5 M6 _ => ?_)
          refine hr_istore X dX5_isKnown_103 (by decide) rfl ?_
          refine hr_aload_n X dX5_isKnown_105 rfl ?_
          refine hr_dup X dX5_isKnown_106 rfl ?_
          refine hr_gI X hl_t0 hs_t0 lg_RX5_118 dX5_isKnown_107 ?_
          refine hr_iconst X 1 dX5_isKnown_110 kc_1 ?_
          refine hr_isub X dX5_isKnown_111 ?_
          refine hr_pI X hl_t0 hs_t0 lp_RX5_118 dX5_isKnown_112 (fun M7 eM7 => ?_)
          refine hr_iinc X (v6 + 1) dX5_isKnown_115 rfl (by rw [kc_1]) (by decide) rfl ?_
          refine hr_goto X 60 dX5_isKnown_118 rfl ?_
          exact hr_wk (hs_some (hs_some (hs_some (hs_some (hs_some (hs_some (hs_some (hs_nil)))))))) (ih r5 (v6 + 1) M7)
        · refine hr_goto X 115 dX5_isKnown_83 rfl ?_
          refine hr_iinc X (v6 + 1) dX5_isKnown_115 rfl (by rw [kc_1]) (by decide) rfl ?_
          refine hr_goto X 60 dX5_isKnown_118 rfl ?_
          exact hr_wk (hs_some (hs_some (hs_some (hs_some (hs_some (hs_some (hs_some (hs_nil)))))))) (ih v5 (v6 + 1) M2)
set_option maxRecDepth 100000 in
set_option maxHeartbeats 4000000 in
theorem w_X5_isKnown_45 {g : hf_G} {p : Program} {l : Launch} {ev : Env} {s : State} {m : MethodId} {args : Array Value} {below : List Frame} {meth : Method} {c : Code} (X : hf_X g p s m args meth c cX5_isKnown 7 RX5 (some .boolean)) (fR : Nat → Int32 → Int32 → hf_M → Option (Int32 × hf_M)) (dR : Nat) (hB : 6 ≤ dR) (hR : ∀ {t0 : Nat} (_ : t0 < 69) (_ : hf_shp t0 = 5) (a1 : Int32) (a2 : Int32) (M : hf_M), hf_CI yX5_isKnown cX5_isKnown 7 (some .boolean) (dR) (fun g => [.ref (hf_a g t0), .int a1, .int a2]) M (fR t0 a1 a2 M)) {t0 : Nat} (hl_t0 : t0 < 69) (hs_t0 : hf_shp t0 = 5) (v1 : Int32) (v2 : Int32) (k23 : Int32 → hf_M → Option (Int32 × hf_M)) (hk23 : ∀ (v3 : Int32) (M : hf_M), hf_W g p l ev (dR + 2) s m args below meth c 7 (hf_QI g below args s) M 23 [some (.ref (hf_a g t0)), some (.int v1), some (.int v2), some (.int v3), none, none, none] [] (k23 v3 M)) (v3 : Int32) : ∀ (n : Nat) (v4 : Int32) (M : hf_M), hf_W g p l ev (dR + 2) s m args below meth c 7 (hf_QI g below args s) M 45 [some (.ref (hf_a g t0)), some (.int v1), some (.int v2), some (.int v3), some (.int v4), none, none] [] (s_X5_isKnown_45 fR k23 t0 v1 v2 v3 n v4 M) := by
  intro n
  induction n with
  | zero =>
    intros
    exact hr_none
  | succ n ih =>
    intro v4 M
    rw [s_X5_isKnown_45]
    refine hr_iload X dX5_isKnown_45 rfl ?_
    refine hr_aload_n X dX5_isKnown_47 rfl ?_
    refine hr_gI X hl_t0 hs_t0 lg_RX5_89 dX5_isKnown_48 ?_
    refine hr_icmp_ge X 134 dX5_isKnown_51 rfl ?_ ?_
    · refine hr_iinc X (v3 + 1) dX5_isKnown_134 rfl (by rw [kc_1]) (by decide) rfl ?_
      refine hr_goto X 23 dX5_isKnown_137 rfl ?_
      exact hr_wk (hs_some (hs_some (hs_some (hs_some (hs_none (hs_none (hs_none (hs_nil)))))))) (hk23 (v3 + 1) M)
    · refine hr_iconst X 1 dX5_isKnown_54 kc_1 ?_
      refine hr_istore X dX5_isKnown_55 (by decide) rfl ?_
      refine hr_iconst X 0 dX5_isKnown_57 kc_0 ?_
      refine hr_istore X dX5_isKnown_58 (by decide) rfl ?_
      exact hr_wk (hs_some (hs_some (hs_some (hs_some (hs_some (hs_some (hs_some (hs_nil)))))))) (w_X5_isKnown_60 X fR dR hB hR hl_t0 hs_t0 v1 v2 v3 (s_X5_isKnown_45 fR k23 t0 v1 v2 v3 n) ih v4 2000 1 0 M)
set_option maxRecDepth 100000 in
set_option maxHeartbeats 4000000 in
theorem w_X5_isKnown_23 {g : hf_G} {p : Program} {l : Launch} {ev : Env} {s : State} {m : MethodId} {args : Array Value} {below : List Frame} {meth : Method} {c : Code} (X : hf_X g p s m args meth c cX5_isKnown 7 RX5 (some .boolean)) (fR : Nat → Int32 → Int32 → hf_M → Option (Int32 × hf_M)) (dR : Nat) (hB : 6 ≤ dR) (hR : ∀ {t0 : Nat} (_ : t0 < 69) (_ : hf_shp t0 = 5) (a1 : Int32) (a2 : Int32) (M : hf_M), hf_CI yX5_isKnown cX5_isKnown 7 (some .boolean) (dR) (fun g => [.ref (hf_a g t0), .int a1, .int a2]) M (fR t0 a1 a2 M))   {t0 : Nat} (hl_t0 : t0 < 69) (hs_t0 : hf_shp t0 = 5) (v1 : Int32) (v2 : Int32) : ∀ (n : Nat) (v3 : Int32) (M : hf_M), hf_W g p l ev (dR + 2) s m args below meth c 7 (hf_QI g below args s) M 23 [some (.ref (hf_a g t0)), some (.int v1), some (.int v2), some (.int v3), none, none, none] [] (s_X5_isKnown_23 fR t0 v1 v2 n v3 M) := by
  intro n
  induction n with
  | zero =>
    intros
    exact hr_none
  | succ n ih =>
    intro v3 M
    rw [s_X5_isKnown_23]
    refine hr_iload_n X dX5_isKnown_23 rfl ?_
    refine hr_aload_n X dX5_isKnown_24 rfl ?_
    refine hr_gI X hl_t0 hs_t0 lg_RX5_92 dX5_isKnown_25 ?_
    refine hr_icmp_ge X 140 dX5_isKnown_28 rfl ?_ ?_
    · refine hr_iconst X 0 dX5_isKnown_140 kc_0 ?_
      exact hr_zretC X (Or.inl rfl) dX5_isKnown_141
    · refine hr_aload_n X dX5_isKnown_31 rfl ?_
      refine hr_iload_n X dX5_isKnown_32 rfl ?_
      refine hr_cvI X [.int v3] [] (c_X5_isFull hl_t0 hs_t0 v3 M) lk_RX5_150 rfl rfl rfl hl_t0 hs_t0 ⟨by decide, rfl⟩ (by omega) (Nat.le_of_ble_eq_true rfl) dX5_isKnown_33 (fun r1 M2 _ => ?_)
      refine hr_if_eq X 42 dX5_isKnown_36 rfl ?_ ?_
      · refine hr_iconst X 0 dX5_isKnown_42 kc_0 ?_
        refine hr_istore X dX5_isKnown_43 (by decide) rfl ?_
        exact hr_wk (hs_some (hs_some (hs_some (hs_some (hs_some (hs_none (hs_none (hs_nil)))))))) (w_X5_isKnown_45 X fR dR hB hR hl_t0 hs_t0 v1 v2 (s_X5_isKnown_23 fR t0 v1 v2 n) ih v3 2000 0 M2)
      · refine hr_goto X 134 dX5_isKnown_39 rfl ?_
        refine hr_iinc X (v3 + 1) dX5_isKnown_134 rfl (by rw [kc_1]) (by decide) rfl ?_
        refine hr_goto X 23 dX5_isKnown_137 rfl ?_
        exact hr_wk (hs_some (hs_some (hs_some (hs_some (hs_none (hs_none (hs_none (hs_nil)))))))) (ih (v3 + 1) M2)
set_option maxRecDepth 100000 in
set_option maxHeartbeats 4000000 in
theorem c_X5_isKnown_b (fR : Nat → Int32 → Int32 → hf_M → Option (Int32 × hf_M)) (dR : Nat) (hB : 6 ≤ dR) (hR : ∀ {t0 : Nat} (_ : t0 < 69) (_ : hf_shp t0 = 5) (a1 : Int32) (a2 : Int32) (M : hf_M), hf_CI yX5_isKnown cX5_isKnown 7 (some .boolean) (dR) (fun g => [.ref (hf_a g t0), .int a1, .int a2]) M (fR t0 a1 a2 M)) {t0 : Nat} (hl_t0 : t0 < 69) (hs_t0 : hf_shp t0 = 5) (a1 : Int32) (a2 : Int32) (M : hf_M) : hf_CI yX5_isKnown cX5_isKnown 7 (some .boolean) (dR + 2) (fun g => [.ref (hf_a g t0), .int a1, .int a2]) M (s_X5_isKnown_b fR t0 a1 a2 M) := by
  refine hf_metI (by decide +kernel) (fun g => Nat.le_of_ble_eq_true rfl) (fun g p l ev s m args below meth c X => ?_)
  have X : hf_X g p s m args meth c cX5_isKnown 7 RX5 (some .boolean) := X
  show hf_W g p l ev (dR + 2) s m args below meth c 7 (hf_QI g below args s) M 0 [some (.ref (hf_a g t0)), some (.int a1), some (.int a2), none, none, none, none] [] (s_X5_isKnown_b fR t0 a1 a2 M)
  unfold s_X5_isKnown_b
  refine hr_aload_n X dX5_isKnown_0 rfl ?_
  refine hr_iload_n X dX5_isKnown_1 rfl ?_
  refine hr_aload_n X dX5_isKnown_2 rfl ?_
  refine hr_cvJ X [] [.int a1, .ref (hf_a g t0)] (c_X5_worldsNow hl_t0 hs_t0 M) lk_RX5_142 rfl rfl rfl hl_t0 hs_t0 ⟨by decide, rfl⟩ (by omega) (Nat.le_of_ble_eq_true rfl) dX5_isKnown_3 (fun r1 M2 _ => ?_)
  refine hr_cvI X [.int a1, .long r1] [] (c_X5_sureBy hl_t0 hs_t0 a1 r1 M2) lk_RX5_222 rfl rfl rfl hl_t0 hs_t0 ⟨by decide, rfl⟩ (by omega) (Nat.le_of_ble_eq_true rfl) dX5_isKnown_6 (fun r3 M4 _ => ?_)
  refine hr_iconst X (-1) dX5_isKnown_9 kc_m1 ?_
  refine hr_icmp_eq X 15 dX5_isKnown_10 rfl ?_ ?_
  · refine hr_iload_n X dX5_isKnown_15 rfl ?_
    refine hr_if_ne X 21 dX5_isKnown_16 rfl ?_ ?_
    · refine hr_iconst X 0 dX5_isKnown_21 kc_0 ?_
      refine hr_istore_n X dX5_isKnown_22 (by decide) rfl ?_
      exact hr_wk (hs_some (hs_some (hs_some (hs_some (hs_none (hs_none (hs_none (hs_nil)))))))) (w_X5_isKnown_23 X fR dR hB hR hl_t0 hs_t0 a1 a2 2000 0 M4)
    · refine hr_iconst X 0 dX5_isKnown_19 kc_0 ?_
      exact hr_zretC X (Or.inl rfl) dX5_isKnown_20
  · refine hr_iconst X 1 dX5_isKnown_13 kc_1 ?_
    exact hr_zretC X (Or.inr rfl) dX5_isKnown_14
theorem c_X5_isKnown_n : ∀ (n : Nat), ∀ {t0 : Nat} (_ : t0 < 69) (_ : hf_shp t0 = 5) (a1 : Int32) (a2 : Int32) (M : hf_M), hf_CI yX5_isKnown cX5_isKnown 7 (some .boolean) (6 + 2 * n) (fun g => [.ref (hf_a g t0), .int a1, .int a2]) M (s_X5_isKnown n t0 a1 a2 M) := by
  intro n
  induction n with
  | zero => intros; intro l g r M' h; cases h
  | succ n ih => intro t0 hl_t0 hs_t0 a1 a2 M; exact c_X5_isKnown_b (s_X5_isKnown n) (6 + 2 * n) (by omega) ih hl_t0 hs_t0 a1 a2 M
theorem c_X5_isKnown (n : Nat) {t0 : Nat} (hl_t0 : t0 < 69) (hs_t0 : hf_shp t0 = 5) (a1 : Int32) (a2 : Int32) (M : hf_M) : hf_CI yX5_isKnown cX5_isKnown 7 (some .boolean) (6 + 2 * n) (fun g => [.ref (hf_a g t0), .int a1, .int a2]) M (s_X5_isKnown n t0 a1 a2 M) := c_X5_isKnown_n n hl_t0 hs_t0 a1 a2 M
set_option maxRecDepth 100000 in
set_option maxHeartbeats 4000000 in
theorem c_X5_knows  {t0 : Nat} (hl_t0 : t0 < 69) (hs_t0 : hf_shp t0 = 5) (a1 : Int32) (a2 : Int32) (M : hf_M) : hf_CI yX5_knows cX5_knows 3 (some .int) (15) (fun g => [.ref (hf_a g t0), .int a1, .int a2]) M (s_X5_knows t0 a1 a2 M) := by
  refine hf_metI (by decide +kernel) (fun g => Nat.le_of_ble_eq_true rfl) (fun g p l ev s m args below meth c X => ?_)
  have X : hf_X g p s m args meth c cX5_knows 3 RX5 (some .int) := X
  show hf_W g p l ev (15) s m args below meth c 3 (hf_QI g below args s) M 0 [some (.ref (hf_a g t0)), some (.int a1), some (.int a2)] [] (s_X5_knows t0 a1 a2 M)
  unfold s_X5_knows
  refine hr_aload_n X dX5_knows_0 rfl ?_
  refine hr_iload_n X dX5_knows_1 rfl ?_
  refine hr_cvI X [.int a1] [] (c_X5_isFact hl_t0 hs_t0 a1 M) lk_RX5_121 rfl rfl rfl hl_t0 hs_t0 ⟨by decide, rfl⟩ (by decide) (Nat.le_of_ble_eq_true rfl) dX5_knows_2 (fun r1 M2 _ => ?_)
  refine hr_if_ne X 14 dX5_knows_5 rfl ?_ ?_
  · refine hr_iload_n X dX5_knows_14 rfl ?_
    refine hr_if_lt X 23 dX5_knows_15 rfl ?_ ?_
    · refine hr_aload_n X dX5_knows_23 rfl ?_
      refine hr_bipush X (-6) dX5_knows_24 kb_m6 ?_
      refine hr_cvI X [.int (-6)] [] (c_X5_no hl_t0 hs_t0 (-6) M2) lk_RX5_99 rfl rfl rfl hl_t0 hs_t0 ⟨by decide, rfl⟩ (by decide) (Nat.le_of_ble_eq_true rfl) dX5_knows_26 (fun r3 M4 _ => ?_)
      exact hr_iret X dX5_knows_29
    · refine hr_iload_n X dX5_knows_18 rfl ?_
      refine hr_iconst X 2 dX5_knows_19 kc_2 ?_
      refine hr_icmp_le X 30 dX5_knows_20 rfl ?_ ?_
      · refine hr_aload_n X dX5_knows_30 rfl ?_
        refine hr_iload_n X dX5_knows_31 rfl ?_
        refine hr_iload_n X dX5_knows_32 rfl ?_
        refine hr_cvI X [.int a1, .int a2] [] (c_X5_isKnown 4 hl_t0 hs_t0 a1 a2 M2) lk_RX5_232 rfl rfl rfl hl_t0 hs_t0 ⟨by decide, rfl⟩ (by decide) (Nat.le_of_ble_eq_true rfl) dX5_knows_33 (fun r5 M6 _ => ?_)
        refine hr_if_eq X 43 dX5_knows_36 rfl ?_ ?_
        · refine hr_iconst X 0 dX5_knows_43 kc_0 ?_
          exact hr_iret X dX5_knows_44
        · refine hr_iconst X 1 dX5_knows_39 kc_1 ?_
          refine hr_goto X 44 dX5_knows_40 rfl ?_
          exact hr_iret X dX5_knows_44
      · refine hr_aload_n X dX5_knows_23 rfl ?_
        refine hr_bipush X (-6) dX5_knows_24 kb_m6 ?_
        refine hr_cvI X [.int (-6)] [] (c_X5_no hl_t0 hs_t0 (-6) M2) lk_RX5_99 rfl rfl rfl hl_t0 hs_t0 ⟨by decide, rfl⟩ (by decide) (Nat.le_of_ble_eq_true rfl) dX5_knows_26 (fun r7 M8 _ => ?_)
        exact hr_iret X dX5_knows_29
  · refine hr_aload_n X dX5_knows_8 rfl ?_
    refine hr_iconst X (-1) dX5_knows_9 kc_m1 ?_
    refine hr_cvI X [.int (-1)] [] (c_X5_no hl_t0 hs_t0 (-1) M2) lk_RX5_99 rfl rfl rfl hl_t0 hs_t0 ⟨by decide, rfl⟩ (by decide) (Nat.le_of_ble_eq_true rfl) dX5_knows_10 (fun r9 M10 _ => ?_)
    exact hr_iret X dX5_knows_13
set_option maxRecDepth 100000 in
set_option maxHeartbeats 4000000 in
theorem w_X5_tree_16 {g : hf_G} {p : Program} {l : Launch} {ev : Env} {s : State} {m : MethodId} {args : Array Value} {below : List Frame} {meth : Method} {c : Code} (X : hf_X g p s m args meth c cX5_tree 3 RX5 (some .int))    {t0 : Nat} (hl_t0 : t0 < 69) (hs_t0 : hf_shp t0 = 5) (v1 : Int32) : ∀ (n : Nat) (v2 : Int32) (M : hf_M), hf_W g p l ev (15) s m args below meth c 3 (hf_QI g below args s) M 16 [some (.ref (hf_a g t0)), some (.int v1), some (.int v2)] [] (s_X5_tree_16 t0 v1 n v2 M) := by
  intro n
  induction n with
  | zero =>
    intros
    exact hr_none
  | succ n ih =>
    intro v2 M
    rw [s_X5_tree_16]
    refine hr_iload_n X dX5_tree_16 rfl ?_
    refine hr_iconst X 3 dX5_tree_17 kc_3 ?_
    refine hr_icmp_ge X 38 dX5_tree_18 rfl ?_ ?_
    · refine hr_iconst X (-1) dX5_tree_38 kc_m1 ?_
      exact hr_iret X dX5_tree_39
    · refine hr_aload_n X dX5_tree_21 rfl ?_
      refine hr_iload_n X dX5_tree_22 rfl ?_
      refine hr_iload_n X dX5_tree_23 rfl ?_
      refine hr_cvI X [.int v1, .int v2] [] (c_X5_isKnown 4 hl_t0 hs_t0 v1 v2 M) lk_RX5_232 rfl rfl rfl hl_t0 hs_t0 ⟨by decide, rfl⟩ (by decide) (Nat.le_of_ble_eq_true rfl) dX5_tree_24 (fun r1 M2 _ => ?_)
      refine hr_if_eq X 32 dX5_tree_27 rfl ?_ ?_
      · refine hr_iinc X (v2 + 1) dX5_tree_32 rfl (by rw [kc_1]) (by decide) rfl ?_
        refine hr_goto X 16 dX5_tree_35 rfl ?_
        exact hr_wk (hs_some (hs_some (hs_some (hs_nil)))) (ih (v2 + 1) M2)
      · refine hr_iload_n X dX5_tree_30 rfl ?_
        exact hr_iret X dX5_tree_31
set_option maxRecDepth 100000 in
set_option maxHeartbeats 4000000 in
theorem c_X5_tree  {t0 : Nat} (hl_t0 : t0 < 69) (hs_t0 : hf_shp t0 = 5) (a1 : Int32) (M : hf_M) : hf_CI yX5_tree cX5_tree 3 (some .int) (15) (fun g => [.ref (hf_a g t0), .int a1]) M (s_X5_tree t0 a1 M) := by
  refine hf_metI (by decide +kernel) (fun g => Nat.le_of_ble_eq_true rfl) (fun g p l ev s m args below meth c X => ?_)
  have X : hf_X g p s m args meth c cX5_tree 3 RX5 (some .int) := X
  show hf_W g p l ev (15) s m args below meth c 3 (hf_QI g below args s) M 0 [some (.ref (hf_a g t0)), some (.int a1), none] [] (s_X5_tree t0 a1 M)
  unfold s_X5_tree
  refine hr_aload_n X dX5_tree_0 rfl ?_
  refine hr_iload_n X dX5_tree_1 rfl ?_
  refine hr_cvI X [.int a1] [] (c_X5_isFact hl_t0 hs_t0 a1 M) lk_RX5_121 rfl rfl rfl hl_t0 hs_t0 ⟨by decide, rfl⟩ (by decide) (Nat.le_of_ble_eq_true rfl) dX5_tree_2 (fun r1 M2 _ => ?_)
  refine hr_if_ne X 14 dX5_tree_5 rfl ?_ ?_
  · refine hr_iconst X 0 dX5_tree_14 kc_0 ?_
    refine hr_istore_n X dX5_tree_15 (by decide) rfl ?_
    exact hr_wk (hs_some (hs_some (hs_some (hs_nil)))) (w_X5_tree_16 X hl_t0 hs_t0 a1 2000 0 M2)
  · refine hr_aload_n X dX5_tree_8 rfl ?_
    refine hr_iconst X (-1) dX5_tree_9 kc_m1 ?_
    refine hr_cvI X [.int (-1)] [] (c_X5_noTen hl_t0 hs_t0 (-1) M2) lk_RX5_226 rfl rfl rfl hl_t0 hs_t0 ⟨by decide, rfl⟩ (by decide) (Nat.le_of_ble_eq_true rfl) dX5_tree_10 (fun r3 M4 _ => ?_)
    exact hr_iret X dX5_tree_13
set_option maxRecDepth 100000 in
set_option maxHeartbeats 4000000 in
theorem w_X5_isRow_59 {g : hf_G} {p : Program} {l : Launch} {ev : Env} {s : State} {m : MethodId} {args : Array Value} {below : List Frame} {meth : Method} {c : Code} (X : hf_X g p s m args meth c cX5_isRow 7 RX5 (some .boolean))  {t0 : Nat} (hl_t0 : t0 < 69) (hs_t0 : hf_shp t0 = 5) (v1 : Int32) (v2 : Int32) (v3 : Int32) (k6 : Int32 → Int32 → hf_M → Option (Int32 × hf_M)) (hk6 : ∀ (v4 : Int32) (v5 : Int32) (M : hf_M), hf_W g p l ev (2) s m args below meth c 7 (hf_QI g below args s) M 6 [some (.ref (hf_a g t0)), some (.int v1), some (.int v2), some (.int v3), some (.int v4), some (.int v5), none] [] (k6 v4 v5 M))  (v4 : Int32) (v5 : Int32) (v6 : Int32) (M : hf_M) : hf_W g p l ev (2) s m args below meth c 7 (hf_QI g below args s) M 59 [some (.ref (hf_a g t0)), some (.int v1), some (.int v2), some (.int v3), some (.int v4), some (.int v5), some (.int v6)] [] (s_X5_isRow_59 k6 t0 v1 v2 v3 v4 v5 v6 M) := by
  unfold s_X5_isRow_59
  refine hr_aload_n X dX5_isRow_59 rfl ?_
  refine hr_gR X 6 hl_t0 hs_t0 lg_RX5_36 rfl dX5_isRow_60 (fun q1 hl_q1 hs_q1 => ?_)
  refine hr_iload_n X dX5_isRow_63 rfl ?_
  refine hr_iald X hl_q1 hs_q1 dX5_isRow_64 (fun r2 _ _ => ?_)
  refine hr_bipush X 6 dX5_isRow_65 kb_6 ?_
  refine hr_icmp_ne X 102 dX5_isRow_67 rfl ?_ ?_
  · refine hr_iinc X (v5 + 1) dX5_isRow_102 rfl (by rw [kc_1]) (by decide) rfl ?_
    refine hr_goto X 6 dX5_isRow_105 rfl ?_
    exact hr_wk (hs_some (hs_some (hs_some (hs_some (hs_some (hs_some (hs_none (hs_nil)))))))) (hk6 v4 (v5 + 1) M)
  · refine hr_iload X dX5_isRow_70 rfl ?_
    refine hr_iconst X 2 dX5_isRow_72 kc_2 ?_
    refine hr_irem X dX5_isRow_73 (by decide) ?_
    refine hr_iconst X 1 dX5_isRow_74 kc_1 ?_
    refine hr_icmp_ne X 102 dX5_isRow_75 rfl ?_ ?_
    · refine hr_iinc X (v5 + 1) dX5_isRow_102 rfl (by rw [kc_1]) (by decide) rfl ?_
      refine hr_goto X 6 dX5_isRow_105 rfl ?_
      exact hr_wk (hs_some (hs_some (hs_some (hs_some (hs_some (hs_some (hs_none (hs_nil)))))))) (hk6 v4 (v5 + 1) M)
    · refine hr_iload X dX5_isRow_78 rfl ?_
      refine hr_iload_n X dX5_isRow_80 rfl ?_
      refine hr_iload X dX5_isRow_81 rfl ?_
      refine hr_iconst X 1 dX5_isRow_83 kc_1 ?_
      refine hr_isub X dX5_isRow_84 ?_
      refine hr_ishr X dX5_isRow_85 ?_
      refine hr_iconst X 1 dX5_isRow_86 kc_1 ?_
      refine hr_iand X dX5_isRow_87 ?_
      refine hr_iconst X 1 dX5_isRow_88 kc_1 ?_
      refine hr_icmp_ne X 96 dX5_isRow_89 rfl ?_ ?_
      · refine hr_iconst X 0 dX5_isRow_96 kc_0 ?_
        refine hr_icmp_ne X 102 dX5_isRow_97 rfl ?_ ?_
        · refine hr_iinc X (v5 + 1) dX5_isRow_102 rfl (by rw [kc_1]) (by decide) rfl ?_
          refine hr_goto X 6 dX5_isRow_105 rfl ?_
          exact hr_wk (hs_some (hs_some (hs_some (hs_some (hs_some (hs_some (hs_none (hs_nil)))))))) (hk6 v4 (v5 + 1) M)
        · refine hr_iconst X 0 dX5_isRow_100 kc_0 ?_
          exact hr_zretC X (Or.inl rfl) dX5_isRow_101
      · refine hr_iconst X 1 dX5_isRow_92 kc_1 ?_
        refine hr_goto X 97 dX5_isRow_93 rfl ?_
        refine hr_icmp_ne X 102 dX5_isRow_97 rfl ?_ ?_
        · refine hr_iinc X (v5 + 1) dX5_isRow_102 rfl (by rw [kc_1]) (by decide) rfl ?_
          refine hr_goto X 6 dX5_isRow_105 rfl ?_
          exact hr_wk (hs_some (hs_some (hs_some (hs_some (hs_some (hs_some (hs_none (hs_nil)))))))) (hk6 v4 (v5 + 1) M)
        · refine hr_iconst X 0 dX5_isRow_100 kc_0 ?_
          exact hr_zretC X (Or.inl rfl) dX5_isRow_101
set_option maxRecDepth 100000 in
set_option maxHeartbeats 4000000 in
theorem w_X5_isRow_37 {g : hf_G} {p : Program} {l : Launch} {ev : Env} {s : State} {m : MethodId} {args : Array Value} {below : List Frame} {meth : Method} {c : Code} (X : hf_X g p s m args meth c cX5_isRow 7 RX5 (some .boolean))  {t0 : Nat} (hl_t0 : t0 < 69) (hs_t0 : hf_shp t0 = 5) (v1 : Int32) (v2 : Int32) (v3 : Int32) (k6 : Int32 → Int32 → hf_M → Option (Int32 × hf_M)) (hk6 : ∀ (v4 : Int32) (v5 : Int32) (M : hf_M), hf_W g p l ev (2) s m args below meth c 7 (hf_QI g below args s) M 6 [some (.ref (hf_a g t0)), some (.int v1), some (.int v2), some (.int v3), some (.int v4), some (.int v5), none] [] (k6 v4 v5 M))  (v4 : Int32) (v5 : Int32) (v6 : Int32) (M : hf_M) : hf_W g p l ev (2) s m args below meth c 7 (hf_QI g below args s) M 37 [some (.ref (hf_a g t0)), some (.int v1), some (.int v2), some (.int v3), some (.int v4), some (.int v5), some (.int v6)] [] (s_X5_isRow_37 k6 t0 v1 v2 v3 v4 v5 v6 M) := by
  unfold s_X5_isRow_37
  refine hr_aload_n X dX5_isRow_37 rfl ?_
  refine hr_iload_n X dX5_isRow_38 rfl ?_
  refine hr_cvI X [.int v1] [] (c_X5_isFree hl_t0 hs_t0 v1 M) lk_RX5_127 rfl rfl rfl hl_t0 hs_t0 ⟨by decide, rfl⟩ (by decide) (Nat.le_of_ble_eq_true rfl) dX5_isRow_39 (fun r1 M2 _ => ?_)
  refine hr_if_ne X 59 dX5_isRow_42 rfl ?_ ?_
  · exact hr_wk (hs_some (hs_some (hs_some (hs_some (hs_some (hs_some (hs_some (hs_nil)))))))) (w_X5_isRow_59 X hl_t0 hs_t0 v1 v2 v3 k6 hk6 v4 v5 v6 M2)
  · refine hr_iload X dX5_isRow_45 rfl ?_
    refine hr_aload_n X dX5_isRow_47 rfl ?_
    refine hr_iload_n X dX5_isRow_48 rfl ?_
    refine hr_iload X dX5_isRow_49 rfl ?_
    refine hr_cvI X [.int v1, .int v5] [.int v6] (c_X5_isTrue hl_t0 hs_t0 v1 v5 M2) lk_RX5_109 rfl rfl rfl hl_t0 hs_t0 ⟨by decide, rfl⟩ (by decide) (Nat.le_of_ble_eq_true rfl) dX5_isRow_51 (fun r3 M4 _ => ?_)
    refine hr_icmp_eq X 59 dX5_isRow_54 rfl ?_ ?_
    · exact hr_wk (hs_some (hs_some (hs_some (hs_some (hs_some (hs_some (hs_some (hs_nil)))))))) (w_X5_isRow_59 X hl_t0 hs_t0 v1 v2 v3 k6 hk6 v4 v5 v6 M4)
    · refine hr_iconst X 0 dX5_isRow_57 kc_0 ?_
      exact hr_zretC X (Or.inl rfl) dX5_isRow_58
set_option maxRecDepth 100000 in
set_option maxHeartbeats 4000000 in
theorem w_X5_isRow_27 {g : hf_G} {p : Program} {l : Launch} {ev : Env} {s : State} {m : MethodId} {args : Array Value} {below : List Frame} {meth : Method} {c : Code} (X : hf_X g p s m args meth c cX5_isRow 7 RX5 (some .boolean))  {t0 : Nat} (hl_t0 : t0 < 69) (hs_t0 : hf_shp t0 = 5) (v1 : Int32) (v2 : Int32) (v3 : Int32) (k6 : Int32 → Int32 → hf_M → Option (Int32 × hf_M)) (hk6 : ∀ (v4 : Int32) (v5 : Int32) (M : hf_M), hf_W g p l ev (2) s m args below meth c 7 (hf_QI g below args s) M 6 [some (.ref (hf_a g t0)), some (.int v1), some (.int v2), some (.int v3), some (.int v4), some (.int v5), none] [] (k6 v4 v5 M))  (v4 : Int32) (v5 : Int32) (w0 : Int32) (M : hf_M) : hf_W g p l ev (2) s m args below meth c 7 (hf_QI g below args s) M 27 [some (.ref (hf_a g t0)), some (.int v1), some (.int v2), some (.int v3), some (.int v4), some (.int v5), none] [.int w0] (s_X5_isRow_27 k6 t0 v1 v2 v3 v4 v5 w0 M) := by
  unfold s_X5_isRow_27
  refine hr_istore X dX5_isRow_27 (by decide) rfl ?_
  refine hr_iload X dX5_isRow_29 rfl ?_
  refine hr_if_eq X 37 dX5_isRow_31 rfl ?_ ?_
  · exact hr_wk (hs_some (hs_some (hs_some (hs_some (hs_some (hs_some (hs_some (hs_nil)))))))) (w_X5_isRow_37 X hl_t0 hs_t0 v1 v2 v3 k6 hk6 v4 v5 w0 M)
  · refine hr_iinc X (v4 + 1) dX5_isRow_34 rfl (by rw [kc_1]) (by decide) rfl ?_
    exact hr_wk (hs_some (hs_some (hs_some (hs_some (hs_some (hs_some (hs_some (hs_nil)))))))) (w_X5_isRow_37 X hl_t0 hs_t0 v1 v2 v3 k6 hk6 (v4 + 1) v5 w0 M)
set_option maxRecDepth 100000 in
set_option maxHeartbeats 4000000 in
theorem w_X5_isRow_6 {g : hf_G} {p : Program} {l : Launch} {ev : Env} {s : State} {m : MethodId} {args : Array Value} {below : List Frame} {meth : Method} {c : Code} (X : hf_X g p s m args meth c cX5_isRow 7 RX5 (some .boolean))    {t0 : Nat} (hl_t0 : t0 < 69) (hs_t0 : hf_shp t0 = 5) (v1 : Int32) (v2 : Int32) (v3 : Int32) : ∀ (n : Nat) (v4 : Int32) (v5 : Int32) (M : hf_M), hf_W g p l ev (2) s m args below meth c 7 (hf_QI g below args s) M 6 [some (.ref (hf_a g t0)), some (.int v1), some (.int v2), some (.int v3), some (.int v4), some (.int v5), none] [] (s_X5_isRow_6 t0 v1 v2 v3 n v4 v5 M) := by
  intro n
  induction n with
  | zero =>
    intros
    exact hr_none
  | succ n ih =>
    intro v4 v5 M
    rw [s_X5_isRow_6]
    refine hr_iload X dX5_isRow_6 rfl ?_
    refine hr_iload_n X dX5_isRow_8 rfl ?_
    refine hr_icmp_ge X 108 dX5_isRow_9 rfl ?_ ?_
    · refine hr_aload_n X dX5_isRow_108 rfl ?_
      refine hr_gR X 6 hl_t0 hs_t0 lg_RX5_36 rfl dX5_isRow_109 (fun q1 hl_q1 hs_q1 => ?_)
      refine hr_iload_n X dX5_isRow_112 rfl ?_
      refine hr_iald X hl_q1 hs_q1 dX5_isRow_113 (fun r2 _ _ => ?_)
      refine hr_if_ne X 142 dX5_isRow_114 rfl ?_ ?_
      · refine hr_iconst X 1 dX5_isRow_142 kc_1 ?_
        refine hr_goto X 147 dX5_isRow_143 rfl ?_
        exact hr_zretC X (Or.inr rfl) dX5_isRow_147
      · refine hr_iload X dX5_isRow_117 rfl ?_
        refine hr_aload_n X dX5_isRow_119 rfl ?_
        refine hr_gI X hl_t0 hs_t0 lg_RX5_13 dX5_isRow_120 ?_
        refine hr_icmp_gt X 146 dX5_isRow_123 rfl ?_ ?_
        · refine hr_iconst X 0 dX5_isRow_146 kc_0 ?_
          exact hr_zretC X (Or.inl rfl) dX5_isRow_147
        · refine hr_iload_n X dX5_isRow_126 rfl ?_
          refine hr_iload X dX5_isRow_127 rfl ?_
          refine hr_isub X dX5_isRow_129 ?_
          refine hr_aload_n X dX5_isRow_130 rfl ?_
          refine hr_gI X hl_t0 hs_t0 lg_RX5_7 dX5_isRow_131 ?_
          refine hr_aload_n X dX5_isRow_134 rfl ?_
          refine hr_gI X hl_t0 hs_t0 lg_RX5_13 dX5_isRow_135 ?_
          refine hr_isub X dX5_isRow_138 ?_
          refine hr_icmp_gt X 146 dX5_isRow_139 rfl ?_ ?_
          · refine hr_iconst X 0 dX5_isRow_146 kc_0 ?_
            exact hr_zretC X (Or.inl rfl) dX5_isRow_147
          · refine hr_iconst X 1 dX5_isRow_142 kc_1 ?_
            refine hr_goto X 147 dX5_isRow_143 rfl ?_
            exact hr_zretC X (Or.inr rfl) dX5_isRow_147
    · refine hr_iload_n X dX5_isRow_12 rfl ?_
      refine hr_iload X dX5_isRow_13 rfl ?_
      refine hr_ishr X dX5_isRow_15 ?_
      refine hr_iconst X 1 dX5_isRow_16 kc_1 ?_
      refine hr_iand X dX5_isRow_17 ?_
      refine hr_iconst X 1 dX5_isRow_18 kc_1 ?_
      refine hr_icmp_ne X 26 dX5_isRow_19 rfl ?_ ?_
      · refine hr_iconst X 0 dX5_isRow_26 kc_0 ?_
        exact hr_wk (hs_some (hs_some (hs_some (hs_some (hs_some (hs_some (hs_none (hs_nil)))))))) (w_X5_isRow_27 X hl_t0 hs_t0 v1 v2 v3 (s_X5_isRow_6 t0 v1 v2 v3 n) ih v4 v5 0 M)
      · refine hr_iconst X 1 dX5_isRow_22 kc_1 ?_
        refine hr_goto X 27 dX5_isRow_23 rfl ?_
        exact hr_wk (hs_some (hs_some (hs_some (hs_some (hs_some (hs_some (hs_none (hs_nil)))))))) (w_X5_isRow_27 X hl_t0 hs_t0 v1 v2 v3 (s_X5_isRow_6 t0 v1 v2 v3 n) ih v4 v5 1 M)
set_option maxRecDepth 100000 in
set_option maxHeartbeats 4000000 in
theorem c_X5_isRow  {t0 : Nat} (hl_t0 : t0 < 69) (hs_t0 : hf_shp t0 = 5) (a1 : Int32) (a2 : Int32) (a3 : Int32) (M : hf_M) : hf_CI yX5_isRow cX5_isRow 7 (some .boolean) (2) (fun g => [.ref (hf_a g t0), .int a1, .int a2, .int a3]) M (s_X5_isRow t0 a1 a2 a3 M) := by
  refine hf_metI (by decide +kernel) (fun g => Nat.le_of_ble_eq_true rfl) (fun g p l ev s m args below meth c X => ?_)
  have X : hf_X g p s m args meth c cX5_isRow 7 RX5 (some .boolean) := X
  show hf_W g p l ev (2) s m args below meth c 7 (hf_QI g below args s) M 0 [some (.ref (hf_a g t0)), some (.int a1), some (.int a2), some (.int a3), none, none, none] [] (s_X5_isRow t0 a1 a2 a3 M)
  unfold s_X5_isRow
  refine hr_iconst X 0 dX5_isRow_0 kc_0 ?_
  refine hr_istore X dX5_isRow_1 (by decide) rfl ?_
  refine hr_iconst X 0 dX5_isRow_3 kc_0 ?_
  refine hr_istore X dX5_isRow_4 (by decide) rfl ?_
  exact hr_wk (hs_some (hs_some (hs_some (hs_some (hs_some (hs_some (hs_none (hs_nil)))))))) (w_X5_isRow_6 X hl_t0 hs_t0 a1 a2 a3 2000 0 0 M)
set_option maxRecDepth 100000 in
set_option maxHeartbeats 4000000 in
theorem w_X5_rowsOf_5 {g : hf_G} {p : Program} {l : Launch} {ev : Env} {s : State} {m : MethodId} {args : Array Value} {below : List Frame} {meth : Method} {c : Code} (X : hf_X g p s m args meth c cX5_rowsOf 5 RX5 (some .int))    {t0 : Nat} (hl_t0 : t0 < 69) (hs_t0 : hf_shp t0 = 5) (v1 : Int32) (v2 : Int32) : ∀ (n : Nat) (v3 : Int32) (v4 : Int32) (M : hf_M), hf_W g p l ev (3) s m args below meth c 5 (hf_QI g below args s) M 5 [some (.ref (hf_a g t0)), some (.int v1), some (.int v2), some (.int v3), some (.int v4)] [] (s_X5_rowsOf_5 t0 v1 v2 n v3 v4 M) := by
  intro n
  induction n with
  | zero =>
    intros
    exact hr_none
  | succ n ih =>
    intro v3 v4 M
    rw [s_X5_rowsOf_5]
    refine hr_iload X dX5_rowsOf_5 rfl ?_
    refine hr_iconst X 1 dX5_rowsOf_7 kc_1 ?_
    refine hr_iload_n X dX5_rowsOf_8 rfl ?_
    refine hr_ishl X dX5_rowsOf_9 ?_
    refine hr_icmp_ge X 33 dX5_rowsOf_10 rfl ?_ ?_
    · refine hr_iload_n X dX5_rowsOf_33 rfl ?_
      exact hr_iret X dX5_rowsOf_34
    · refine hr_aload_n X dX5_rowsOf_13 rfl ?_
      refine hr_iload_n X dX5_rowsOf_14 rfl ?_
      refine hr_iload X dX5_rowsOf_15 rfl ?_
      refine hr_iload_n X dX5_rowsOf_17 rfl ?_
      refine hr_cvI X [.int v1, .int v4, .int v2] [] (c_X5_isRow hl_t0 hs_t0 v1 v4 v2 M) lk_RX5_235 rfl rfl rfl hl_t0 hs_t0 ⟨by decide, rfl⟩ (by decide) (Nat.le_of_ble_eq_true rfl) dX5_rowsOf_18 (fun r1 M2 _ => ?_)
      refine hr_if_eq X 27 dX5_rowsOf_21 rfl ?_ ?_
      · refine hr_iinc X (v4 + 1) dX5_rowsOf_27 rfl (by rw [kc_1]) (by decide) rfl ?_
        refine hr_goto X 5 dX5_rowsOf_30 rfl ?_
        exact hr_wk (hs_some (hs_some (hs_some (hs_some (hs_some (hs_nil)))))) (ih v3 (v4 + 1) M2)
      · refine hr_iinc X (v3 + 1) dX5_rowsOf_24 rfl (by rw [kc_1]) (by decide) rfl ?_
        refine hr_iinc X (v4 + 1) dX5_rowsOf_27 rfl (by rw [kc_1]) (by decide) rfl ?_
        refine hr_goto X 5 dX5_rowsOf_30 rfl ?_
        exact hr_wk (hs_some (hs_some (hs_some (hs_some (hs_some (hs_nil)))))) (ih (v3 + 1) (v4 + 1) M2)
set_option maxRecDepth 100000 in
set_option maxHeartbeats 4000000 in
theorem c_X5_rowsOf  {t0 : Nat} (hl_t0 : t0 < 69) (hs_t0 : hf_shp t0 = 5) (a1 : Int32) (a2 : Int32) (M : hf_M) : hf_CI yX5_rowsOf cX5_rowsOf 5 (some .int) (3) (fun g => [.ref (hf_a g t0), .int a1, .int a2]) M (s_X5_rowsOf t0 a1 a2 M) := by
  refine hf_metI (by decide +kernel) (fun g => Nat.le_of_ble_eq_true rfl) (fun g p l ev s m args below meth c X => ?_)
  have X : hf_X g p s m args meth c cX5_rowsOf 5 RX5 (some .int) := X
  show hf_W g p l ev (3) s m args below meth c 5 (hf_QI g below args s) M 0 [some (.ref (hf_a g t0)), some (.int a1), some (.int a2), none, none] [] (s_X5_rowsOf t0 a1 a2 M)
  unfold s_X5_rowsOf
  refine hr_iconst X 0 dX5_rowsOf_0 kc_0 ?_
  refine hr_istore_n X dX5_rowsOf_1 (by decide) rfl ?_
  refine hr_iconst X 0 dX5_rowsOf_2 kc_0 ?_
  refine hr_istore X dX5_rowsOf_3 (by decide) rfl ?_
  exact hr_wk (hs_some (hs_some (hs_some (hs_some (hs_some (hs_nil)))))) (w_X5_rowsOf_5 X hl_t0 hs_t0 a1 a2 2000 0 0 M)
set_option maxRecDepth 100000 in
set_option maxHeartbeats 4000000 in
theorem c_X5_rows  {t0 : Nat} (hl_t0 : t0 < 69) (hs_t0 : hf_shp t0 = 5) (a1 : Int32) (a2 : Int32) (M : hf_M) : hf_CI yX5_rows cX5_rows 3 (some .int) (4) (fun g => [.ref (hf_a g t0), .int a1, .int a2]) M (s_X5_rows t0 a1 a2 M) := by
  refine hf_metI (by decide +kernel) (fun g => Nat.le_of_ble_eq_true rfl) (fun g p l ev s m args below meth c X => ?_)
  have X : hf_X g p s m args meth c cX5_rows 3 RX5 (some .int) := X
  show hf_W g p l ev (4) s m args below meth c 3 (hf_QI g below args s) M 0 [some (.ref (hf_a g t0)), some (.int a1), some (.int a2)] [] (s_X5_rows t0 a1 a2 M)
  unfold s_X5_rows
  refine hr_aload_n X dX5_rows_0 rfl ?_
  refine hr_iload_n X dX5_rows_1 rfl ?_
  refine hr_cvI X [.int a1] [] (c_X5_isSpeaker hl_t0 hs_t0 a1 M) lk_RX5_103 rfl rfl rfl hl_t0 hs_t0 ⟨by decide, rfl⟩ (by decide) (Nat.le_of_ble_eq_true rfl) dX5_rows_2 (fun r1 M2 _ => ?_)
  refine hr_if_ne X 14 dX5_rows_5 rfl ?_ ?_
  · refine hr_iload_n X dX5_rows_14 rfl ?_
    refine hr_if_lt X 35 dX5_rows_15 rfl ?_ ?_
    · refine hr_aload_n X dX5_rows_35 rfl ?_
      refine hr_bipush X (-6) dX5_rows_36 kb_m6 ?_
      refine hr_cvI X [.int (-6)] [] (c_X5_no hl_t0 hs_t0 (-6) M2) lk_RX5_99 rfl rfl rfl hl_t0 hs_t0 ⟨by decide, rfl⟩ (by decide) (Nat.le_of_ble_eq_true rfl) dX5_rows_38 (fun r3 M4 _ => ?_)
      exact hr_iret X dX5_rows_41
    · refine hr_iload_n X dX5_rows_18 rfl ?_
      refine hr_aload_n X dX5_rows_19 rfl ?_
      refine hr_gI X hl_t0 hs_t0 lg_RX5_7 dX5_rows_20 ?_
      refine hr_icmp_gt X 35 dX5_rows_23 rfl ?_ ?_
      · refine hr_aload_n X dX5_rows_35 rfl ?_
        refine hr_bipush X (-6) dX5_rows_36 kb_m6 ?_
        refine hr_cvI X [.int (-6)] [] (c_X5_no hl_t0 hs_t0 (-6) M2) lk_RX5_99 rfl rfl rfl hl_t0 hs_t0 ⟨by decide, rfl⟩ (by decide) (Nat.le_of_ble_eq_true rfl) dX5_rows_38 (fun r5 M6 _ => ?_)
        exact hr_iret X dX5_rows_41
      · refine hr_aload_n X dX5_rows_26 rfl ?_
        refine hr_iload_n X dX5_rows_27 rfl ?_
        refine hr_iload_n X dX5_rows_28 rfl ?_
        refine hr_cvI X [.int a1, .int a2] [] (c_X5_rowsOf hl_t0 hs_t0 a1 a2 M2) lk_RX5_238 rfl rfl rfl hl_t0 hs_t0 ⟨by decide, rfl⟩ (by decide) (Nat.le_of_ble_eq_true rfl) dX5_rows_29 (fun r7 M8 _ => ?_)
        refine hr_goto X 41 dX5_rows_32 rfl ?_
        exact hr_iret X dX5_rows_41
  · refine hr_aload_n X dX5_rows_8 rfl ?_
    refine hr_iconst X (-1) dX5_rows_9 kc_m1 ?_
    refine hr_cvI X [.int (-1)] [] (c_X5_no hl_t0 hs_t0 (-1) M2) lk_RX5_99 rfl rfl rfl hl_t0 hs_t0 ⟨by decide, rfl⟩ (by decide) (Nat.le_of_ble_eq_true rfl) dX5_rows_10 (fun r9 M10 _ => ?_)
    exact hr_iret X dX5_rows_13
set_option maxRecDepth 100000 in
set_option maxHeartbeats 4000000 in
theorem w_X5_tells_35 {g : hf_G} {p : Program} {l : Launch} {ev : Env} {s : State} {m : MethodId} {args : Array Value} {below : List Frame} {meth : Method} {c : Code} (X : hf_X g p s m args meth c cX5_tells 4 RX5 (some .int))    {t0 : Nat} (hl_t0 : t0 < 69) (hs_t0 : hf_shp t0 = 5) (v1 : Int32) (v2 : Int32) : ∀ (n : Nat) (v3 : Int32) (M : hf_M), hf_W g p l ev (4) s m args below meth c 4 (hf_QI g below args s) M 35 [some (.ref (hf_a g t0)), some (.int v1), some (.int v2), some (.int v3)] [] (s_X5_tells_35 t0 v1 v2 n v3 M) := by
  intro n
  induction n with
  | zero =>
    intros
    exact hr_none
  | succ n ih =>
    intro v3 M
    rw [s_X5_tells_35]
    refine hr_iload_n X dX5_tells_35 rfl ?_
    refine hr_aload_n X dX5_tells_36 rfl ?_
    refine hr_gI X hl_t0 hs_t0 lg_RX5_7 dX5_tells_37 ?_
    refine hr_icmp_gt X 61 dX5_tells_40 rfl ?_ ?_
    · refine hr_iconst X (-1) dX5_tells_61 kc_m1 ?_
      exact hr_iret X dX5_tells_62
    · refine hr_aload_n X dX5_tells_43 rfl ?_
      refine hr_iload_n X dX5_tells_44 rfl ?_
      refine hr_iload_n X dX5_tells_45 rfl ?_
      refine hr_cvI X [.int v1, .int v3] [] (c_X5_rowsOf hl_t0 hs_t0 v1 v3 M) lk_RX5_238 rfl rfl rfl hl_t0 hs_t0 ⟨by decide, rfl⟩ (by decide) (Nat.le_of_ble_eq_true rfl) dX5_tells_46 (fun r1 M2 _ => ?_)
      refine hr_iload_n X dX5_tells_49 rfl ?_
      refine hr_icmp_lt X 55 dX5_tells_50 rfl ?_ ?_
      · refine hr_iinc X (v3 + 1) dX5_tells_55 rfl (by rw [kc_1]) (by decide) rfl ?_
        refine hr_goto X 35 dX5_tells_58 rfl ?_
        exact hr_wk (hs_some (hs_some (hs_some (hs_some (hs_nil))))) (ih (v3 + 1) M2)
      · refine hr_iload_n X dX5_tells_53 rfl ?_
        exact hr_iret X dX5_tells_54
set_option maxRecDepth 100000 in
set_option maxHeartbeats 4000000 in
theorem c_X5_tells  {t0 : Nat} (hl_t0 : t0 < 69) (hs_t0 : hf_shp t0 = 5) (a1 : Int32) (a2 : Int32) (M : hf_M) : hf_CI yX5_tells cX5_tells 4 (some .int) (4) (fun g => [.ref (hf_a g t0), .int a1, .int a2]) M (s_X5_tells t0 a1 a2 M) := by
  refine hf_metI (by decide +kernel) (fun g => Nat.le_of_ble_eq_true rfl) (fun g p l ev s m args below meth c X => ?_)
  have X : hf_X g p s m args meth c cX5_tells 4 RX5 (some .int) := X
  show hf_W g p l ev (4) s m args below meth c 4 (hf_QI g below args s) M 0 [some (.ref (hf_a g t0)), some (.int a1), some (.int a2), none] [] (s_X5_tells t0 a1 a2 M)
  unfold s_X5_tells
  refine hr_aload_n X dX5_tells_0 rfl ?_
  refine hr_iload_n X dX5_tells_1 rfl ?_
  refine hr_cvI X [.int a1] [] (c_X5_isSpeaker hl_t0 hs_t0 a1 M) lk_RX5_103 rfl rfl rfl hl_t0 hs_t0 ⟨by decide, rfl⟩ (by decide) (Nat.le_of_ble_eq_true rfl) dX5_tells_2 (fun r1 M2 _ => ?_)
  refine hr_if_ne X 14 dX5_tells_5 rfl ?_ ?_
  · refine hr_iload_n X dX5_tells_14 rfl ?_
    refine hr_iconst X 1 dX5_tells_15 kc_1 ?_
    refine hr_icmp_lt X 26 dX5_tells_16 rfl ?_ ?_
    · refine hr_aload_n X dX5_tells_26 rfl ?_
      refine hr_bipush X (-6) dX5_tells_27 kb_m6 ?_
      refine hr_cvI X [.int (-6)] [] (c_X5_noTen hl_t0 hs_t0 (-6) M2) lk_RX5_226 rfl rfl rfl hl_t0 hs_t0 ⟨by decide, rfl⟩ (by decide) (Nat.le_of_ble_eq_true rfl) dX5_tells_29 (fun r3 M4 _ => ?_)
      exact hr_iret X dX5_tells_32
    · refine hr_iload_n X dX5_tells_19 rfl ?_
      refine hr_sipush X 1024 dX5_tells_20 ks_1024 ?_
      refine hr_icmp_le X 33 dX5_tells_23 rfl ?_ ?_
      · refine hr_iconst X 0 dX5_tells_33 kc_0 ?_
        refine hr_istore_n X dX5_tells_34 (by decide) rfl ?_
        exact hr_wk (hs_some (hs_some (hs_some (hs_some (hs_nil))))) (w_X5_tells_35 X hl_t0 hs_t0 a1 a2 2000 0 M2)
      · refine hr_aload_n X dX5_tells_26 rfl ?_
        refine hr_bipush X (-6) dX5_tells_27 kb_m6 ?_
        refine hr_cvI X [.int (-6)] [] (c_X5_noTen hl_t0 hs_t0 (-6) M2) lk_RX5_226 rfl rfl rfl hl_t0 hs_t0 ⟨by decide, rfl⟩ (by decide) (Nat.le_of_ble_eq_true rfl) dX5_tells_29 (fun r5 M6 _ => ?_)
        exact hr_iret X dX5_tells_32
  · refine hr_aload_n X dX5_tells_8 rfl ?_
    refine hr_iconst X (-1) dX5_tells_9 kc_m1 ?_
    refine hr_cvI X [.int (-1)] [] (c_X5_noTen hl_t0 hs_t0 (-1) M2) lk_RX5_226 rfl rfl rfl hl_t0 hs_t0 ⟨by decide, rfl⟩ (by decide) (Nat.le_of_ble_eq_true rfl) dX5_tells_10 (fun r7 M8 _ => ?_)
    exact hr_iret X dX5_tells_13
set_option maxRecDepth 100000 in
set_option maxHeartbeats 4000000 in
theorem w_X5_errandsOf_143 {g : hf_G} {p : Program} {l : Launch} {ev : Env} {s : State} {m : MethodId} {args : Array Value} {below : List Frame} {meth : Method} {c : Code} (X : hf_X g p s m args meth c cX5_errandsOf 9 RX5 (some .int))  {t0 : Nat} (hl_t0 : t0 < 69) (hs_t0 : hf_shp t0 = 5) (v1 : Int32) (v5 : Int32) (k130 : Int32 → hf_M → Option (Int32 × hf_M)) (hk130 : ∀ (v6 : Int32) (M : hf_M), hf_W g p l ev (3) s m args below meth c 9 (hf_QI g below args s) M 130 [some (.ref (hf_a g t0)), some (.int v1), none, none, none, some (.int v5), some (.int v6), none, none] [] (k130 v6 M)) (v6 : Int32) : ∀ (n : Nat) (v7 : Int32) (v8 : Int32) (M : hf_M), hf_W g p l ev (3) s m args below meth c 9 (hf_QI g below args s) M 143 [some (.ref (hf_a g t0)), some (.int v1), none, none, none, some (.int v5), some (.int v6), some (.int v7), some (.int v8)] [] (s_X5_errandsOf_143 k130 t0 v1 v5 v6 n v7 v8 M) := by
  intro n
  induction n with
  | zero =>
    intros
    exact hr_none
  | succ n ih =>
    intro v7 v8 M
    rw [s_X5_errandsOf_143]
    refine hr_iload X dX5_errandsOf_143 rfl ?_
    refine hr_aload_n X dX5_errandsOf_145 rfl ?_
    refine hr_gR X 6 hl_t0 hs_t0 lg_RX5_57 rfl dX5_errandsOf_146 (fun q1 hl_q1 hs_q1 => ?_)
    refine hr_iload_n X dX5_errandsOf_149 rfl ?_
    refine hr_iald X hl_q1 hs_q1 dX5_errandsOf_150 (fun r2 _ _ => ?_)
    refine hr_icmp_ge X 227 dX5_errandsOf_151 rfl ?_ ?_
    · refine hr_aload_n X dX5_errandsOf_227 rfl ?_
      refine hr_dup X dX5_errandsOf_228 rfl ?_
      refine hr_gI X hl_t0 hs_t0 lg_RX5_247 dX5_errandsOf_229 ?_
      refine hr_iconst X 1 dX5_errandsOf_232 kc_1 ?_
      refine hr_iload X dX5_errandsOf_233 rfl ?_
      refine hr_ishl X dX5_errandsOf_235 ?_
      refine hr_ior X dX5_errandsOf_236 ?_
      refine hr_pI X hl_t0 hs_t0 lp_RX5_247 dX5_errandsOf_237 (fun M3 eM3 => ?_)
      refine hr_aload_n X dX5_errandsOf_240 rfl ?_
      refine hr_dup X dX5_errandsOf_241 rfl ?_
      refine hr_gI X hl_t0 hs_t0 lg_RX5_244 dX5_errandsOf_242 ?_
      refine hr_aload_n X dX5_errandsOf_245 rfl ?_
      refine hr_gR X 6 hl_t0 hs_t0 lg_RX5_33 rfl dX5_errandsOf_246 (fun q4 hl_q4 hs_q4 => ?_)
      refine hr_aload_n X dX5_errandsOf_249 rfl ?_
      refine hr_iload_n X dX5_errandsOf_250 rfl ?_
      refine hr_iload X dX5_errandsOf_251 rfl ?_
      refine hr_cvI X [.int v1, .int v7] [.ref (hf_a g q4), .int (M3.1 t0 33), .ref (hf_a g t0)] (c_X5_intAt hl_t0 hs_t0 v1 v7 M3) lk_RX5_241 rfl rfl rfl hl_t0 hs_t0 ⟨by decide, rfl⟩ (by decide) (Nat.le_of_ble_eq_true rfl) dX5_errandsOf_253 (fun r5 M6 _ => ?_)
      refine hr_iald X hl_q4 hs_q4 dX5_errandsOf_256 (fun r7 _ _ => ?_)
      refine hr_iadd X dX5_errandsOf_257 ?_
      refine hr_pI X hl_t0 hs_t0 lp_RX5_244 dX5_errandsOf_258 (fun M8 eM8 => ?_)
      refine hr_iinc X (v6 + 1) dX5_errandsOf_261 rfl (by rw [kc_1]) (by decide) rfl ?_
      refine hr_goto X 130 dX5_errandsOf_264 rfl ?_
      exact hr_wk (hs_some (hs_some (hs_none (hs_none (hs_none (hs_some (hs_some (hs_none (hs_none (hs_nil)))))))))) (hk130 (v6 + 1) M8)
    · refine hr_aload_n X dX5_errandsOf_154 rfl ?_
      refine hr_aload_n X dX5_errandsOf_155 rfl ?_
      refine hr_iload_n X dX5_errandsOf_156 rfl ?_
      refine hr_iload X dX5_errandsOf_157 rfl ?_
      refine hr_cvI X [.int v1, .int v8] [.ref (hf_a g t0)] (c_X5_intAt hl_t0 hs_t0 v1 v8 M) lk_RX5_241 rfl rfl rfl hl_t0 hs_t0 ⟨by decide, rfl⟩ (by decide) (Nat.le_of_ble_eq_true rfl) dX5_errandsOf_159 (fun r9 M10 _ => ?_)
      refine hr_cvI X [.int r9] [] (c_X5_isFact hl_t0 hs_t0 r9 M10) lk_RX5_121 rfl rfl rfl hl_t0 hs_t0 ⟨by decide, rfl⟩ (by decide) (Nat.le_of_ble_eq_true rfl) dX5_errandsOf_162 (fun r11 M12 _ => ?_)
      refine hr_if_eq X 221 dX5_errandsOf_165 rfl ?_ ?_
      · refine hr_iinc X (v8 + 1) dX5_errandsOf_221 rfl (by rw [kc_1]) (by decide) rfl ?_
        refine hr_goto X 143 dX5_errandsOf_224 rfl ?_
        exact hr_wk (hs_some (hs_some (hs_none (hs_none (hs_none (hs_some (hs_some (hs_some (hs_some (hs_nil)))))))))) (ih v7 (v8 + 1) M12)
      · refine hr_aload_n X dX5_errandsOf_168 rfl ?_
        refine hr_gI X hl_t0 hs_t0 lg_RX5_247 dX5_errandsOf_169 ?_
        refine hr_iload X dX5_errandsOf_172 rfl ?_
        refine hr_ishr X dX5_errandsOf_174 ?_
        refine hr_iconst X 1 dX5_errandsOf_175 kc_1 ?_
        refine hr_iand X dX5_errandsOf_176 ?_
        refine hr_iconst X 1 dX5_errandsOf_177 kc_1 ?_
        refine hr_icmp_ne X 184 dX5_errandsOf_178 rfl ?_ ?_
        · refine hr_iload X dX5_errandsOf_184 rfl ?_
          refine hr_iconst X (-1) dX5_errandsOf_186 kc_m1 ?_
          refine hr_icmp_eq X 217 dX5_errandsOf_187 rfl ?_ ?_
          · refine hr_iload X dX5_errandsOf_217 rfl ?_
            refine hr_istore X dX5_errandsOf_219 (by decide) rfl ?_
            refine hr_iinc X (v8 + 1) dX5_errandsOf_221 rfl (by rw [kc_1]) (by decide) rfl ?_
            refine hr_goto X 143 dX5_errandsOf_224 rfl ?_
            exact hr_wk (hs_some (hs_some (hs_none (hs_none (hs_none (hs_some (hs_some (hs_some (hs_some (hs_nil)))))))))) (ih v8 (v8 + 1) M12)
          · refine hr_aload_n X dX5_errandsOf_190 rfl ?_
            refine hr_gR X 6 hl_t0 hs_t0 lg_RX5_33 rfl dX5_errandsOf_191 (fun q13 hl_q13 hs_q13 => ?_)
            refine hr_aload_n X dX5_errandsOf_194 rfl ?_
            refine hr_iload_n X dX5_errandsOf_195 rfl ?_
            refine hr_iload X dX5_errandsOf_196 rfl ?_
            refine hr_cvI X [.int v1, .int v8] [.ref (hf_a g q13)] (c_X5_intAt hl_t0 hs_t0 v1 v8 M12) lk_RX5_241 rfl rfl rfl hl_t0 hs_t0 ⟨by decide, rfl⟩ (by decide) (Nat.le_of_ble_eq_true rfl) dX5_errandsOf_198 (fun r14 M15 _ => ?_)
            refine hr_iald X hl_q13 hs_q13 dX5_errandsOf_201 (fun r16 _ _ => ?_)
            refine hr_aload_n X dX5_errandsOf_202 rfl ?_
            refine hr_gR X 6 hl_t0 hs_t0 lg_RX5_33 rfl dX5_errandsOf_203 (fun q17 hl_q17 hs_q17 => ?_)
            refine hr_aload_n X dX5_errandsOf_206 rfl ?_
            refine hr_iload_n X dX5_errandsOf_207 rfl ?_
            refine hr_iload X dX5_errandsOf_208 rfl ?_
            refine hr_cvI X [.int v1, .int v7] [.ref (hf_a g q17), .int r16] (c_X5_intAt hl_t0 hs_t0 v1 v7 M15) lk_RX5_241 rfl rfl rfl hl_t0 hs_t0 ⟨by decide, rfl⟩ (by decide) (Nat.le_of_ble_eq_true rfl) dX5_errandsOf_210 (fun r18 M19 _ => ?_)
            refine hr_iald X hl_q17 hs_q17 dX5_errandsOf_213 (fun r20 _ _ => ?_)
            refine hr_icmp_ge X 221 dX5_errandsOf_214 rfl ?_ ?_
            · refine hr_iinc X (v8 + 1) dX5_errandsOf_221 rfl (by rw [kc_1]) (by decide) rfl ?_
              refine hr_goto X 143 dX5_errandsOf_224 rfl ?_
              exact hr_wk (hs_some (hs_some (hs_none (hs_none (hs_none (hs_some (hs_some (hs_some (hs_some (hs_nil)))))))))) (ih v7 (v8 + 1) M19)
            · refine hr_iload X dX5_errandsOf_217 rfl ?_
              refine hr_istore X dX5_errandsOf_219 (by decide) rfl ?_
              refine hr_iinc X (v8 + 1) dX5_errandsOf_221 rfl (by rw [kc_1]) (by decide) rfl ?_
              refine hr_goto X 143 dX5_errandsOf_224 rfl ?_
              exact hr_wk (hs_some (hs_some (hs_none (hs_none (hs_none (hs_some (hs_some (hs_some (hs_some (hs_nil)))))))))) (ih v8 (v8 + 1) M19)
        · refine hr_goto X 221 dX5_errandsOf_181 rfl ?_
          refine hr_iinc X (v8 + 1) dX5_errandsOf_221 rfl (by rw [kc_1]) (by decide) rfl ?_
          refine hr_goto X 143 dX5_errandsOf_224 rfl ?_
          exact hr_wk (hs_some (hs_some (hs_none (hs_none (hs_none (hs_some (hs_some (hs_some (hs_some (hs_nil)))))))))) (ih v7 (v8 + 1) M12)
set_option maxRecDepth 100000 in
set_option maxHeartbeats 4000000 in
theorem w_X5_errandsOf_130 {g : hf_G} {p : Program} {l : Launch} {ev : Env} {s : State} {m : MethodId} {args : Array Value} {below : List Frame} {meth : Method} {c : Code} (X : hf_X g p s m args meth c cX5_errandsOf 9 RX5 (some .int))    {t0 : Nat} (hl_t0 : t0 < 69) (hs_t0 : hf_shp t0 = 5) (v1 : Int32) (v5 : Int32) : ∀ (n : Nat) (v6 : Int32) (M : hf_M), hf_W g p l ev (3) s m args below meth c 9 (hf_QI g below args s) M 130 [some (.ref (hf_a g t0)), some (.int v1), none, none, none, some (.int v5), some (.int v6), none, none] [] (s_X5_errandsOf_130 t0 v1 v5 n v6 M) := by
  intro n
  induction n with
  | zero =>
    intros
    exact hr_none
  | succ n ih =>
    intro v6 M
    rw [s_X5_errandsOf_130]
    refine hr_iload X dX5_errandsOf_130 rfl ?_
    refine hr_iload X dX5_errandsOf_132 rfl ?_
    refine hr_icmp_ge X 267 dX5_errandsOf_134 rfl ?_ ?_
    · refine hr_iconst X 0 dX5_errandsOf_267 kc_0 ?_
      exact hr_iret X dX5_errandsOf_268
    · refine hr_iconst X (-1) dX5_errandsOf_137 kc_m1 ?_
      refine hr_istore X dX5_errandsOf_138 (by decide) rfl ?_
      refine hr_iconst X 0 dX5_errandsOf_140 kc_0 ?_
      refine hr_istore X dX5_errandsOf_141 (by decide) rfl ?_
      exact hr_wk (hs_some (hs_some (hs_none (hs_none (hs_none (hs_some (hs_some (hs_some (hs_some (hs_nil)))))))))) (w_X5_errandsOf_143 X hl_t0 hs_t0 v1 v5 (s_X5_errandsOf_130 t0 v1 v5 n) ih v6 2000 (-1) 0 M)
set_option maxRecDepth 100000 in
set_option maxHeartbeats 4000000 in
theorem w_X5_errandsOf_42 {g : hf_G} {p : Program} {l : Launch} {ev : Env} {s : State} {m : MethodId} {args : Array Value} {below : List Frame} {meth : Method} {c : Code} (X : hf_X g p s m args meth c cX5_errandsOf 9 RX5 (some .int))    {t0 : Nat} (hl_t0 : t0 < 69) (hs_t0 : hf_shp t0 = 5) (v1 : Int32) (v2 : Int32) : ∀ (n : Nat) (v4 : Int32) (v5 : Int32) (M : hf_M), hf_W g p l ev (3) s m args below meth c 9 (hf_QI g below args s) M 42 [some (.ref (hf_a g t0)), some (.int v1), some (.int v2), none, some (.int v4), some (.int v5), none, none, none] [] (s_X5_errandsOf_42 t0 v1 v2 n v4 v5 M) := by
  intro n
  induction n with
  | zero =>
    intros
    exact hr_none
  | succ n ih =>
    intro v4 v5 M
    rw [s_X5_errandsOf_42]
    refine hr_iload X dX5_errandsOf_42 rfl ?_
    refine hr_aload_n X dX5_errandsOf_44 rfl ?_
    refine hr_gR X 6 hl_t0 hs_t0 lg_RX5_57 rfl dX5_errandsOf_45 (fun q1 hl_q1 hs_q1 => ?_)
    refine hr_iload_n X dX5_errandsOf_48 rfl ?_
    refine hr_iald X hl_q1 hs_q1 dX5_errandsOf_49 (fun r2 _ _ => ?_)
    refine hr_icmp_ge X 83 dX5_errandsOf_50 rfl ?_ ?_
    · refine hr_aload_n X dX5_errandsOf_83 rfl ?_
      refine hr_gI X hl_t0 hs_t0 lg_RX5_7 dX5_errandsOf_84 ?_
      refine hr_aload_n X dX5_errandsOf_87 rfl ?_
      refine hr_gI X hl_t0 hs_t0 lg_RX5_13 dX5_errandsOf_88 ?_
      refine hr_isub X dX5_errandsOf_91 ?_
      refine hr_iload X dX5_errandsOf_92 rfl ?_
      refine hr_iload_n X dX5_errandsOf_94 rfl ?_
      refine hr_iadd X dX5_errandsOf_95 ?_
      refine hr_icmp_ge X 111 dX5_errandsOf_96 rfl ?_ ?_
      · refine hr_iload X dX5_errandsOf_111 rfl ?_
        refine hr_iload_n X dX5_errandsOf_113 rfl ?_
        refine hr_iadd X dX5_errandsOf_114 ?_
        refine hr_istore X dX5_errandsOf_115 (by decide) rfl ?_
        refine hr_aload_n X dX5_errandsOf_117 rfl ?_
        refine hr_iconst X 0 dX5_errandsOf_118 kc_0 ?_
        refine hr_pI X hl_t0 hs_t0 lp_RX5_244 dX5_errandsOf_119 (fun M3 eM3 => ?_)
        refine hr_aload_n X dX5_errandsOf_122 rfl ?_
        refine hr_iconst X 0 dX5_errandsOf_123 kc_0 ?_
        refine hr_pI X hl_t0 hs_t0 lp_RX5_247 dX5_errandsOf_124 (fun M4 eM4 => ?_)
        refine hr_iload_n X dX5_errandsOf_127 rfl ?_
        refine hr_istore X dX5_errandsOf_128 (by decide) rfl ?_
        exact hr_wk (hs_some (hs_some (hs_none (hs_none (hs_none (hs_some (hs_some (hs_none (hs_none (hs_nil)))))))))) (w_X5_errandsOf_130 X hl_t0 hs_t0 v1 (v4 + v2) 2000 v2 M4)
      · refine hr_aload_n X dX5_errandsOf_99 rfl ?_
        refine hr_gI X hl_t0 hs_t0 lg_RX5_7 dX5_errandsOf_100 ?_
        refine hr_aload_n X dX5_errandsOf_103 rfl ?_
        refine hr_gI X hl_t0 hs_t0 lg_RX5_13 dX5_errandsOf_104 ?_
        refine hr_isub X dX5_errandsOf_107 ?_
        refine hr_goto X 115 dX5_errandsOf_108 rfl ?_
        refine hr_istore X dX5_errandsOf_115 (by decide) rfl ?_
        refine hr_aload_n X dX5_errandsOf_117 rfl ?_
        refine hr_iconst X 0 dX5_errandsOf_118 kc_0 ?_
        refine hr_pI X hl_t0 hs_t0 lp_RX5_244 dX5_errandsOf_119 (fun M5 eM5 => ?_)
        refine hr_aload_n X dX5_errandsOf_122 rfl ?_
        refine hr_iconst X 0 dX5_errandsOf_123 kc_0 ?_
        refine hr_pI X hl_t0 hs_t0 lp_RX5_247 dX5_errandsOf_124 (fun M6 eM6 => ?_)
        refine hr_iload_n X dX5_errandsOf_127 rfl ?_
        refine hr_istore X dX5_errandsOf_128 (by decide) rfl ?_
        exact hr_wk (hs_some (hs_some (hs_none (hs_none (hs_none (hs_some (hs_some (hs_none (hs_none (hs_nil)))))))))) (w_X5_errandsOf_130 X hl_t0 hs_t0 v1 ((M.1 t0 3) - (M.1 t0 4)) 2000 v2 M6)
    · refine hr_iload X dX5_errandsOf_53 rfl ?_
      refine hr_aload_n X dX5_errandsOf_55 rfl ?_
      refine hr_aload_n X dX5_errandsOf_56 rfl ?_
      refine hr_iload_n X dX5_errandsOf_57 rfl ?_
      refine hr_iload X dX5_errandsOf_58 rfl ?_
      refine hr_cvI X [.int v1, .int v5] [.ref (hf_a g t0), .int v4] (c_X5_intAt hl_t0 hs_t0 v1 v5 M) lk_RX5_241 rfl rfl rfl hl_t0 hs_t0 ⟨by decide, rfl⟩ (by decide) (Nat.le_of_ble_eq_true rfl) dX5_errandsOf_60 (fun r7 M8 _ => ?_)
      refine hr_cvI X [.int r7] [.int v4] (c_X5_isFact hl_t0 hs_t0 r7 M8) lk_RX5_121 rfl rfl rfl hl_t0 hs_t0 ⟨by decide, rfl⟩ (by decide) (Nat.le_of_ble_eq_true rfl) dX5_errandsOf_63 (fun r9 M10 _ => ?_)
      refine hr_if_eq X 73 dX5_errandsOf_66 rfl ?_ ?_
      · refine hr_iconst X 0 dX5_errandsOf_73 kc_0 ?_
        refine hr_iadd X dX5_errandsOf_74 ?_
        refine hr_istore X dX5_errandsOf_75 (by decide) rfl ?_
        refine hr_iinc X (v5 + 1) dX5_errandsOf_77 rfl (by rw [kc_1]) (by decide) rfl ?_
        refine hr_goto X 42 dX5_errandsOf_80 rfl ?_
        exact hr_wk (hs_some (hs_some (hs_some (hs_none (hs_some (hs_some (hs_none (hs_none (hs_none (hs_nil)))))))))) (ih (v4 + 0) (v5 + 1) M10)
      · refine hr_iconst X 1 dX5_errandsOf_69 kc_1 ?_
        refine hr_goto X 74 dX5_errandsOf_70 rfl ?_
        refine hr_iadd X dX5_errandsOf_74 ?_
        refine hr_istore X dX5_errandsOf_75 (by decide) rfl ?_
        refine hr_iinc X (v5 + 1) dX5_errandsOf_77 rfl (by rw [kc_1]) (by decide) rfl ?_
        refine hr_goto X 42 dX5_errandsOf_80 rfl ?_
        exact hr_wk (hs_some (hs_some (hs_some (hs_none (hs_some (hs_some (hs_none (hs_none (hs_none (hs_nil)))))))))) (ih (v4 + 1) (v5 + 1) M10)
set_option maxRecDepth 100000 in
set_option maxHeartbeats 4000000 in
theorem c_X5_errandsOf  {t0 : Nat} (hl_t0 : t0 < 69) (hs_t0 : hf_shp t0 = 5) (a1 : Int32) (a2 : Int32) (M : hf_M) : hf_CI yX5_errandsOf cX5_errandsOf 9 (some .int) (3) (fun g => [.ref (hf_a g t0), .int a1, .int a2]) M (s_X5_errandsOf t0 a1 a2 M) := by
  refine hf_metI (by decide +kernel) (fun g => Nat.le_of_ble_eq_true rfl) (fun g p l ev s m args below meth c X => ?_)
  have X : hf_X g p s m args meth c cX5_errandsOf 9 RX5 (some .int) := X
  show hf_W g p l ev (3) s m args below meth c 9 (hf_QI g below args s) M 0 [some (.ref (hf_a g t0)), some (.int a1), some (.int a2), none, none, none, none, none, none] [] (s_X5_errandsOf t0 a1 a2 M)
  unfold s_X5_errandsOf
  refine hr_aload_n X dX5_errandsOf_0 rfl ?_
  refine hr_iload_n X dX5_errandsOf_1 rfl ?_
  refine hr_cvI X [.int a1] [] (c_X5_wants hl_t0 hs_t0 a1 M) lk_RX5_208 rfl rfl rfl hl_t0 hs_t0 ⟨by decide, rfl⟩ (by decide) (Nat.le_of_ble_eq_true rfl) dX5_errandsOf_2 (fun r1 M2 _ => ?_)
  refine hr_istore_n X dX5_errandsOf_5 (by decide) rfl ?_
  refine hr_iload_n X dX5_errandsOf_6 rfl ?_
  refine hr_if_eq X 12 dX5_errandsOf_7 rfl ?_ ?_
  · refine hr_aload_n X dX5_errandsOf_12 rfl ?_
    refine hr_gR X 6 hl_t0 hs_t0 lg_RX5_57 rfl dX5_errandsOf_13 (fun q3 hl_q3 hs_q3 => ?_)
    refine hr_iload_n X dX5_errandsOf_16 rfl ?_
    refine hr_iald X hl_q3 hs_q3 dX5_errandsOf_17 (fun r4 _ _ => ?_)
    refine hr_bipush X 10 dX5_errandsOf_18 kb_10 ?_
    refine hr_icmp_gt X 33 dX5_errandsOf_20 rfl ?_ ?_
    · refine hr_bipush X (-6) dX5_errandsOf_33 kb_m6 ?_
      exact hr_iret X dX5_errandsOf_35
    · refine hr_iload_n X dX5_errandsOf_23 rfl ?_
      refine hr_if_lt X 33 dX5_errandsOf_24 rfl ?_ ?_
      · refine hr_bipush X (-6) dX5_errandsOf_33 kb_m6 ?_
        exact hr_iret X dX5_errandsOf_35
      · refine hr_iload_n X dX5_errandsOf_27 rfl ?_
        refine hr_bipush X 10 dX5_errandsOf_28 kb_10 ?_
        refine hr_icmp_le X 36 dX5_errandsOf_30 rfl ?_ ?_
        · refine hr_iconst X 0 dX5_errandsOf_36 kc_0 ?_
          refine hr_istore X dX5_errandsOf_37 (by decide) rfl ?_
          refine hr_iconst X 0 dX5_errandsOf_39 kc_0 ?_
          refine hr_istore X dX5_errandsOf_40 (by decide) rfl ?_
          exact hr_wk (hs_some (hs_some (hs_some (hs_none (hs_some (hs_some (hs_none (hs_none (hs_none (hs_nil)))))))))) (w_X5_errandsOf_42 X hl_t0 hs_t0 a1 a2 2000 0 0 M2)
        · refine hr_bipush X (-6) dX5_errandsOf_33 kb_m6 ?_
          exact hr_iret X dX5_errandsOf_35
  · refine hr_iload_n X dX5_errandsOf_10 rfl ?_
    exact hr_iret X dX5_errandsOf_11
set_option maxRecDepth 100000 in
set_option maxHeartbeats 4000000 in
theorem c_X5_errands  {t0 : Nat} (hl_t0 : t0 < 69) (hs_t0 : hf_shp t0 = 5) (a1 : Int32) (a2 : Int32) (M : hf_M) : hf_CI yX5_errands cX5_errands 4 (some .int) (4) (fun g => [.ref (hf_a g t0), .int a1, .int a2]) M (s_X5_errands t0 a1 a2 M) := by
  refine hf_metI (by decide +kernel) (fun g => Nat.le_of_ble_eq_true rfl) (fun g p l ev s m args below meth c X => ?_)
  have X : hf_X g p s m args meth c cX5_errands 4 RX5 (some .int) := X
  show hf_W g p l ev (4) s m args below meth c 4 (hf_QI g below args s) M 0 [some (.ref (hf_a g t0)), some (.int a1), some (.int a2), none] [] (s_X5_errands t0 a1 a2 M)
  unfold s_X5_errands
  refine hr_aload_n X dX5_errands_0 rfl ?_
  refine hr_iload_n X dX5_errands_1 rfl ?_
  refine hr_iload_n X dX5_errands_2 rfl ?_
  refine hr_cvI X [.int a1, .int a2] [] (c_X5_errandsOf hl_t0 hs_t0 a1 a2 M) lk_RX5_250 rfl rfl rfl hl_t0 hs_t0 ⟨by decide, rfl⟩ (by decide) (Nat.le_of_ble_eq_true rfl) dX5_errands_3 (fun r1 M2 _ => ?_)
  refine hr_istore_n X dX5_errands_6 (by decide) rfl ?_
  refine hr_iload_n X dX5_errands_7 rfl ?_
  refine hr_if_eq X 19 dX5_errands_8 rfl ?_ ?_
  · refine hr_aload_n X dX5_errands_19 rfl ?_
    refine hr_gI X hl_t0 hs_t0 lg_RX5_244 dX5_errands_20 ?_
    exact hr_iret X dX5_errands_23
  · refine hr_aload_n X dX5_errands_11 rfl ?_
    refine hr_iload_n X dX5_errands_12 rfl ?_
    refine hr_cvI X [.int r1] [] (c_X5_no hl_t0 hs_t0 r1 M2) lk_RX5_99 rfl rfl rfl hl_t0 hs_t0 ⟨by decide, rfl⟩ (by decide) (Nat.le_of_ble_eq_true rfl) dX5_errands_13 (fun r3 M4 _ => ?_)
    refine hr_goto X 23 dX5_errands_16 rfl ?_
    exact hr_iret X dX5_errands_23
set_option maxRecDepth 100000 in
set_option maxHeartbeats 4000000 in
theorem c_X5_placed  {t0 : Nat} (hl_t0 : t0 < 69) (hs_t0 : hf_shp t0 = 5) (a1 : Int32) (a2 : Int32) (M : hf_M) : hf_CI yX5_placed cX5_placed 4 (some .int) (4) (fun g => [.ref (hf_a g t0), .int a1, .int a2]) M (s_X5_placed t0 a1 a2 M) := by
  refine hf_metI (by decide +kernel) (fun g => Nat.le_of_ble_eq_true rfl) (fun g p l ev s m args below meth c X => ?_)
  have X : hf_X g p s m args meth c cX5_placed 4 RX5 (some .int) := X
  show hf_W g p l ev (4) s m args below meth c 4 (hf_QI g below args s) M 0 [some (.ref (hf_a g t0)), some (.int a1), some (.int a2), none] [] (s_X5_placed t0 a1 a2 M)
  unfold s_X5_placed
  refine hr_aload_n X dX5_placed_0 rfl ?_
  refine hr_iload_n X dX5_placed_1 rfl ?_
  refine hr_iload_n X dX5_placed_2 rfl ?_
  refine hr_cvI X [.int a1, .int a2] [] (c_X5_errandsOf hl_t0 hs_t0 a1 a2 M) lk_RX5_250 rfl rfl rfl hl_t0 hs_t0 ⟨by decide, rfl⟩ (by decide) (Nat.le_of_ble_eq_true rfl) dX5_placed_3 (fun r1 M2 _ => ?_)
  refine hr_istore_n X dX5_placed_6 (by decide) rfl ?_
  refine hr_iload_n X dX5_placed_7 rfl ?_
  refine hr_if_eq X 19 dX5_placed_8 rfl ?_ ?_
  · refine hr_aload_n X dX5_placed_19 rfl ?_
    refine hr_gI X hl_t0 hs_t0 lg_RX5_247 dX5_placed_20 ?_
    exact hr_iret X dX5_placed_23
  · refine hr_aload_n X dX5_placed_11 rfl ?_
    refine hr_iload_n X dX5_placed_12 rfl ?_
    refine hr_cvI X [.int r1] [] (c_X5_no hl_t0 hs_t0 r1 M2) lk_RX5_99 rfl rfl rfl hl_t0 hs_t0 ⟨by decide, rfl⟩ (by decide) (Nat.le_of_ble_eq_true rfl) dX5_placed_13 (fun r3 M4 _ => ?_)
    refine hr_goto X 23 dX5_placed_16 rfl ?_
    exact hr_iret X dX5_placed_23
set_option maxRecDepth 100000 in
set_option maxHeartbeats 4000000 in
theorem w_X5_trust_71 {g : hf_G} {p : Program} {l : Launch} {ev : Env} {s : State} {m : MethodId} {args : Array Value} {below : List Frame} {meth : Method} {c : Code} (X : hf_X g p s m args meth c cX5_trust 6 RX5 (some .int))    {t0 : Nat} (hl_t0 : t0 < 69) (hs_t0 : hf_shp t0 = 5) (v1 : Int32) (v2 : Int64) : ∀ (n : Nat) (v4 : Int32) (v5 : Int32) (M : hf_M), hf_W g p l ev (5) s m args below meth c 6 (hf_QI g below args s) M 71 [some (.ref (hf_a g t0)), some (.int v1), some (.long v2), none, some (.int v4), some (.int v5)] [] (s_X5_trust_71 t0 v1 v2 n v4 v5 M) := by
  intro n
  induction n with
  | zero =>
    intros
    exact hr_none
  | succ n ih =>
    intro v4 v5 M
    rw [s_X5_trust_71]
    refine hr_iload X dX5_trust_71 rfl ?_
    refine hr_iconst X 1 dX5_trust_73 kc_1 ?_
    refine hr_aload_n X dX5_trust_74 rfl ?_
    refine hr_gI X hl_t0 hs_t0 lg_RX5_89 dX5_trust_75 ?_
    refine hr_ishl X dX5_trust_78 ?_
    refine hr_icmp_ge X 144 dX5_trust_79 rfl ?_ ?_
    · refine hr_iload X dX5_trust_144 rfl ?_
      exact hr_iret X dX5_trust_146
    · refine hr_lload_n X dX5_trust_82 rfl ?_
      refine hr_iload X dX5_trust_83 rfl ?_
      refine hr_lshr X dX5_trust_85 ?_
      refine hr_lconst X 1 dX5_trust_86 rfl ?_
      refine hr_land X dX5_trust_87 ?_
      refine hr_lconst X 0 dX5_trust_88 rfl ?_
      refine hr_lcmp X dX5_trust_89 ?_
      refine hr_if_ne X 96 dX5_trust_90 rfl ?_ ?_
      · refine hr_iload X dX5_trust_96 rfl ?_
        refine hr_aload_n X dX5_trust_98 rfl ?_
        refine hr_iload_n X dX5_trust_99 rfl ?_
        refine hr_iload X dX5_trust_100 rfl ?_
        refine hr_iconst X 1 dX5_trust_102 kc_1 ?_
        refine hr_cvI X [.int v1, .int v5, .int 1] [.int v4] (c_X5_lets hl_t0 hs_t0 v1 v5 1 M) lk_RX5_218 rfl rfl rfl hl_t0 hs_t0 ⟨by decide, rfl⟩ (by decide) (Nat.le_of_ble_eq_true rfl) dX5_trust_103 (fun r1 M2 _ => ?_)
        refine hr_if_eq X 113 dX5_trust_106 rfl ?_ ?_
        · refine hr_iconst X 0 dX5_trust_113 kc_0 ?_
          refine hr_iadd X dX5_trust_114 ?_
          refine hr_istore X dX5_trust_115 (by decide) rfl ?_
          refine hr_iload X dX5_trust_117 rfl ?_
          refine hr_aload_n X dX5_trust_119 rfl ?_
          refine hr_iload_n X dX5_trust_120 rfl ?_
          refine hr_iload X dX5_trust_121 rfl ?_
          refine hr_iconst X 0 dX5_trust_123 kc_0 ?_
          refine hr_cvI X [.int v1, .int v5, .int 0] [.int (v4 + 0)] (c_X5_lets hl_t0 hs_t0 v1 v5 0 M2) lk_RX5_218 rfl rfl rfl hl_t0 hs_t0 ⟨by decide, rfl⟩ (by decide) (Nat.le_of_ble_eq_true rfl) dX5_trust_124 (fun r3 M4 _ => ?_)
          refine hr_if_eq X 134 dX5_trust_127 rfl ?_ ?_
          · refine hr_iconst X 0 dX5_trust_134 kc_0 ?_
            refine hr_isub X dX5_trust_135 ?_
            refine hr_istore X dX5_trust_136 (by decide) rfl ?_
            refine hr_iinc X (v5 + 1) dX5_trust_138 rfl (by rw [kc_1]) (by decide) rfl ?_
            refine hr_goto X 71 dX5_trust_141 rfl ?_
            exact hr_wk (hs_some (hs_some (hs_some (hs_none (hs_some (hs_some (hs_nil))))))) (ih ((v4 + 0) - 0) (v5 + 1) M4)
          · refine hr_iconst X 1 dX5_trust_130 kc_1 ?_
            refine hr_goto X 135 dX5_trust_131 rfl ?_
            refine hr_isub X dX5_trust_135 ?_
            refine hr_istore X dX5_trust_136 (by decide) rfl ?_
            refine hr_iinc X (v5 + 1) dX5_trust_138 rfl (by rw [kc_1]) (by decide) rfl ?_
            refine hr_goto X 71 dX5_trust_141 rfl ?_
            exact hr_wk (hs_some (hs_some (hs_some (hs_none (hs_some (hs_some (hs_nil))))))) (ih ((v4 + 0) - 1) (v5 + 1) M4)
        · refine hr_iconst X 1 dX5_trust_109 kc_1 ?_
          refine hr_goto X 114 dX5_trust_110 rfl ?_
          refine hr_iadd X dX5_trust_114 ?_
          refine hr_istore X dX5_trust_115 (by decide) rfl ?_
          refine hr_iload X dX5_trust_117 rfl ?_
          refine hr_aload_n X dX5_trust_119 rfl ?_
          refine hr_iload_n X dX5_trust_120 rfl ?_
          refine hr_iload X dX5_trust_121 rfl ?_
          refine hr_iconst X 0 dX5_trust_123 kc_0 ?_
          refine hr_cvI X [.int v1, .int v5, .int 0] [.int (v4 + 1)] (c_X5_lets hl_t0 hs_t0 v1 v5 0 M2) lk_RX5_218 rfl rfl rfl hl_t0 hs_t0 ⟨by decide, rfl⟩ (by decide) (Nat.le_of_ble_eq_true rfl) dX5_trust_124 (fun r5 M6 _ => ?_)
          refine hr_if_eq X 134 dX5_trust_127 rfl ?_ ?_
          · refine hr_iconst X 0 dX5_trust_134 kc_0 ?_
            refine hr_isub X dX5_trust_135 ?_
            refine hr_istore X dX5_trust_136 (by decide) rfl ?_
            refine hr_iinc X (v5 + 1) dX5_trust_138 rfl (by rw [kc_1]) (by decide) rfl ?_
            refine hr_goto X 71 dX5_trust_141 rfl ?_
            exact hr_wk (hs_some (hs_some (hs_some (hs_none (hs_some (hs_some (hs_nil))))))) (ih ((v4 + 1) - 0) (v5 + 1) M6)
          · refine hr_iconst X 1 dX5_trust_130 kc_1 ?_
            refine hr_goto X 135 dX5_trust_131 rfl ?_
            refine hr_isub X dX5_trust_135 ?_
            refine hr_istore X dX5_trust_136 (by decide) rfl ?_
            refine hr_iinc X (v5 + 1) dX5_trust_138 rfl (by rw [kc_1]) (by decide) rfl ?_
            refine hr_goto X 71 dX5_trust_141 rfl ?_
            exact hr_wk (hs_some (hs_some (hs_some (hs_none (hs_some (hs_some (hs_nil))))))) (ih ((v4 + 1) - 1) (v5 + 1) M6)
      · refine hr_goto X 138 dX5_trust_93 rfl ?_
        refine hr_iinc X (v5 + 1) dX5_trust_138 rfl (by rw [kc_1]) (by decide) rfl ?_
        refine hr_goto X 71 dX5_trust_141 rfl ?_
        exact hr_wk (hs_some (hs_some (hs_some (hs_none (hs_some (hs_some (hs_nil))))))) (ih v4 (v5 + 1) M)
set_option maxRecDepth 100000 in
set_option maxHeartbeats 4000000 in
theorem c_X5_trust  {t0 : Nat} (hl_t0 : t0 < 69) (hs_t0 : hf_shp t0 = 5) (a1 : Int32) (M : hf_M) : hf_CI yX5_trust cX5_trust 6 (some .int) (5) (fun g => [.ref (hf_a g t0), .int a1]) M (s_X5_trust t0 a1 M) := by
  refine hf_metI (by decide +kernel) (fun g => Nat.le_of_ble_eq_true rfl) (fun g p l ev s m args below meth c X => ?_)
  have X : hf_X g p s m args meth c cX5_trust 6 RX5 (some .int) := X
  show hf_W g p l ev (5) s m args below meth c 6 (hf_QI g below args s) M 0 [some (.ref (hf_a g t0)), some (.int a1), none, none, none, none] [] (s_X5_trust t0 a1 M)
  unfold s_X5_trust
  refine hr_aload_n X dX5_trust_0 rfl ?_
  refine hr_iload_n X dX5_trust_1 rfl ?_
  refine hr_cvI X [.int a1] [] (c_X5_isSpeaker hl_t0 hs_t0 a1 M) lk_RX5_103 rfl rfl rfl hl_t0 hs_t0 ⟨by decide, rfl⟩ (by decide) (Nat.le_of_ble_eq_true rfl) dX5_trust_2 (fun r1 M2 _ => ?_)
  refine hr_if_ne X 14 dX5_trust_5 rfl ?_ ?_
  · refine hr_aload_n X dX5_trust_14 rfl ?_
    refine hr_iload_n X dX5_trust_15 rfl ?_
    refine hr_cvI X [.int a1] [] (c_X5_isFull hl_t0 hs_t0 a1 M2) lk_RX5_150 rfl rfl rfl hl_t0 hs_t0 ⟨by decide, rfl⟩ (by decide) (Nat.le_of_ble_eq_true rfl) dX5_trust_16 (fun r3 M4 _ => ?_)
    refine hr_if_eq X 29 dX5_trust_19 rfl ?_ ?_
    · refine hr_aload_n X dX5_trust_29 rfl ?_
      refine hr_cvJ X [] [] (c_X5_worldsNow hl_t0 hs_t0 M4) lk_RX5_142 rfl rfl rfl hl_t0 hs_t0 ⟨by decide, rfl⟩ (by decide) (Nat.le_of_ble_eq_true rfl) dX5_trust_30 (fun r5 M6 _ => ?_)
      refine hr_lstore_n X dX5_trust_33 (by decide) rfl ?_
      refine hr_aload_n X dX5_trust_34 rfl ?_
      refine hr_iload_n X dX5_trust_35 rfl ?_
      refine hr_cvI X [.int a1] [] (c_X5_isFree hl_t0 hs_t0 a1 M6) lk_RX5_127 rfl rfl rfl hl_t0 hs_t0 ⟨by decide, rfl⟩ (by decide) (Nat.le_of_ble_eq_true rfl) dX5_trust_36 (fun r7 M8 _ => ?_)
      refine hr_if_ne X 65 dX5_trust_39 rfl ?_ ?_
      · refine hr_iconst X 0 dX5_trust_65 kc_0 ?_
        refine hr_istore X dX5_trust_66 (by decide) rfl ?_
        refine hr_iconst X 0 dX5_trust_68 kc_0 ?_
        refine hr_istore X dX5_trust_69 (by decide) rfl ?_
        exact hr_wk (hs_some (hs_some (hs_some (hs_none (hs_some (hs_some (hs_nil))))))) (w_X5_trust_71 X hl_t0 hs_t0 a1 r5 2000 0 0 M8)
      · refine hr_aload_n X dX5_trust_42 rfl ?_
        refine hr_iload_n X dX5_trust_43 rfl ?_
        refine hr_aload_n X dX5_trust_44 rfl ?_
        refine hr_iload_n X dX5_trust_45 rfl ?_
        refine hr_cvI X [.int a1] [.int a1, .ref (hf_a g t0)] (c_X5_saidBy hl_t0 hs_t0 a1 M8) lk_RX5_106 rfl rfl rfl hl_t0 hs_t0 ⟨by decide, rfl⟩ (by decide) (Nat.le_of_ble_eq_true rfl) dX5_trust_46 (fun r9 M10 _ => ?_)
        refine hr_cvI X [.int a1, .int r9] [] (c_X5_isTrue hl_t0 hs_t0 a1 r9 M10) lk_RX5_109 rfl rfl rfl hl_t0 hs_t0 ⟨by decide, rfl⟩ (by decide) (Nat.le_of_ble_eq_true rfl) dX5_trust_49 (fun r11 M12 _ => ?_)
        refine hr_if_eq X 63 dX5_trust_52 rfl ?_ ?_
        · refine hr_iconst X 0 dX5_trust_63 kc_0 ?_
          exact hr_iret X dX5_trust_64
        · refine hr_aload_n X dX5_trust_55 rfl ?_
          refine hr_lload_n X dX5_trust_56 rfl ?_
          refine hr_cvI X [.long r5] [] (c_X5_count hl_t0 hs_t0 r5 M12) lk_RX5_146 rfl rfl rfl hl_t0 hs_t0 ⟨by decide, rfl⟩ (by decide) (Nat.le_of_ble_eq_true rfl) dX5_trust_57 (fun r13 M14 _ => ?_)
          refine hr_goto X 64 dX5_trust_60 rfl ?_
          exact hr_iret X dX5_trust_64
    · refine hr_aload_n X dX5_trust_22 rfl ?_
      refine hr_bipush X (-6) dX5_trust_23 kb_m6 ?_
      refine hr_cvI X [.int (-6)] [] (c_X5_noLow hl_t0 hs_t0 (-6) M4) lk_RX5_253 rfl rfl rfl hl_t0 hs_t0 ⟨by decide, rfl⟩ (by decide) (Nat.le_of_ble_eq_true rfl) dX5_trust_25 (fun r15 M16 _ => ?_)
      exact hr_iret X dX5_trust_28
  · refine hr_aload_n X dX5_trust_8 rfl ?_
    refine hr_iconst X (-1) dX5_trust_9 kc_m1 ?_
    refine hr_cvI X [.int (-1)] [] (c_X5_noLow hl_t0 hs_t0 (-1) M2) lk_RX5_253 rfl rfl rfl hl_t0 hs_t0 ⟨by decide, rfl⟩ (by decide) (Nat.le_of_ble_eq_true rfl) dX5_trust_10 (fun r17 M18 _ => ?_)
    exact hr_iret X dX5_trust_13
set_option maxRecDepth 100000 in
set_option maxHeartbeats 4000000 in
theorem w_X5_witness_20 {g : hf_G} {p : Program} {l : Launch} {ev : Env} {s : State} {m : MethodId} {args : Array Value} {below : List Frame} {meth : Method} {c : Code} (X : hf_X g p s m args meth c cX5_witness 5 RX5 (some .int))    {t0 : Nat} (hl_t0 : t0 < 69) (hs_t0 : hf_shp t0 = 5) : ∀ (n : Nat) (v1 : Int32) (v2 : Int32) (v3 : Int32) (M : hf_M), hf_W g p l ev (4) s m args below meth c 5 (hf_QI g below args s) M 20 [some (.ref (hf_a g t0)), some (.int v1), some (.int v2), some (.int v3), none] [] (s_X5_witness_20 t0 n v1 v2 v3 M) := by
  intro n
  induction n with
  | zero =>
    intros
    exact hr_none
  | succ n ih =>
    intro v1 v2 v3 M
    rw [s_X5_witness_20]
    refine hr_iload_n X dX5_witness_20 rfl ?_
    refine hr_aload_n X dX5_witness_21 rfl ?_
    refine hr_gI X hl_t0 hs_t0 lg_RX5_92 dX5_witness_22 ?_
    refine hr_icmp_ge X 60 dX5_witness_25 rfl ?_ ?_
    · refine hr_iload_n X dX5_witness_60 rfl ?_
      exact hr_iret X dX5_witness_61
    · refine hr_aload_n X dX5_witness_28 rfl ?_
      refine hr_aload_n X dX5_witness_29 rfl ?_
      refine hr_iconst X (-1) dX5_witness_30 kc_m1 ?_
      refine hr_iload_n X dX5_witness_31 rfl ?_
      refine hr_cvJ X [.int (-1), .int v3] [.ref (hf_a g t0)] (c_X5_worldsOf hl_t0 hs_t0 (-1) v3 M) lk_RX5_134 rfl rfl rfl hl_t0 hs_t0 ⟨by decide, rfl⟩ (by decide) (Nat.le_of_ble_eq_true rfl) dX5_witness_32 (fun r1 M2 _ => ?_)
      refine hr_cvI X [.long r1] [] (c_X5_count hl_t0 hs_t0 r1 M2) lk_RX5_146 rfl rfl rfl hl_t0 hs_t0 ⟨by decide, rfl⟩ (by decide) (Nat.le_of_ble_eq_true rfl) dX5_witness_35 (fun r3 M4 _ => ?_)
      refine hr_istore X dX5_witness_38 (by decide) rfl ?_
      refine hr_iload X dX5_witness_40 rfl ?_
      refine hr_iload_n X dX5_witness_42 rfl ?_
      refine hr_icmp_gt X 49 dX5_witness_43 rfl ?_ ?_
      · refine hr_iload X dX5_witness_49 rfl ?_
        refine hr_istore_n X dX5_witness_51 (by decide) rfl ?_
        refine hr_iload_n X dX5_witness_52 rfl ?_
        refine hr_istore_n X dX5_witness_53 (by decide) rfl ?_
        refine hr_iinc X (v3 + 1) dX5_witness_54 rfl (by rw [kc_1]) (by decide) rfl ?_
        refine hr_goto X 20 dX5_witness_57 rfl ?_
        exact hr_wk (hs_some (hs_some (hs_some (hs_some (hs_none (hs_nil)))))) (ih v3 r3 (v3 + 1) M4)
      · refine hr_goto X 54 dX5_witness_46 rfl ?_
        refine hr_iinc X (v3 + 1) dX5_witness_54 rfl (by rw [kc_1]) (by decide) rfl ?_
        refine hr_goto X 20 dX5_witness_57 rfl ?_
        exact hr_wk (hs_some (hs_some (hs_some (hs_some (hs_none (hs_nil)))))) (ih v1 v2 (v3 + 1) M4)
set_option maxRecDepth 100000 in
set_option maxHeartbeats 4000000 in
theorem c_X5_witness  {t0 : Nat} (hl_t0 : t0 < 69) (hs_t0 : hf_shp t0 = 5) (M : hf_M) : hf_CI yX5_witness cX5_witness 5 (some .int) (4) (fun g => [.ref (hf_a g t0)]) M (s_X5_witness t0 M) := by
  refine hf_metI (by decide +kernel) (fun g => Nat.le_of_ble_eq_true rfl) (fun g p l ev s m args below meth c X => ?_)
  have X : hf_X g p s m args meth c cX5_witness 5 RX5 (some .int) := X
  show hf_W g p l ev (4) s m args below meth c 5 (hf_QI g below args s) M 0 [some (.ref (hf_a g t0)), none, none, none, none] [] (s_X5_witness t0 M)
  unfold s_X5_witness
  refine hr_aload_n X dX5_witness_0 rfl ?_
  refine hr_gI X hl_t0 hs_t0 lg_RX5_92 dX5_witness_1 ?_
  refine hr_if_ne X 14 dX5_witness_4 rfl ?_ ?_
  · refine hr_iconst X 0 dX5_witness_14 kc_0 ?_
    refine hr_istore_n X dX5_witness_15 (by decide) rfl ?_
    refine hr_iconst X (-1) dX5_witness_16 kc_m1 ?_
    refine hr_istore_n X dX5_witness_17 (by decide) rfl ?_
    refine hr_iconst X 0 dX5_witness_18 kc_0 ?_
    refine hr_istore_n X dX5_witness_19 (by decide) rfl ?_
    exact hr_wk (hs_some (hs_some (hs_some (hs_some (hs_none (hs_nil)))))) (w_X5_witness_20 X hl_t0 hs_t0 2000 0 (-1) 0 M)
  · refine hr_aload_n X dX5_witness_7 rfl ?_
    refine hr_bipush X (-5) dX5_witness_8 kb_m5 ?_
    refine hr_cvI X [.int (-5)] [] (c_X5_no hl_t0 hs_t0 (-5) M) lk_RX5_99 rfl rfl rfl hl_t0 hs_t0 ⟨by decide, rfl⟩ (by decide) (Nat.le_of_ble_eq_true rfl) dX5_witness_10 (fun r1 M2 _ => ?_)
    exact hr_iret X dX5_witness_13
set_option maxRecDepth 100000 in
set_option maxHeartbeats 4000000 in
theorem w_X5_judge_157 {g : hf_G} {p : Program} {l : Launch} {ev : Env} {s : State} {m : MethodId} {args : Array Value} {below : List Frame} {meth : Method} {c : Code} (X : hf_X g p s m args meth c cX5_judge 12 RX5 (some .int))  {t0 : Nat} (hl_t0 : t0 < 69) (hs_t0 : hf_shp t0 = 5) (v1 : Int32) (v2 : Int32) (v4 : Int32) (k69 : Int32 → Int32 → hf_M → Option (Int32 × hf_M)) (hk69 : ∀ (v5 : Int32) (v6 : Int32) (M : hf_M), hf_W g p l ev (6) s m args below meth c 12 (hf_QI g below args s) M 69 [some (.ref (hf_a g t0)), some (.int v1), some (.int v2), none, some (.int v4), some (.int v5), some (.int v6), none, none, none, none, none] [] (k69 v5 v6 M))  (v5 : Int32) (v6 : Int32) (v8 : Int32) (v9 : Int32) (v10 : Int32) (w0 : Int32) (M : hf_M) : hf_W g p l ev (6) s m args below meth c 12 (hf_QI g below args s) M 157 [some (.ref (hf_a g t0)), some (.int v1), some (.int v2), none, some (.int v4), some (.int v5), some (.int v6), none, some (.int v8), some (.int v9), some (.int v10), none] [.int w0] (s_X5_judge_157 k69 t0 v1 v2 v4 v5 v6 v8 v9 v10 w0 M) := by
  unfold s_X5_judge_157
  refine hr_istore X dX5_judge_157 (by decide) rfl ?_
  refine hr_iload X dX5_judge_159 rfl ?_
  refine hr_if_eq X 190 dX5_judge_161 rfl ?_ ?_
  · refine hr_iload X dX5_judge_190 rfl ?_
    refine hr_istore X dX5_judge_192 (by decide) rfl ?_
    refine hr_iinc X (v6 + 1) dX5_judge_194 rfl (by rw [kc_1]) (by decide) rfl ?_
    refine hr_goto X 69 dX5_judge_197 rfl ?_
    exact hr_wk (hs_some (hs_some (hs_some (hs_none (hs_some (hs_some (hs_some (hs_none (hs_none (hs_none (hs_none (hs_none (hs_nil))))))))))))) (hk69 v6 (v6 + 1) M)
  · refine hr_aload_n X dX5_judge_164 rfl ?_
    refine hr_iload X dX5_judge_165 rfl ?_
    refine hr_iload X dX5_judge_167 rfl ?_
    refine hr_iload X dX5_judge_169 rfl ?_
    refine hr_cvI X [.int v8, .int v9, .int v10] [] (c_X5_leaves hl_t0 hs_t0 v8 v9 v10 M) lk_RX5_153 rfl rfl rfl hl_t0 hs_t0 ⟨by decide, rfl⟩ (by decide) (Nat.le_of_ble_eq_true rfl) dX5_judge_171 (fun r1 M2 _ => ?_)
    refine hr_if_le X 190 dX5_judge_174 rfl ?_ ?_
    · refine hr_iload X dX5_judge_190 rfl ?_
      refine hr_istore X dX5_judge_192 (by decide) rfl ?_
      refine hr_iinc X (v6 + 1) dX5_judge_194 rfl (by rw [kc_1]) (by decide) rfl ?_
      refine hr_goto X 69 dX5_judge_197 rfl ?_
      exact hr_wk (hs_some (hs_some (hs_some (hs_none (hs_some (hs_some (hs_some (hs_none (hs_none (hs_none (hs_none (hs_none (hs_nil))))))))))))) (hk69 v6 (v6 + 1) M2)
    · refine hr_aload_n X dX5_judge_177 rfl ?_
      refine hr_iload X dX5_judge_178 rfl ?_
      refine hr_iload X dX5_judge_180 rfl ?_
      refine hr_iload X dX5_judge_182 rfl ?_
      refine hr_cvV X [.int v8, .int v9, .int v10] [] (c_X5_adds hl_t0 hs_t0 v8 v9 v10 M2) lk_RX5_138 rfl rfl rfl hl_t0 hs_t0 ⟨by decide, rfl⟩ (by decide) (Nat.le_of_ble_eq_true rfl) dX5_judge_184 (fun _ M4 _ => ?_)
      refine hr_goto X 194 dX5_judge_187 rfl ?_
      refine hr_iinc X (v6 + 1) dX5_judge_194 rfl (by rw [kc_1]) (by decide) rfl ?_
      refine hr_goto X 69 dX5_judge_197 rfl ?_
      exact hr_wk (hs_some (hs_some (hs_some (hs_none (hs_some (hs_some (hs_some (hs_none (hs_none (hs_none (hs_none (hs_none (hs_nil))))))))))))) (hk69 v5 (v6 + 1) M4)
set_option maxRecDepth 100000 in
set_option maxHeartbeats 4000000 in
theorem w_X5_judge_156 {g : hf_G} {p : Program} {l : Launch} {ev : Env} {s : State} {m : MethodId} {args : Array Value} {below : List Frame} {meth : Method} {c : Code} (X : hf_X g p s m args meth c cX5_judge 12 RX5 (some .int))  {t0 : Nat} (hl_t0 : t0 < 69) (hs_t0 : hf_shp t0 = 5) (v1 : Int32) (v2 : Int32) (v4 : Int32) (k69 : Int32 → Int32 → hf_M → Option (Int32 × hf_M)) (hk69 : ∀ (v5 : Int32) (v6 : Int32) (M : hf_M), hf_W g p l ev (6) s m args below meth c 12 (hf_QI g below args s) M 69 [some (.ref (hf_a g t0)), some (.int v1), some (.int v2), none, some (.int v4), some (.int v5), some (.int v6), none, none, none, none, none] [] (k69 v5 v6 M))  (v5 : Int32) (v6 : Int32) (v8 : Int32) (v9 : Int32) (v10 : Int32) (M : hf_M) : hf_W g p l ev (6) s m args below meth c 12 (hf_QI g below args s) M 156 [some (.ref (hf_a g t0)), some (.int v1), some (.int v2), none, some (.int v4), some (.int v5), some (.int v6), none, some (.int v8), some (.int v9), some (.int v10), none] [] (s_X5_judge_156 k69 t0 v1 v2 v4 v5 v6 v8 v9 v10 M) := by
  unfold s_X5_judge_156
  refine hr_iconst X 0 dX5_judge_156 kc_0 ?_
  exact hr_wk (hs_some (hs_some (hs_some (hs_none (hs_some (hs_some (hs_some (hs_none (hs_some (hs_some (hs_some (hs_none (hs_nil))))))))))))) (w_X5_judge_157 X hl_t0 hs_t0 v1 v2 v4 k69 hk69 v5 v6 v8 v9 v10 0 M)
set_option maxRecDepth 100000 in
set_option maxHeartbeats 4000000 in
theorem w_X5_judge_69 {g : hf_G} {p : Program} {l : Launch} {ev : Env} {s : State} {m : MethodId} {args : Array Value} {below : List Frame} {meth : Method} {c : Code} (X : hf_X g p s m args meth c cX5_judge 12 RX5 (some .int))    {t0 : Nat} (hl_t0 : t0 < 69) (hs_t0 : hf_shp t0 = 5) (v1 : Int32) (v2 : Int32) (v4 : Int32) : ∀ (n : Nat) (v5 : Int32) (v6 : Int32) (M : hf_M), hf_W g p l ev (6) s m args below meth c 12 (hf_QI g below args s) M 69 [some (.ref (hf_a g t0)), some (.int v1), some (.int v2), none, some (.int v4), some (.int v5), some (.int v6), none, none, none, none, none] [] (s_X5_judge_69 t0 v1 v2 v4 n v5 v6 M) := by
  intro n
  induction n with
  | zero =>
    intros
    exact hr_none
  | succ n ih =>
    intro v5 v6 M
    rw [s_X5_judge_69]
    refine hr_iload X dX5_judge_69 rfl ?_
    refine hr_iload_n X dX5_judge_71 rfl ?_
    refine hr_icmp_ge X 200 dX5_judge_72 rfl ?_ ?_
    · refine hr_aload_n X dX5_judge_200 rfl ?_
      refine hr_iload X dX5_judge_201 rfl ?_
      refine hr_pI X hl_t0 hs_t0 lp_RX5_118 dX5_judge_203 (fun M1 eM1 => ?_)
      refine hr_iload X dX5_judge_206 rfl ?_
      exact hr_iret X dX5_judge_208
    · refine hr_iload X dX5_judge_75 rfl ?_
      refine hr_iconst X (-1) dX5_judge_77 kc_m1 ?_
      refine hr_icmp_ne X 200 dX5_judge_78 rfl ?_ ?_
      · refine hr_aload_n X dX5_judge_200 rfl ?_
        refine hr_iload X dX5_judge_201 rfl ?_
        refine hr_pI X hl_t0 hs_t0 lp_RX5_118 dX5_judge_203 (fun M2 eM2 => ?_)
        refine hr_iload X dX5_judge_206 rfl ?_
        exact hr_iret X dX5_judge_208
      · refine hr_aload_n X dX5_judge_81 rfl ?_
        refine hr_iload_n X dX5_judge_82 rfl ?_
        refine hr_iload X dX5_judge_83 rfl ?_
        refine hr_cvI X [.int v1, .int v6] [] (c_X5_intAt hl_t0 hs_t0 v1 v6 M) lk_RX5_241 rfl rfl rfl hl_t0 hs_t0 ⟨by decide, rfl⟩ (by decide) (Nat.le_of_ble_eq_true rfl) dX5_judge_85 (fun r3 M4 _ => ?_)
        refine hr_istore X dX5_judge_88 (by decide) rfl ?_
        refine hr_iload X dX5_judge_90 rfl ?_
        refine hr_bipush X 100 dX5_judge_92 kb_100 ?_
        refine hr_idiv X dX5_judge_94 (by decide) ?_
        refine hr_istore X dX5_judge_95 (by decide) rfl ?_
        refine hr_iload X dX5_judge_97 rfl ?_
        refine hr_bipush X 10 dX5_judge_99 kb_10 ?_
        refine hr_idiv X dX5_judge_101 (by decide) ?_
        refine hr_bipush X 10 dX5_judge_102 kb_10 ?_
        refine hr_irem X dX5_judge_104 (by decide) ?_
        refine hr_istore X dX5_judge_105 (by decide) rfl ?_
        refine hr_iload X dX5_judge_107 rfl ?_
        refine hr_bipush X 10 dX5_judge_109 kb_10 ?_
        refine hr_irem X dX5_judge_111 (by decide) ?_
        refine hr_istore X dX5_judge_112 (by decide) rfl ?_
        refine hr_iload X dX5_judge_114 rfl ?_
        refine hr_if_lt X 156 dX5_judge_116 rfl ?_ ?_
        · exact hr_wk (hs_some (hs_some (hs_some (hs_none (hs_some (hs_some (hs_some (hs_none (hs_some (hs_some (hs_some (hs_none (hs_nil))))))))))))) (w_X5_judge_156 X hl_t0 hs_t0 v1 v2 v4 (s_X5_judge_69 t0 v1 v2 v4 n) ih v5 v6 (r3 / 100) (hn_irem (r3 / 10) 10) (hn_irem r3 10) M4)
        · refine hr_aload_n X dX5_judge_119 rfl ?_
          refine hr_iload X dX5_judge_120 rfl ?_
          refine hr_cvI X [.int (r3 / 100)] [] (c_X5_isSpeaker hl_t0 hs_t0 (r3 / 100) M4) lk_RX5_103 rfl rfl rfl hl_t0 hs_t0 ⟨by decide, rfl⟩ (by decide) (Nat.le_of_ble_eq_true rfl) dX5_judge_122 (fun r5 M6 _ => ?_)
          refine hr_if_eq X 156 dX5_judge_125 rfl ?_ ?_
          · exact hr_wk (hs_some (hs_some (hs_some (hs_none (hs_some (hs_some (hs_some (hs_none (hs_some (hs_some (hs_some (hs_none (hs_nil))))))))))))) (w_X5_judge_156 X hl_t0 hs_t0 v1 v2 v4 (s_X5_judge_69 t0 v1 v2 v4 n) ih v5 v6 (r3 / 100) (hn_irem (r3 / 10) 10) (hn_irem r3 10) M6)
          · refine hr_aload_n X dX5_judge_128 rfl ?_
            refine hr_iload X dX5_judge_129 rfl ?_
            refine hr_cvI X [.int (hn_irem (r3 / 10) 10)] [] (c_X5_isFact hl_t0 hs_t0 (hn_irem (r3 / 10) 10) M6) lk_RX5_121 rfl rfl rfl hl_t0 hs_t0 ⟨by decide, rfl⟩ (by decide) (Nat.le_of_ble_eq_true rfl) dX5_judge_131 (fun r7 M8 _ => ?_)
            refine hr_if_eq X 156 dX5_judge_134 rfl ?_ ?_
            · exact hr_wk (hs_some (hs_some (hs_some (hs_none (hs_some (hs_some (hs_some (hs_none (hs_some (hs_some (hs_some (hs_none (hs_nil))))))))))))) (w_X5_judge_156 X hl_t0 hs_t0 v1 v2 v4 (s_X5_judge_69 t0 v1 v2 v4 n) ih v5 v6 (r3 / 100) (hn_irem (r3 / 10) 10) (hn_irem r3 10) M8)
            · refine hr_iload X dX5_judge_137 rfl ?_
              refine hr_iconst X 2 dX5_judge_139 kc_2 ?_
              refine hr_icmp_ge X 156 dX5_judge_140 rfl ?_ ?_
              · exact hr_wk (hs_some (hs_some (hs_some (hs_none (hs_some (hs_some (hs_some (hs_none (hs_some (hs_some (hs_some (hs_none (hs_nil))))))))))))) (w_X5_judge_156 X hl_t0 hs_t0 v1 v2 v4 (s_X5_judge_69 t0 v1 v2 v4 n) ih v5 v6 (r3 / 100) (hn_irem (r3 / 10) 10) (hn_irem r3 10) M8)
              · refine hr_aload_n X dX5_judge_143 rfl ?_
                refine hr_iload X dX5_judge_144 rfl ?_
                refine hr_cvI X [.int (r3 / 100)] [] (c_X5_isFull hl_t0 hs_t0 (r3 / 100) M8) lk_RX5_150 rfl rfl rfl hl_t0 hs_t0 ⟨by decide, rfl⟩ (by decide) (Nat.le_of_ble_eq_true rfl) dX5_judge_146 (fun r9 M10 _ => ?_)
                refine hr_if_ne X 156 dX5_judge_149 rfl ?_ ?_
                · exact hr_wk (hs_some (hs_some (hs_some (hs_none (hs_some (hs_some (hs_some (hs_none (hs_some (hs_some (hs_some (hs_none (hs_nil))))))))))))) (w_X5_judge_156 X hl_t0 hs_t0 v1 v2 v4 (s_X5_judge_69 t0 v1 v2 v4 n) ih v5 v6 (r3 / 100) (hn_irem (r3 / 10) 10) (hn_irem r3 10) M10)
                · refine hr_iconst X 1 dX5_judge_152 kc_1 ?_
                  refine hr_goto X 157 dX5_judge_153 rfl ?_
                  exact hr_wk (hs_some (hs_some (hs_some (hs_none (hs_some (hs_some (hs_some (hs_none (hs_some (hs_some (hs_some (hs_none (hs_nil))))))))))))) (w_X5_judge_157 X hl_t0 hs_t0 v1 v2 v4 (s_X5_judge_69 t0 v1 v2 v4 n) ih v5 v6 (r3 / 100) (hn_irem (r3 / 10) 10) (hn_irem r3 10) 1 M10)
set_option maxRecDepth 100000 in
set_option maxHeartbeats 4000000 in
theorem c_X5_judge  {t0 : Nat} (hl_t0 : t0 < 69) (hs_t0 : hf_shp t0 = 5) (a1 : Int32) (a2 : Int32) (M : hf_M) : hf_CI yX5_judge cX5_judge 12 (some .int) (6) (fun g => [.ref (hf_a g t0), .int a1, .int a2]) M (s_X5_judge t0 a1 a2 M) := by
  refine hf_metI (by decide +kernel) (fun g => Nat.le_of_ble_eq_true rfl) (fun g p l ev s m args below meth c X => ?_)
  have X : hf_X g p s m args meth c cX5_judge 12 RX5 (some .int) := X
  show hf_W g p l ev (6) s m args below meth c 12 (hf_QI g below args s) M 0 [some (.ref (hf_a g t0)), some (.int a1), some (.int a2), none, none, none, none, none, none, none, none, none] [] (s_X5_judge t0 a1 a2 M)
  unfold s_X5_judge
  refine hr_aload_n X dX5_judge_0 rfl ?_
  refine hr_iload_n X dX5_judge_1 rfl ?_
  refine hr_cvI X [.int a1] [] (c_X5_wants hl_t0 hs_t0 a1 M) lk_RX5_208 rfl rfl rfl hl_t0 hs_t0 ⟨by decide, rfl⟩ (by decide) (Nat.le_of_ble_eq_true rfl) dX5_judge_2 (fun r1 M2 _ => ?_)
  refine hr_istore_n X dX5_judge_5 (by decide) rfl ?_
  refine hr_iload_n X dX5_judge_6 rfl ?_
  refine hr_if_eq X 16 dX5_judge_7 rfl ?_ ?_
  · refine hr_iload_n X dX5_judge_16 rfl ?_
    refine hr_if_ge X 27 dX5_judge_17 rfl ?_ ?_
    · refine hr_iload_n X dX5_judge_27 rfl ?_
      refine hr_aload_n X dX5_judge_28 rfl ?_
      refine hr_gR X 6 hl_t0 hs_t0 lg_RX5_57 rfl dX5_judge_29 (fun q3 hl_q3 hs_q3 => ?_)
      refine hr_iload_n X dX5_judge_32 rfl ?_
      refine hr_iald X hl_q3 hs_q3 dX5_judge_33 (fun r4 _ _ => ?_)
      refine hr_icmp_le X 44 dX5_judge_34 rfl ?_ ?_
      · refine hr_iload_n X dX5_judge_44 rfl ?_
        refine hr_bipush X 24 dX5_judge_45 kb_24 ?_
        refine hr_icmp_le X 57 dX5_judge_47 rfl ?_ ?_
        · refine hr_aload_n X dX5_judge_57 rfl ?_
          refine hr_gI X hl_t0 hs_t0 lg_RX5_118 dX5_judge_58 ?_
          refine hr_istore X dX5_judge_61 (by decide) rfl ?_
          refine hr_iconst X (-1) dX5_judge_63 kc_m1 ?_
          refine hr_istore X dX5_judge_64 (by decide) rfl ?_
          refine hr_iconst X 0 dX5_judge_66 kc_0 ?_
          refine hr_istore X dX5_judge_67 (by decide) rfl ?_
          exact hr_wk (hs_some (hs_some (hs_some (hs_none (hs_some (hs_some (hs_some (hs_none (hs_none (hs_none (hs_none (hs_none (hs_nil))))))))))))) (w_X5_judge_69 X hl_t0 hs_t0 a1 a2 (M2.1 t0 2) 2000 (-1) 0 M2)
        · refine hr_aload_n X dX5_judge_50 rfl ?_
          refine hr_bipush X (-6) dX5_judge_51 kb_m6 ?_
          refine hr_cvI X [.int (-6)] [] (c_X5_no hl_t0 hs_t0 (-6) M2) lk_RX5_99 rfl rfl rfl hl_t0 hs_t0 ⟨by decide, rfl⟩ (by decide) (Nat.le_of_ble_eq_true rfl) dX5_judge_53 (fun r5 M6 _ => ?_)
          exact hr_iret X dX5_judge_56
      · refine hr_aload_n X dX5_judge_37 rfl ?_
        refine hr_bipush X (-5) dX5_judge_38 kb_m5 ?_
        refine hr_cvI X [.int (-5)] [] (c_X5_no hl_t0 hs_t0 (-5) M2) lk_RX5_99 rfl rfl rfl hl_t0 hs_t0 ⟨by decide, rfl⟩ (by decide) (Nat.le_of_ble_eq_true rfl) dX5_judge_40 (fun r7 M8 _ => ?_)
        exact hr_iret X dX5_judge_43
    · refine hr_aload_n X dX5_judge_20 rfl ?_
      refine hr_bipush X (-4) dX5_judge_21 kb_m4 ?_
      refine hr_cvI X [.int (-4)] [] (c_X5_no hl_t0 hs_t0 (-4) M2) lk_RX5_99 rfl rfl rfl hl_t0 hs_t0 ⟨by decide, rfl⟩ (by decide) (Nat.le_of_ble_eq_true rfl) dX5_judge_23 (fun r9 M10 _ => ?_)
      exact hr_iret X dX5_judge_26
  · refine hr_aload_n X dX5_judge_10 rfl ?_
    refine hr_iload_n X dX5_judge_11 rfl ?_
    refine hr_cvI X [.int r1] [] (c_X5_no hl_t0 hs_t0 r1 M2) lk_RX5_99 rfl rfl rfl hl_t0 hs_t0 ⟨by decide, rfl⟩ (by decide) (Nat.le_of_ble_eq_true rfl) dX5_judge_12 (fun r11 M12 _ => ?_)
    exact hr_iret X dX5_judge_15
set_option maxRecDepth 100000 in
set_option maxHeartbeats 4000000 in
theorem c_X5_sunset  {t0 : Nat} (hl_t0 : t0 < 69) (hs_t0 : hf_shp t0 = 5) (M : hf_M) : hf_CI yX5_sunset cX5_sunset 1 (some .int) (5) (fun g => [.ref (hf_a g t0)]) M (s_X5_sunset t0 M) := by
  refine hf_metI (by decide +kernel) (fun g => Nat.le_of_ble_eq_true rfl) (fun g p l ev s m args below meth c X => ?_)
  have X : hf_X g p s m args meth c cX5_sunset 1 RX5 (some .int) := X
  show hf_W g p l ev (5) s m args below meth c 1 (hf_QI g below args s) M 0 [some (.ref (hf_a g t0))] [] (s_X5_sunset t0 M)
  unfold s_X5_sunset
  refine hr_aload_n X dX5_sunset_0 rfl ?_
  refine hr_aload_n X dX5_sunset_1 rfl ?_
  refine hr_cvJ X [] [.ref (hf_a g t0)] (c_X5_worldsNow hl_t0 hs_t0 M) lk_RX5_142 rfl rfl rfl hl_t0 hs_t0 ⟨by decide, rfl⟩ (by decide) (Nat.le_of_ble_eq_true rfl) dX5_sunset_2 (fun r1 M2 _ => ?_)
  refine hr_pL X hl_t0 hs_t0 lp_RX5_25 dX5_sunset_5 (fun M3 eM3 => ?_)
  refine hr_aload_n X dX5_sunset_8 rfl ?_
  refine hr_iconst X 0 dX5_sunset_9 kc_0 ?_
  refine hr_pI X hl_t0 hs_t0 lp_RX5_118 dX5_sunset_10 (fun M4 eM4 => ?_)
  refine hr_aload_n X dX5_sunset_13 rfl ?_
  refine hr_dup X dX5_sunset_14 rfl ?_
  refine hr_gI X hl_t0 hs_t0 lg_RX5_205 dX5_sunset_15 ?_
  refine hr_iconst X 1 dX5_sunset_18 kc_1 ?_
  refine hr_iadd X dX5_sunset_19 ?_
  refine hr_pI X hl_t0 hs_t0 lp_RX5_205 dX5_sunset_20 (fun M5 eM5 => ?_)
  refine hr_aload_n X dX5_sunset_23 rfl ?_
  refine hr_aload_n X dX5_sunset_24 rfl ?_
  refine hr_gL X hl_t0 hs_t0 lg_RX5_25 dX5_sunset_25 ?_
  refine hr_cvI X [.long (M5.2.1 t0 9)] [] (c_X5_count hl_t0 hs_t0 (M5.2.1 t0 9) M5) lk_RX5_146 rfl rfl rfl hl_t0 hs_t0 ⟨by decide, rfl⟩ (by decide) (Nat.le_of_ble_eq_true rfl) dX5_sunset_28 (fun r6 M7 _ => ?_)
  exact hr_iret X dX5_sunset_31
set_option maxRecDepth 100000 in
set_option maxHeartbeats 4000000 in
theorem c_X5_lot  {t0 : Nat} (hl_t0 : t0 < 69) (hs_t0 : hf_shp t0 = 5) (a1 : Int32) (M : hf_M) : hf_CI yX5_lot cX5_lot 2 (some .int) (1) (fun g => [.ref (hf_a g t0), .int a1]) M (s_X5_lot t0 a1 M) := by
  refine hf_metI (by decide +kernel) (fun g => Nat.le_of_ble_eq_true rfl) (fun g p l ev s m args below meth c X => ?_)
  have X : hf_X g p s m args meth c cX5_lot 2 RX5 (some .int) := X
  show hf_W g p l ev (1) s m args below meth c 2 (hf_QI g below args s) M 0 [some (.ref (hf_a g t0)), some (.int a1)] [] (s_X5_lot t0 a1 M)
  unfold s_X5_lot
  refine hr_aload_n X dX5_lot_0 rfl ?_
  refine hr_aload_n X dX5_lot_1 rfl ?_
  refine hr_gI X hl_t0 hs_t0 lg_RX5_16 dX5_lot_2 ?_
  refine hr_ldc_w X dX5_lot_5 (hf_c6x 15 rfl rfl) ?_
  refine hr_imul X dX5_lot_8 ?_
  refine hr_sipush X 12345 dX5_lot_9 ks_12345 ?_
  refine hr_iadd X dX5_lot_12 ?_
  refine hr_pI X hl_t0 hs_t0 lp_RX5_16 dX5_lot_13 (fun M1 eM1 => ?_)
  refine hr_aload_n X dX5_lot_16 rfl ?_
  refine hr_gI X hl_t0 hs_t0 lg_RX5_16 dX5_lot_17 ?_
  refine hr_bipush X 16 dX5_lot_20 kb_16 ?_
  refine hr_iushr X dX5_lot_22 ?_
  refine hr_iload_n X dX5_lot_23 rfl ?_
  refine hr_iremC X dX5_lot_24 ?_
  exact hr_iret X dX5_lot_25
set_option maxRecDepth 100000 in
set_option maxHeartbeats 4000000 in
theorem w_X5_draw_27 {g : hf_G} {p : Program} {l : Launch} {ev : Env} {s : State} {m : MethodId} {args : Array Value} {below : List Frame} {meth : Method} {c : Code} (X : hf_X g p s m args meth c cX5_draw 6 RX5 (some .int))    {t0 : Nat} (hl_t0 : t0 < 69) (hs_t0 : hf_shp t0 = 5) (v1 : Int64) (v3 : Int32) : ∀ (n : Nat) (v4 : Int32) (v5 : Int32) (M : hf_M), hf_W g p l ev (5) s m args below meth c 6 (hf_QI g below args s) M 27 [some (.ref (hf_a g t0)), some (.long v1), none, some (.int v3), some (.int v4), some (.int v5)] [] (s_X5_draw_27 t0 v1 v3 n v4 v5 M) := by
  intro n
  induction n with
  | zero =>
    intros
    exact hr_none
  | succ n ih =>
    intro v4 v5 M
    rw [s_X5_draw_27]
    refine hr_iload X dX5_draw_27 rfl ?_
    refine hr_if_gt X 43 dX5_draw_29 rfl ?_ ?_
    · refine hr_lload_n X dX5_draw_43 rfl ?_
      refine hr_iload X dX5_draw_44 rfl ?_
      refine hr_lshr X dX5_draw_46 ?_
      refine hr_lconst X 1 dX5_draw_47 rfl ?_
      refine hr_land X dX5_draw_48 ?_
      refine hr_lconst X 1 dX5_draw_49 rfl ?_
      refine hr_lcmp X dX5_draw_50 ?_
      refine hr_if_ne X 57 dX5_draw_51 rfl ?_ ?_
      · refine hr_iinc X (v5 + 1) dX5_draw_57 rfl (by rw [kc_1]) (by decide) rfl ?_
        refine hr_goto X 27 dX5_draw_60 rfl ?_
        exact hr_wk (hs_some (hs_some (hs_none (hs_some (hs_some (hs_some (hs_nil))))))) (ih v4 (v5 + 1) M)
      · refine hr_iinc X (v4 + (-1)) dX5_draw_54 rfl (by rw [kc_m1]) (by decide) rfl ?_
        refine hr_iinc X (v5 + 1) dX5_draw_57 rfl (by rw [kc_1]) (by decide) rfl ?_
        refine hr_goto X 27 dX5_draw_60 rfl ?_
        exact hr_wk (hs_some (hs_some (hs_none (hs_some (hs_some (hs_some (hs_nil))))))) (ih (v4 + (-1)) (v5 + 1) M)
    · refine hr_lload_n X dX5_draw_32 rfl ?_
      refine hr_iload X dX5_draw_33 rfl ?_
      refine hr_lshr X dX5_draw_35 ?_
      refine hr_lconst X 1 dX5_draw_36 rfl ?_
      refine hr_land X dX5_draw_37 ?_
      refine hr_lconst X 0 dX5_draw_38 rfl ?_
      refine hr_lcmp X dX5_draw_39 ?_
      refine hr_if_ne X 63 dX5_draw_40 rfl ?_ ?_
      · refine hr_aload_n X dX5_draw_63 rfl ?_
        refine hr_iload X dX5_draw_64 rfl ?_
        refine hr_pI X hl_t0 hs_t0 lp_RX5_19 dX5_draw_66 (fun M1 eM1 => ?_)
        refine hr_iload_n X dX5_draw_69 rfl ?_
        exact hr_iret X dX5_draw_70
      · refine hr_lload_n X dX5_draw_43 rfl ?_
        refine hr_iload X dX5_draw_44 rfl ?_
        refine hr_lshr X dX5_draw_46 ?_
        refine hr_lconst X 1 dX5_draw_47 rfl ?_
        refine hr_land X dX5_draw_48 ?_
        refine hr_lconst X 1 dX5_draw_49 rfl ?_
        refine hr_lcmp X dX5_draw_50 ?_
        refine hr_if_ne X 57 dX5_draw_51 rfl ?_ ?_
        · refine hr_iinc X (v5 + 1) dX5_draw_57 rfl (by rw [kc_1]) (by decide) rfl ?_
          refine hr_goto X 27 dX5_draw_60 rfl ?_
          exact hr_wk (hs_some (hs_some (hs_none (hs_some (hs_some (hs_some (hs_nil))))))) (ih v4 (v5 + 1) M)
        · refine hr_iinc X (v4 + (-1)) dX5_draw_54 rfl (by rw [kc_m1]) (by decide) rfl ?_
          refine hr_iinc X (v5 + 1) dX5_draw_57 rfl (by rw [kc_1]) (by decide) rfl ?_
          refine hr_goto X 27 dX5_draw_60 rfl ?_
          exact hr_wk (hs_some (hs_some (hs_none (hs_some (hs_some (hs_some (hs_nil))))))) (ih (v4 + (-1)) (v5 + 1) M)
set_option maxRecDepth 100000 in
set_option maxHeartbeats 4000000 in
theorem c_X5_draw  {t0 : Nat} (hl_t0 : t0 < 69) (hs_t0 : hf_shp t0 = 5) (M : hf_M) : hf_CI yX5_draw cX5_draw 6 (some .int) (5) (fun g => [.ref (hf_a g t0)]) M (s_X5_draw t0 M) := by
  refine hf_metI (by decide +kernel) (fun g => Nat.le_of_ble_eq_true rfl) (fun g p l ev s m args below meth c X => ?_)
  have X : hf_X g p s m args meth c cX5_draw 6 RX5 (some .int) := X
  show hf_W g p l ev (5) s m args below meth c 6 (hf_QI g below args s) M 0 [some (.ref (hf_a g t0)), none, none, none, none, none] [] (s_X5_draw t0 M)
  unfold s_X5_draw
  refine hr_aload_n X dX5_draw_0 rfl ?_
  refine hr_cvJ X [] [] (c_X5_worldsNow hl_t0 hs_t0 M) lk_RX5_142 rfl rfl rfl hl_t0 hs_t0 ⟨by decide, rfl⟩ (by decide) (Nat.le_of_ble_eq_true rfl) dX5_draw_1 (fun r1 M2 _ => ?_)
  refine hr_lstore_n X dX5_draw_4 (by decide) rfl ?_
  refine hr_aload_n X dX5_draw_5 rfl ?_
  refine hr_lload_n X dX5_draw_6 rfl ?_
  refine hr_cvI X [.long r1] [] (c_X5_count hl_t0 hs_t0 r1 M2) lk_RX5_146 rfl rfl rfl hl_t0 hs_t0 ⟨by decide, rfl⟩ (by decide) (Nat.le_of_ble_eq_true rfl) dX5_draw_7 (fun r3 M4 _ => ?_)
  refine hr_istore_n X dX5_draw_10 (by decide) rfl ?_
  refine hr_iload_n X dX5_draw_11 rfl ?_
  refine hr_if_ne X 17 dX5_draw_12 rfl ?_ ?_
  · refine hr_aload_n X dX5_draw_17 rfl ?_
    refine hr_iload_n X dX5_draw_18 rfl ?_
    refine hr_cvI X [.int r3] [] (c_X5_lot hl_t0 hs_t0 r3 M4) lk_RX5_257 rfl rfl rfl hl_t0 hs_t0 ⟨by decide, rfl⟩ (by decide) (Nat.le_of_ble_eq_true rfl) dX5_draw_19 (fun r5 M6 _ => ?_)
    refine hr_istore X dX5_draw_22 (by decide) rfl ?_
    refine hr_iconst X 0 dX5_draw_24 kc_0 ?_
    refine hr_istore X dX5_draw_25 (by decide) rfl ?_
    exact hr_wk (hs_some (hs_some (hs_none (hs_some (hs_some (hs_some (hs_nil))))))) (w_X5_draw_27 X hl_t0 hs_t0 r1 r3 2000 r5 0 M6)
  · refine hr_iconst X 0 dX5_draw_15 kc_0 ?_
    exact hr_iret X dX5_draw_16
set_option maxRecDepth 100000 in
set_option maxHeartbeats 4000000 in
theorem w_X5_ask_169 {g : hf_G} {p : Program} {l : Launch} {ev : Env} {s : State} {m : MethodId} {args : Array Value} {below : List Frame} {meth : Method} {c : Code} (X : hf_X g p s m args meth c cX5_ask 7 RX5 (some .int))     {t0 : Nat} (hl_t0 : t0 < 69) (hs_t0 : hf_shp t0 = 5) (v1 : Int32) (v2 : Int32) (v3 : Int32) (w0 : Int32) (M : hf_M) : hf_W g p l ev (6) s m args below meth c 7 (hf_QI g below args s) M 169 [some (.ref (hf_a g t0)), some (.int v1), some (.int v2), some (.int v3), none, none, none] [.int w0] (s_X5_ask_169 t0 v1 v2 v3 w0 M) := by
  unfold s_X5_ask_169
  refine hr_istore X dX5_ask_169 (by decide) rfl ?_
  refine hr_aload_n X dX5_ask_171 rfl ?_
  refine hr_iload_n X dX5_ask_172 rfl ?_
  refine hr_iload_n X dX5_ask_173 rfl ?_
  refine hr_iload X dX5_ask_174 rfl ?_
  refine hr_cvI X [.int v1, .int v2, .int w0] [] (c_X5_leaves hl_t0 hs_t0 v1 v2 w0 M) lk_RX5_153 rfl rfl rfl hl_t0 hs_t0 ⟨by decide, rfl⟩ (by decide) (Nat.le_of_ble_eq_true rfl) dX5_ask_176 (fun r1 M2 _ => ?_)
  refine hr_if_ne X 194 dX5_ask_179 rfl ?_ ?_
  · refine hr_aload_n X dX5_ask_194 rfl ?_
    refine hr_gI X hl_t0 hs_t0 lg_RX5_118 dX5_ask_195 ?_
    refine hr_bipush X 24 dX5_ask_198 kb_24 ?_
    refine hr_icmp_ne X 215 dX5_ask_200 rfl ?_ ?_
    · refine hr_aload_n X dX5_ask_215 rfl ?_
      refine hr_iload_n X dX5_ask_216 rfl ?_
      refine hr_iload_n X dX5_ask_217 rfl ?_
      refine hr_iload X dX5_ask_218 rfl ?_
      refine hr_cvV X [.int v1, .int v2, .int w0] [] (c_X5_adds hl_t0 hs_t0 v1 v2 w0 M2) lk_RX5_138 rfl rfl rfl hl_t0 hs_t0 ⟨by decide, rfl⟩ (by decide) (Nat.le_of_ble_eq_true rfl) dX5_ask_220 (fun _ M4 _ => ?_)
      refine hr_iload X dX5_ask_223 rfl ?_
      exact hr_iret X dX5_ask_225
    · refine hr_aload_n X dX5_ask_203 rfl ?_
      refine hr_iload_n X dX5_ask_204 rfl ?_
      refine hr_pI X hl_t0 hs_t0 lp_RX5_16 dX5_ask_205 (fun M5 eM5 => ?_)
      refine hr_aload_n X dX5_ask_208 rfl ?_
      refine hr_bipush X (-7) dX5_ask_209 kb_m7 ?_
      refine hr_cvI X [.int (-7)] [] (c_X5_no hl_t0 hs_t0 (-7) M5) lk_RX5_99 rfl rfl rfl hl_t0 hs_t0 ⟨by decide, rfl⟩ (by decide) (Nat.le_of_ble_eq_true rfl) dX5_ask_211 (fun r6 M7 _ => ?_)
      exact hr_iret X dX5_ask_214
  · refine hr_aload_n X dX5_ask_182 rfl ?_
    refine hr_iload_n X dX5_ask_183 rfl ?_
    refine hr_pI X hl_t0 hs_t0 lp_RX5_16 dX5_ask_184 (fun M8 eM8 => ?_)
    refine hr_aload_n X dX5_ask_187 rfl ?_
    refine hr_bipush X (-6) dX5_ask_188 kb_m6 ?_
    refine hr_cvI X [.int (-6)] [] (c_X5_no hl_t0 hs_t0 (-6) M8) lk_RX5_99 rfl rfl rfl hl_t0 hs_t0 ⟨by decide, rfl⟩ (by decide) (Nat.le_of_ble_eq_true rfl) dX5_ask_190 (fun r9 M10 _ => ?_)
    exact hr_iret X dX5_ask_193
set_option maxRecDepth 100000 in
set_option maxHeartbeats 4000000 in
theorem w_X5_ask_159 {g : hf_G} {p : Program} {l : Launch} {ev : Env} {s : State} {m : MethodId} {args : Array Value} {below : List Frame} {meth : Method} {c : Code} (X : hf_X g p s m args meth c cX5_ask 7 RX5 (some .int))     {t0 : Nat} (hl_t0 : t0 < 69) (hs_t0 : hf_shp t0 = 5) (v1 : Int32) (v2 : Int32) (v3 : Int32) (v4 : Int32) (w0 : Int32) (M : hf_M) : hf_W g p l ev (6) s m args below meth c 7 (hf_QI g below args s) M 159 [some (.ref (hf_a g t0)), some (.int v1), some (.int v2), some (.int v3), some (.int v4), none, none] [.int w0] (s_X5_ask_159 t0 v1 v2 v3 v4 w0 M) := by
  unfold s_X5_ask_159
  refine hr_iload X dX5_ask_159 rfl ?_
  refine hr_icmp_ne X 168 dX5_ask_161 rfl ?_ ?_
  · refine hr_iconst X 0 dX5_ask_168 kc_0 ?_
    exact hr_wk (hs_some (hs_some (hs_some (hs_some (hs_none (hs_none (hs_none (hs_nil)))))))) (w_X5_ask_169 X hl_t0 hs_t0 v1 v2 v3 0 M)
  · refine hr_iconst X 1 dX5_ask_164 kc_1 ?_
    refine hr_goto X 169 dX5_ask_165 rfl ?_
    exact hr_wk (hs_some (hs_some (hs_some (hs_some (hs_none (hs_none (hs_none (hs_nil)))))))) (w_X5_ask_169 X hl_t0 hs_t0 v1 v2 v3 1 M)
set_option maxRecDepth 100000 in
set_option maxHeartbeats 4000000 in
theorem w_X5_ask_142 {g : hf_G} {p : Program} {l : Launch} {ev : Env} {s : State} {m : MethodId} {args : Array Value} {below : List Frame} {meth : Method} {c : Code} (X : hf_X g p s m args meth c cX5_ask 7 RX5 (some .int))     {t0 : Nat} (hl_t0 : t0 < 69) (hs_t0 : hf_shp t0 = 5) (v1 : Int32) (v2 : Int32) (v3 : Int32) (v4 : Int32) (M : hf_M) : hf_W g p l ev (6) s m args below meth c 7 (hf_QI g below args s) M 142 [some (.ref (hf_a g t0)), some (.int v1), some (.int v2), some (.int v3), some (.int v4), none, none] [] (s_X5_ask_142 t0 v1 v2 v3 v4 M) := by
  unfold s_X5_ask_142
  refine hr_aload_n X dX5_ask_142 rfl ?_
  refine hr_gI X hl_t0 hs_t0 lg_RX5_19 dX5_ask_143 ?_
  refine hr_iload_n X dX5_ask_146 rfl ?_
  refine hr_ishr X dX5_ask_147 ?_
  refine hr_iconst X 1 dX5_ask_148 kc_1 ?_
  refine hr_iand X dX5_ask_149 ?_
  refine hr_iconst X 1 dX5_ask_150 kc_1 ?_
  refine hr_icmp_ne X 158 dX5_ask_151 rfl ?_ ?_
  · refine hr_iconst X 0 dX5_ask_158 kc_0 ?_
    exact hr_wk (hs_some (hs_some (hs_some (hs_some (hs_some (hs_none (hs_none (hs_nil)))))))) (w_X5_ask_159 X hl_t0 hs_t0 v1 v2 v3 v4 0 M)
  · refine hr_iconst X 1 dX5_ask_154 kc_1 ?_
    refine hr_goto X 159 dX5_ask_155 rfl ?_
    exact hr_wk (hs_some (hs_some (hs_some (hs_some (hs_some (hs_none (hs_none (hs_nil)))))))) (w_X5_ask_159 X hl_t0 hs_t0 v1 v2 v3 v4 1 M)
set_option maxRecDepth 100000 in
set_option maxHeartbeats 4000000 in
theorem w_X5_ask_140 {g : hf_G} {p : Program} {l : Launch} {ev : Env} {s : State} {m : MethodId} {args : Array Value} {below : List Frame} {meth : Method} {c : Code} (X : hf_X g p s m args meth c cX5_ask 7 RX5 (some .int))     {t0 : Nat} (hl_t0 : t0 < 69) (hs_t0 : hf_shp t0 = 5) (v1 : Int32) (v2 : Int32) (v3 : Int32) (w0 : Int32) (M : hf_M) : hf_W g p l ev (6) s m args below meth c 7 (hf_QI g below args s) M 140 [some (.ref (hf_a g t0)), some (.int v1), some (.int v2), some (.int v3), none, none, none] [.int w0] (s_X5_ask_140 t0 v1 v2 v3 w0 M) := by
  unfold s_X5_ask_140
  refine hr_istore X dX5_ask_140 (by decide) rfl ?_
  exact hr_wk (hs_some (hs_some (hs_some (hs_some (hs_some (hs_none (hs_none (hs_nil)))))))) (w_X5_ask_142 X hl_t0 hs_t0 v1 v2 v3 w0 M)
set_option maxRecDepth 100000 in
set_option maxHeartbeats 4000000 in
theorem w_X5_ask_114 {g : hf_G} {p : Program} {l : Launch} {ev : Env} {s : State} {m : MethodId} {args : Array Value} {below : List Frame} {meth : Method} {c : Code} (X : hf_X g p s m args meth c cX5_ask 7 RX5 (some .int))     {t0 : Nat} (hl_t0 : t0 < 69) (hs_t0 : hf_shp t0 = 5) (v1 : Int32) (v2 : Int32) (v3 : Int32) (v5 : Int32) (v6 : Int32) (M : hf_M) : hf_W g p l ev (6) s m args below meth c 7 (hf_QI g below args s) M 114 [some (.ref (hf_a g t0)), some (.int v1), some (.int v2), some (.int v3), none, some (.int v5), some (.int v6)] [] (s_X5_ask_114 t0 v1 v2 v3 v5 v6 M) := by
  unfold s_X5_ask_114
  refine hr_iload X dX5_ask_114 rfl ?_
  refine hr_iload X dX5_ask_116 rfl ?_
  refine hr_icmp_eq X 126 dX5_ask_118 rfl ?_ ?_
  · refine hr_aload_n X dX5_ask_126 rfl ?_
    refine hr_iconst X 2 dX5_ask_127 kc_2 ?_
    refine hr_cvI X [.int 2] [] (c_X5_lot hl_t0 hs_t0 2 M) lk_RX5_257 rfl rfl rfl hl_t0 hs_t0 ⟨by decide, rfl⟩ (by decide) (Nat.le_of_ble_eq_true rfl) dX5_ask_128 (fun r1 M2 _ => ?_)
    refine hr_iconst X 1 dX5_ask_131 kc_1 ?_
    refine hr_icmp_ne X 139 dX5_ask_132 rfl ?_ ?_
    · refine hr_iconst X 0 dX5_ask_139 kc_0 ?_
      exact hr_wk (hs_some (hs_some (hs_some (hs_some (hs_none (hs_none (hs_none (hs_nil)))))))) (w_X5_ask_140 X hl_t0 hs_t0 v1 v2 v3 0 M2)
    · refine hr_iconst X 1 dX5_ask_135 kc_1 ?_
      refine hr_goto X 140 dX5_ask_136 rfl ?_
      exact hr_wk (hs_some (hs_some (hs_some (hs_some (hs_none (hs_none (hs_none (hs_nil)))))))) (w_X5_ask_140 X hl_t0 hs_t0 v1 v2 v3 1 M2)
  · refine hr_iload X dX5_ask_121 rfl ?_
    refine hr_goto X 140 dX5_ask_123 rfl ?_
    exact hr_wk (hs_some (hs_some (hs_some (hs_some (hs_none (hs_none (hs_none (hs_nil)))))))) (w_X5_ask_140 X hl_t0 hs_t0 v1 v2 v3 v5 M)
set_option maxRecDepth 100000 in
set_option maxHeartbeats 4000000 in
theorem c_X5_ask  {t0 : Nat} (hl_t0 : t0 < 69) (hs_t0 : hf_shp t0 = 5) (a1 : Int32) (a2 : Int32) (M : hf_M) : hf_CI yX5_ask cX5_ask 7 (some .int) (6) (fun g => [.ref (hf_a g t0), .int a1, .int a2]) M (s_X5_ask t0 a1 a2 M) := by
  refine hf_metI (by decide +kernel) (fun g => Nat.le_of_ble_eq_true rfl) (fun g p l ev s m args below meth c X => ?_)
  have X : hf_X g p s m args meth c cX5_ask 7 RX5 (some .int) := X
  show hf_W g p l ev (6) s m args below meth c 7 (hf_QI g below args s) M 0 [some (.ref (hf_a g t0)), some (.int a1), some (.int a2), none, none, none, none] [] (s_X5_ask t0 a1 a2 M)
  unfold s_X5_ask
  refine hr_aload_n X dX5_ask_0 rfl ?_
  refine hr_iload_n X dX5_ask_1 rfl ?_
  refine hr_cvI X [.int a1] [] (c_X5_isSpeaker hl_t0 hs_t0 a1 M) lk_RX5_103 rfl rfl rfl hl_t0 hs_t0 ⟨by decide, rfl⟩ (by decide) (Nat.le_of_ble_eq_true rfl) dX5_ask_2 (fun r1 M2 _ => ?_)
  refine hr_if_eq X 16 dX5_ask_5 rfl ?_ ?_
  · refine hr_aload_n X dX5_ask_16 rfl ?_
    refine hr_iconst X (-1) dX5_ask_17 kc_m1 ?_
    refine hr_cvI X [.int (-1)] [] (c_X5_no hl_t0 hs_t0 (-1) M2) lk_RX5_99 rfl rfl rfl hl_t0 hs_t0 ⟨by decide, rfl⟩ (by decide) (Nat.le_of_ble_eq_true rfl) dX5_ask_18 (fun r3 M4 _ => ?_)
    exact hr_iret X dX5_ask_21
  · refine hr_aload_n X dX5_ask_8 rfl ?_
    refine hr_iload_n X dX5_ask_9 rfl ?_
    refine hr_cvI X [.int a2] [] (c_X5_isFact hl_t0 hs_t0 a2 M2) lk_RX5_121 rfl rfl rfl hl_t0 hs_t0 ⟨by decide, rfl⟩ (by decide) (Nat.le_of_ble_eq_true rfl) dX5_ask_10 (fun r5 M6 _ => ?_)
    refine hr_if_ne X 22 dX5_ask_13 rfl ?_ ?_
    · refine hr_aload_n X dX5_ask_22 rfl ?_
      refine hr_iload_n X dX5_ask_23 rfl ?_
      refine hr_cvI X [.int a1] [] (c_X5_isFull hl_t0 hs_t0 a1 M6) lk_RX5_150 rfl rfl rfl hl_t0 hs_t0 ⟨by decide, rfl⟩ (by decide) (Nat.le_of_ble_eq_true rfl) dX5_ask_24 (fun r7 M8 _ => ?_)
      refine hr_if_ne X 38 dX5_ask_27 rfl ?_ ?_
      · refine hr_aload_n X dX5_ask_38 rfl ?_
        refine hr_bipush X (-6) dX5_ask_39 kb_m6 ?_
        refine hr_cvI X [.int (-6)] [] (c_X5_no hl_t0 hs_t0 (-6) M8) lk_RX5_99 rfl rfl rfl hl_t0 hs_t0 ⟨by decide, rfl⟩ (by decide) (Nat.le_of_ble_eq_true rfl) dX5_ask_41 (fun r9 M10 _ => ?_)
        exact hr_iret X dX5_ask_44
      · refine hr_aload_n X dX5_ask_30 rfl ?_
        refine hr_gI X hl_t0 hs_t0 lg_RX5_19 dX5_ask_31 ?_
        refine hr_iconst X (-1) dX5_ask_34 kc_m1 ?_
        refine hr_icmp_ne X 45 dX5_ask_35 rfl ?_ ?_
        · refine hr_aload_n X dX5_ask_45 rfl ?_
          refine hr_gI X hl_t0 hs_t0 lg_RX5_16 dX5_ask_46 ?_
          refine hr_istore_n X dX5_ask_49 (by decide) rfl ?_
          refine hr_aload_n X dX5_ask_50 rfl ?_
          refine hr_iload_n X dX5_ask_51 rfl ?_
          refine hr_cvI X [.int a1] [] (c_X5_isFree hl_t0 hs_t0 a1 M8) lk_RX5_127 rfl rfl rfl hl_t0 hs_t0 ⟨by decide, rfl⟩ (by decide) (Nat.le_of_ble_eq_true rfl) dX5_ask_52 (fun r11 M12 _ => ?_)
          refine hr_if_ne X 73 dX5_ask_55 rfl ?_ ?_
          · refine hr_aload_n X dX5_ask_73 rfl ?_
            refine hr_iload_n X dX5_ask_74 rfl ?_
            refine hr_aload_n X dX5_ask_75 rfl ?_
            refine hr_gI X hl_t0 hs_t0 lg_RX5_19 dX5_ask_76 ?_
            refine hr_iconst X 1 dX5_ask_79 kc_1 ?_
            refine hr_cvI X [.int a1, .int (M12.1 t0 7), .int 1] [] (c_X5_lets hl_t0 hs_t0 a1 (M12.1 t0 7) 1 M12) lk_RX5_218 rfl rfl rfl hl_t0 hs_t0 ⟨by decide, rfl⟩ (by decide) (Nat.le_of_ble_eq_true rfl) dX5_ask_80 (fun r13 M14 _ => ?_)
            refine hr_istore X dX5_ask_83 (by decide) rfl ?_
            refine hr_aload_n X dX5_ask_85 rfl ?_
            refine hr_iload_n X dX5_ask_86 rfl ?_
            refine hr_aload_n X dX5_ask_87 rfl ?_
            refine hr_gI X hl_t0 hs_t0 lg_RX5_19 dX5_ask_88 ?_
            refine hr_iconst X 0 dX5_ask_91 kc_0 ?_
            refine hr_cvI X [.int a1, .int (M14.1 t0 7), .int 0] [] (c_X5_lets hl_t0 hs_t0 a1 (M14.1 t0 7) 0 M14) lk_RX5_218 rfl rfl rfl hl_t0 hs_t0 ⟨by decide, rfl⟩ (by decide) (Nat.le_of_ble_eq_true rfl) dX5_ask_92 (fun r15 M16 _ => ?_)
            refine hr_istore X dX5_ask_95 (by decide) rfl ?_
            refine hr_iload X dX5_ask_97 rfl ?_
            refine hr_if_ne X 114 dX5_ask_99 rfl ?_ ?_
            · exact hr_wk (hs_some (hs_some (hs_some (hs_some (hs_none (hs_some (hs_some (hs_nil)))))))) (w_X5_ask_114 X hl_t0 hs_t0 a1 a2 (M8.1 t0 6) r13 r15 M16)
            · refine hr_iload X dX5_ask_102 rfl ?_
              refine hr_if_ne X 114 dX5_ask_104 rfl ?_ ?_
              · exact hr_wk (hs_some (hs_some (hs_some (hs_some (hs_none (hs_some (hs_some (hs_nil)))))))) (w_X5_ask_114 X hl_t0 hs_t0 a1 a2 (M8.1 t0 6) r13 r15 M16)
              · refine hr_aload_n X dX5_ask_107 rfl ?_
                refine hr_bipush X (-6) dX5_ask_108 kb_m6 ?_
                refine hr_cvI X [.int (-6)] [] (c_X5_no hl_t0 hs_t0 (-6) M16) lk_RX5_99 rfl rfl rfl hl_t0 hs_t0 ⟨by decide, rfl⟩ (by decide) (Nat.le_of_ble_eq_true rfl) dX5_ask_110 (fun r17 M18 _ => ?_)
                exact hr_iret X dX5_ask_113
          · refine hr_aload_n X dX5_ask_58 rfl ?_
            refine hr_iload_n X dX5_ask_59 rfl ?_
            refine hr_aload_n X dX5_ask_60 rfl ?_
            refine hr_iload_n X dX5_ask_61 rfl ?_
            refine hr_cvI X [.int a1] [.int a1, .ref (hf_a g t0)] (c_X5_saidBy hl_t0 hs_t0 a1 M12) lk_RX5_106 rfl rfl rfl hl_t0 hs_t0 ⟨by decide, rfl⟩ (by decide) (Nat.le_of_ble_eq_true rfl) dX5_ask_62 (fun r19 M20 _ => ?_)
            refine hr_cvI X [.int a1, .int r19] [] (c_X5_isTrue hl_t0 hs_t0 a1 r19 M20) lk_RX5_109 rfl rfl rfl hl_t0 hs_t0 ⟨by decide, rfl⟩ (by decide) (Nat.le_of_ble_eq_true rfl) dX5_ask_65 (fun r21 M22 _ => ?_)
            refine hr_istore X dX5_ask_68 (by decide) rfl ?_
            refine hr_goto X 142 dX5_ask_70 rfl ?_
            exact hr_wk (hs_some (hs_some (hs_some (hs_some (hs_some (hs_none (hs_none (hs_nil)))))))) (w_X5_ask_142 X hl_t0 hs_t0 a1 a2 (M8.1 t0 6) r21 M22)
        · refine hr_aload_n X dX5_ask_38 rfl ?_
          refine hr_bipush X (-6) dX5_ask_39 kb_m6 ?_
          refine hr_cvI X [.int (-6)] [] (c_X5_no hl_t0 hs_t0 (-6) M8) lk_RX5_99 rfl rfl rfl hl_t0 hs_t0 ⟨by decide, rfl⟩ (by decide) (Nat.le_of_ble_eq_true rfl) dX5_ask_41 (fun r23 M24 _ => ?_)
          exact hr_iret X dX5_ask_44
    · refine hr_aload_n X dX5_ask_16 rfl ?_
      refine hr_iconst X (-1) dX5_ask_17 kc_m1 ?_
      refine hr_cvI X [.int (-1)] [] (c_X5_no hl_t0 hs_t0 (-1) M6) lk_RX5_99 rfl rfl rfl hl_t0 hs_t0 ⟨by decide, rfl⟩ (by decide) (Nat.le_of_ble_eq_true rfl) dX5_ask_18 (fun r25 M26 _ => ?_)
      exact hr_iret X dX5_ask_21
set_option maxRecDepth 100000 in
set_option maxHeartbeats 4000000 in
theorem c_X5_truly  {t0 : Nat} (hl_t0 : t0 < 69) (hs_t0 : hf_shp t0 = 5) (a1 : Int32) (M : hf_M) : hf_CI yX5_truly cX5_truly 2 (some .int) (2) (fun g => [.ref (hf_a g t0), .int a1]) M (s_X5_truly t0 a1 M) := by
  refine hf_metI (by decide +kernel) (fun g => Nat.le_of_ble_eq_true rfl) (fun g p l ev s m args below meth c X => ?_)
  have X : hf_X g p s m args meth c cX5_truly 2 RX5 (some .int) := X
  show hf_W g p l ev (2) s m args below meth c 2 (hf_QI g below args s) M 0 [some (.ref (hf_a g t0)), some (.int a1)] [] (s_X5_truly t0 a1 M)
  unfold s_X5_truly
  refine hr_iload_n X dX5_truly_0 rfl ?_
  refine hr_if_lt X 14 dX5_truly_1 rfl ?_ ?_
  · refine hr_aload_n X dX5_truly_14 rfl ?_
    refine hr_iconst X (-1) dX5_truly_15 kc_m1 ?_
    refine hr_cvI X [.int (-1)] [] (c_X5_no hl_t0 hs_t0 (-1) M) lk_RX5_99 rfl rfl rfl hl_t0 hs_t0 ⟨by decide, rfl⟩ (by decide) (Nat.le_of_ble_eq_true rfl) dX5_truly_16 (fun r1 M2 _ => ?_)
    exact hr_iret X dX5_truly_19
  · refine hr_iload_n X dX5_truly_4 rfl ?_
    refine hr_iconst X 1 dX5_truly_5 kc_1 ?_
    refine hr_aload_n X dX5_truly_6 rfl ?_
    refine hr_gI X hl_t0 hs_t0 lg_RX5_89 dX5_truly_7 ?_
    refine hr_ishl X dX5_truly_10 ?_
    refine hr_icmp_lt X 20 dX5_truly_11 rfl ?_ ?_
    · refine hr_aload_n X dX5_truly_20 rfl ?_
      refine hr_gI X hl_t0 hs_t0 lg_RX5_19 dX5_truly_21 ?_
      refine hr_iconst X (-1) dX5_truly_24 kc_m1 ?_
      refine hr_icmp_ne X 35 dX5_truly_25 rfl ?_ ?_
      · refine hr_iload_n X dX5_truly_35 rfl ?_
        refine hr_aload_n X dX5_truly_36 rfl ?_
        refine hr_gI X hl_t0 hs_t0 lg_RX5_19 dX5_truly_37 ?_
        refine hr_icmp_ne X 47 dX5_truly_40 rfl ?_ ?_
        · refine hr_iconst X 0 dX5_truly_47 kc_0 ?_
          exact hr_iret X dX5_truly_48
        · refine hr_iconst X 1 dX5_truly_43 kc_1 ?_
          refine hr_goto X 48 dX5_truly_44 rfl ?_
          exact hr_iret X dX5_truly_48
      · refine hr_aload_n X dX5_truly_28 rfl ?_
        refine hr_bipush X (-6) dX5_truly_29 kb_m6 ?_
        refine hr_cvI X [.int (-6)] [] (c_X5_no hl_t0 hs_t0 (-6) M) lk_RX5_99 rfl rfl rfl hl_t0 hs_t0 ⟨by decide, rfl⟩ (by decide) (Nat.le_of_ble_eq_true rfl) dX5_truly_31 (fun r3 M4 _ => ?_)
        exact hr_iret X dX5_truly_34
    · refine hr_aload_n X dX5_truly_14 rfl ?_
      refine hr_iconst X (-1) dX5_truly_15 kc_m1 ?_
      refine hr_cvI X [.int (-1)] [] (c_X5_no hl_t0 hs_t0 (-1) M) lk_RX5_99 rfl rfl rfl hl_t0 hs_t0 ⟨by decide, rfl⟩ (by decide) (Nat.le_of_ble_eq_true rfl) dX5_truly_16 (fun r5 M6 _ => ?_)
      exact hr_iret X dX5_truly_19
set_option maxRecDepth 100000 in
set_option maxHeartbeats 4000000 in
theorem c_X5_seed  {t0 : Nat} (hl_t0 : t0 < 69) (hs_t0 : hf_shp t0 = 5) (a1 : Int32) (M : hf_M) : hf_CI yX5_seed cX5_seed 3 (some .int) (1) (fun g => [.ref (hf_a g t0), .int a1]) M (s_X5_seed t0 a1 M) := by
  refine hf_metI (by decide +kernel) (fun g => Nat.le_of_ble_eq_true rfl) (fun g p l ev s m args below meth c X => ?_)
  have X : hf_X g p s m args meth c cX5_seed 3 RX5 (some .int) := X
  show hf_W g p l ev (1) s m args below meth c 3 (hf_QI g below args s) M 0 [some (.ref (hf_a g t0)), some (.int a1), none] [] (s_X5_seed t0 a1 M)
  unfold s_X5_seed
  refine hr_aload_n X dX5_seed_0 rfl ?_
  refine hr_gI X hl_t0 hs_t0 lg_RX5_16 dX5_seed_1 ?_
  refine hr_istore_n X dX5_seed_4 (by decide) rfl ?_
  refine hr_aload_n X dX5_seed_5 rfl ?_
  refine hr_iload_n X dX5_seed_6 rfl ?_
  refine hr_pI X hl_t0 hs_t0 lp_RX5_16 dX5_seed_7 (fun M1 eM1 => ?_)
  refine hr_iload_n X dX5_seed_10 rfl ?_
  exact hr_iret X dX5_seed_11
set_option maxRecDepth 100000 in
set_option maxHeartbeats 4000000 in
theorem c_X5_body  {t0 : Nat} (hl_t0 : t0 < 69) (hs_t0 : hf_shp t0 = 5) (a1 : Int32) (M : hf_M) : hf_CV yX5_body cX5_body 2 (none) (1) (fun g => [.ref (hf_a g t0), .int a1]) M (s_X5_body t0 a1 M) := by
  refine hf_metV (by decide +kernel) (fun g => Nat.le_of_ble_eq_true rfl) (fun g p l ev s m args below meth c X => ?_)
  have X : hf_X g p s m args meth c cX5_body 2 RX5 (none) := X
  show hf_W g p l ev (1) s m args below meth c 2 (hf_QV g below args s) M 0 [some (.ref (hf_a g t0)), some (.int a1)] [] (s_X5_body t0 a1 M)
  unfold s_X5_body
  refine hr_aload_n X dX5_body_0 rfl ?_
  refine hr_gI X hl_t0 hs_t0 lg_RX5_260 dX5_body_1 ?_
  refine hr_bipush X 20 dX5_body_4 kb_20 ?_
  refine hr_icmp_ge X 19 dX5_body_6 rfl ?_ ?_
  · refine hr_aload_n X dX5_body_19 rfl ?_
    refine hr_dup X dX5_body_20 rfl ?_
    refine hr_gI X hl_t0 hs_t0 lg_RX5_260 dX5_body_21 ?_
    refine hr_iconst X 1 dX5_body_24 kc_1 ?_
    refine hr_iadd X dX5_body_25 ?_
    refine hr_pI X hl_t0 hs_t0 lp_RX5_260 dX5_body_26 (fun M1 eM1 => ?_)
    exact hr_vret X dX5_body_29
  · refine hr_aload_n X dX5_body_9 rfl ?_
    refine hr_gR X 6 hl_t0 hs_t0 lg_RX5_85 rfl dX5_body_10 (fun q2 hl_q2 hs_q2 => ?_)
    refine hr_aload_n X dX5_body_13 rfl ?_
    refine hr_gI X hl_t0 hs_t0 lg_RX5_260 dX5_body_14 ?_
    refine hr_iload_n X dX5_body_17 rfl ?_
    refine hr_iast X hl_q2 hs_q2 dX5_body_18 (fun M3 eM3 _ => ?_)
    refine hr_aload_n X dX5_body_19 rfl ?_
    refine hr_dup X dX5_body_20 rfl ?_
    refine hr_gI X hl_t0 hs_t0 lg_RX5_260 dX5_body_21 ?_
    refine hr_iconst X 1 dX5_body_24 kc_1 ?_
    refine hr_iadd X dX5_body_25 ?_
    refine hr_pI X hl_t0 hs_t0 lp_RX5_260 dX5_body_26 (fun M4 eM4 => ?_)
    exact hr_vret X dX5_body_29
set_option maxRecDepth 100000 in
set_option maxHeartbeats 4000000 in
theorem w_X5_saying_54 {g : hf_G} {p : Program} {l : Launch} {ev : Env} {s : State} {m : MethodId} {args : Array Value} {below : List Frame} {meth : Method} {c : Code} (X : hf_X g p s m args meth c cX5_saying 6 RX5 (some .int))     {t0 : Nat} (hl_t0 : t0 < 69) (hs_t0 : hf_shp t0 = 5) (v1 : Int32) (v3 : Int32) (v4 : Int32) (M : hf_M) : hf_W g p l ev (2) s m args below meth c 6 (hf_QI g below args s) M 54 [some (.ref (hf_a g t0)), some (.int v1), none, some (.int v3), some (.int v4), none] [] (s_X5_saying_54 t0 v1 v3 v4 M) := by
  unfold s_X5_saying_54
  refine hr_aload_n X dX5_saying_54 rfl ?_
  refine hr_bipush X 10 dX5_saying_55 kb_10 ?_
  refine hr_cvV X [.int 10] [] (c_X5_body hl_t0 hs_t0 10 M) lk_RX5_263 rfl rfl rfl hl_t0 hs_t0 ⟨by decide, rfl⟩ (by decide) (Nat.le_of_ble_eq_true rfl) dX5_saying_57 (fun _ M2 _ => ?_)
  refine hr_iload X dX5_saying_60 rfl ?_
  refine hr_iload_n X dX5_saying_62 rfl ?_
  refine hr_iadd X dX5_saying_63 ?_
  refine hr_istore X dX5_saying_64 (by decide) rfl ?_
  refine hr_iload_n X dX5_saying_66 rfl ?_
  refine hr_iconst X 1 dX5_saying_67 kc_1 ?_
  refine hr_icmp_eq X 76 dX5_saying_68 rfl ?_ ?_
  · refine hr_iload X dX5_saying_76 rfl ?_
    refine hr_aload_n X dX5_saying_78 rfl ?_
    refine hr_gR X 6 hl_t0 hs_t0 lg_RX5_39 rfl dX5_saying_79 (fun q3 hl_q3 hs_q3 => ?_)
    refine hr_iload_n X dX5_saying_82 rfl ?_
    refine hr_iald X hl_q3 hs_q3 dX5_saying_83 (fun r4 _ _ => ?_)
    refine hr_iadd X dX5_saying_84 ?_
    refine hr_goto X 103 dX5_saying_85 rfl ?_
    exact hr_iret X dX5_saying_103
  · refine hr_iload_n X dX5_saying_71 rfl ?_
    refine hr_iconst X 3 dX5_saying_72 kc_3 ?_
    refine hr_icmp_ne X 88 dX5_saying_73 rfl ?_ ?_
    · refine hr_iload_n X dX5_saying_88 rfl ?_
      refine hr_bipush X 6 dX5_saying_89 kb_6 ?_
      refine hr_icmp_ne X 101 dX5_saying_91 rfl ?_ ?_
      · refine hr_iload X dX5_saying_101 rfl ?_
        exact hr_iret X dX5_saying_103
      · refine hr_iload X dX5_saying_94 rfl ?_
        refine hr_iconst X 2 dX5_saying_96 kc_2 ?_
        refine hr_imul X dX5_saying_97 ?_
        refine hr_goto X 103 dX5_saying_98 rfl ?_
        exact hr_iret X dX5_saying_103
    · refine hr_iload X dX5_saying_76 rfl ?_
      refine hr_aload_n X dX5_saying_78 rfl ?_
      refine hr_gR X 6 hl_t0 hs_t0 lg_RX5_39 rfl dX5_saying_79 (fun q5 hl_q5 hs_q5 => ?_)
      refine hr_iload_n X dX5_saying_82 rfl ?_
      refine hr_iald X hl_q5 hs_q5 dX5_saying_83 (fun r6 _ _ => ?_)
      refine hr_iadd X dX5_saying_84 ?_
      refine hr_goto X 103 dX5_saying_85 rfl ?_
      exact hr_iret X dX5_saying_103
set_option maxRecDepth 100000 in
set_option maxHeartbeats 4000000 in
theorem w_X5_saying_42 {g : hf_G} {p : Program} {l : Launch} {ev : Env} {s : State} {m : MethodId} {args : Array Value} {below : List Frame} {meth : Method} {c : Code} (X : hf_X g p s m args meth c cX5_saying 6 RX5 (some .int))     {t0 : Nat} (hl_t0 : t0 < 69) (hs_t0 : hf_shp t0 = 5) (v1 : Int32) (v3 : Int32) (v4 : Int32) (M : hf_M) : hf_W g p l ev (2) s m args below meth c 6 (hf_QI g below args s) M 42 [some (.ref (hf_a g t0)), some (.int v1), none, some (.int v3), some (.int v4), none] [] (s_X5_saying_42 t0 v1 v3 v4 M) := by
  unfold s_X5_saying_42
  refine hr_iload_n X dX5_saying_42 rfl ?_
  refine hr_bipush X 6 dX5_saying_43 kb_6 ?_
  refine hr_icmp_ne X 54 dX5_saying_45 rfl ?_ ?_
  · exact hr_wk (hs_some (hs_some (hs_none (hs_some (hs_some (hs_none (hs_nil))))))) (w_X5_saying_54 X hl_t0 hs_t0 v1 v3 v4 M)
  · refine hr_aload_n X dX5_saying_48 rfl ?_
    refine hr_bipush X 70 dX5_saying_49 kb_70 ?_
    refine hr_cvV X [.int 70] [] (c_X5_body hl_t0 hs_t0 70 M) lk_RX5_263 rfl rfl rfl hl_t0 hs_t0 ⟨by decide, rfl⟩ (by decide) (Nat.le_of_ble_eq_true rfl) dX5_saying_51 (fun _ M2 _ => ?_)
    exact hr_wk (hs_some (hs_some (hs_none (hs_some (hs_some (hs_none (hs_nil))))))) (w_X5_saying_54 X hl_t0 hs_t0 v1 v3 v4 M2)
set_option maxRecDepth 100000 in
set_option maxHeartbeats 4000000 in
theorem w_X5_saying_36 {g : hf_G} {p : Program} {l : Launch} {ev : Env} {s : State} {m : MethodId} {args : Array Value} {below : List Frame} {meth : Method} {c : Code} (X : hf_X g p s m args meth c cX5_saying 6 RX5 (some .int))     {t0 : Nat} (hl_t0 : t0 < 69) (hs_t0 : hf_shp t0 = 5) (v1 : Int32) (v3 : Int32) (v4 : Int32) (M : hf_M) : hf_W g p l ev (2) s m args below meth c 6 (hf_QI g below args s) M 36 [some (.ref (hf_a g t0)), some (.int v1), none, some (.int v3), some (.int v4), none] [] (s_X5_saying_36 t0 v1 v3 v4 M) := by
  unfold s_X5_saying_36
  refine hr_aload_n X dX5_saying_36 rfl ?_
  refine hr_bipush X 20 dX5_saying_37 kb_20 ?_
  refine hr_cvV X [.int 20] [] (c_X5_body hl_t0 hs_t0 20 M) lk_RX5_263 rfl rfl rfl hl_t0 hs_t0 ⟨by decide, rfl⟩ (by decide) (Nat.le_of_ble_eq_true rfl) dX5_saying_39 (fun _ M2 _ => ?_)
  exact hr_wk (hs_some (hs_some (hs_none (hs_some (hs_some (hs_none (hs_nil))))))) (w_X5_saying_42 X hl_t0 hs_t0 v1 v3 v4 M2)
set_option maxRecDepth 100000 in
set_option maxHeartbeats 4000000 in
theorem w_X5_saying_26 {g : hf_G} {p : Program} {l : Launch} {ev : Env} {s : State} {m : MethodId} {args : Array Value} {below : List Frame} {meth : Method} {c : Code} (X : hf_X g p s m args meth c cX5_saying 6 RX5 (some .int))     {t0 : Nat} (hl_t0 : t0 < 69) (hs_t0 : hf_shp t0 = 5) (v1 : Int32) (v3 : Int32) (v4 : Int32) (M : hf_M) : hf_W g p l ev (2) s m args below meth c 6 (hf_QI g below args s) M 26 [some (.ref (hf_a g t0)), some (.int v1), none, some (.int v3), some (.int v4), none] [] (s_X5_saying_26 t0 v1 v3 v4 M) := by
  unfold s_X5_saying_26
  refine hr_iload_n X dX5_saying_26 rfl ?_
  refine hr_iconst X 1 dX5_saying_27 kc_1 ?_
  refine hr_icmp_eq X 36 dX5_saying_28 rfl ?_ ?_
  · exact hr_wk (hs_some (hs_some (hs_none (hs_some (hs_some (hs_none (hs_nil))))))) (w_X5_saying_36 X hl_t0 hs_t0 v1 v3 v4 M)
  · refine hr_iload_n X dX5_saying_31 rfl ?_
    refine hr_iconst X 3 dX5_saying_32 kc_3 ?_
    refine hr_icmp_ne X 42 dX5_saying_33 rfl ?_ ?_
    · exact hr_wk (hs_some (hs_some (hs_none (hs_some (hs_some (hs_none (hs_nil))))))) (w_X5_saying_42 X hl_t0 hs_t0 v1 v3 v4 M)
    · exact hr_wk (hs_some (hs_some (hs_none (hs_some (hs_some (hs_none (hs_nil))))))) (w_X5_saying_36 X hl_t0 hs_t0 v1 v3 v4 M)
set_option maxRecDepth 100000 in
set_option maxHeartbeats 4000000 in
theorem c_X5_saying  {t0 : Nat} (hl_t0 : t0 < 69) (hs_t0 : hf_shp t0 = 5) (a1 : Int32) (a2 : Int32) (M : hf_M) : hf_CI yX5_saying cX5_saying 6 (some .int) (2) (fun g => [.ref (hf_a g t0), .int a1, .int a2]) M (s_X5_saying t0 a1 a2 M) := by
  refine hf_metI (by decide +kernel) (fun g => Nat.le_of_ble_eq_true rfl) (fun g p l ev s m args below meth c X => ?_)
  have X : hf_X g p s m args meth c cX5_saying 6 RX5 (some .int) := X
  show hf_W g p l ev (2) s m args below meth c 6 (hf_QI g below args s) M 0 [some (.ref (hf_a g t0)), some (.int a1), some (.int a2), none, none, none] [] (s_X5_saying t0 a1 a2 M)
  unfold s_X5_saying
  refine hr_aload_n X dX5_saying_0 rfl ?_
  refine hr_gR X 6 hl_t0 hs_t0 lg_RX5_36 rfl dX5_saying_1 (fun q1 hl_q1 hs_q1 => ?_)
  refine hr_iload_n X dX5_saying_4 rfl ?_
  refine hr_iald X hl_q1 hs_q1 dX5_saying_5 (fun r2 _ _ => ?_)
  refine hr_istore_n X dX5_saying_6 (by decide) rfl ?_
  refine hr_iload_n X dX5_saying_7 rfl ?_
  refine hr_istore X dX5_saying_8 (by decide) rfl ?_
  refine hr_iload_n X dX5_saying_10 rfl ?_
  refine hr_iconst X 3 dX5_saying_11 kc_3 ?_
  refine hr_icmp_ne X 26 dX5_saying_12 rfl ?_ ?_
  · exact hr_wk (hs_some (hs_some (hs_none (hs_some (hs_some (hs_none (hs_nil))))))) (w_X5_saying_26 X hl_t0 hs_t0 a1 r2 a2 M)
  · refine hr_aload_n X dX5_saying_15 rfl ?_
    refine hr_bipush X 30 dX5_saying_16 kb_30 ?_
    refine hr_cvV X [.int 30] [] (c_X5_body hl_t0 hs_t0 30 M) lk_RX5_263 rfl rfl rfl hl_t0 hs_t0 ⟨by decide, rfl⟩ (by decide) (Nat.le_of_ble_eq_true rfl) dX5_saying_18 (fun _ M4 _ => ?_)
    refine hr_iload_n X dX5_saying_21 rfl ?_
    refine hr_iconst X 1 dX5_saying_22 kc_1 ?_
    refine hr_iadd X dX5_saying_23 ?_
    refine hr_istore X dX5_saying_24 (by decide) rfl ?_
    exact hr_wk (hs_some (hs_some (hs_none (hs_some (hs_some (hs_none (hs_nil))))))) (w_X5_saying_26 X hl_t0 hs_t0 a1 r2 (a2 + 1) M4)
set_option maxRecDepth 100000 in
set_option maxHeartbeats 4000000 in
theorem w_X5_hiding_45 {g : hf_G} {p : Program} {l : Launch} {ev : Env} {s : State} {m : MethodId} {args : Array Value} {below : List Frame} {meth : Method} {c : Code} (X : hf_X g p s m args meth c cX5_hiding 5 RX5 (some .int))     {t0 : Nat} (hl_t0 : t0 < 69) (hs_t0 : hf_shp t0 = 5) (v1 : Int32) (v2 : Int32) (v3 : Int32) (M : hf_M) : hf_W g p l ev (3) s m args below meth c 5 (hf_QI g below args s) M 45 [some (.ref (hf_a g t0)), some (.int v1), some (.int v2), some (.int v3), none] [] (s_X5_hiding_45 t0 v1 v2 v3 M) := by
  unfold s_X5_hiding_45
  refine hr_aload_n X dX5_hiding_45 rfl ?_
  refine hr_bipush X 11 dX5_hiding_46 kb_11 ?_
  refine hr_cvV X [.int 11] [] (c_X5_body hl_t0 hs_t0 11 M) lk_RX5_263 rfl rfl rfl hl_t0 hs_t0 ⟨by decide, rfl⟩ (by decide) (Nat.le_of_ble_eq_true rfl) dX5_hiding_48 (fun _ M2 _ => ?_)
  refine hr_aload_n X dX5_hiding_51 rfl ?_
  refine hr_iload_n X dX5_hiding_52 rfl ?_
  refine hr_iload_n X dX5_hiding_53 rfl ?_
  refine hr_cvI X [.int v1, .int v2] [] (c_X5_saying hl_t0 hs_t0 v1 v2 M2) lk_RX5_267 rfl rfl rfl hl_t0 hs_t0 ⟨by decide, rfl⟩ (by decide) (Nat.le_of_ble_eq_true rfl) dX5_hiding_54 (fun r3 M4 _ => ?_)
  refine hr_iconst X 2 dX5_hiding_57 kc_2 ?_
  refine hr_imul X dX5_hiding_58 ?_
  refine hr_istore X dX5_hiding_59 (by decide) rfl ?_
  refine hr_iload_n X dX5_hiding_61 rfl ?_
  refine hr_iconst X 2 dX5_hiding_62 kc_2 ?_
  refine hr_icmp_ne X 73 dX5_hiding_63 rfl ?_ ?_
  · refine hr_iload_n X dX5_hiding_73 rfl ?_
    refine hr_iconst X 4 dX5_hiding_74 kc_4 ?_
    refine hr_icmp_ne X 84 dX5_hiding_75 rfl ?_ ?_
    · refine hr_iload_n X dX5_hiding_84 rfl ?_
      refine hr_iconst X 5 dX5_hiding_85 kc_5 ?_
      refine hr_icmp_ne X 97 dX5_hiding_86 rfl ?_ ?_
      · refine hr_iload X dX5_hiding_97 rfl ?_
        exact hr_iret X dX5_hiding_99
      · refine hr_iload X dX5_hiding_89 rfl ?_
        refine hr_ineg X dX5_hiding_91 ?_
        refine hr_iconst X 5 dX5_hiding_92 kc_5 ?_
        refine hr_ixor X dX5_hiding_93 ?_
        refine hr_goto X 99 dX5_hiding_94 rfl ?_
        exact hr_iret X dX5_hiding_99
    · refine hr_iload X dX5_hiding_78 rfl ?_
      refine hr_ineg X dX5_hiding_80 ?_
      refine hr_goto X 99 dX5_hiding_81 rfl ?_
      exact hr_iret X dX5_hiding_99
  · refine hr_iload X dX5_hiding_66 rfl ?_
    refine hr_iconst X 3 dX5_hiding_68 kc_3 ?_
    refine hr_imul X dX5_hiding_69 ?_
    refine hr_goto X 99 dX5_hiding_70 rfl ?_
    exact hr_iret X dX5_hiding_99
set_option maxRecDepth 100000 in
set_option maxHeartbeats 4000000 in
theorem w_X5_hiding_39 {g : hf_G} {p : Program} {l : Launch} {ev : Env} {s : State} {m : MethodId} {args : Array Value} {below : List Frame} {meth : Method} {c : Code} (X : hf_X g p s m args meth c cX5_hiding 5 RX5 (some .int))     {t0 : Nat} (hl_t0 : t0 < 69) (hs_t0 : hf_shp t0 = 5) (v1 : Int32) (v2 : Int32) (v3 : Int32) (M : hf_M) : hf_W g p l ev (3) s m args below meth c 5 (hf_QI g below args s) M 39 [some (.ref (hf_a g t0)), some (.int v1), some (.int v2), some (.int v3), none] [] (s_X5_hiding_39 t0 v1 v2 v3 M) := by
  unfold s_X5_hiding_39
  refine hr_aload_n X dX5_hiding_39 rfl ?_
  refine hr_bipush X 50 dX5_hiding_40 kb_50 ?_
  refine hr_cvV X [.int 50] [] (c_X5_body hl_t0 hs_t0 50 M) lk_RX5_263 rfl rfl rfl hl_t0 hs_t0 ⟨by decide, rfl⟩ (by decide) (Nat.le_of_ble_eq_true rfl) dX5_hiding_42 (fun _ M2 _ => ?_)
  exact hr_wk (hs_some (hs_some (hs_some (hs_some (hs_none (hs_nil)))))) (w_X5_hiding_45 X hl_t0 hs_t0 v1 v2 v3 M2)
set_option maxRecDepth 100000 in
set_option maxHeartbeats 4000000 in
theorem w_X5_hiding_29 {g : hf_G} {p : Program} {l : Launch} {ev : Env} {s : State} {m : MethodId} {args : Array Value} {below : List Frame} {meth : Method} {c : Code} (X : hf_X g p s m args meth c cX5_hiding 5 RX5 (some .int))     {t0 : Nat} (hl_t0 : t0 < 69) (hs_t0 : hf_shp t0 = 5) (v1 : Int32) (v2 : Int32) (v3 : Int32) (M : hf_M) : hf_W g p l ev (3) s m args below meth c 5 (hf_QI g below args s) M 29 [some (.ref (hf_a g t0)), some (.int v1), some (.int v2), some (.int v3), none] [] (s_X5_hiding_29 t0 v1 v2 v3 M) := by
  unfold s_X5_hiding_29
  refine hr_iload_n X dX5_hiding_29 rfl ?_
  refine hr_iconst X 4 dX5_hiding_30 kc_4 ?_
  refine hr_icmp_eq X 39 dX5_hiding_31 rfl ?_ ?_
  · exact hr_wk (hs_some (hs_some (hs_some (hs_some (hs_none (hs_nil)))))) (w_X5_hiding_39 X hl_t0 hs_t0 v1 v2 v3 M)
  · refine hr_iload_n X dX5_hiding_34 rfl ?_
    refine hr_iconst X 5 dX5_hiding_35 kc_5 ?_
    refine hr_icmp_ne X 45 dX5_hiding_36 rfl ?_ ?_
    · exact hr_wk (hs_some (hs_some (hs_some (hs_some (hs_none (hs_nil)))))) (w_X5_hiding_45 X hl_t0 hs_t0 v1 v2 v3 M)
    · exact hr_wk (hs_some (hs_some (hs_some (hs_some (hs_none (hs_nil)))))) (w_X5_hiding_39 X hl_t0 hs_t0 v1 v2 v3 M)
set_option maxRecDepth 100000 in
set_option maxHeartbeats 4000000 in
theorem w_X5_hiding_18 {g : hf_G} {p : Program} {l : Launch} {ev : Env} {s : State} {m : MethodId} {args : Array Value} {below : List Frame} {meth : Method} {c : Code} (X : hf_X g p s m args meth c cX5_hiding 5 RX5 (some .int))     {t0 : Nat} (hl_t0 : t0 < 69) (hs_t0 : hf_shp t0 = 5) (v1 : Int32) (v2 : Int32) (v3 : Int32) (M : hf_M) : hf_W g p l ev (3) s m args below meth c 5 (hf_QI g below args s) M 18 [some (.ref (hf_a g t0)), some (.int v1), some (.int v2), some (.int v3), none] [] (s_X5_hiding_18 t0 v1 v2 v3 M) := by
  unfold s_X5_hiding_18
  refine hr_iload_n X dX5_hiding_18 rfl ?_
  refine hr_iconst X 5 dX5_hiding_19 kc_5 ?_
  refine hr_icmp_ne X 29 dX5_hiding_20 rfl ?_ ?_
  · exact hr_wk (hs_some (hs_some (hs_some (hs_some (hs_none (hs_nil)))))) (w_X5_hiding_29 X hl_t0 hs_t0 v1 v2 v3 M)
  · refine hr_aload_n X dX5_hiding_23 rfl ?_
    refine hr_bipush X 60 dX5_hiding_24 kb_60 ?_
    refine hr_cvV X [.int 60] [] (c_X5_body hl_t0 hs_t0 60 M) lk_RX5_263 rfl rfl rfl hl_t0 hs_t0 ⟨by decide, rfl⟩ (by decide) (Nat.le_of_ble_eq_true rfl) dX5_hiding_26 (fun _ M2 _ => ?_)
    exact hr_wk (hs_some (hs_some (hs_some (hs_some (hs_none (hs_nil)))))) (w_X5_hiding_29 X hl_t0 hs_t0 v1 v2 v3 M2)
set_option maxRecDepth 100000 in
set_option maxHeartbeats 4000000 in
theorem c_X5_hiding  {t0 : Nat} (hl_t0 : t0 < 69) (hs_t0 : hf_shp t0 = 5) (a1 : Int32) (a2 : Int32) (M : hf_M) : hf_CI yX5_hiding cX5_hiding 5 (some .int) (3) (fun g => [.ref (hf_a g t0), .int a1, .int a2]) M (s_X5_hiding t0 a1 a2 M) := by
  refine hf_metI (by decide +kernel) (fun g => Nat.le_of_ble_eq_true rfl) (fun g p l ev s m args below meth c X => ?_)
  have X : hf_X g p s m args meth c cX5_hiding 5 RX5 (some .int) := X
  show hf_W g p l ev (3) s m args below meth c 5 (hf_QI g below args s) M 0 [some (.ref (hf_a g t0)), some (.int a1), some (.int a2), none, none] [] (s_X5_hiding t0 a1 a2 M)
  unfold s_X5_hiding
  refine hr_aload_n X dX5_hiding_0 rfl ?_
  refine hr_gR X 6 hl_t0 hs_t0 lg_RX5_36 rfl dX5_hiding_1 (fun q1 hl_q1 hs_q1 => ?_)
  refine hr_iload_n X dX5_hiding_4 rfl ?_
  refine hr_iald X hl_q1 hs_q1 dX5_hiding_5 (fun r2 _ _ => ?_)
  refine hr_istore_n X dX5_hiding_6 (by decide) rfl ?_
  refine hr_iload_n X dX5_hiding_7 rfl ?_
  refine hr_iconst X 2 dX5_hiding_8 kc_2 ?_
  refine hr_icmp_ne X 18 dX5_hiding_9 rfl ?_ ?_
  · exact hr_wk (hs_some (hs_some (hs_some (hs_some (hs_none (hs_nil)))))) (w_X5_hiding_18 X hl_t0 hs_t0 a1 a2 r2 M)
  · refine hr_aload_n X dX5_hiding_12 rfl ?_
    refine hr_bipush X 40 dX5_hiding_13 kb_40 ?_
    refine hr_cvV X [.int 40] [] (c_X5_body hl_t0 hs_t0 40 M) lk_RX5_263 rfl rfl rfl hl_t0 hs_t0 ⟨by decide, rfl⟩ (by decide) (Nat.le_of_ble_eq_true rfl) dX5_hiding_15 (fun _ M4 _ => ?_)
    exact hr_wk (hs_some (hs_some (hs_some (hs_some (hs_none (hs_nil)))))) (w_X5_hiding_18 X hl_t0 hs_t0 a1 a2 r2 M4)
set_option maxRecDepth 100000 in
set_option maxHeartbeats 4000000 in
theorem c_X5_knowing  {t0 : Nat} (hl_t0 : t0 < 69) (hs_t0 : hf_shp t0 = 5) (a1 : Int32) (a2 : Int32) (M : hf_M) : hf_CI yX5_knowing cX5_knowing 6 (some .int) (4) (fun g => [.ref (hf_a g t0), .int a1, .int a2]) M (s_X5_knowing t0 a1 a2 M) := by
  refine hf_metI (by decide +kernel) (fun g => Nat.le_of_ble_eq_true rfl) (fun g p l ev s m args below meth c X => ?_)
  have X : hf_X g p s m args meth c cX5_knowing 6 RX5 (some .int) := X
  show hf_W g p l ev (4) s m args below meth c 6 (hf_QI g below args s) M 0 [some (.ref (hf_a g t0)), some (.int a1), some (.int a2), none, none, none] [] (s_X5_knowing t0 a1 a2 M)
  unfold s_X5_knowing
  refine hr_aload_n X dX5_knowing_0 rfl ?_
  refine hr_gR X 6 hl_t0 hs_t0 lg_RX5_36 rfl dX5_knowing_1 (fun q1 hl_q1 hs_q1 => ?_)
  refine hr_iload_n X dX5_knowing_4 rfl ?_
  refine hr_iald X hl_q1 hs_q1 dX5_knowing_5 (fun r2 _ _ => ?_)
  refine hr_istore_n X dX5_knowing_6 (by decide) rfl ?_
  refine hr_iload_n X dX5_knowing_7 rfl ?_
  refine hr_istore X dX5_knowing_8 (by decide) rfl ?_
  refine hr_iload_n X dX5_knowing_10 rfl ?_
  refine hr_iconst X 3 dX5_knowing_11 kc_3 ?_
  refine hr_icmp_ne X 21 dX5_knowing_12 rfl ?_ ?_
  · refine hr_iload_n X dX5_knowing_21 rfl ?_
    refine hr_bipush X 6 dX5_knowing_22 kb_6 ?_
    refine hr_icmp_ne X 43 dX5_knowing_24 rfl ?_ ?_
    · refine hr_aload_n X dX5_knowing_43 rfl ?_
      refine hr_bipush X 12 dX5_knowing_44 kb_12 ?_
      refine hr_cvV X [.int 12] [] (c_X5_body hl_t0 hs_t0 12 M) lk_RX5_263 rfl rfl rfl hl_t0 hs_t0 ⟨by decide, rfl⟩ (by decide) (Nat.le_of_ble_eq_true rfl) dX5_knowing_46 (fun _ M4 _ => ?_)
      refine hr_aload_n X dX5_knowing_49 rfl ?_
      refine hr_iload_n X dX5_knowing_50 rfl ?_
      refine hr_iload X dX5_knowing_51 rfl ?_
      refine hr_cvI X [.int a1, .int a2] [] (c_X5_hiding hl_t0 hs_t0 a1 a2 M4) lk_RX5_270 rfl rfl rfl hl_t0 hs_t0 ⟨by decide, rfl⟩ (by decide) (Nat.le_of_ble_eq_true rfl) dX5_knowing_53 (fun r5 M6 _ => ?_)
      refine hr_istore X dX5_knowing_56 (by decide) rfl ?_
      refine hr_iload X dX5_knowing_58 rfl ?_
      refine hr_aload_n X dX5_knowing_60 rfl ?_
      refine hr_iload_n X dX5_knowing_61 rfl ?_
      refine hr_iload X dX5_knowing_62 rfl ?_
      refine hr_aload_n X dX5_knowing_64 rfl ?_
      refine hr_gR X 6 hl_t0 hs_t0 lg_RX5_39 rfl dX5_knowing_65 (fun q7 hl_q7 hs_q7 => ?_)
      refine hr_iload_n X dX5_knowing_68 rfl ?_
      refine hr_iald X hl_q7 hs_q7 dX5_knowing_69 (fun r8 _ _ => ?_)
      refine hr_isub X dX5_knowing_70 ?_
      refine hr_cvI X [.int a1, .int (a2 - r8)] [.int r5] (c_X5_saying hl_t0 hs_t0 a1 (a2 - r8) M6) lk_RX5_267 rfl rfl rfl hl_t0 hs_t0 ⟨by decide, rfl⟩ (by decide) (Nat.le_of_ble_eq_true rfl) dX5_knowing_71 (fun r9 M10 _ => ?_)
      refine hr_ixor X dX5_knowing_74 ?_
      refine hr_istore X dX5_knowing_75 (by decide) rfl ?_
      refine hr_iload_n X dX5_knowing_77 rfl ?_
      refine hr_iconst X 3 dX5_knowing_78 kc_3 ?_
      refine hr_icmp_ne X 89 dX5_knowing_79 rfl ?_ ?_
      · refine hr_iload X dX5_knowing_89 rfl ?_
        exact hr_iret X dX5_knowing_91
      · refine hr_iload X dX5_knowing_82 rfl ?_
        refine hr_iload_n X dX5_knowing_84 rfl ?_
        refine hr_isub X dX5_knowing_85 ?_
        refine hr_goto X 91 dX5_knowing_86 rfl ?_
        exact hr_iret X dX5_knowing_91
    · refine hr_aload_n X dX5_knowing_27 rfl ?_
      refine hr_bipush X 71 dX5_knowing_28 kb_71 ?_
      refine hr_cvV X [.int 71] [] (c_X5_body hl_t0 hs_t0 71 M) lk_RX5_263 rfl rfl rfl hl_t0 hs_t0 ⟨by decide, rfl⟩ (by decide) (Nat.le_of_ble_eq_true rfl) dX5_knowing_30 (fun _ M12 _ => ?_)
      refine hr_iload_n X dX5_knowing_33 rfl ?_
      refine hr_aload_n X dX5_knowing_34 rfl ?_
      refine hr_gR X 6 hl_t0 hs_t0 lg_RX5_39 rfl dX5_knowing_35 (fun q13 hl_q13 hs_q13 => ?_)
      refine hr_iload_n X dX5_knowing_38 rfl ?_
      refine hr_iald X hl_q13 hs_q13 dX5_knowing_39 (fun r14 _ _ => ?_)
      refine hr_isub X dX5_knowing_40 ?_
      refine hr_istore X dX5_knowing_41 (by decide) rfl ?_
      refine hr_aload_n X dX5_knowing_43 rfl ?_
      refine hr_bipush X 12 dX5_knowing_44 kb_12 ?_
      refine hr_cvV X [.int 12] [] (c_X5_body hl_t0 hs_t0 12 M12) lk_RX5_263 rfl rfl rfl hl_t0 hs_t0 ⟨by decide, rfl⟩ (by decide) (Nat.le_of_ble_eq_true rfl) dX5_knowing_46 (fun _ M16 _ => ?_)
      refine hr_aload_n X dX5_knowing_49 rfl ?_
      refine hr_iload_n X dX5_knowing_50 rfl ?_
      refine hr_iload X dX5_knowing_51 rfl ?_
      refine hr_cvI X [.int a1, .int (a2 - r14)] [] (c_X5_hiding hl_t0 hs_t0 a1 (a2 - r14) M16) lk_RX5_270 rfl rfl rfl hl_t0 hs_t0 ⟨by decide, rfl⟩ (by decide) (Nat.le_of_ble_eq_true rfl) dX5_knowing_53 (fun r17 M18 _ => ?_)
      refine hr_istore X dX5_knowing_56 (by decide) rfl ?_
      refine hr_iload X dX5_knowing_58 rfl ?_
      refine hr_aload_n X dX5_knowing_60 rfl ?_
      refine hr_iload_n X dX5_knowing_61 rfl ?_
      refine hr_iload X dX5_knowing_62 rfl ?_
      refine hr_aload_n X dX5_knowing_64 rfl ?_
      refine hr_gR X 6 hl_t0 hs_t0 lg_RX5_39 rfl dX5_knowing_65 (fun q19 hl_q19 hs_q19 => ?_)
      refine hr_iload_n X dX5_knowing_68 rfl ?_
      refine hr_iald X hl_q19 hs_q19 dX5_knowing_69 (fun r20 _ _ => ?_)
      refine hr_isub X dX5_knowing_70 ?_
      refine hr_cvI X [.int a1, .int ((a2 - r14) - r20)] [.int r17] (c_X5_saying hl_t0 hs_t0 a1 ((a2 - r14) - r20) M18) lk_RX5_267 rfl rfl rfl hl_t0 hs_t0 ⟨by decide, rfl⟩ (by decide) (Nat.le_of_ble_eq_true rfl) dX5_knowing_71 (fun r21 M22 _ => ?_)
      refine hr_ixor X dX5_knowing_74 ?_
      refine hr_istore X dX5_knowing_75 (by decide) rfl ?_
      refine hr_iload_n X dX5_knowing_77 rfl ?_
      refine hr_iconst X 3 dX5_knowing_78 kc_3 ?_
      refine hr_icmp_ne X 89 dX5_knowing_79 rfl ?_ ?_
      · refine hr_iload X dX5_knowing_89 rfl ?_
        exact hr_iret X dX5_knowing_91
      · refine hr_iload X dX5_knowing_82 rfl ?_
        refine hr_iload_n X dX5_knowing_84 rfl ?_
        refine hr_isub X dX5_knowing_85 ?_
        refine hr_goto X 91 dX5_knowing_86 rfl ?_
        exact hr_iret X dX5_knowing_91
  · refine hr_aload_n X dX5_knowing_15 rfl ?_
    refine hr_bipush X 31 dX5_knowing_16 kb_31 ?_
    refine hr_cvV X [.int 31] [] (c_X5_body hl_t0 hs_t0 31 M) lk_RX5_263 rfl rfl rfl hl_t0 hs_t0 ⟨by decide, rfl⟩ (by decide) (Nat.le_of_ble_eq_true rfl) dX5_knowing_18 (fun _ M24 _ => ?_)
    refine hr_iload_n X dX5_knowing_21 rfl ?_
    refine hr_bipush X 6 dX5_knowing_22 kb_6 ?_
    refine hr_icmp_ne X 43 dX5_knowing_24 rfl ?_ ?_
    · refine hr_aload_n X dX5_knowing_43 rfl ?_
      refine hr_bipush X 12 dX5_knowing_44 kb_12 ?_
      refine hr_cvV X [.int 12] [] (c_X5_body hl_t0 hs_t0 12 M24) lk_RX5_263 rfl rfl rfl hl_t0 hs_t0 ⟨by decide, rfl⟩ (by decide) (Nat.le_of_ble_eq_true rfl) dX5_knowing_46 (fun _ M26 _ => ?_)
      refine hr_aload_n X dX5_knowing_49 rfl ?_
      refine hr_iload_n X dX5_knowing_50 rfl ?_
      refine hr_iload X dX5_knowing_51 rfl ?_
      refine hr_cvI X [.int a1, .int a2] [] (c_X5_hiding hl_t0 hs_t0 a1 a2 M26) lk_RX5_270 rfl rfl rfl hl_t0 hs_t0 ⟨by decide, rfl⟩ (by decide) (Nat.le_of_ble_eq_true rfl) dX5_knowing_53 (fun r27 M28 _ => ?_)
      refine hr_istore X dX5_knowing_56 (by decide) rfl ?_
      refine hr_iload X dX5_knowing_58 rfl ?_
      refine hr_aload_n X dX5_knowing_60 rfl ?_
      refine hr_iload_n X dX5_knowing_61 rfl ?_
      refine hr_iload X dX5_knowing_62 rfl ?_
      refine hr_aload_n X dX5_knowing_64 rfl ?_
      refine hr_gR X 6 hl_t0 hs_t0 lg_RX5_39 rfl dX5_knowing_65 (fun q29 hl_q29 hs_q29 => ?_)
      refine hr_iload_n X dX5_knowing_68 rfl ?_
      refine hr_iald X hl_q29 hs_q29 dX5_knowing_69 (fun r30 _ _ => ?_)
      refine hr_isub X dX5_knowing_70 ?_
      refine hr_cvI X [.int a1, .int (a2 - r30)] [.int r27] (c_X5_saying hl_t0 hs_t0 a1 (a2 - r30) M28) lk_RX5_267 rfl rfl rfl hl_t0 hs_t0 ⟨by decide, rfl⟩ (by decide) (Nat.le_of_ble_eq_true rfl) dX5_knowing_71 (fun r31 M32 _ => ?_)
      refine hr_ixor X dX5_knowing_74 ?_
      refine hr_istore X dX5_knowing_75 (by decide) rfl ?_
      refine hr_iload_n X dX5_knowing_77 rfl ?_
      refine hr_iconst X 3 dX5_knowing_78 kc_3 ?_
      refine hr_icmp_ne X 89 dX5_knowing_79 rfl ?_ ?_
      · refine hr_iload X dX5_knowing_89 rfl ?_
        exact hr_iret X dX5_knowing_91
      · refine hr_iload X dX5_knowing_82 rfl ?_
        refine hr_iload_n X dX5_knowing_84 rfl ?_
        refine hr_isub X dX5_knowing_85 ?_
        refine hr_goto X 91 dX5_knowing_86 rfl ?_
        exact hr_iret X dX5_knowing_91
    · refine hr_aload_n X dX5_knowing_27 rfl ?_
      refine hr_bipush X 71 dX5_knowing_28 kb_71 ?_
      refine hr_cvV X [.int 71] [] (c_X5_body hl_t0 hs_t0 71 M24) lk_RX5_263 rfl rfl rfl hl_t0 hs_t0 ⟨by decide, rfl⟩ (by decide) (Nat.le_of_ble_eq_true rfl) dX5_knowing_30 (fun _ M34 _ => ?_)
      refine hr_iload_n X dX5_knowing_33 rfl ?_
      refine hr_aload_n X dX5_knowing_34 rfl ?_
      refine hr_gR X 6 hl_t0 hs_t0 lg_RX5_39 rfl dX5_knowing_35 (fun q35 hl_q35 hs_q35 => ?_)
      refine hr_iload_n X dX5_knowing_38 rfl ?_
      refine hr_iald X hl_q35 hs_q35 dX5_knowing_39 (fun r36 _ _ => ?_)
      refine hr_isub X dX5_knowing_40 ?_
      refine hr_istore X dX5_knowing_41 (by decide) rfl ?_
      refine hr_aload_n X dX5_knowing_43 rfl ?_
      refine hr_bipush X 12 dX5_knowing_44 kb_12 ?_
      refine hr_cvV X [.int 12] [] (c_X5_body hl_t0 hs_t0 12 M34) lk_RX5_263 rfl rfl rfl hl_t0 hs_t0 ⟨by decide, rfl⟩ (by decide) (Nat.le_of_ble_eq_true rfl) dX5_knowing_46 (fun _ M38 _ => ?_)
      refine hr_aload_n X dX5_knowing_49 rfl ?_
      refine hr_iload_n X dX5_knowing_50 rfl ?_
      refine hr_iload X dX5_knowing_51 rfl ?_
      refine hr_cvI X [.int a1, .int (a2 - r36)] [] (c_X5_hiding hl_t0 hs_t0 a1 (a2 - r36) M38) lk_RX5_270 rfl rfl rfl hl_t0 hs_t0 ⟨by decide, rfl⟩ (by decide) (Nat.le_of_ble_eq_true rfl) dX5_knowing_53 (fun r39 M40 _ => ?_)
      refine hr_istore X dX5_knowing_56 (by decide) rfl ?_
      refine hr_iload X dX5_knowing_58 rfl ?_
      refine hr_aload_n X dX5_knowing_60 rfl ?_
      refine hr_iload_n X dX5_knowing_61 rfl ?_
      refine hr_iload X dX5_knowing_62 rfl ?_
      refine hr_aload_n X dX5_knowing_64 rfl ?_
      refine hr_gR X 6 hl_t0 hs_t0 lg_RX5_39 rfl dX5_knowing_65 (fun q41 hl_q41 hs_q41 => ?_)
      refine hr_iload_n X dX5_knowing_68 rfl ?_
      refine hr_iald X hl_q41 hs_q41 dX5_knowing_69 (fun r42 _ _ => ?_)
      refine hr_isub X dX5_knowing_70 ?_
      refine hr_cvI X [.int a1, .int ((a2 - r36) - r42)] [.int r39] (c_X5_saying hl_t0 hs_t0 a1 ((a2 - r36) - r42) M40) lk_RX5_267 rfl rfl rfl hl_t0 hs_t0 ⟨by decide, rfl⟩ (by decide) (Nat.le_of_ble_eq_true rfl) dX5_knowing_71 (fun r43 M44 _ => ?_)
      refine hr_ixor X dX5_knowing_74 ?_
      refine hr_istore X dX5_knowing_75 (by decide) rfl ?_
      refine hr_iload_n X dX5_knowing_77 rfl ?_
      refine hr_iconst X 3 dX5_knowing_78 kc_3 ?_
      refine hr_icmp_ne X 89 dX5_knowing_79 rfl ?_ ?_
      · refine hr_iload X dX5_knowing_89 rfl ?_
        exact hr_iret X dX5_knowing_91
      · refine hr_iload X dX5_knowing_82 rfl ?_
        refine hr_iload_n X dX5_knowing_84 rfl ?_
        refine hr_isub X dX5_knowing_85 ?_
        refine hr_goto X 91 dX5_knowing_86 rfl ?_
        exact hr_iret X dX5_knowing_91
set_option maxRecDepth 100000 in
set_option maxHeartbeats 4000000 in
theorem c_X5_act  {t0 : Nat} (hl_t0 : t0 < 69) (hs_t0 : hf_shp t0 = 5) (a1 : Int32) (a2 : Int32) (a3 : Int32) (M : hf_M) : hf_CI yX5_act cX5_act 4 (some .int) (5) (fun g => [.ref (hf_a g t0), .int a1, .int a2, .int a3]) M (s_X5_act t0 a1 a2 a3 M) := by
  refine hf_metI (by decide +kernel) (fun g => Nat.le_of_ble_eq_true rfl) (fun g p l ev s m args below meth c X => ?_)
  have X : hf_X g p s m args meth c cX5_act 4 RX5 (some .int) := X
  show hf_W g p l ev (5) s m args below meth c 4 (hf_QI g below args s) M 0 [some (.ref (hf_a g t0)), some (.int a1), some (.int a2), some (.int a3)] [] (s_X5_act t0 a1 a2 a3 M)
  unfold s_X5_act
  refine hr_aload_n X dX5_act_0 rfl ?_
  refine hr_iconst X 0 dX5_act_1 kc_0 ?_
  refine hr_pI X hl_t0 hs_t0 lp_RX5_260 dX5_act_2 (fun M1 eM1 => ?_)
  refine hr_aload_n X dX5_act_5 rfl ?_
  refine hr_iload_n X dX5_act_6 rfl ?_
  refine hr_cvI X [.int a1] [] (c_X5_isSpeaker hl_t0 hs_t0 a1 M1) lk_RX5_103 rfl rfl rfl hl_t0 hs_t0 ⟨by decide, rfl⟩ (by decide) (Nat.le_of_ble_eq_true rfl) dX5_act_7 (fun r2 M3 _ => ?_)
  refine hr_if_eq X 22 dX5_act_10 rfl ?_ ?_
  · refine hr_iconst X 0 dX5_act_22 kc_0 ?_
    exact hr_iret X dX5_act_23
  · refine hr_iload_n X dX5_act_13 rfl ?_
    refine hr_if_lt X 22 dX5_act_14 rfl ?_ ?_
    · refine hr_iconst X 0 dX5_act_22 kc_0 ?_
      exact hr_iret X dX5_act_23
    · refine hr_iload_n X dX5_act_17 rfl ?_
      refine hr_iconst X 2 dX5_act_18 kc_2 ?_
      refine hr_icmp_le X 24 dX5_act_19 rfl ?_ ?_
      · refine hr_iload_n X dX5_act_24 rfl ?_
        refine hr_if_ne X 37 dX5_act_25 rfl ?_ ?_
        · refine hr_iload_n X dX5_act_37 rfl ?_
          refine hr_iconst X 1 dX5_act_38 kc_1 ?_
          refine hr_icmp_ne X 51 dX5_act_39 rfl ?_ ?_
          · refine hr_aload_n X dX5_act_51 rfl ?_
            refine hr_iload_n X dX5_act_52 rfl ?_
            refine hr_iload_n X dX5_act_53 rfl ?_
            refine hr_cvI X [.int a1, .int a3] [] (c_X5_knowing hl_t0 hs_t0 a1 a3 M3) lk_RX5_273 rfl rfl rfl hl_t0 hs_t0 ⟨by decide, rfl⟩ (by decide) (Nat.le_of_ble_eq_true rfl) dX5_act_54 (fun r4 M5 _ => ?_)
            exact hr_iret X dX5_act_57
          · refine hr_aload_n X dX5_act_42 rfl ?_
            refine hr_iload_n X dX5_act_43 rfl ?_
            refine hr_iload_n X dX5_act_44 rfl ?_
            refine hr_cvI X [.int a1, .int a3] [] (c_X5_hiding hl_t0 hs_t0 a1 a3 M3) lk_RX5_270 rfl rfl rfl hl_t0 hs_t0 ⟨by decide, rfl⟩ (by decide) (Nat.le_of_ble_eq_true rfl) dX5_act_45 (fun r6 M7 _ => ?_)
            refine hr_goto X 57 dX5_act_48 rfl ?_
            exact hr_iret X dX5_act_57
        · refine hr_aload_n X dX5_act_28 rfl ?_
          refine hr_iload_n X dX5_act_29 rfl ?_
          refine hr_iload_n X dX5_act_30 rfl ?_
          refine hr_cvI X [.int a1, .int a3] [] (c_X5_saying hl_t0 hs_t0 a1 a3 M3) lk_RX5_267 rfl rfl rfl hl_t0 hs_t0 ⟨by decide, rfl⟩ (by decide) (Nat.le_of_ble_eq_true rfl) dX5_act_31 (fun r8 M9 _ => ?_)
          refine hr_goto X 57 dX5_act_34 rfl ?_
          exact hr_iret X dX5_act_57
      · refine hr_iconst X 0 dX5_act_22 kc_0 ?_
        exact hr_iret X dX5_act_23
set_option maxRecDepth 100000 in
set_option maxHeartbeats 4000000 in
theorem c_X5_trace  {t0 : Nat} (hl_t0 : t0 < 69) (hs_t0 : hf_shp t0 = 5) (a1 : Int32) (M : hf_M) : hf_CI yX5_trace cX5_trace 2 (some .int) (1) (fun g => [.ref (hf_a g t0), .int a1]) M (s_X5_trace t0 a1 M) := by
  refine hf_metI (by decide +kernel) (fun g => Nat.le_of_ble_eq_true rfl) (fun g p l ev s m args below meth c X => ?_)
  have X : hf_X g p s m args meth c cX5_trace 2 RX5 (some .int) := X
  show hf_W g p l ev (1) s m args below meth c 2 (hf_QI g below args s) M 0 [some (.ref (hf_a g t0)), some (.int a1)] [] (s_X5_trace t0 a1 M)
  unfold s_X5_trace
  refine hr_iload_n X dX5_trace_0 rfl ?_
  refine hr_if_lt X 27 dX5_trace_1 rfl ?_ ?_
  · refine hr_iconst X (-1) dX5_trace_27 kc_m1 ?_
    exact hr_iret X dX5_trace_28
  · refine hr_iload_n X dX5_trace_4 rfl ?_
    refine hr_bipush X 20 dX5_trace_5 kb_20 ?_
    refine hr_icmp_ge X 27 dX5_trace_7 rfl ?_ ?_
    · refine hr_iconst X (-1) dX5_trace_27 kc_m1 ?_
      exact hr_iret X dX5_trace_28
    · refine hr_iload_n X dX5_trace_10 rfl ?_
      refine hr_aload_n X dX5_trace_11 rfl ?_
      refine hr_gI X hl_t0 hs_t0 lg_RX5_260 dX5_trace_12 ?_
      refine hr_icmp_ge X 27 dX5_trace_15 rfl ?_ ?_
      · refine hr_iconst X (-1) dX5_trace_27 kc_m1 ?_
        exact hr_iret X dX5_trace_28
      · refine hr_aload_n X dX5_trace_18 rfl ?_
        refine hr_gR X 6 hl_t0 hs_t0 lg_RX5_85 rfl dX5_trace_19 (fun q1 hl_q1 hs_q1 => ?_)
        refine hr_iload_n X dX5_trace_22 rfl ?_
        refine hr_iald X hl_q1 hs_q1 dX5_trace_23 (fun r2 _ _ => ?_)
        refine hr_goto X 28 dX5_trace_24 rfl ?_
        exact hr_iret X dX5_trace_28
set_option maxRecDepth 100000 in
set_option maxHeartbeats 4000000 in
theorem c_X5_image  {t0 : Nat} (hl_t0 : t0 < 69) (hs_t0 : hf_shp t0 = 5) (M : hf_M) : hf_CI yX5_image cX5_image 1 (some .int) (3) (fun g => [.ref (hf_a g t0)]) M (s_X5_image t0 M) := by
  refine hf_metI (by decide +kernel) (fun g => Nat.le_of_ble_eq_true rfl) (fun g p l ev s m args below meth c X => ?_)
  have X : hf_X g p s m args meth c cX5_image 1 RX5 (some .int) := X
  show hf_W g p l ev (3) s m args below meth c 1 (hf_QI g below args s) M 0 [some (.ref (hf_a g t0))] [] (s_X5_image t0 M)
  unfold s_X5_image
  refine hr_aload_n X dX5_image_0 rfl ?_
  refine hr_iconst X 1 dX5_image_1 kc_1 ?_
  refine hr_pZ X (Or.inr rfl) hl_t0 hs_t0 lp_RX5_276 dX5_image_2 (fun M1 eM1 => ?_)
  refine hr_aload_n X dX5_image_5 rfl ?_
  refine hr_aload_n X dX5_image_6 rfl ?_
  refine hr_gR X 6 hl_t0 hs_t0 lg_RX5_79 rfl dX5_image_7 (fun q2 hl_q2 hs_q2 => ?_)
  refine hr_iconst X 1 dX5_image_10 kc_1 ?_
  refine hr_iconst X 0 dX5_image_11 kc_0 ?_
  refine hr_cvV X [.ref (hf_a g q2), .int 1, .int 0] [] (c_X5_all hl_t0 hs_t0 hl_q2 hs_q2 1 0 M1) lk_RX5_211 rfl rfl rfl hl_t0 hs_t0 ⟨by decide, rfl⟩ (by decide) (Nat.le_of_ble_eq_true rfl) dX5_image_12 (fun _ M4 _ => ?_)
  refine hr_aload_n X dX5_image_15 rfl ?_
  refine hr_gI X hl_t0 hs_t0 lg_RX5_118 dX5_image_16 ?_
  exact hr_iret X dX5_image_19
set_option maxRecDepth 100000 in
set_option maxHeartbeats 4000000 in
theorem w_X5_restore_26 {g : hf_G} {p : Program} {l : Launch} {ev : Env} {s : State} {m : MethodId} {args : Array Value} {below : List Frame} {meth : Method} {c : Code} (X : hf_X g p s m args meth c cX5_restore 2 RX5 (some .int))    {t0 : Nat} (hl_t0 : t0 < 69) (hs_t0 : hf_shp t0 = 5) : ∀ (n : Nat) (v1 : Int32) (M : hf_M), hf_W g p l ev (3) s m args below meth c 2 (hf_QI g below args s) M 26 [some (.ref (hf_a g t0)), some (.int v1)] [] (s_X5_restore_26 t0 n v1 M) := by
  intro n
  induction n with
  | zero =>
    intros
    exact hr_none
  | succ n ih =>
    intro v1 M
    rw [s_X5_restore_26]
    refine hr_iload_n X dX5_restore_26 rfl ?_
    refine hr_bipush X 8 dX5_restore_27 kb_8 ?_
    refine hr_icmp_ge X 68 dX5_restore_29 rfl ?_ ?_
    · refine hr_aload_n X dX5_restore_68 rfl ?_
      refine hr_gI X hl_t0 hs_t0 lg_RX5_118 dX5_restore_69 ?_
      exact hr_iret X dX5_restore_72
    · refine hr_aload_n X dX5_restore_32 rfl ?_
      refine hr_gR X 6 hl_t0 hs_t0 lg_RX5_51 rfl dX5_restore_33 (fun q1 hl_q1 hs_q1 => ?_)
      refine hr_iload_n X dX5_restore_36 rfl ?_
      refine hr_iald X hl_q1 hs_q1 dX5_restore_37 (fun r2 _ _ => ?_)
      refine hr_iconst X 2 dX5_restore_38 kc_2 ?_
      refine hr_icmp_ne X 62 dX5_restore_39 rfl ?_ ?_
      · refine hr_iinc X (v1 + 1) dX5_restore_62 rfl (by rw [kc_1]) (by decide) rfl ?_
        refine hr_goto X 26 dX5_restore_65 rfl ?_
        exact hr_wk (hs_some (hs_some (hs_nil))) (ih (v1 + 1) M)
      · refine hr_aload_n X dX5_restore_42 rfl ?_
        refine hr_gR X 6 hl_t0 hs_t0 lg_RX5_60 rfl dX5_restore_43 (fun q3 hl_q3 hs_q3 => ?_)
        refine hr_iload_n X dX5_restore_46 rfl ?_
        refine hr_iald X hl_q3 hs_q3 dX5_restore_47 (fun r4 _ _ => ?_)
        refine hr_aload_n X dX5_restore_48 rfl ?_
        refine hr_gI X hl_t0 hs_t0 lg_RX5_92 dX5_restore_49 ?_
        refine hr_icmp_lt X 62 dX5_restore_52 rfl ?_ ?_
        · refine hr_iinc X (v1 + 1) dX5_restore_62 rfl (by rw [kc_1]) (by decide) rfl ?_
          refine hr_goto X 26 dX5_restore_65 rfl ?_
          exact hr_wk (hs_some (hs_some (hs_nil))) (ih (v1 + 1) M)
        · refine hr_aload_n X dX5_restore_55 rfl ?_
          refine hr_gR X 6 hl_t0 hs_t0 lg_RX5_51 rfl dX5_restore_56 (fun q5 hl_q5 hs_q5 => ?_)
          refine hr_iload_n X dX5_restore_59 rfl ?_
          refine hr_iconst X 0 dX5_restore_60 kc_0 ?_
          refine hr_iast X hl_q5 hs_q5 dX5_restore_61 (fun M6 eM6 _ => ?_)
          refine hr_iinc X (v1 + 1) dX5_restore_62 rfl (by rw [kc_1]) (by decide) rfl ?_
          refine hr_goto X 26 dX5_restore_65 rfl ?_
          exact hr_wk (hs_some (hs_some (hs_nil))) (ih (v1 + 1) M6)
set_option maxRecDepth 100000 in
set_option maxHeartbeats 4000000 in
theorem c_X5_restore  {t0 : Nat} (hl_t0 : t0 < 69) (hs_t0 : hf_shp t0 = 5) (M : hf_M) : hf_CI yX5_restore cX5_restore 2 (some .int) (3) (fun g => [.ref (hf_a g t0)]) M (s_X5_restore t0 M) := by
  refine hf_metI (by decide +kernel) (fun g => Nat.le_of_ble_eq_true rfl) (fun g p l ev s m args below meth c X => ?_)
  have X : hf_X g p s m args meth c cX5_restore 2 RX5 (some .int) := X
  show hf_W g p l ev (3) s m args below meth c 2 (hf_QI g below args s) M 0 [some (.ref (hf_a g t0)), none] [] (s_X5_restore t0 M)
  unfold s_X5_restore
  refine hr_aload_n X dX5_restore_0 rfl ?_
  refine hr_gI X hl_t0 hs_t0 lg_RX5_276 dX5_restore_1 ?_
  refine hr_if_ne X 14 dX5_restore_4 rfl ?_ ?_
  · refine hr_aload_n X dX5_restore_14 rfl ?_
    refine hr_aload_n X dX5_restore_15 rfl ?_
    refine hr_gR X 6 hl_t0 hs_t0 lg_RX5_79 rfl dX5_restore_16 (fun q1 hl_q1 hs_q1 => ?_)
    refine hr_iconst X 1 dX5_restore_19 kc_1 ?_
    refine hr_iconst X 1 dX5_restore_20 kc_1 ?_
    refine hr_cvV X [.ref (hf_a g q1), .int 1, .int 1] [] (c_X5_all hl_t0 hs_t0 hl_q1 hs_q1 1 1 M) lk_RX5_211 rfl rfl rfl hl_t0 hs_t0 ⟨by decide, rfl⟩ (by decide) (Nat.le_of_ble_eq_true rfl) dX5_restore_21 (fun _ M3 _ => ?_)
    refine hr_iconst X 0 dX5_restore_24 kc_0 ?_
    refine hr_istore_n X dX5_restore_25 (by decide) rfl ?_
    exact hr_wk (hs_some (hs_some (hs_nil))) (w_X5_restore_26 X hl_t0 hs_t0 2000 0 M3)
  · refine hr_aload_n X dX5_restore_7 rfl ?_
    refine hr_bipush X (-6) dX5_restore_8 kb_m6 ?_
    refine hr_cvI X [.int (-6)] [] (c_X5_no hl_t0 hs_t0 (-6) M) lk_RX5_99 rfl rfl rfl hl_t0 hs_t0 ⟨by decide, rfl⟩ (by decide) (Nat.le_of_ble_eq_true rfl) dX5_restore_10 (fun r4 M5 _ => ?_)
    exact hr_iret X dX5_restore_13
