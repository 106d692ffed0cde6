set_option maxRecDepth 100000 in
set_option maxHeartbeats 4000000 in
theorem c_X5_status  {t0 : Nat} (hl_t0 : t0 < 69) (hs_t0 : hf_shp t0 = 5) (a1 : Int32) (M : hf_M) : hf_CI yX5_status cX5_status 2 (some .int) (2) (fun g => [.ref (hf_a g t0), .int a1]) M (s_X5_status t0 a1 M) := by
  refine hf_metI (by decide +kernel) (fun g => Nat.le_of_ble_eq_true rfl) (fun g p l ev s m args below meth c X => ?_)
  have X : hf_X g p s m args meth c cX5_status 2 RX5 (some .int) := X
  show hf_W g p l ev (2) s m args below meth c 2 (hf_QI g below args s) M 0 [some (.ref (hf_a g t0)), some (.int a1)] [] (s_X5_status t0 a1 M)
  unfold s_X5_status
  refine hr_iload_n X dX5_status_0 rfl ?_
  refine hr_bipush X 11 dX5_status_1 kb_11 ?_
  refine hr_icmp_lt X 22 dX5_status_3 rfl ?_ ?_
  · refine hr_iload_n X dX5_status_22 rfl ?_
    refine hr_case 0 (fun _ => ?_) (fun n23_0 => ?_)
    · refine hr_tabIn X 72 dX5_status_23 (by decide) (by decide) rfl rfl ?_
      refine hr_aload_n X dX5_status_72 rfl ?_
      refine hr_gI X hl_t0 hs_t0 lg_RX5_89 dX5_status_73 ?_
      exact hr_iret X dX5_status_76
    refine hr_case 1 (fun _ => ?_) (fun n23_1 => ?_)
    · refine hr_tabIn X 77 dX5_status_23 (by decide) (by decide) rfl rfl ?_
      refine hr_aload_n X dX5_status_77 rfl ?_
      refine hr_gI X hl_t0 hs_t0 lg_RX5_92 dX5_status_78 ?_
      exact hr_iret X dX5_status_81
    refine hr_case 2 (fun _ => ?_) (fun n23_2 => ?_)
    · refine hr_tabIn X 82 dX5_status_23 (by decide) (by decide) rfl rfl ?_
      refine hr_aload_n X dX5_status_82 rfl ?_
      refine hr_gI X hl_t0 hs_t0 lg_RX5_118 dX5_status_83 ?_
      exact hr_iret X dX5_status_86
    refine hr_case 3 (fun _ => ?_) (fun n23_3 => ?_)
    · refine hr_tabIn X 87 dX5_status_23 (by decide) (by decide) rfl rfl ?_
      refine hr_aload_n X dX5_status_87 rfl ?_
      refine hr_aload_n X dX5_status_88 rfl ?_
      refine hr_gL X hl_t0 hs_t0 lg_RX5_25 dX5_status_89 ?_
      refine hr_cvI X [.long (M.2.1 t0 9)] [] (c_X5_count hl_t0 hs_t0 (M.2.1 t0 9) M) lk_RX5_146 rfl rfl rfl hl_t0 hs_t0 ⟨by decide, rfl⟩ (by decide) (Nat.le_of_ble_eq_true rfl) dX5_status_92 (fun r1 M2 _ => ?_)
      exact hr_iret X dX5_status_95
    refine hr_case 4 (fun _ => ?_) (fun n23_4 => ?_)
    · refine hr_tabIn X 96 dX5_status_23 (by decide) (by decide) rfl rfl ?_
      refine hr_aload_n X dX5_status_96 rfl ?_
      refine hr_gI X hl_t0 hs_t0 lg_RX5_7 dX5_status_97 ?_
      exact hr_iret X dX5_status_100
    refine hr_case 5 (fun _ => ?_) (fun n23_5 => ?_)
    · refine hr_tabIn X 101 dX5_status_23 (by decide) (by decide) rfl rfl ?_
      refine hr_aload_n X dX5_status_101 rfl ?_
      refine hr_gI X hl_t0 hs_t0 lg_RX5_13 dX5_status_102 ?_
      exact hr_iret X dX5_status_105
    refine hr_case 6 (fun _ => ?_) (fun n23_6 => ?_)
    · refine hr_tabIn X 106 dX5_status_23 (by decide) (by decide) rfl rfl ?_
      refine hr_aload_n X dX5_status_106 rfl ?_
      refine hr_gI X hl_t0 hs_t0 lg_RX5_205 dX5_status_107 ?_
      exact hr_iret X dX5_status_110
    refine hr_case 7 (fun _ => ?_) (fun n23_7 => ?_)
    · refine hr_tabIn X 111 dX5_status_23 (by decide) (by decide) rfl rfl ?_
      refine hr_aload_n X dX5_status_111 rfl ?_
      refine hr_gI X hl_t0 hs_t0 lg_RX5_16 dX5_status_112 ?_
      exact hr_iret X dX5_status_115
    refine hr_case 8 (fun _ => ?_) (fun n23_8 => ?_)
    · refine hr_tabIn X 116 dX5_status_23 (by decide) (by decide) rfl rfl ?_
      refine hr_aload_n X dX5_status_116 rfl ?_
      refine hr_gI X hl_t0 hs_t0 lg_RX5_260 dX5_status_117 ?_
      exact hr_iret X dX5_status_120
    · have e0 := hf_neT 0 n23_0 (by decide)
      have e1 := hf_neT 1 n23_1 (by decide)
      have e2 := hf_neT 2 n23_2 (by decide)
      have e3 := hf_neT 3 n23_3 (by decide)
      have e4 := hf_neT 4 n23_4 (by decide)
      have e5 := hf_neT 5 n23_5 (by decide)
      have e6 := hf_neT 6 n23_6 (by decide)
      have e7 := hf_neT 7 n23_7 (by decide)
      have e8 := hf_neT 8 n23_8 (by decide)
      refine hr_tabOut X 121 dX5_status_23 (by omega) rfl ?_
      refine hr_iconst X (-1) dX5_status_121 kc_m1 ?_
      exact hr_iret X dX5_status_122
  · refine hr_iload_n X dX5_status_6 rfl ?_
    refine hr_bipush X 17 dX5_status_7 kb_17 ?_
    refine hr_icmp_gt X 22 dX5_status_9 rfl ?_ ?_
    · refine hr_iload_n X dX5_status_22 rfl ?_
      refine hr_case 0 (fun _ => ?_) (fun n23_0 => ?_)
      · refine hr_tabIn X 72 dX5_status_23 (by decide) (by decide) rfl rfl ?_
        refine hr_aload_n X dX5_status_72 rfl ?_
        refine hr_gI X hl_t0 hs_t0 lg_RX5_89 dX5_status_73 ?_
        exact hr_iret X dX5_status_76
      refine hr_case 1 (fun _ => ?_) (fun n23_1 => ?_)
      · refine hr_tabIn X 77 dX5_status_23 (by decide) (by decide) rfl rfl ?_
        refine hr_aload_n X dX5_status_77 rfl ?_
        refine hr_gI X hl_t0 hs_t0 lg_RX5_92 dX5_status_78 ?_
        exact hr_iret X dX5_status_81
      refine hr_case 2 (fun _ => ?_) (fun n23_2 => ?_)
      · refine hr_tabIn X 82 dX5_status_23 (by decide) (by decide) rfl rfl ?_
        refine hr_aload_n X dX5_status_82 rfl ?_
        refine hr_gI X hl_t0 hs_t0 lg_RX5_118 dX5_status_83 ?_
        exact hr_iret X dX5_status_86
      refine hr_case 3 (fun _ => ?_) (fun n23_3 => ?_)
      · refine hr_tabIn X 87 dX5_status_23 (by decide) (by decide) rfl rfl ?_
        refine hr_aload_n X dX5_status_87 rfl ?_
        refine hr_aload_n X dX5_status_88 rfl ?_
        refine hr_gL X hl_t0 hs_t0 lg_RX5_25 dX5_status_89 ?_
        refine hr_cvI X [.long (M.2.1 t0 9)] [] (c_X5_count hl_t0 hs_t0 (M.2.1 t0 9) M) lk_RX5_146 rfl rfl rfl hl_t0 hs_t0 ⟨by decide, rfl⟩ (by decide) (Nat.le_of_ble_eq_true rfl) dX5_status_92 (fun r3 M4 _ => ?_)
        exact hr_iret X dX5_status_95
      refine hr_case 4 (fun _ => ?_) (fun n23_4 => ?_)
      · refine hr_tabIn X 96 dX5_status_23 (by decide) (by decide) rfl rfl ?_
        refine hr_aload_n X dX5_status_96 rfl ?_
        refine hr_gI X hl_t0 hs_t0 lg_RX5_7 dX5_status_97 ?_
        exact hr_iret X dX5_status_100
      refine hr_case 5 (fun _ => ?_) (fun n23_5 => ?_)
      · refine hr_tabIn X 101 dX5_status_23 (by decide) (by decide) rfl rfl ?_
        refine hr_aload_n X dX5_status_101 rfl ?_
        refine hr_gI X hl_t0 hs_t0 lg_RX5_13 dX5_status_102 ?_
        exact hr_iret X dX5_status_105
      refine hr_case 6 (fun _ => ?_) (fun n23_6 => ?_)
      · refine hr_tabIn X 106 dX5_status_23 (by decide) (by decide) rfl rfl ?_
        refine hr_aload_n X dX5_status_106 rfl ?_
        refine hr_gI X hl_t0 hs_t0 lg_RX5_205 dX5_status_107 ?_
        exact hr_iret X dX5_status_110
      refine hr_case 7 (fun _ => ?_) (fun n23_7 => ?_)
      · refine hr_tabIn X 111 dX5_status_23 (by decide) (by decide) rfl rfl ?_
        refine hr_aload_n X dX5_status_111 rfl ?_
        refine hr_gI X hl_t0 hs_t0 lg_RX5_16 dX5_status_112 ?_
        exact hr_iret X dX5_status_115
      refine hr_case 8 (fun _ => ?_) (fun n23_8 => ?_)
      · refine hr_tabIn X 116 dX5_status_23 (by decide) (by decide) rfl rfl ?_
        refine hr_aload_n X dX5_status_116 rfl ?_
        refine hr_gI X hl_t0 hs_t0 lg_RX5_260 dX5_status_117 ?_
        exact hr_iret X dX5_status_120
      · have e0 := hf_neT 0 n23_0 (by decide)
        have e1 := hf_neT 1 n23_1 (by decide)
        have e2 := hf_neT 2 n23_2 (by decide)
        have e3 := hf_neT 3 n23_3 (by decide)
        have e4 := hf_neT 4 n23_4 (by decide)
        have e5 := hf_neT 5 n23_5 (by decide)
        have e6 := hf_neT 6 n23_6 (by decide)
        have e7 := hf_neT 7 n23_7 (by decide)
        have e8 := hf_neT 8 n23_8 (by decide)
        refine hr_tabOut X 121 dX5_status_23 (by omega) rfl ?_
        refine hr_iconst X (-1) dX5_status_121 kc_m1 ?_
        exact hr_iret X dX5_status_122
    · refine hr_aload_n X dX5_status_12 rfl ?_
      refine hr_gR X 6 hl_t0 hs_t0 lg_RX5_29 rfl dX5_status_13 (fun q5 hl_q5 hs_q5 => ?_)
      refine hr_iload_n X dX5_status_16 rfl ?_
      refine hr_bipush X 10 dX5_status_17 kb_10 ?_
      refine hr_isub X dX5_status_19 ?_
      refine hr_iald X hl_q5 hs_q5 dX5_status_20 (fun r6 _ _ => ?_)
      exact hr_iret X dX5_status_21
