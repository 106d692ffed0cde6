set_option maxRecDepth 100000 in
set_option maxHeartbeats 4000000 in
theorem c_X5_isFree  {t0 : Nat} (hl_t0 : t0 < 69) (hs_t0 : hf_shp t0 = 5) (a1 : Int32) (M : hf_M) : hf_CI yX5_isFree cX5_isFree 2 (some .boolean) (1) (fun g => [.ref (hf_a g t0), .int a1]) M (s_X5_isFree t0 a1 M) := by
  refine hf_metI (by decide +kernel) (fun g => Nat.le_of_ble_eq_true rfl) (fun g p l ev s m args below meth c X => ?_)
  have X : hf_X g p s m args meth c cX5_isFree 2 RX5 (some .boolean) := X
  show hf_W g p l ev (1) s m args below meth c 2 (hf_QI g below args s) M 0 [some (.ref (hf_a g t0)), some (.int a1)] [] (s_X5_isFree t0 a1 M)
  unfold s_X5_isFree
  refine hr_aload_n X dX5_isFree_0 rfl ?_
  refine hr_gR X 6 hl_t0 hs_t0 lg_RX5_36 rfl dX5_isFree_1 (fun q1 hl_q1 hs_q1 => ?_)
  refine hr_iload_n X dX5_isFree_4 rfl ?_
  refine hr_iald X hl_q1 hs_q1 dX5_isFree_5 (fun r2 _ _ => ?_)
  refine hr_if_eq X 20 dX5_isFree_6 rfl ?_ ?_
  · refine hr_iconst X 1 dX5_isFree_20 kc_1 ?_
    refine hr_goto X 25 dX5_isFree_21 rfl ?_
    exact hr_zretC X (Or.inr rfl) dX5_isFree_25
  · refine hr_aload_n X dX5_isFree_9 rfl ?_
    refine hr_gR X 6 hl_t0 hs_t0 lg_RX5_36 rfl dX5_isFree_10 (fun q3 hl_q3 hs_q3 => ?_)
    refine hr_iload_n X dX5_isFree_13 rfl ?_
    refine hr_iald X hl_q3 hs_q3 dX5_isFree_14 (fun r4 _ _ => ?_)
    refine hr_bipush X 6 dX5_isFree_15 kb_6 ?_
    refine hr_icmp_ne X 24 dX5_isFree_17 rfl ?_ ?_
    · refine hr_iconst X 0 dX5_isFree_24 kc_0 ?_
      exact hr_zretC X (Or.inl rfl) dX5_isFree_25
    · refine hr_iconst X 1 dX5_isFree_20 kc_1 ?_
      refine hr_goto X 25 dX5_isFree_21 rfl ?_
      exact hr_zretC X (Or.inr rfl) dX5_isFree_25
set_option maxRecDepth 100000 in
set_option maxHeartbeats 4000000 in
theorem c_X5_isSo  {t0 : Nat} (hl_t0 : t0 < 69) (hs_t0 : hf_shp t0 = 5) (a1 : Int32) (a2 : Int32) (M : hf_M) : hf_CI yX5_isSo cX5_isSo 3 (some .boolean) (1) (fun g => [.ref (hf_a g t0), .int a1, .int a2]) M (s_X5_isSo t0 a1 a2 M) := by
  refine hf_metI (by decide +kernel) (fun g => Nat.le_of_ble_eq_true rfl) (fun g p l ev s m args below meth c X => ?_)
  have X : hf_X g p s m args meth c cX5_isSo 3 RX5 (some .boolean) := X
  show hf_W g p l ev (1) s m args below meth c 3 (hf_QI g below args s) M 0 [some (.ref (hf_a g t0)), some (.int a1), some (.int a2)] [] (s_X5_isSo t0 a1 a2 M)
  unfold s_X5_isSo
  refine hr_iload_n X dX5_isSo_0 rfl ?_
  refine hr_aload_n X dX5_isSo_1 rfl ?_
  refine hr_gR X 6 hl_t0 hs_t0 lg_RX5_45 rfl dX5_isSo_2 (fun q1 hl_q1 hs_q1 => ?_)
  refine hr_iload_n X dX5_isSo_5 rfl ?_
  refine hr_iald X hl_q1 hs_q1 dX5_isSo_6 (fun r2 _ _ => ?_)
  refine hr_ishr X dX5_isSo_7 ?_
  refine hr_iconst X 1 dX5_isSo_8 kc_1 ?_
  refine hr_iand X dX5_isSo_9 ?_
  refine hr_aload_n X dX5_isSo_10 rfl ?_
  refine hr_gR X 6 hl_t0 hs_t0 lg_RX5_48 rfl dX5_isSo_11 (fun q3 hl_q3 hs_q3 => ?_)
  refine hr_iload_n X dX5_isSo_14 rfl ?_
  refine hr_iald X hl_q3 hs_q3 dX5_isSo_15 (fun r4 _ _ => ?_)
  refine hr_icmp_ne X 23 dX5_isSo_16 rfl ?_ ?_
  · refine hr_iconst X 0 dX5_isSo_23 kc_0 ?_
    exact hr_zretC X (Or.inl rfl) dX5_isSo_24
  · refine hr_iconst X 1 dX5_isSo_19 kc_1 ?_
    refine hr_goto X 24 dX5_isSo_20 rfl ?_
    exact hr_zretC X (Or.inr rfl) dX5_isSo_24
set_option maxRecDepth 100000 in
set_option maxHeartbeats 4000000 in
theorem w_X5_canBeOf_145 {g : hf_G} {p : Program} {l : Launch} {ev : Env} {s : State} {m : MethodId} {args : Array Value} {below : List Frame} {meth : Method} {c : Code} (X : hf_X g p s m args meth c cX5_canBeOf 12 RX5 (some .boolean))  {t0 : Nat} (hl_t0 : t0 < 69) (hs_t0 : hf_shp t0 = 5) (v1 : Int32) (v2 : Int32) (v3 : Int32) (v7 : Int32) (k23 : Int32 → Int32 → Int32 → Int32 → Int32 → hf_M → Option (Int32 × hf_M)) (hk23 : ∀ (v4 : Int32) (v5 : Int32) (v6 : Int32) (v8 : Int32) (v9 : Int32) (M : hf_M), hf_W g p l ev (2) s m args below meth c 12 (hf_QI g below args s) M 23 [some (.ref (hf_a g t0)), some (.int v1), some (.int v2), some (.int v3), some (.int v4), some (.int v5), some (.int v6), some (.int v7), some (.int v8), some (.int v9), none, none] [] (k23 v4 v5 v6 v8 v9 M))  (v4 : Int32) (v5 : Int32) (v6 : Int32) (v9 : Int32) (v10 : Int32) (v11 : Int32) (M : hf_M) : hf_W g p l ev (2) s m args below meth c 12 (hf_QI g below args s) M 145 [some (.ref (hf_a g t0)), some (.int v1), some (.int v2), some (.int v3), some (.int v4), some (.int v5), some (.int v6), some (.int v7), none, some (.int v9), some (.int v10), some (.int v11)] [] (s_X5_canBeOf_145 k23 t0 v1 v2 v3 v4 v5 v6 v7 v9 v10 v11 M) := by
  unfold s_X5_canBeOf_145
  refine hr_iload X dX5_canBeOf_145 rfl ?_
  refine hr_iconst X 2 dX5_canBeOf_147 kc_2 ?_
  refine hr_irem X dX5_canBeOf_148 (by decide) ?_
  refine hr_if_ne X 170 dX5_canBeOf_149 rfl ?_ ?_
  · refine hr_iconst X (-1) dX5_canBeOf_170 kc_m1 ?_
    refine hr_istore X dX5_canBeOf_171 (by decide) rfl ?_
    refine hr_iinc X (v4 + 1) dX5_canBeOf_173 rfl (by rw [kc_1]) (by decide) rfl ?_
    refine hr_iinc X (v9 + 1) dX5_canBeOf_176 rfl (by rw [kc_1]) (by decide) rfl ?_
    refine hr_goto X 23 dX5_canBeOf_179 rfl ?_
    exact hr_wk (hs_some (hs_some (hs_some (hs_some (hs_some (hs_some (hs_some (hs_some (hs_some (hs_some (hs_none (hs_none (hs_nil))))))))))))) (hk23 (v4 + 1) v5 v6 (-1) (v9 + 1) M)
  · refine hr_iload X dX5_canBeOf_152 rfl ?_
    refine hr_if_eq X 170 dX5_canBeOf_154 rfl ?_ ?_
    · refine hr_iconst X (-1) dX5_canBeOf_170 kc_m1 ?_
      refine hr_istore X dX5_canBeOf_171 (by decide) rfl ?_
      refine hr_iinc X (v4 + 1) dX5_canBeOf_173 rfl (by rw [kc_1]) (by decide) rfl ?_
      refine hr_iinc X (v9 + 1) dX5_canBeOf_176 rfl (by rw [kc_1]) (by decide) rfl ?_
      refine hr_goto X 23 dX5_canBeOf_179 rfl ?_
      exact hr_wk (hs_some (hs_some (hs_some (hs_some (hs_some (hs_some (hs_some (hs_some (hs_some (hs_some (hs_none (hs_none (hs_nil))))))))))))) (hk23 (v4 + 1) v5 v6 (-1) (v9 + 1) M)
    · refine hr_iload X dX5_canBeOf_157 rfl ?_
      refine hr_if_eq X 166 dX5_canBeOf_159 rfl ?_ ?_
      · refine hr_iconst X 0 dX5_canBeOf_166 kc_0 ?_
        refine hr_goto X 171 dX5_canBeOf_167 rfl ?_
        refine hr_istore X dX5_canBeOf_171 (by decide) rfl ?_
        refine hr_iinc X (v4 + 1) dX5_canBeOf_173 rfl (by rw [kc_1]) (by decide) rfl ?_
        refine hr_iinc X (v9 + 1) dX5_canBeOf_176 rfl (by rw [kc_1]) (by decide) rfl ?_
        refine hr_goto X 23 dX5_canBeOf_179 rfl ?_
        exact hr_wk (hs_some (hs_some (hs_some (hs_some (hs_some (hs_some (hs_some (hs_some (hs_some (hs_some (hs_none (hs_none (hs_nil))))))))))))) (hk23 (v4 + 1) v5 v6 0 (v9 + 1) M)
      · refine hr_iconst X 1 dX5_canBeOf_162 kc_1 ?_
        refine hr_goto X 171 dX5_canBeOf_163 rfl ?_
        refine hr_istore X dX5_canBeOf_171 (by decide) rfl ?_
        refine hr_iinc X (v4 + 1) dX5_canBeOf_173 rfl (by rw [kc_1]) (by decide) rfl ?_
        refine hr_iinc X (v9 + 1) dX5_canBeOf_176 rfl (by rw [kc_1]) (by decide) rfl ?_
        refine hr_goto X 23 dX5_canBeOf_179 rfl ?_
        exact hr_wk (hs_some (hs_some (hs_some (hs_some (hs_some (hs_some (hs_some (hs_some (hs_some (hs_some (hs_none (hs_none (hs_nil))))))))))))) (hk23 (v4 + 1) v5 v6 1 (v9 + 1) M)
set_option maxRecDepth 100000 in
set_option maxHeartbeats 4000000 in
theorem w_X5_canBeOf_140 {g : hf_G} {p : Program} {l : Launch} {ev : Env} {s : State} {m : MethodId} {args : Array Value} {below : List Frame} {meth : Method} {c : Code} (X : hf_X g p s m args meth c cX5_canBeOf 12 RX5 (some .boolean))  {t0 : Nat} (hl_t0 : t0 < 69) (hs_t0 : hf_shp t0 = 5) (v1 : Int32) (v2 : Int32) (v3 : Int32) (v7 : Int32) (k23 : Int32 → Int32 → Int32 → Int32 → Int32 → hf_M → Option (Int32 × hf_M)) (hk23 : ∀ (v4 : Int32) (v5 : Int32) (v6 : Int32) (v8 : Int32) (v9 : Int32) (M : hf_M), hf_W g p l ev (2) s m args below meth c 12 (hf_QI g below args s) M 23 [some (.ref (hf_a g t0)), some (.int v1), some (.int v2), some (.int v3), some (.int v4), some (.int v5), some (.int v6), some (.int v7), some (.int v8), some (.int v9), none, none] [] (k23 v4 v5 v6 v8 v9 M))  (v4 : Int32) (v5 : Int32) (v6 : Int32) (v9 : Int32) (v10 : Int32) (v11 : Int32) (w0 : Int32) (w1 : Int32) (M : hf_M) : hf_W g p l ev (2) s m args below meth c 12 (hf_QI g below args s) M 140 [some (.ref (hf_a g t0)), some (.int v1), some (.int v2), some (.int v3), some (.int v4), some (.int v5), some (.int v6), some (.int v7), none, some (.int v9), some (.int v10), some (.int v11)] [.int w1, .int w0] (s_X5_canBeOf_140 k23 t0 v1 v2 v3 v4 v5 v6 v7 v9 v10 v11 w0 w1 M) := by
  unfold s_X5_canBeOf_140
  refine hr_icmp_ne X 145 dX5_canBeOf_140 rfl ?_ ?_
  · exact hr_wk (hs_some (hs_some (hs_some (hs_some (hs_some (hs_some (hs_some (hs_some (hs_none (hs_some (hs_some (hs_some (hs_nil))))))))))))) (w_X5_canBeOf_145 X hl_t0 hs_t0 v1 v2 v3 v7 k23 hk23 v4 v5 v6 v9 v10 v11 M)
  · refine hr_iconst X 0 dX5_canBeOf_143 kc_0 ?_
    exact hr_zretC X (Or.inl rfl) dX5_canBeOf_144
set_option maxRecDepth 100000 in
set_option maxHeartbeats 4000000 in
theorem w_X5_canBeOf_113 {g : hf_G} {p : Program} {l : Launch} {ev : Env} {s : State} {m : MethodId} {args : Array Value} {below : List Frame} {meth : Method} {c : Code} (X : hf_X g p s m args meth c cX5_canBeOf 12 RX5 (some .boolean))  {t0 : Nat} (hl_t0 : t0 < 69) (hs_t0 : hf_shp t0 = 5) (v1 : Int32) (v2 : Int32) (v3 : Int32) (v7 : Int32) (k23 : Int32 → Int32 → Int32 → Int32 → Int32 → hf_M → Option (Int32 × hf_M)) (hk23 : ∀ (v4 : Int32) (v5 : Int32) (v6 : Int32) (v8 : Int32) (v9 : Int32) (M : hf_M), hf_W g p l ev (2) s m args below meth c 12 (hf_QI g below args s) M 23 [some (.ref (hf_a g t0)), some (.int v1), some (.int v2), some (.int v3), some (.int v4), some (.int v5), some (.int v6), some (.int v7), some (.int v8), some (.int v9), none, none] [] (k23 v4 v5 v6 v8 v9 M))  (v4 : Int32) (v5 : Int32) (v6 : Int32) (v8 : Int32) (v9 : Int32) (v10 : Int32) (v11 : Int32) (M : hf_M) : hf_W g p l ev (2) s m args below meth c 12 (hf_QI g below args s) M 113 [some (.ref (hf_a g t0)), some (.int v1), some (.int v2), some (.int v3), some (.int v4), some (.int v5), some (.int v6), some (.int v7), some (.int v8), some (.int v9), some (.int v10), some (.int v11)] [] (s_X5_canBeOf_113 k23 t0 v1 v2 v3 v4 v5 v6 v7 v8 v9 v10 v11 M) := by
  unfold s_X5_canBeOf_113
  refine hr_iload X dX5_canBeOf_113 rfl ?_
  refine hr_bipush X 6 dX5_canBeOf_115 kb_6 ?_
  refine hr_icmp_ne X 145 dX5_canBeOf_117 rfl ?_ ?_
  · exact hr_wk (hs_some (hs_some (hs_some (hs_some (hs_some (hs_some (hs_some (hs_some (hs_none (hs_some (hs_some (hs_some (hs_nil))))))))))))) (w_X5_canBeOf_145 X hl_t0 hs_t0 v1 v2 v3 v7 k23 hk23 v4 v5 v6 v9 v10 v11 M)
  · refine hr_iload X dX5_canBeOf_120 rfl ?_
    refine hr_iconst X 2 dX5_canBeOf_122 kc_2 ?_
    refine hr_irem X dX5_canBeOf_123 (by decide) ?_
    refine hr_iconst X 1 dX5_canBeOf_124 kc_1 ?_
    refine hr_icmp_ne X 145 dX5_canBeOf_125 rfl ?_ ?_
    · exact hr_wk (hs_some (hs_some (hs_some (hs_some (hs_some (hs_some (hs_some (hs_some (hs_none (hs_some (hs_some (hs_some (hs_nil))))))))))))) (w_X5_canBeOf_145 X hl_t0 hs_t0 v1 v2 v3 v7 k23 hk23 v4 v5 v6 v9 v10 v11 M)
    · refine hr_iload X dX5_canBeOf_128 rfl ?_
      refine hr_iload X dX5_canBeOf_130 rfl ?_
      refine hr_if_eq X 139 dX5_canBeOf_132 rfl ?_ ?_
      · refine hr_iconst X 0 dX5_canBeOf_139 kc_0 ?_
        exact hr_wk (hs_some (hs_some (hs_some (hs_some (hs_some (hs_some (hs_some (hs_some (hs_none (hs_some (hs_some (hs_some (hs_nil))))))))))))) (w_X5_canBeOf_140 X hl_t0 hs_t0 v1 v2 v3 v7 k23 hk23 v4 v5 v6 v9 v10 v11 v8 0 M)
      · refine hr_iconst X 1 dX5_canBeOf_135 kc_1 ?_
        refine hr_goto X 140 dX5_canBeOf_136 rfl ?_
        exact hr_wk (hs_some (hs_some (hs_some (hs_some (hs_some (hs_some (hs_some (hs_some (hs_none (hs_some (hs_some (hs_some (hs_nil))))))))))))) (w_X5_canBeOf_140 X hl_t0 hs_t0 v1 v2 v3 v7 k23 hk23 v4 v5 v6 v9 v10 v11 v8 1 M)
set_option maxRecDepth 100000 in
set_option maxHeartbeats 4000000 in
theorem w_X5_canBeOf_91 {g : hf_G} {p : Program} {l : Launch} {ev : Env} {s : State} {m : MethodId} {args : Array Value} {below : List Frame} {meth : Method} {c : Code} (X : hf_X g p s m args meth c cX5_canBeOf 12 RX5 (some .boolean))  {t0 : Nat} (hl_t0 : t0 < 69) (hs_t0 : hf_shp t0 = 5) (v1 : Int32) (v2 : Int32) (v3 : Int32) (v7 : Int32) (k23 : Int32 → Int32 → Int32 → Int32 → Int32 → hf_M → Option (Int32 × hf_M)) (hk23 : ∀ (v4 : Int32) (v5 : Int32) (v6 : Int32) (v8 : Int32) (v9 : Int32) (M : hf_M), hf_W g p l ev (2) s m args below meth c 12 (hf_QI g below args s) M 23 [some (.ref (hf_a g t0)), some (.int v1), some (.int v2), some (.int v3), some (.int v4), some (.int v5), some (.int v6), some (.int v7), some (.int v8), some (.int v9), none, none] [] (k23 v4 v5 v6 v8 v9 M))  (v4 : Int32) (v5 : Int32) (v6 : Int32) (v8 : Int32) (v9 : Int32) (v10 : Int32) (v11 : Int32) (M : hf_M) : hf_W g p l ev (2) s m args below meth c 12 (hf_QI g below args s) M 91 [some (.ref (hf_a g t0)), some (.int v1), some (.int v2), some (.int v3), some (.int v4), some (.int v5), some (.int v6), some (.int v7), some (.int v8), some (.int v9), some (.int v10), some (.int v11)] [] (s_X5_canBeOf_91 k23 t0 v1 v2 v3 v4 v5 v6 v7 v8 v9 v10 v11 M) := by
  unfold s_X5_canBeOf_91
  refine hr_aload_n X dX5_canBeOf_91 rfl ?_
  refine hr_iload_n X dX5_canBeOf_92 rfl ?_
  refine hr_cvI X [.int v1] [] (c_X5_isFree hl_t0 hs_t0 v1 M) lk_RX5_127 rfl rfl rfl hl_t0 hs_t0 ⟨by decide, rfl⟩ (by decide) (Nat.le_of_ble_eq_true rfl) dX5_canBeOf_93 (fun r1 M2 _ => ?_)
  refine hr_if_ne X 113 dX5_canBeOf_96 rfl ?_ ?_
  · exact hr_wk (hs_some (hs_some (hs_some (hs_some (hs_some (hs_some (hs_some (hs_some (hs_some (hs_some (hs_some (hs_some (hs_nil))))))))))))) (w_X5_canBeOf_113 X hl_t0 hs_t0 v1 v2 v3 v7 k23 hk23 v4 v5 v6 v8 v9 v10 v11 M2)
  · refine hr_iload X dX5_canBeOf_99 rfl ?_
    refine hr_aload_n X dX5_canBeOf_101 rfl ?_
    refine hr_iload_n X dX5_canBeOf_102 rfl ?_
    refine hr_iload X dX5_canBeOf_103 rfl ?_
    refine hr_cvI X [.int v1, .int v4] [.int v11] (c_X5_isTrue hl_t0 hs_t0 v1 v4 M2) lk_RX5_109 rfl rfl rfl hl_t0 hs_t0 ⟨by decide, rfl⟩ (by decide) (Nat.le_of_ble_eq_true rfl) dX5_canBeOf_105 (fun r3 M4 _ => ?_)
    refine hr_icmp_eq X 113 dX5_canBeOf_108 rfl ?_ ?_
    · exact hr_wk (hs_some (hs_some (hs_some (hs_some (hs_some (hs_some (hs_some (hs_some (hs_some (hs_some (hs_some (hs_some (hs_nil))))))))))))) (w_X5_canBeOf_113 X hl_t0 hs_t0 v1 v2 v3 v7 k23 hk23 v4 v5 v6 v8 v9 v10 v11 M4)
    · refine hr_iconst X 0 dX5_canBeOf_111 kc_0 ?_
      exact hr_zretC X (Or.inl rfl) dX5_canBeOf_112
set_option maxRecDepth 100000 in
set_option maxHeartbeats 4000000 in
theorem w_X5_canBeOf_61 {g : hf_G} {p : Program} {l : Launch} {ev : Env} {s : State} {m : MethodId} {args : Array Value} {below : List Frame} {meth : Method} {c : Code} (X : hf_X g p s m args meth c cX5_canBeOf 12 RX5 (some .boolean))  {t0 : Nat} (hl_t0 : t0 < 69) (hs_t0 : hf_shp t0 = 5) (v1 : Int32) (v2 : Int32) (v3 : Int32) (v7 : Int32) (k23 : Int32 → Int32 → Int32 → Int32 → Int32 → hf_M → Option (Int32 × hf_M)) (hk23 : ∀ (v4 : Int32) (v5 : Int32) (v6 : Int32) (v8 : Int32) (v9 : Int32) (M : hf_M), hf_W g p l ev (2) s m args below meth c 12 (hf_QI g below args s) M 23 [some (.ref (hf_a g t0)), some (.int v1), some (.int v2), some (.int v3), some (.int v4), some (.int v5), some (.int v6), some (.int v7), some (.int v8), some (.int v9), none, none] [] (k23 v4 v5 v6 v8 v9 M))  (v4 : Int32) (v5 : Int32) (v6 : Int32) (v8 : Int32) (v9 : Int32) (w0 : Int32) (M : hf_M) : hf_W g p l ev (2) s m args below meth c 12 (hf_QI g below args s) M 61 [some (.ref (hf_a g t0)), some (.int v1), some (.int v2), some (.int v3), some (.int v4), some (.int v5), some (.int v6), some (.int v7), some (.int v8), some (.int v9), none, none] [.int w0] (s_X5_canBeOf_61 k23 t0 v1 v2 v3 v4 v5 v6 v7 v8 v9 w0 M) := by
  unfold s_X5_canBeOf_61
  refine hr_istore X dX5_canBeOf_61 (by decide) rfl ?_
  refine hr_aload_n X dX5_canBeOf_63 rfl ?_
  refine hr_iload X dX5_canBeOf_64 rfl ?_
  refine hr_iload_n X dX5_canBeOf_66 rfl ?_
  refine hr_cvI X [.int v9, .int v2] [] (c_X5_isSo hl_t0 hs_t0 v9 v2 M) lk_RX5_124 rfl rfl rfl hl_t0 hs_t0 ⟨by decide, rfl⟩ (by decide) (Nat.le_of_ble_eq_true rfl) dX5_canBeOf_67 (fun r1 M2 _ => ?_)
  refine hr_istore X dX5_canBeOf_70 (by decide) rfl ?_
  refine hr_iload X dX5_canBeOf_72 rfl ?_
  refine hr_if_eq X 145 dX5_canBeOf_74 rfl ?_ ?_
  · exact hr_wk (hs_some (hs_some (hs_some (hs_some (hs_some (hs_some (hs_some (hs_some (hs_none (hs_some (hs_some (hs_some (hs_nil))))))))))))) (w_X5_canBeOf_145 X hl_t0 hs_t0 v1 v2 v3 v7 k23 hk23 v4 v5 v6 v9 w0 r1 M2)
  · refine hr_iload X dX5_canBeOf_77 rfl ?_
    refine hr_if_eq X 88 dX5_canBeOf_79 rfl ?_ ?_
    · refine hr_iinc X (v6 + 1) dX5_canBeOf_88 rfl (by rw [kc_1]) (by decide) rfl ?_
      exact hr_wk (hs_some (hs_some (hs_some (hs_some (hs_some (hs_some (hs_some (hs_some (hs_some (hs_some (hs_some (hs_some (hs_nil))))))))))))) (w_X5_canBeOf_91 X hl_t0 hs_t0 v1 v2 v3 v7 k23 hk23 v4 v5 (v6 + 1) v8 v9 w0 r1 M2)
    · refine hr_iinc X (v5 + 1) dX5_canBeOf_82 rfl (by rw [kc_1]) (by decide) rfl ?_
      refine hr_goto X 91 dX5_canBeOf_85 rfl ?_
      exact hr_wk (hs_some (hs_some (hs_some (hs_some (hs_some (hs_some (hs_some (hs_some (hs_some (hs_some (hs_some (hs_some (hs_nil))))))))))))) (w_X5_canBeOf_91 X hl_t0 hs_t0 v1 v2 v3 v7 k23 hk23 v4 (v5 + 1) v6 v8 v9 w0 r1 M2)
set_option maxRecDepth 100000 in
set_option maxHeartbeats 4000000 in
theorem w_X5_canBeOf_23 {g : hf_G} {p : Program} {l : Launch} {ev : Env} {s : State} {m : MethodId} {args : Array Value} {below : List Frame} {meth : Method} {c : Code} (X : hf_X g p s m args meth c cX5_canBeOf 12 RX5 (some .boolean))    {t0 : Nat} (hl_t0 : t0 < 69) (hs_t0 : hf_shp t0 = 5) (v1 : Int32) (v2 : Int32) (v3 : Int32) (v7 : Int32) : ∀ (n : Nat) (v4 : Int32) (v5 : Int32) (v6 : Int32) (v8 : Int32) (v9 : Int32) (M : hf_M), hf_W g p l ev (2) s m args below meth c 12 (hf_QI g below args s) M 23 [some (.ref (hf_a g t0)), some (.int v1), some (.int v2), some (.int v3), some (.int v4), some (.int v5), some (.int v6), some (.int v7), some (.int v8), some (.int v9), none, none] [] (s_X5_canBeOf_23 t0 v1 v2 v3 v7 n v4 v5 v6 v8 v9 M) := by
  intro n
  induction n with
  | zero =>
    intros
    exact hr_none
  | succ n ih =>
    intro v4 v5 v6 v8 v9 M
    rw [s_X5_canBeOf_23]
    refine hr_iload X dX5_canBeOf_23 rfl ?_
    refine hr_aload_n X dX5_canBeOf_25 rfl ?_
    refine hr_gI X hl_t0 hs_t0 lg_RX5_118 dX5_canBeOf_26 ?_
    refine hr_icmp_ge X 182 dX5_canBeOf_29 rfl ?_ ?_
    · refine hr_iload X dX5_canBeOf_182 rfl ?_
      refine hr_if_ne X 210 dX5_canBeOf_184 rfl ?_ ?_
      · refine hr_iconst X 1 dX5_canBeOf_210 kc_1 ?_
        refine hr_goto X 215 dX5_canBeOf_211 rfl ?_
        exact hr_zretC X (Or.inr rfl) dX5_canBeOf_215
      · refine hr_iload X dX5_canBeOf_187 rfl ?_
        refine hr_aload_n X dX5_canBeOf_189 rfl ?_
        refine hr_gI X hl_t0 hs_t0 lg_RX5_13 dX5_canBeOf_190 ?_
        refine hr_icmp_gt X 214 dX5_canBeOf_193 rfl ?_ ?_
        · refine hr_iconst X 0 dX5_canBeOf_214 kc_0 ?_
          exact hr_zretC X (Or.inl rfl) dX5_canBeOf_215
        · refine hr_iload X dX5_canBeOf_196 rfl ?_
          refine hr_aload_n X dX5_canBeOf_198 rfl ?_
          refine hr_gI X hl_t0 hs_t0 lg_RX5_7 dX5_canBeOf_199 ?_
          refine hr_aload_n X dX5_canBeOf_202 rfl ?_
          refine hr_gI X hl_t0 hs_t0 lg_RX5_13 dX5_canBeOf_203 ?_
          refine hr_isub X dX5_canBeOf_206 ?_
          refine hr_icmp_gt X 214 dX5_canBeOf_207 rfl ?_ ?_
          · refine hr_iconst X 0 dX5_canBeOf_214 kc_0 ?_
            exact hr_zretC X (Or.inl rfl) dX5_canBeOf_215
          · refine hr_iconst X 1 dX5_canBeOf_210 kc_1 ?_
            refine hr_goto X 215 dX5_canBeOf_211 rfl ?_
            exact hr_zretC X (Or.inr rfl) dX5_canBeOf_215
    · refine hr_aload_n X dX5_canBeOf_32 rfl ?_
      refine hr_gR X 6 hl_t0 hs_t0 lg_RX5_42 rfl dX5_canBeOf_33 (fun q1 hl_q1 hs_q1 => ?_)
      refine hr_iload X dX5_canBeOf_36 rfl ?_
      refine hr_iald X hl_q1 hs_q1 dX5_canBeOf_38 (fun r2 _ _ => ?_)
      refine hr_iload_n X dX5_canBeOf_39 rfl ?_
      refine hr_icmp_eq X 46 dX5_canBeOf_40 rfl ?_ ?_
      · refine hr_iload_n X dX5_canBeOf_46 rfl ?_
        refine hr_iload X dX5_canBeOf_47 rfl ?_
        refine hr_ishr X dX5_canBeOf_49 ?_
        refine hr_iconst X 1 dX5_canBeOf_50 kc_1 ?_
        refine hr_iand X dX5_canBeOf_51 ?_
        refine hr_iconst X 1 dX5_canBeOf_52 kc_1 ?_
        refine hr_icmp_ne X 60 dX5_canBeOf_53 rfl ?_ ?_
        · refine hr_iconst X 0 dX5_canBeOf_60 kc_0 ?_
          exact hr_wk (hs_some (hs_some (hs_some (hs_some (hs_some (hs_some (hs_some (hs_some (hs_some (hs_some (hs_none (hs_none (hs_nil))))))))))))) (w_X5_canBeOf_61 X hl_t0 hs_t0 v1 v2 v3 v7 (s_X5_canBeOf_23 t0 v1 v2 v3 v7 n) ih v4 v5 v6 v8 v9 0 M)
        · refine hr_iconst X 1 dX5_canBeOf_56 kc_1 ?_
          refine hr_goto X 61 dX5_canBeOf_57 rfl ?_
          exact hr_wk (hs_some (hs_some (hs_some (hs_some (hs_some (hs_some (hs_some (hs_some (hs_some (hs_some (hs_none (hs_none (hs_nil))))))))))))) (w_X5_canBeOf_61 X hl_t0 hs_t0 v1 v2 v3 v7 (s_X5_canBeOf_23 t0 v1 v2 v3 v7 n) ih v4 v5 v6 v8 v9 1 M)
      · refine hr_goto X 176 dX5_canBeOf_43 rfl ?_
        refine hr_iinc X (v9 + 1) dX5_canBeOf_176 rfl (by rw [kc_1]) (by decide) rfl ?_
        refine hr_goto X 23 dX5_canBeOf_179 rfl ?_
        exact hr_wk (hs_some (hs_some (hs_some (hs_some (hs_some (hs_some (hs_some (hs_some (hs_some (hs_some (hs_none (hs_none (hs_nil))))))))))))) (ih v4 v5 v6 v8 (v9 + 1) M)
set_option maxRecDepth 100000 in
set_option maxHeartbeats 4000000 in
theorem c_X5_canBeOf  {t0 : Nat} (hl_t0 : t0 < 69) (hs_t0 : hf_shp t0 = 5) (a1 : Int32) (a2 : Int32) (a3 : Int32) (M : hf_M) : hf_CI yX5_canBeOf cX5_canBeOf 12 (some .boolean) (2) (fun g => [.ref (hf_a g t0), .int a1, .int a2, .int a3]) M (s_X5_canBeOf t0 a1 a2 a3 M) := by
  refine hf_metI (by decide +kernel) (fun g => Nat.le_of_ble_eq_true rfl) (fun g p l ev s m args below meth c X => ?_)
  have X : hf_X g p s m args meth c cX5_canBeOf 12 RX5 (some .boolean) := X
  show hf_W g p l ev (2) s m args below meth c 12 (hf_QI g below args s) M 0 [some (.ref (hf_a g t0)), some (.int a1), some (.int a2), some (.int a3), none, none, none, none, none, none, none, none] [] (s_X5_canBeOf t0 a1 a2 a3 M)
  unfold s_X5_canBeOf
  refine hr_iconst X 0 dX5_canBeOf_0 kc_0 ?_
  refine hr_istore X dX5_canBeOf_1 (by decide) rfl ?_
  refine hr_iconst X 0 dX5_canBeOf_3 kc_0 ?_
  refine hr_istore X dX5_canBeOf_4 (by decide) rfl ?_
  refine hr_iconst X 0 dX5_canBeOf_6 kc_0 ?_
  refine hr_istore X dX5_canBeOf_7 (by decide) rfl ?_
  refine hr_aload_n X dX5_canBeOf_9 rfl ?_
  refine hr_gR X 6 hl_t0 hs_t0 lg_RX5_36 rfl dX5_canBeOf_10 (fun q1 hl_q1 hs_q1 => ?_)
  refine hr_iload_n X dX5_canBeOf_13 rfl ?_
  refine hr_iald X hl_q1 hs_q1 dX5_canBeOf_14 (fun r2 _ _ => ?_)
  refine hr_istore X dX5_canBeOf_15 (by decide) rfl ?_
  refine hr_iconst X (-1) dX5_canBeOf_17 kc_m1 ?_
  refine hr_istore X dX5_canBeOf_18 (by decide) rfl ?_
  refine hr_iconst X 0 dX5_canBeOf_20 kc_0 ?_
  refine hr_istore X dX5_canBeOf_21 (by decide) rfl ?_
  exact hr_wk (hs_some (hs_some (hs_some (hs_some (hs_some (hs_some (hs_some (hs_some (hs_some (hs_some (hs_none (hs_none (hs_nil))))))))))))) (w_X5_canBeOf_23 X hl_t0 hs_t0 a1 a2 a3 r2 2000 0 0 0 (-1) 0 M)
set_option maxRecDepth 100000 in
set_option maxHeartbeats 4000000 in
theorem w_X5_worldsOf_39 {g : hf_G} {p : Program} {l : Launch} {ev : Env} {s : State} {m : MethodId} {args : Array Value} {below : List Frame} {meth : Method} {c : Code} (X : hf_X g p s m args meth c cX5_worldsOf 8 RX5 (some .long))  {t0 : Nat} (hl_t0 : t0 < 69) (hs_t0 : hf_shp t0 = 5) (v1 : Int32) (v2 : Int32) (k5 : Int64 → Int32 → hf_M → Option (Int64 × hf_M)) (hk5 : ∀ (v3 : Int64) (v5 : Int32) (M : hf_M), hf_W g p l ev (3) s m args below meth c 8 (hf_QJ g below args s) M 5 [some (.ref (hf_a g t0)), some (.int v1), some (.int v2), some (.long v3), none, some (.int v5), none, none] [] (k5 v3 v5 M)) (v3 : Int64) (v5 : Int32) : ∀ (n : Nat) (v6 : Int32) (v7 : Int32) (M : hf_M), hf_W g p l ev (3) s m args below meth c 8 (hf_QJ g below args s) M 39 [some (.ref (hf_a g t0)), some (.int v1), some (.int v2), some (.long v3), none, some (.int v5), some (.int v6), some (.int v7)] [] (s_X5_worldsOf_39 k5 t0 v1 v2 v3 v5 n v6 v7 M) := by
  intro n
  induction n with
  | zero =>
    intros
    exact hr_none
  | succ n ih =>
    intro v6 v7 M
    rw [s_X5_worldsOf_39]
    refine hr_iload X dX5_worldsOf_39 rfl ?_
    refine hr_aload_n X dX5_worldsOf_41 rfl ?_
    refine hr_gI X hl_t0 hs_t0 lg_RX5_92 dX5_worldsOf_42 ?_
    refine hr_icmp_ge X 84 dX5_worldsOf_45 rfl ?_ ?_
    · refine hr_iload X dX5_worldsOf_84 rfl ?_
      refine hr_if_eq X 96 dX5_worldsOf_86 rfl ?_ ?_
      · refine hr_iinc X (v5 + 1) dX5_worldsOf_96 rfl (by rw [kc_1]) (by decide) rfl ?_
        refine hr_goto X 5 dX5_worldsOf_99 rfl ?_
        exact hr_wk (hs_some (hs_some (hs_some (hs_some (hs_none (hs_some (hs_none (hs_none (hs_nil))))))))) (hk5 v3 (v5 + 1) M)
      · refine hr_lload_n X dX5_worldsOf_89 rfl ?_
        refine hr_lconst X 1 dX5_worldsOf_90 rfl ?_
        refine hr_iload X dX5_worldsOf_91 rfl ?_
        refine hr_lshl X dX5_worldsOf_93 ?_
        refine hr_lor X dX5_worldsOf_94 ?_
        refine hr_lstore_n X dX5_worldsOf_95 (by decide) rfl ?_
        refine hr_iinc X (v5 + 1) dX5_worldsOf_96 rfl (by rw [kc_1]) (by decide) rfl ?_
        refine hr_goto X 5 dX5_worldsOf_99 rfl ?_
        exact hr_wk (hs_some (hs_some (hs_some (hs_some (hs_none (hs_some (hs_none (hs_none (hs_nil))))))))) (hk5 (v3 ||| (hn_lshl 1 v5)) (v5 + 1) M)
    · refine hr_iload X dX5_worldsOf_48 rfl ?_
      refine hr_if_eq X 84 dX5_worldsOf_50 rfl ?_ ?_
      · refine hr_iload X dX5_worldsOf_84 rfl ?_
        refine hr_if_eq X 96 dX5_worldsOf_86 rfl ?_ ?_
        · refine hr_iinc X (v5 + 1) dX5_worldsOf_96 rfl (by rw [kc_1]) (by decide) rfl ?_
          refine hr_goto X 5 dX5_worldsOf_99 rfl ?_
          exact hr_wk (hs_some (hs_some (hs_some (hs_some (hs_none (hs_some (hs_none (hs_none (hs_nil))))))))) (hk5 v3 (v5 + 1) M)
        · refine hr_lload_n X dX5_worldsOf_89 rfl ?_
          refine hr_lconst X 1 dX5_worldsOf_90 rfl ?_
          refine hr_iload X dX5_worldsOf_91 rfl ?_
          refine hr_lshl X dX5_worldsOf_93 ?_
          refine hr_lor X dX5_worldsOf_94 ?_
          refine hr_lstore_n X dX5_worldsOf_95 (by decide) rfl ?_
          refine hr_iinc X (v5 + 1) dX5_worldsOf_96 rfl (by rw [kc_1]) (by decide) rfl ?_
          refine hr_goto X 5 dX5_worldsOf_99 rfl ?_
          exact hr_wk (hs_some (hs_some (hs_some (hs_some (hs_none (hs_some (hs_none (hs_none (hs_nil))))))))) (hk5 (v3 ||| (hn_lshl 1 v5)) (v5 + 1) M)
      · refine hr_iload X dX5_worldsOf_53 rfl ?_
        refine hr_iload_n X dX5_worldsOf_55 rfl ?_
        refine hr_icmp_eq X 71 dX5_worldsOf_56 rfl ?_ ?_
        · refine hr_iconst X 1 dX5_worldsOf_71 kc_1 ?_
          refine hr_goto X 76 dX5_worldsOf_72 rfl ?_
          refine hr_istore X dX5_worldsOf_76 (by decide) rfl ?_
          refine hr_iinc X (v7 + 1) dX5_worldsOf_78 rfl (by rw [kc_1]) (by decide) rfl ?_
          refine hr_goto X 39 dX5_worldsOf_81 rfl ?_
          exact hr_wk (hs_some (hs_some (hs_some (hs_some (hs_none (hs_some (hs_some (hs_some (hs_nil))))))))) (ih 1 (v7 + 1) M)
        · refine hr_aload_n X dX5_worldsOf_59 rfl ?_
          refine hr_iload X dX5_worldsOf_60 rfl ?_
          refine hr_iload X dX5_worldsOf_62 rfl ?_
          refine hr_iload_n X dX5_worldsOf_64 rfl ?_
          refine hr_cvI X [.int v7, .int v5, .int v1] [] (c_X5_canBeOf hl_t0 hs_t0 v7 v5 v1 M) lk_RX5_130 rfl rfl rfl hl_t0 hs_t0 ⟨by decide, rfl⟩ (by decide) (Nat.le_of_ble_eq_true rfl) dX5_worldsOf_65 (fun r1 M2 _ => ?_)
          refine hr_if_eq X 75 dX5_worldsOf_68 rfl ?_ ?_
          · refine hr_iconst X 0 dX5_worldsOf_75 kc_0 ?_
            refine hr_istore X dX5_worldsOf_76 (by decide) rfl ?_
            refine hr_iinc X (v7 + 1) dX5_worldsOf_78 rfl (by rw [kc_1]) (by decide) rfl ?_
            refine hr_goto X 39 dX5_worldsOf_81 rfl ?_
            exact hr_wk (hs_some (hs_some (hs_some (hs_some (hs_none (hs_some (hs_some (hs_some (hs_nil))))))))) (ih 0 (v7 + 1) M2)
          · refine hr_iconst X 1 dX5_worldsOf_71 kc_1 ?_
            refine hr_goto X 76 dX5_worldsOf_72 rfl ?_
            refine hr_istore X dX5_worldsOf_76 (by decide) rfl ?_
            refine hr_iinc X (v7 + 1) dX5_worldsOf_78 rfl (by rw [kc_1]) (by decide) rfl ?_
            refine hr_goto X 39 dX5_worldsOf_81 rfl ?_
            exact hr_wk (hs_some (hs_some (hs_some (hs_some (hs_none (hs_some (hs_some (hs_some (hs_nil))))))))) (ih 1 (v7 + 1) M2)
set_option maxRecDepth 100000 in
set_option maxHeartbeats 4000000 in
theorem w_X5_worldsOf_5 {g : hf_G} {p : Program} {l : Launch} {ev : Env} {s : State} {m : MethodId} {args : Array Value} {below : List Frame} {meth : Method} {c : Code} (X : hf_X g p s m args meth c cX5_worldsOf 8 RX5 (some .long))    {t0 : Nat} (hl_t0 : t0 < 69) (hs_t0 : hf_shp t0 = 5) (v1 : Int32) (v2 : Int32) : ∀ (n : Nat) (v3 : Int64) (v5 : Int32) (M : hf_M), hf_W g p l ev (3) s m args below meth c 8 (hf_QJ g below args s) M 5 [some (.ref (hf_a g t0)), some (.int v1), some (.int v2), some (.long v3), none, some (.int v5), none, none] [] (s_X5_worldsOf_5 t0 v1 v2 n v3 v5 M) := by
  intro n
  induction n with
  | zero =>
    intros
    exact hr_none
  | succ n ih =>
    intro v3 v5 M
    rw [s_X5_worldsOf_5]
    refine hr_iload X dX5_worldsOf_5 rfl ?_
    refine hr_iconst X 1 dX5_worldsOf_7 kc_1 ?_
    refine hr_aload_n X dX5_worldsOf_8 rfl ?_
    refine hr_gI X hl_t0 hs_t0 lg_RX5_89 dX5_worldsOf_9 ?_
    refine hr_ishl X dX5_worldsOf_12 ?_
    refine hr_icmp_ge X 102 dX5_worldsOf_13 rfl ?_ ?_
    · refine hr_lload_n X dX5_worldsOf_102 rfl ?_
      exact hr_lret X dX5_worldsOf_103
    · refine hr_aload_n X dX5_worldsOf_16 rfl ?_
      refine hr_gL X hl_t0 hs_t0 lg_RX5_25 dX5_worldsOf_17 ?_
      refine hr_iload X dX5_worldsOf_20 rfl ?_
      refine hr_lshr X dX5_worldsOf_22 ?_
      refine hr_lconst X 1 dX5_worldsOf_23 rfl ?_
      refine hr_land X dX5_worldsOf_24 ?_
      refine hr_lconst X 0 dX5_worldsOf_25 rfl ?_
      refine hr_lcmp X dX5_worldsOf_26 ?_
      refine hr_if_ne X 33 dX5_worldsOf_27 rfl ?_ ?_
      · refine hr_iconst X 1 dX5_worldsOf_33 kc_1 ?_
        refine hr_istore X dX5_worldsOf_34 (by decide) rfl ?_
        refine hr_iconst X 0 dX5_worldsOf_36 kc_0 ?_
        refine hr_istore X dX5_worldsOf_37 (by decide) rfl ?_
        exact hr_wk (hs_some (hs_some (hs_some (hs_some (hs_none (hs_some (hs_some (hs_some (hs_nil))))))))) (w_X5_worldsOf_39 X hl_t0 hs_t0 v1 v2 (s_X5_worldsOf_5 t0 v1 v2 n) ih v3 v5 2000 1 0 M)
      · refine hr_goto X 96 dX5_worldsOf_30 rfl ?_
        refine hr_iinc X (v5 + 1) dX5_worldsOf_96 rfl (by rw [kc_1]) (by decide) rfl ?_
        refine hr_goto X 5 dX5_worldsOf_99 rfl ?_
        exact hr_wk (hs_some (hs_some (hs_some (hs_some (hs_none (hs_some (hs_none (hs_none (hs_nil))))))))) (ih v3 (v5 + 1) M)
set_option maxRecDepth 100000 in
set_option maxHeartbeats 4000000 in
theorem c_X5_worldsOf  {t0 : Nat} (hl_t0 : t0 < 69) (hs_t0 : hf_shp t0 = 5) (a1 : Int32) (a2 : Int32) (M : hf_M) : hf_CJ yX5_worldsOf cX5_worldsOf 8 (some .long) (3) (fun g => [.ref (hf_a g t0), .int a1, .int a2]) M (s_X5_worldsOf t0 a1 a2 M) := by
  refine hf_metJ (by decide +kernel) (fun g => Nat.le_of_ble_eq_true rfl) (fun g p l ev s m args below meth c X => ?_)
  have X : hf_X g p s m args meth c cX5_worldsOf 8 RX5 (some .long) := X
  show hf_W g p l ev (3) s m args below meth c 8 (hf_QJ g below args s) M 0 [some (.ref (hf_a g t0)), some (.int a1), some (.int a2), none, none, none, none, none] [] (s_X5_worldsOf t0 a1 a2 M)
  unfold s_X5_worldsOf
  refine hr_lconst X 0 dX5_worldsOf_0 rfl ?_
  refine hr_lstore_n X dX5_worldsOf_1 (by decide) rfl ?_
  refine hr_iconst X 0 dX5_worldsOf_2 kc_0 ?_
  refine hr_istore X dX5_worldsOf_3 (by decide) rfl ?_
  exact hr_wk (hs_some (hs_some (hs_some (hs_some (hs_none (hs_some (hs_none (hs_none (hs_nil))))))))) (w_X5_worldsOf_5 X hl_t0 hs_t0 a1 a2 2000 0 0 M)
set_option maxRecDepth 100000 in
set_option maxHeartbeats 4000000 in
theorem c_X5_worldsNow  {t0 : Nat} (hl_t0 : t0 < 69) (hs_t0 : hf_shp t0 = 5) (M : hf_M) : hf_CJ yX5_worldsNow cX5_worldsNow 1 (some .long) (4) (fun g => [.ref (hf_a g t0)]) M (s_X5_worldsNow t0 M) := by
  refine hf_metJ (by decide +kernel) (fun g => Nat.le_of_ble_eq_true rfl) (fun g p l ev s m args below meth c X => ?_)
  have X : hf_X g p s m args meth c cX5_worldsNow 1 RX5 (some .long) := X
  show hf_W g p l ev (4) s m args below meth c 1 (hf_QJ g below args s) M 0 [some (.ref (hf_a g t0))] [] (s_X5_worldsNow t0 M)
  unfold s_X5_worldsNow
  refine hr_aload_n X dX5_worldsNow_0 rfl ?_
  refine hr_iconst X (-1) dX5_worldsNow_1 kc_m1 ?_
  refine hr_iconst X (-1) dX5_worldsNow_2 kc_m1 ?_
  refine hr_cvJ X [.int (-1), .int (-1)] [] (c_X5_worldsOf hl_t0 hs_t0 (-1) (-1) M) lk_RX5_134 rfl rfl rfl hl_t0 hs_t0 ⟨by decide, rfl⟩ (by decide) (Nat.le_of_ble_eq_true rfl) dX5_worldsNow_3 (fun r1 M2 _ => ?_)
  exact hr_lret X dX5_worldsNow_6
set_option maxRecDepth 100000 in
set_option maxHeartbeats 4000000 in
theorem w_X5_count_5 {g : hf_G} {p : Program} {l : Launch} {ev : Env} {s : State} {m : MethodId} {args : Array Value} {below : List Frame} {meth : Method} {c : Code} (X : hf_X g p s m args meth c cX5_count 6 RX5 (some .int))     : ∀ (n : Nat) (v3 : Int32) (v4 : Int64) (M : hf_M), hf_W g p l ev (1) s m args below meth c 6 (hf_QI g below args s) M 5 [none, none, none, some (.int v3), some (.long v4), none] [] (s_X5_count_5 n v3 v4 M) := by
  intro n
  induction n with
  | zero =>
    intros
    exact hr_none
  | succ n ih =>
    intro v3 v4 M
    rw [s_X5_count_5]
    refine hr_lload X dX5_count_5 rfl ?_
    refine hr_lconst X 0 dX5_count_7 rfl ?_
    refine hr_lcmp X dX5_count_8 ?_
    refine hr_if_eq X 27 dX5_count_9 rfl ?_ ?_
    · refine hr_iload_n X dX5_count_27 rfl ?_
      exact hr_iret X dX5_count_28
    · refine hr_iinc X (v3 + 1) dX5_count_12 rfl (by rw [kc_1]) (by decide) rfl ?_
      refine hr_lload X dX5_count_15 rfl ?_
      refine hr_lload X dX5_count_17 rfl ?_
      refine hr_lconst X 1 dX5_count_19 rfl ?_
      refine hr_lsub X dX5_count_20 ?_
      refine hr_land X dX5_count_21 ?_
      refine hr_lstore X dX5_count_22 (by decide) rfl ?_
      refine hr_goto X 5 dX5_count_24 rfl ?_
      exact hr_wk (hs_none (hs_none (hs_none (hs_some (hs_some (hs_none (hs_nil))))))) (ih (v3 + 1) (v4 &&& (v4 - 1)) M)
set_option maxRecDepth 100000 in
set_option maxHeartbeats 4000000 in
theorem c_X5_count  {t0 : Nat} (hl_t0 : t0 < 69) (hs_t0 : hf_shp t0 = 5) (a1 : Int64) (M : hf_M) : hf_CI yX5_count cX5_count 6 (some .int) (1) (fun g => [.ref (hf_a g t0), .long a1]) M (s_X5_count t0 a1 M) := by
  refine hf_metI (by decide +kernel) (fun g => Nat.le_of_ble_eq_true rfl) (fun g p l ev s m args below meth c X => ?_)
  have X : hf_X g p s m args meth c cX5_count 6 RX5 (some .int) := X
  show hf_W g p l ev (1) s m args below meth c 6 (hf_QI g below args s) M 0 [some (.ref (hf_a g t0)), some (.long a1), none, none, none, none] [] (s_X5_count t0 a1 M)
  unfold s_X5_count
  refine hr_iconst X 0 dX5_count_0 kc_0 ?_
  refine hr_istore_n X dX5_count_1 (by decide) rfl ?_
  refine hr_lload_n X dX5_count_2 rfl ?_
  refine hr_lstore X dX5_count_3 (by decide) rfl ?_
  exact hr_wk (hs_none (hs_none (hs_none (hs_some (hs_some (hs_none (hs_nil))))))) (w_X5_count_5 X 2000 0 a1 M)
set_option maxRecDepth 100000 in
set_option maxHeartbeats 4000000 in
theorem c_X5_adds  {t0 : Nat} (hl_t0 : t0 < 69) (hs_t0 : hf_shp t0 = 5) (a1 : Int32) (a2 : Int32) (a3 : Int32) (M : hf_M) : hf_CV yX5_adds cX5_adds 4 (none) (1) (fun g => [.ref (hf_a g t0), .int a1, .int a2, .int a3]) M (s_X5_adds t0 a1 a2 a3 M) := by
  refine hf_metV (by decide +kernel) (fun g => Nat.le_of_ble_eq_true rfl) (fun g p l ev s m args below meth c X => ?_)
  have X : hf_X g p s m args meth c cX5_adds 4 RX5 (none) := X
  show hf_W g p l ev (1) s m args below meth c 4 (hf_QV g below args s) M 0 [some (.ref (hf_a g t0)), some (.int a1), some (.int a2), some (.int a3)] [] (s_X5_adds t0 a1 a2 a3 M)
  unfold s_X5_adds
  refine hr_aload_n X dX5_adds_0 rfl ?_
  refine hr_gR X 6 hl_t0 hs_t0 lg_RX5_42 rfl dX5_adds_1 (fun q1 hl_q1 hs_q1 => ?_)
  refine hr_aload_n X dX5_adds_4 rfl ?_
  refine hr_gI X hl_t0 hs_t0 lg_RX5_118 dX5_adds_5 ?_
  refine hr_iload_n X dX5_adds_8 rfl ?_
  refine hr_iast X hl_q1 hs_q1 dX5_adds_9 (fun M2 eM2 _ => ?_)
  refine hr_aload_n X dX5_adds_10 rfl ?_
  refine hr_gR X 6 hl_t0 hs_t0 lg_RX5_45 rfl dX5_adds_11 (fun q3 hl_q3 hs_q3 => ?_)
  refine hr_aload_n X dX5_adds_14 rfl ?_
  refine hr_gI X hl_t0 hs_t0 lg_RX5_118 dX5_adds_15 ?_
  refine hr_iload_n X dX5_adds_18 rfl ?_
  refine hr_iast X hl_q3 hs_q3 dX5_adds_19 (fun M4 eM4 _ => ?_)
  refine hr_aload_n X dX5_adds_20 rfl ?_
  refine hr_gR X 6 hl_t0 hs_t0 lg_RX5_48 rfl dX5_adds_21 (fun q5 hl_q5 hs_q5 => ?_)
  refine hr_aload_n X dX5_adds_24 rfl ?_
  refine hr_gI X hl_t0 hs_t0 lg_RX5_118 dX5_adds_25 ?_
  refine hr_iload_n X dX5_adds_28 rfl ?_
  refine hr_iast X hl_q5 hs_q5 dX5_adds_29 (fun M6 eM6 _ => ?_)
  refine hr_aload_n X dX5_adds_30 rfl ?_
  refine hr_dup X dX5_adds_31 rfl ?_
  refine hr_gI X hl_t0 hs_t0 lg_RX5_118 dX5_adds_32 ?_
  refine hr_iconst X 1 dX5_adds_35 kc_1 ?_
  refine hr_iadd X dX5_adds_36 ?_
  refine hr_pI X hl_t0 hs_t0 lp_RX5_118 dX5_adds_37 (fun M7 eM7 => ?_)
  exact hr_vret X dX5_adds_40
set_option maxRecDepth 100000 in
set_option maxHeartbeats 4000000 in
theorem c_X5_isFull  {t0 : Nat} (hl_t0 : t0 < 69) (hs_t0 : hf_shp t0 = 5) (a1 : Int32) (M : hf_M) : hf_CI yX5_isFull cX5_isFull 2 (some .boolean) (2) (fun g => [.ref (hf_a g t0), .int a1]) M (s_X5_isFull t0 a1 M) := by
  refine hf_metI (by decide +kernel) (fun g => Nat.le_of_ble_eq_true rfl) (fun g p l ev s m args below meth c X => ?_)
  have X : hf_X g p s m args meth c cX5_isFull 2 RX5 (some .boolean) := X
  show hf_W g p l ev (2) s m args below meth c 2 (hf_QI g below args s) M 0 [some (.ref (hf_a g t0)), some (.int a1)] [] (s_X5_isFull t0 a1 M)
  unfold s_X5_isFull
  refine hr_aload_n X dX5_isFull_0 rfl ?_
  refine hr_iload_n X dX5_isFull_1 rfl ?_
  refine hr_cvI X [.int a1] [] (c_X5_saidBy hl_t0 hs_t0 a1 M) lk_RX5_106 rfl rfl rfl hl_t0 hs_t0 ⟨by decide, rfl⟩ (by decide) (Nat.le_of_ble_eq_true rfl) dX5_isFull_2 (fun r1 M2 _ => ?_)
  refine hr_aload_n X dX5_isFull_5 rfl ?_
  refine hr_gI X hl_t0 hs_t0 lg_RX5_7 dX5_isFull_6 ?_
  refine hr_icmp_lt X 16 dX5_isFull_9 rfl ?_ ?_
  · refine hr_iconst X 0 dX5_isFull_16 kc_0 ?_
    exact hr_zretC X (Or.inl rfl) dX5_isFull_17
  · refine hr_iconst X 1 dX5_isFull_12 kc_1 ?_
    refine hr_goto X 17 dX5_isFull_13 rfl ?_
    exact hr_zretC X (Or.inr rfl) dX5_isFull_17
set_option maxRecDepth 100000 in
set_option maxHeartbeats 4000000 in
theorem c_X5_leaves  {t0 : Nat} (hl_t0 : t0 < 69) (hs_t0 : hf_shp t0 = 5) (a1 : Int32) (a2 : Int32) (a3 : Int32) (M : hf_M) : hf_CI yX5_leaves cX5_leaves 5 (some .int) (5) (fun g => [.ref (hf_a g t0), .int a1, .int a2, .int a3]) M (s_X5_leaves t0 a1 a2 a3 M) := by
  refine hf_metI (by decide +kernel) (fun g => Nat.le_of_ble_eq_true rfl) (fun g p l ev s m args below meth c X => ?_)
  have X : hf_X g p s m args meth c cX5_leaves 5 RX5 (some .int) := X
  show hf_W g p l ev (5) s m args below meth c 5 (hf_QI g below args s) M 0 [some (.ref (hf_a g t0)), some (.int a1), some (.int a2), some (.int a3), none] [] (s_X5_leaves t0 a1 a2 a3 M)
  unfold s_X5_leaves
  refine hr_aload_n X dX5_leaves_0 rfl ?_
  refine hr_iload_n X dX5_leaves_1 rfl ?_
  refine hr_iload_n X dX5_leaves_2 rfl ?_
  refine hr_iload_n X dX5_leaves_3 rfl ?_
  refine hr_cvV X [.int a1, .int a2, .int a3] [] (c_X5_adds hl_t0 hs_t0 a1 a2 a3 M) lk_RX5_138 rfl rfl rfl hl_t0 hs_t0 ⟨by decide, rfl⟩ (by decide) (Nat.le_of_ble_eq_true rfl) dX5_leaves_4 (fun _ M2 _ => ?_)
  refine hr_aload_n X dX5_leaves_7 rfl ?_
  refine hr_aload_n X dX5_leaves_8 rfl ?_
  refine hr_cvJ X [] [.ref (hf_a g t0)] (c_X5_worldsNow hl_t0 hs_t0 M2) lk_RX5_142 rfl rfl rfl hl_t0 hs_t0 ⟨by decide, rfl⟩ (by decide) (Nat.le_of_ble_eq_true rfl) dX5_leaves_9 (fun r3 M4 _ => ?_)
  refine hr_cvI X [.long r3] [] (c_X5_count hl_t0 hs_t0 r3 M4) lk_RX5_146 rfl rfl rfl hl_t0 hs_t0 ⟨by decide, rfl⟩ (by decide) (Nat.le_of_ble_eq_true rfl) dX5_leaves_12 (fun r5 M6 _ => ?_)
  refine hr_istore X dX5_leaves_15 (by decide) rfl ?_
  refine hr_aload_n X dX5_leaves_17 rfl ?_
  refine hr_dup X dX5_leaves_18 rfl ?_
  refine hr_gI X hl_t0 hs_t0 lg_RX5_118 dX5_leaves_19 ?_
  refine hr_iconst X 1 dX5_leaves_22 kc_1 ?_
  refine hr_isub X dX5_leaves_23 ?_
  refine hr_pI X hl_t0 hs_t0 lp_RX5_118 dX5_leaves_24 (fun M7 eM7 => ?_)
  refine hr_iload X dX5_leaves_27 rfl ?_
  exact hr_iret X dX5_leaves_29
set_option maxRecDepth 100000 in
set_option maxHeartbeats 4000000 in
theorem c_X5_say  {t0 : Nat} (hl_t0 : t0 < 69) (hs_t0 : hf_shp t0 = 5) (a1 : Int32) (a2 : Int32) (a3 : Int32) (M : hf_M) : hf_CI yX5_say cX5_say 4 (some .int) (6) (fun g => [.ref (hf_a g t0), .int a1, .int a2, .int a3]) M (s_X5_say t0 a1 a2 a3 M) := by
  refine hf_metI (by decide +kernel) (fun g => Nat.le_of_ble_eq_true rfl) (fun g p l ev s m args below meth c X => ?_)
  have X : hf_X g p s m args meth c cX5_say 4 RX5 (some .int) := X
  show hf_W g p l ev (6) s m args below meth c 4 (hf_QI g below args s) M 0 [some (.ref (hf_a g t0)), some (.int a1), some (.int a2), some (.int a3)] [] (s_X5_say t0 a1 a2 a3 M)
  unfold s_X5_say
  refine hr_aload_n X dX5_say_0 rfl ?_
  refine hr_iload_n X dX5_say_1 rfl ?_
  refine hr_cvI X [.int a1] [] (c_X5_isSpeaker hl_t0 hs_t0 a1 M) lk_RX5_103 rfl rfl rfl hl_t0 hs_t0 ⟨by decide, rfl⟩ (by decide) (Nat.le_of_ble_eq_true rfl) dX5_say_2 (fun r1 M2 _ => ?_)
  refine hr_if_eq X 16 dX5_say_5 rfl ?_ ?_
  · refine hr_aload_n X dX5_say_16 rfl ?_
    refine hr_iconst X (-1) dX5_say_17 kc_m1 ?_
    refine hr_cvI X [.int (-1)] [] (c_X5_no hl_t0 hs_t0 (-1) M2) lk_RX5_99 rfl rfl rfl hl_t0 hs_t0 ⟨by decide, rfl⟩ (by decide) (Nat.le_of_ble_eq_true rfl) dX5_say_18 (fun r3 M4 _ => ?_)
    exact hr_iret X dX5_say_21
  · refine hr_aload_n X dX5_say_8 rfl ?_
    refine hr_iload_n X dX5_say_9 rfl ?_
    refine hr_cvI X [.int a2] [] (c_X5_isFact hl_t0 hs_t0 a2 M2) lk_RX5_121 rfl rfl rfl hl_t0 hs_t0 ⟨by decide, rfl⟩ (by decide) (Nat.le_of_ble_eq_true rfl) dX5_say_10 (fun r5 M6 _ => ?_)
    refine hr_if_ne X 22 dX5_say_13 rfl ?_ ?_
    · refine hr_aload_n X dX5_say_22 rfl ?_
      refine hr_iload_n X dX5_say_23 rfl ?_
      refine hr_cvI X [.int a1] [] (c_X5_isFull hl_t0 hs_t0 a1 M6) lk_RX5_150 rfl rfl rfl hl_t0 hs_t0 ⟨by decide, rfl⟩ (by decide) (Nat.le_of_ble_eq_true rfl) dX5_say_24 (fun r7 M8 _ => ?_)
      refine hr_if_ne X 48 dX5_say_27 rfl ?_ ?_
      · refine hr_aload_n X dX5_say_48 rfl ?_
        refine hr_bipush X (-6) dX5_say_49 kb_m6 ?_
        refine hr_cvI X [.int (-6)] [] (c_X5_no hl_t0 hs_t0 (-6) M8) lk_RX5_99 rfl rfl rfl hl_t0 hs_t0 ⟨by decide, rfl⟩ (by decide) (Nat.le_of_ble_eq_true rfl) dX5_say_51 (fun r9 M10 _ => ?_)
        exact hr_iret X dX5_say_54
      · refine hr_aload_n X dX5_say_30 rfl ?_
        refine hr_iload_n X dX5_say_31 rfl ?_
        refine hr_iload_n X dX5_say_32 rfl ?_
        refine hr_iload_n X dX5_say_33 rfl ?_
        refine hr_if_eq X 41 dX5_say_34 rfl ?_ ?_
        · refine hr_iconst X 0 dX5_say_41 kc_0 ?_
          refine hr_cvI X [.int a1, .int a2, .int 0] [] (c_X5_leaves hl_t0 hs_t0 a1 a2 0 M8) lk_RX5_153 rfl rfl rfl hl_t0 hs_t0 ⟨by decide, rfl⟩ (by decide) (Nat.le_of_ble_eq_true rfl) dX5_say_42 (fun r11 M12 _ => ?_)
          refine hr_if_ne X 55 dX5_say_45 rfl ?_ ?_
          · refine hr_aload_n X dX5_say_55 rfl ?_
            refine hr_gI X hl_t0 hs_t0 lg_RX5_118 dX5_say_56 ?_
            refine hr_bipush X 24 dX5_say_59 kb_24 ?_
            refine hr_icmp_ne X 71 dX5_say_61 rfl ?_ ?_
            · refine hr_aload_n X dX5_say_71 rfl ?_
              refine hr_iload_n X dX5_say_72 rfl ?_
              refine hr_iload_n X dX5_say_73 rfl ?_
              refine hr_iload_n X dX5_say_74 rfl ?_
              refine hr_if_eq X 82 dX5_say_75 rfl ?_ ?_
              · refine hr_iconst X 0 dX5_say_82 kc_0 ?_
                refine hr_cvV X [.int a1, .int a2, .int 0] [] (c_X5_adds hl_t0 hs_t0 a1 a2 0 M12) lk_RX5_138 rfl rfl rfl hl_t0 hs_t0 ⟨by decide, rfl⟩ (by decide) (Nat.le_of_ble_eq_true rfl) dX5_say_83 (fun _ M14 _ => ?_)
                refine hr_aload_n X dX5_say_86 rfl ?_
                refine hr_aload_n X dX5_say_87 rfl ?_
                refine hr_cvJ X [] [.ref (hf_a g t0)] (c_X5_worldsNow hl_t0 hs_t0 M14) lk_RX5_142 rfl rfl rfl hl_t0 hs_t0 ⟨by decide, rfl⟩ (by decide) (Nat.le_of_ble_eq_true rfl) dX5_say_88 (fun r15 M16 _ => ?_)
                refine hr_cvI X [.long r15] [] (c_X5_count hl_t0 hs_t0 r15 M16) lk_RX5_146 rfl rfl rfl hl_t0 hs_t0 ⟨by decide, rfl⟩ (by decide) (Nat.le_of_ble_eq_true rfl) dX5_say_91 (fun r17 M18 _ => ?_)
                exact hr_iret X dX5_say_94
              · refine hr_iconst X 1 dX5_say_78 kc_1 ?_
                refine hr_goto X 83 dX5_say_79 rfl ?_
                refine hr_cvV X [.int a1, .int a2, .int 1] [] (c_X5_adds hl_t0 hs_t0 a1 a2 1 M12) lk_RX5_138 rfl rfl rfl hl_t0 hs_t0 ⟨by decide, rfl⟩ (by decide) (Nat.le_of_ble_eq_true rfl) dX5_say_83 (fun _ M20 _ => ?_)
                refine hr_aload_n X dX5_say_86 rfl ?_
                refine hr_aload_n X dX5_say_87 rfl ?_
                refine hr_cvJ X [] [.ref (hf_a g t0)] (c_X5_worldsNow hl_t0 hs_t0 M20) lk_RX5_142 rfl rfl rfl hl_t0 hs_t0 ⟨by decide, rfl⟩ (by decide) (Nat.le_of_ble_eq_true rfl) dX5_say_88 (fun r21 M22 _ => ?_)
                refine hr_cvI X [.long r21] [] (c_X5_count hl_t0 hs_t0 r21 M22) lk_RX5_146 rfl rfl rfl hl_t0 hs_t0 ⟨by decide, rfl⟩ (by decide) (Nat.le_of_ble_eq_true rfl) dX5_say_91 (fun r23 M24 _ => ?_)
                exact hr_iret X dX5_say_94
            · refine hr_aload_n X dX5_say_64 rfl ?_
              refine hr_bipush X (-7) dX5_say_65 kb_m7 ?_
              refine hr_cvI X [.int (-7)] [] (c_X5_no hl_t0 hs_t0 (-7) M12) lk_RX5_99 rfl rfl rfl hl_t0 hs_t0 ⟨by decide, rfl⟩ (by decide) (Nat.le_of_ble_eq_true rfl) dX5_say_67 (fun r25 M26 _ => ?_)
              exact hr_iret X dX5_say_70
          · refine hr_aload_n X dX5_say_48 rfl ?_
            refine hr_bipush X (-6) dX5_say_49 kb_m6 ?_
            refine hr_cvI X [.int (-6)] [] (c_X5_no hl_t0 hs_t0 (-6) M12) lk_RX5_99 rfl rfl rfl hl_t0 hs_t0 ⟨by decide, rfl⟩ (by decide) (Nat.le_of_ble_eq_true rfl) dX5_say_51 (fun r27 M28 _ => ?_)
            exact hr_iret X dX5_say_54
        · refine hr_iconst X 1 dX5_say_37 kc_1 ?_
          refine hr_goto X 42 dX5_say_38 rfl ?_
          refine hr_cvI X [.int a1, .int a2, .int 1] [] (c_X5_leaves hl_t0 hs_t0 a1 a2 1 M8) lk_RX5_153 rfl rfl rfl hl_t0 hs_t0 ⟨by decide, rfl⟩ (by decide) (Nat.le_of_ble_eq_true rfl) dX5_say_42 (fun r29 M30 _ => ?_)
          refine hr_if_ne X 55 dX5_say_45 rfl ?_ ?_
          · refine hr_aload_n X dX5_say_55 rfl ?_
            refine hr_gI X hl_t0 hs_t0 lg_RX5_118 dX5_say_56 ?_
            refine hr_bipush X 24 dX5_say_59 kb_24 ?_
            refine hr_icmp_ne X 71 dX5_say_61 rfl ?_ ?_
            · refine hr_aload_n X dX5_say_71 rfl ?_
              refine hr_iload_n X dX5_say_72 rfl ?_
              refine hr_iload_n X dX5_say_73 rfl ?_
              refine hr_iload_n X dX5_say_74 rfl ?_
              refine hr_if_eq X 82 dX5_say_75 rfl ?_ ?_
              · refine hr_iconst X 0 dX5_say_82 kc_0 ?_
                refine hr_cvV X [.int a1, .int a2, .int 0] [] (c_X5_adds hl_t0 hs_t0 a1 a2 0 M30) lk_RX5_138 rfl rfl rfl hl_t0 hs_t0 ⟨by decide, rfl⟩ (by decide) (Nat.le_of_ble_eq_true rfl) dX5_say_83 (fun _ M32 _ => ?_)
                refine hr_aload_n X dX5_say_86 rfl ?_
                refine hr_aload_n X dX5_say_87 rfl ?_
                refine hr_cvJ X [] [.ref (hf_a g t0)] (c_X5_worldsNow hl_t0 hs_t0 M32) lk_RX5_142 rfl rfl rfl hl_t0 hs_t0 ⟨by decide, rfl⟩ (by decide) (Nat.le_of_ble_eq_true rfl) dX5_say_88 (fun r33 M34 _ => ?_)
                refine hr_cvI X [.long r33] [] (c_X5_count hl_t0 hs_t0 r33 M34) lk_RX5_146 rfl rfl rfl hl_t0 hs_t0 ⟨by decide, rfl⟩ (by decide) (Nat.le_of_ble_eq_true rfl) dX5_say_91 (fun r35 M36 _ => ?_)
                exact hr_iret X dX5_say_94
              · refine hr_iconst X 1 dX5_say_78 kc_1 ?_
                refine hr_goto X 83 dX5_say_79 rfl ?_
                refine hr_cvV X [.int a1, .int a2, .int 1] [] (c_X5_adds hl_t0 hs_t0 a1 a2 1 M30) lk_RX5_138 rfl rfl rfl hl_t0 hs_t0 ⟨by decide, rfl⟩ (by decide) (Nat.le_of_ble_eq_true rfl) dX5_say_83 (fun _ M38 _ => ?_)
                refine hr_aload_n X dX5_say_86 rfl ?_
                refine hr_aload_n X dX5_say_87 rfl ?_
                refine hr_cvJ X [] [.ref (hf_a g t0)] (c_X5_worldsNow hl_t0 hs_t0 M38) lk_RX5_142 rfl rfl rfl hl_t0 hs_t0 ⟨by decide, rfl⟩ (by decide) (Nat.le_of_ble_eq_true rfl) dX5_say_88 (fun r39 M40 _ => ?_)
                refine hr_cvI X [.long r39] [] (c_X5_count hl_t0 hs_t0 r39 M40) lk_RX5_146 rfl rfl rfl hl_t0 hs_t0 ⟨by decide, rfl⟩ (by decide) (Nat.le_of_ble_eq_true rfl) dX5_say_91 (fun r41 M42 _ => ?_)
                exact hr_iret X dX5_say_94
            · refine hr_aload_n X dX5_say_64 rfl ?_
              refine hr_bipush X (-7) dX5_say_65 kb_m7 ?_
              refine hr_cvI X [.int (-7)] [] (c_X5_no hl_t0 hs_t0 (-7) M30) lk_RX5_99 rfl rfl rfl hl_t0 hs_t0 ⟨by decide, rfl⟩ (by decide) (Nat.le_of_ble_eq_true rfl) dX5_say_67 (fun r43 M44 _ => ?_)
              exact hr_iret X dX5_say_70
          · refine hr_aload_n X dX5_say_48 rfl ?_
            refine hr_bipush X (-6) dX5_say_49 kb_m6 ?_
            refine hr_cvI X [.int (-6)] [] (c_X5_no hl_t0 hs_t0 (-6) M30) lk_RX5_99 rfl rfl rfl hl_t0 hs_t0 ⟨by decide, rfl⟩ (by decide) (Nat.le_of_ble_eq_true rfl) dX5_say_51 (fun r45 M46 _ => ?_)
            exact hr_iret X dX5_say_54
    · refine hr_aload_n X dX5_say_16 rfl ?_
      refine hr_iconst X (-1) dX5_say_17 kc_m1 ?_
      refine hr_cvI X [.int (-1)] [] (c_X5_no hl_t0 hs_t0 (-1) M6) lk_RX5_99 rfl rfl rfl hl_t0 hs_t0 ⟨by decide, rfl⟩ (by decide) (Nat.le_of_ble_eq_true rfl) dX5_say_18 (fun r47 M48 _ => ?_)
      exact hr_iret X dX5_say_21
set_option maxRecDepth 100000 in
set_option maxHeartbeats 4000000 in
theorem c_X5_unsay  {t0 : Nat} (hl_t0 : t0 < 69) (hs_t0 : hf_shp t0 = 5) (M : hf_M) : hf_CI yX5_unsay cX5_unsay 1 (some .int) (2) (fun g => [.ref (hf_a g t0)]) M (s_X5_unsay t0 M) := by
  refine hf_metI (by decide +kernel) (fun g => Nat.le_of_ble_eq_true rfl) (fun g p l ev s m args below meth c X => ?_)
  have X : hf_X g p s m args meth c cX5_unsay 1 RX5 (some .int) := X
  show hf_W g p l ev (2) s m args below meth c 1 (hf_QI g below args s) M 0 [some (.ref (hf_a g t0))] [] (s_X5_unsay t0 M)
  unfold s_X5_unsay
  refine hr_aload_n X dX5_unsay_0 rfl ?_
  refine hr_gI X hl_t0 hs_t0 lg_RX5_118 dX5_unsay_1 ?_
  refine hr_if_ne X 14 dX5_unsay_4 rfl ?_ ?_
  · refine hr_aload_n X dX5_unsay_14 rfl ?_
    refine hr_dup X dX5_unsay_15 rfl ?_
    refine hr_gI X hl_t0 hs_t0 lg_RX5_118 dX5_unsay_16 ?_
    refine hr_iconst X 1 dX5_unsay_19 kc_1 ?_
    refine hr_isub X dX5_unsay_20 ?_
    refine hr_pI X hl_t0 hs_t0 lp_RX5_118 dX5_unsay_21 (fun M1 eM1 => ?_)
    refine hr_aload_n X dX5_unsay_24 rfl ?_
    refine hr_gI X hl_t0 hs_t0 lg_RX5_118 dX5_unsay_25 ?_
    exact hr_iret X dX5_unsay_28
  · refine hr_aload_n X dX5_unsay_7 rfl ?_
    refine hr_bipush X (-6) dX5_unsay_8 kb_m6 ?_
    refine hr_cvI X [.int (-6)] [] (c_X5_no hl_t0 hs_t0 (-6) M) lk_RX5_99 rfl rfl rfl hl_t0 hs_t0 ⟨by decide, rfl⟩ (by decide) (Nat.le_of_ble_eq_true rfl) dX5_unsay_10 (fun r2 M3 _ => ?_)
    exact hr_iret X dX5_unsay_13
set_option maxRecDepth 100000 in
set_option maxHeartbeats 4000000 in
theorem c_X5_sayingOf  {t0 : Nat} (hl_t0 : t0 < 69) (hs_t0 : hf_shp t0 = 5) (a1 : Int32) (M : hf_M) : hf_CI yX5_sayingOf cX5_sayingOf 2 (some .int) (1) (fun g => [.ref (hf_a g t0), .int a1]) M (s_X5_sayingOf t0 a1 M) := by
  refine hf_metI (by decide +kernel) (fun g => Nat.le_of_ble_eq_true rfl) (fun g p l ev s m args below meth c X => ?_)
  have X : hf_X g p s m args meth c cX5_sayingOf 2 RX5 (some .int) := X
  show hf_W g p l ev (1) s m args below meth c 2 (hf_QI g below args s) M 0 [some (.ref (hf_a g t0)), some (.int a1)] [] (s_X5_sayingOf t0 a1 M)
  unfold s_X5_sayingOf
  refine hr_iload_n X dX5_sayingOf_0 rfl ?_
  refine hr_if_lt X 41 dX5_sayingOf_1 rfl ?_ ?_
  · refine hr_iconst X (-1) dX5_sayingOf_41 kc_m1 ?_
    exact hr_iret X dX5_sayingOf_42
  · refine hr_iload_n X dX5_sayingOf_4 rfl ?_
    refine hr_aload_n X dX5_sayingOf_5 rfl ?_
    refine hr_gI X hl_t0 hs_t0 lg_RX5_118 dX5_sayingOf_6 ?_
    refine hr_icmp_ge X 41 dX5_sayingOf_9 rfl ?_ ?_
    · refine hr_iconst X (-1) dX5_sayingOf_41 kc_m1 ?_
      exact hr_iret X dX5_sayingOf_42
    · refine hr_bipush X 100 dX5_sayingOf_12 kb_100 ?_
      refine hr_aload_n X dX5_sayingOf_14 rfl ?_
      refine hr_gR X 6 hl_t0 hs_t0 lg_RX5_42 rfl dX5_sayingOf_15 (fun q1 hl_q1 hs_q1 => ?_)
      refine hr_iload_n X dX5_sayingOf_18 rfl ?_
      refine hr_iald X hl_q1 hs_q1 dX5_sayingOf_19 (fun r2 _ _ => ?_)
      refine hr_imul X dX5_sayingOf_20 ?_
      refine hr_bipush X 10 dX5_sayingOf_21 kb_10 ?_
      refine hr_aload_n X dX5_sayingOf_23 rfl ?_
      refine hr_gR X 6 hl_t0 hs_t0 lg_RX5_45 rfl dX5_sayingOf_24 (fun q3 hl_q3 hs_q3 => ?_)
      refine hr_iload_n X dX5_sayingOf_27 rfl ?_
      refine hr_iald X hl_q3 hs_q3 dX5_sayingOf_28 (fun r4 _ _ => ?_)
      refine hr_imul X dX5_sayingOf_29 ?_
      refine hr_iadd X dX5_sayingOf_30 ?_
      refine hr_aload_n X dX5_sayingOf_31 rfl ?_
      refine hr_gR X 6 hl_t0 hs_t0 lg_RX5_48 rfl dX5_sayingOf_32 (fun q5 hl_q5 hs_q5 => ?_)
      refine hr_iload_n X dX5_sayingOf_35 rfl ?_
      refine hr_iald X hl_q5 hs_q5 dX5_sayingOf_36 (fun r6 _ _ => ?_)
      refine hr_iadd X dX5_sayingOf_37 ?_
      refine hr_goto X 42 dX5_sayingOf_38 rfl ?_
      exact hr_iret X dX5_sayingOf_42
set_option maxRecDepth 100000 in
set_option maxHeartbeats 4000000 in
theorem w_X5_those_5 {g : hf_G} {p : Program} {l : Launch} {ev : Env} {s : State} {m : MethodId} {args : Array Value} {below : List Frame} {meth : Method} {c : Code} (X : hf_X g p s m args meth c cX5_those 6 RX5 (some .long))    {t0 : Nat} (hl_t0 : t0 < 69) (hs_t0 : hf_shp t0 = 5) (v1 : Int32) (v2 : Int32) : ∀ (n : Nat) (v3 : Int64) (v5 : Int32) (M : hf_M), hf_W g p l ev (1) s m args below meth c 6 (hf_QJ g below args s) M 5 [some (.ref (hf_a g t0)), some (.int v1), some (.int v2), some (.long v3), none, some (.int v5)] [] (s_X5_those_5 t0 v1 v2 n v3 v5 M) := by
  intro n
  induction n with
  | zero =>
    intros
    exact hr_none
  | succ n ih =>
    intro v3 v5 M
    rw [s_X5_those_5]
    refine hr_iload X dX5_those_5 rfl ?_
    refine hr_iconst X 1 dX5_those_7 kc_1 ?_
    refine hr_aload_n X dX5_those_8 rfl ?_
    refine hr_gI X hl_t0 hs_t0 lg_RX5_89 dX5_those_9 ?_
    refine hr_ishl X dX5_those_12 ?_
    refine hr_icmp_ge X 39 dX5_those_13 rfl ?_ ?_
    · refine hr_lload_n X dX5_those_39 rfl ?_
      exact hr_lret X dX5_those_40
    · refine hr_iload X dX5_those_16 rfl ?_
      refine hr_iload_n X dX5_those_18 rfl ?_
      refine hr_ishr X dX5_those_19 ?_
      refine hr_iconst X 1 dX5_those_20 kc_1 ?_
      refine hr_iand X dX5_those_21 ?_
      refine hr_iload_n X dX5_those_22 rfl ?_
      refine hr_icmp_ne X 33 dX5_those_23 rfl ?_ ?_
      · refine hr_iinc X (v5 + 1) dX5_those_33 rfl (by rw [kc_1]) (by decide) rfl ?_
        refine hr_goto X 5 dX5_those_36 rfl ?_
        exact hr_wk (hs_some (hs_some (hs_some (hs_some (hs_none (hs_some (hs_nil))))))) (ih v3 (v5 + 1) M)
      · refine hr_lload_n X dX5_those_26 rfl ?_
        refine hr_lconst X 1 dX5_those_27 rfl ?_
        refine hr_iload X dX5_those_28 rfl ?_
        refine hr_lshl X dX5_those_30 ?_
        refine hr_lor X dX5_those_31 ?_
        refine hr_lstore_n X dX5_those_32 (by decide) rfl ?_
        refine hr_iinc X (v5 + 1) dX5_those_33 rfl (by rw [kc_1]) (by decide) rfl ?_
        refine hr_goto X 5 dX5_those_36 rfl ?_
        exact hr_wk (hs_some (hs_some (hs_some (hs_some (hs_none (hs_some (hs_nil))))))) (ih (v3 ||| (hn_lshl 1 v5)) (v5 + 1) M)
set_option maxRecDepth 100000 in
set_option maxHeartbeats 4000000 in
theorem c_X5_those  {t0 : Nat} (hl_t0 : t0 < 69) (hs_t0 : hf_shp t0 = 5) (a1 : Int32) (a2 : Int32) (M : hf_M) : hf_CJ yX5_those cX5_those 6 (some .long) (1) (fun g => [.ref (hf_a g t0), .int a1, .int a2]) M (s_X5_those t0 a1 a2 M) := by
  refine hf_metJ (by decide +kernel) (fun g => Nat.le_of_ble_eq_true rfl) (fun g p l ev s m args below meth c X => ?_)
  have X : hf_X g p s m args meth c cX5_those 6 RX5 (some .long) := X
  show hf_W g p l ev (1) s m args below meth c 6 (hf_QJ g below args s) M 0 [some (.ref (hf_a g t0)), some (.int a1), some (.int a2), none, none, none] [] (s_X5_those t0 a1 a2 M)
  unfold s_X5_those
  refine hr_lconst X 0 dX5_those_0 rfl ?_
  refine hr_lstore_n X dX5_those_1 (by decide) rfl ?_
  refine hr_iconst X 0 dX5_those_2 kc_0 ?_
  refine hr_istore X dX5_those_3 (by decide) rfl ?_
  exact hr_wk (hs_some (hs_some (hs_some (hs_some (hs_none (hs_some (hs_nil))))))) (w_X5_those_5 X hl_t0 hs_t0 a1 a2 2000 0 0 M)
set_option maxRecDepth 100000 in
set_option maxHeartbeats 4000000 in
theorem c_X5_isLeft  {t0 : Nat} (hl_t0 : t0 < 69) (hs_t0 : hf_shp t0 = 5) (a1 : Int32) (a2 : Int32) (M : hf_M) : hf_CI yX5_isLeft cX5_isLeft 5 (some .boolean) (5) (fun g => [.ref (hf_a g t0), .int a1, .int a2]) M (s_X5_isLeft t0 a1 a2 M) := by
  refine hf_metI (by decide +kernel) (fun g => Nat.le_of_ble_eq_true rfl) (fun g p l ev s m args below meth c X => ?_)
  have X : hf_X g p s m args meth c cX5_isLeft 5 RX5 (some .boolean) := X
  show hf_W g p l ev (5) s m args below meth c 5 (hf_QI g below args s) M 0 [some (.ref (hf_a g t0)), some (.int a1), some (.int a2), none, none] [] (s_X5_isLeft t0 a1 a2 M)
  unfold s_X5_isLeft
  refine hr_aload_n X dX5_isLeft_0 rfl ?_
  refine hr_gL X hl_t0 hs_t0 lg_RX5_25 dX5_isLeft_1 ?_
  refine hr_lstore_n X dX5_isLeft_4 (by decide) rfl ?_
  refine hr_aload_n X dX5_isLeft_5 rfl ?_
  refine hr_dup X dX5_isLeft_6 rfl ?_
  refine hr_gL X hl_t0 hs_t0 lg_RX5_25 dX5_isLeft_7 ?_
  refine hr_aload_n X dX5_isLeft_10 rfl ?_
  refine hr_iload_n X dX5_isLeft_11 rfl ?_
  refine hr_iload_n X dX5_isLeft_12 rfl ?_
  refine hr_cvJ X [.int a1, .int a2] [.long (M.2.1 t0 9), .ref (hf_a g t0)] (c_X5_those hl_t0 hs_t0 a1 a2 M) lk_RX5_157 rfl rfl rfl hl_t0 hs_t0 ⟨by decide, rfl⟩ (by decide) (Nat.le_of_ble_eq_true rfl) dX5_isLeft_13 (fun r1 M2 _ => ?_)
  refine hr_land X dX5_isLeft_16 ?_
  refine hr_pL X hl_t0 hs_t0 lp_RX5_25 dX5_isLeft_17 (fun M3 eM3 => ?_)
  refine hr_aload_n X dX5_isLeft_20 rfl ?_
  refine hr_cvJ X [] [] (c_X5_worldsNow hl_t0 hs_t0 M3) lk_RX5_142 rfl rfl rfl hl_t0 hs_t0 ⟨by decide, rfl⟩ (by decide) (Nat.le_of_ble_eq_true rfl) dX5_isLeft_21 (fun r4 M5 _ => ?_)
  refine hr_lconst X 0 dX5_isLeft_24 rfl ?_
  refine hr_lcmp X dX5_isLeft_25 ?_
  refine hr_if_eq X 31 dX5_isLeft_26 rfl ?_ ?_
  · refine hr_aload_n X dX5_isLeft_31 rfl ?_
    refine hr_lload_n X dX5_isLeft_32 rfl ?_
    refine hr_pL X hl_t0 hs_t0 lp_RX5_25 dX5_isLeft_33 (fun M6 eM6 => ?_)
    refine hr_iconst X 0 dX5_isLeft_36 kc_0 ?_
    exact hr_zretC X (Or.inl rfl) dX5_isLeft_37
  · refine hr_iconst X 1 dX5_isLeft_29 kc_1 ?_
    exact hr_zretC X (Or.inr rfl) dX5_isLeft_30
set_option maxRecDepth 100000 in
set_option maxHeartbeats 4000000 in
theorem c_X5_known  {t0 : Nat} (hl_t0 : t0 < 69) (hs_t0 : hf_shp t0 = 5) (a1 : Int32) (a2 : Int32) (M : hf_M) : hf_CI yX5_known cX5_known 3 (some .int) (6) (fun g => [.ref (hf_a g t0), .int a1, .int a2]) M (s_X5_known t0 a1 a2 M) := by
  refine hf_metI (by decide +kernel) (fun g => Nat.le_of_ble_eq_true rfl) (fun g p l ev s m args below meth c X => ?_)
  have X : hf_X g p s m args meth c cX5_known 3 RX5 (some .int) := X
  show hf_W g p l ev (6) s m args below meth c 3 (hf_QI g below args s) M 0 [some (.ref (hf_a g t0)), some (.int a1), some (.int a2)] [] (s_X5_known t0 a1 a2 M)
  unfold s_X5_known
  refine hr_aload_n X dX5_known_0 rfl ?_
  refine hr_iload_n X dX5_known_1 rfl ?_
  refine hr_cvI X [.int a1] [] (c_X5_isFact hl_t0 hs_t0 a1 M) lk_RX5_121 rfl rfl rfl hl_t0 hs_t0 ⟨by decide, rfl⟩ (by decide) (Nat.le_of_ble_eq_true rfl) dX5_known_2 (fun r1 M2 _ => ?_)
  refine hr_if_ne X 14 dX5_known_5 rfl ?_ ?_
  · refine hr_aload_n X dX5_known_14 rfl ?_
    refine hr_iload_n X dX5_known_15 rfl ?_
    refine hr_iload_n X dX5_known_16 rfl ?_
    refine hr_if_eq X 24 dX5_known_17 rfl ?_ ?_
    · refine hr_iconst X 0 dX5_known_24 kc_0 ?_
      refine hr_cvI X [.int a1, .int 0] [] (c_X5_isLeft hl_t0 hs_t0 a1 0 M2) lk_RX5_160 rfl rfl rfl hl_t0 hs_t0 ⟨by decide, rfl⟩ (by decide) (Nat.le_of_ble_eq_true rfl) dX5_known_25 (fun r3 M4 _ => ?_)
      refine hr_if_eq X 42 dX5_known_28 rfl ?_ ?_
      · refine hr_aload_n X dX5_known_42 rfl ?_
        refine hr_bipush X (-6) dX5_known_43 kb_m6 ?_
        refine hr_cvI X [.int (-6)] [] (c_X5_no hl_t0 hs_t0 (-6) M4) lk_RX5_99 rfl rfl rfl hl_t0 hs_t0 ⟨by decide, rfl⟩ (by decide) (Nat.le_of_ble_eq_true rfl) dX5_known_45 (fun r5 M6 _ => ?_)
        exact hr_iret X dX5_known_48
      · refine hr_aload_n X dX5_known_31 rfl ?_
        refine hr_aload_n X dX5_known_32 rfl ?_
        refine hr_gL X hl_t0 hs_t0 lg_RX5_25 dX5_known_33 ?_
        refine hr_cvI X [.long (M4.2.1 t0 9)] [] (c_X5_count hl_t0 hs_t0 (M4.2.1 t0 9) M4) lk_RX5_146 rfl rfl rfl hl_t0 hs_t0 ⟨by decide, rfl⟩ (by decide) (Nat.le_of_ble_eq_true rfl) dX5_known_36 (fun r7 M8 _ => ?_)
        refine hr_goto X 48 dX5_known_39 rfl ?_
        exact hr_iret X dX5_known_48
    · refine hr_iconst X 1 dX5_known_20 kc_1 ?_
      refine hr_goto X 25 dX5_known_21 rfl ?_
      refine hr_cvI X [.int a1, .int 1] [] (c_X5_isLeft hl_t0 hs_t0 a1 1 M2) lk_RX5_160 rfl rfl rfl hl_t0 hs_t0 ⟨by decide, rfl⟩ (by decide) (Nat.le_of_ble_eq_true rfl) dX5_known_25 (fun r9 M10 _ => ?_)
      refine hr_if_eq X 42 dX5_known_28 rfl ?_ ?_
      · refine hr_aload_n X dX5_known_42 rfl ?_
        refine hr_bipush X (-6) dX5_known_43 kb_m6 ?_
        refine hr_cvI X [.int (-6)] [] (c_X5_no hl_t0 hs_t0 (-6) M10) lk_RX5_99 rfl rfl rfl hl_t0 hs_t0 ⟨by decide, rfl⟩ (by decide) (Nat.le_of_ble_eq_true rfl) dX5_known_45 (fun r11 M12 _ => ?_)
        exact hr_iret X dX5_known_48
      · refine hr_aload_n X dX5_known_31 rfl ?_
        refine hr_aload_n X dX5_known_32 rfl ?_
        refine hr_gL X hl_t0 hs_t0 lg_RX5_25 dX5_known_33 ?_
        refine hr_cvI X [.long (M10.2.1 t0 9)] [] (c_X5_count hl_t0 hs_t0 (M10.2.1 t0 9) M10) lk_RX5_146 rfl rfl rfl hl_t0 hs_t0 ⟨by decide, rfl⟩ (by decide) (Nat.le_of_ble_eq_true rfl) dX5_known_36 (fun r13 M14 _ => ?_)
        refine hr_goto X 48 dX5_known_39 rfl ?_
        exact hr_iret X dX5_known_48
  · refine hr_aload_n X dX5_known_8 rfl ?_
    refine hr_iconst X (-1) dX5_known_9 kc_m1 ?_
    refine hr_cvI X [.int (-1)] [] (c_X5_no hl_t0 hs_t0 (-1) M2) lk_RX5_99 rfl rfl rfl hl_t0 hs_t0 ⟨by decide, rfl⟩ (by decide) (Nat.le_of_ble_eq_true rfl) dX5_known_10 (fun r15 M16 _ => ?_)
    exact hr_iret X dX5_known_13
set_option maxRecDepth 100000 in
set_option maxHeartbeats 4000000 in
theorem c_X5_wrong  {t0 : Nat} (hl_t0 : t0 < 69) (hs_t0 : hf_shp t0 = 5) (a1 : Int32) (M : hf_M) : hf_CI yX5_wrong cX5_wrong 2 (some .boolean) (1) (fun g => [.ref (hf_a g t0), .int a1]) M (s_X5_wrong t0 a1 M) := by
  refine hf_metI (by decide +kernel) (fun g => Nat.le_of_ble_eq_true rfl) (fun g p l ev s m args below meth c X => ?_)
  have X : hf_X g p s m args meth c cX5_wrong 2 RX5 (some .boolean) := X
  show hf_W g p l ev (1) s m args below meth c 2 (hf_QI g below args s) M 0 [some (.ref (hf_a g t0)), some (.int a1)] [] (s_X5_wrong t0 a1 M)
  unfold s_X5_wrong
  refine hr_aload_n X dX5_wrong_0 rfl ?_
  refine hr_iload_n X dX5_wrong_1 rfl ?_
  refine hr_pI X hl_t0 hs_t0 lp_RX5_163 dX5_wrong_2 (fun M1 eM1 => ?_)
  refine hr_iconst X 0 dX5_wrong_5 kc_0 ?_
  exact hr_zretC X (Or.inl rfl) dX5_wrong_6
set_option maxRecDepth 100000 in
set_option maxHeartbeats 4000000 in
theorem w_X5_word_105 {g : hf_G} {p : Program} {l : Launch} {ev : Env} {s : State} {m : MethodId} {args : Array Value} {below : List Frame} {meth : Method} {c : Code} (X : hf_X g p s m args meth c cX5_word 6 RX5 (some .int))  {t0 : Nat} (hl_t0 : t0 < 69) (hs_t0 : hf_shp t0 = 5) (k9 : Int32 → Int32 → Int32 → hf_M → Option (Int32 × hf_M)) (hk9 : ∀ (v1 : Int32) (v2 : Int32) (v3 : Int32) (M : hf_M), hf_W g p l ev (1) s m args below meth c 6 (hf_QI g below args s) M 9 [some (.ref (hf_a g t0)), some (.int v1), some (.int v2), some (.int v3), none, none] [] (k9 v1 v2 v3 M)) (v2 : Int32) (v3 : Int32) : ∀ (n : Nat) (v1 : Int32) (M : hf_M), hf_W g p l ev (1) s m args below meth c 6 (hf_QI g below args s) M 105 [some (.ref (hf_a g t0)), some (.int v1), some (.int v2), some (.int v3), none, none] [] (s_X5_word_105 k9 t0 v2 v3 n v1 M) := by
  intro n
  induction n with
  | zero =>
    intros
    exact hr_none
  | succ n ih =>
    intro v1 M
    rw [s_X5_word_105]
    refine hr_aload_n X dX5_word_105 rfl ?_
    refine hr_gR X 6 hl_t0 hs_t0 lg_RX5_70 rfl dX5_word_106 (fun q1 hl_q1 hs_q1 => ?_)
    refine hr_iload_n X dX5_word_109 rfl ?_
    refine hr_iald X hl_q1 hs_q1 dX5_word_110 (fun r2 _ _ => ?_)
    refine hr_if_eq X 120 dX5_word_111 rfl ?_ ?_
    · refine hr_iinc X (v1 + 1) dX5_word_120 rfl (by rw [kc_1]) (by decide) rfl ?_
      refine hr_iinc X (v3 + 1) dX5_word_123 rfl (by rw [kc_1]) (by decide) rfl ?_
      refine hr_goto X 9 dX5_word_126 rfl ?_
      exact hr_wk (hs_some (hs_some (hs_some (hs_some (hs_none (hs_none (hs_nil))))))) (hk9 (v1 + 1) v2 (v3 + 1) M)
    · refine hr_iinc X (v1 + 1) dX5_word_114 rfl (by rw [kc_1]) (by decide) rfl ?_
      refine hr_goto X 105 dX5_word_117 rfl ?_
      exact hr_wk (hs_some (hs_some (hs_some (hs_some (hs_none (hs_none (hs_nil))))))) (ih (v1 + 1) M)
set_option maxRecDepth 100000 in
set_option maxHeartbeats 4000000 in
theorem w_X5_word_23 {g : hf_G} {p : Program} {l : Launch} {ev : Env} {s : State} {m : MethodId} {args : Array Value} {below : List Frame} {meth : Method} {c : Code} (X : hf_X g p s m args meth c cX5_word 6 RX5 (some .int))  {t0 : Nat} (hl_t0 : t0 < 69) (hs_t0 : hf_shp t0 = 5) (k9 : Int32 → Int32 → Int32 → hf_M → Option (Int32 × hf_M)) (hk9 : ∀ (v1 : Int32) (v2 : Int32) (v3 : Int32) (M : hf_M), hf_W g p l ev (1) s m args below meth c 6 (hf_QI g below args s) M 9 [some (.ref (hf_a g t0)), some (.int v1), some (.int v2), some (.int v3), none, none] [] (k9 v1 v2 v3 M)) (v1 : Int32) (v2 : Int32) (v3 : Int32) : ∀ (n : Nat) (v4 : Int32) (v5 : Int32) (M : hf_M), hf_W g p l ev (1) s m args below meth c 6 (hf_QI g below args s) M 23 [some (.ref (hf_a g t0)), some (.int v1), some (.int v2), some (.int v3), some (.int v4), some (.int v5)] [] (s_X5_word_23 k9 t0 v1 v2 v3 n v4 v5 M) := by
  intro n
  induction n with
  | zero =>
    intros
    exact hr_none
  | succ n ih =>
    intro v4 v5 M
    rw [s_X5_word_23]
    refine hr_aload_n X dX5_word_23 rfl ?_
    refine hr_gR X 6 hl_t0 hs_t0 lg_RX5_70 rfl dX5_word_24 (fun q1 hl_q1 hs_q1 => ?_)
    refine hr_iload X dX5_word_27 rfl ?_
    refine hr_iald X hl_q1 hs_q1 dX5_word_29 (fun r2 _ _ => ?_)
    refine hr_if_eq X 74 dX5_word_30 rfl ?_ ?_
    · refine hr_aload_n X dX5_word_74 rfl ?_
      refine hr_gR X 6 hl_t0 hs_t0 lg_RX5_70 rfl dX5_word_75 (fun q3 hl_q3 hs_q3 => ?_)
      refine hr_iload X dX5_word_78 rfl ?_
      refine hr_iald X hl_q3 hs_q3 dX5_word_80 (fun r4 _ _ => ?_)
      refine hr_if_ne X 92 dX5_word_81 rfl ?_ ?_
      · refine hr_iload X dX5_word_92 rfl ?_
        refine hr_iload_n X dX5_word_94 rfl ?_
        refine hr_icmp_le X 103 dX5_word_95 rfl ?_ ?_
        · refine hr_iload_n X dX5_word_103 rfl ?_
          refine hr_istore_n X dX5_word_104 (by decide) rfl ?_
          exact hr_wk (hs_some (hs_some (hs_some (hs_some (hs_none (hs_none (hs_nil))))))) (w_X5_word_105 X hl_t0 hs_t0 k9 hk9 v2 v3 2000 v1 M)
        · refine hr_iload X dX5_word_98 rfl ?_
          refine hr_goto X 104 dX5_word_100 rfl ?_
          refine hr_istore_n X dX5_word_104 (by decide) rfl ?_
          exact hr_wk (hs_some (hs_some (hs_some (hs_some (hs_none (hs_none (hs_nil))))))) (w_X5_word_105 X hl_t0 hs_t0 k9 hk9 v4 v3 2000 v1 M)
      · refine hr_aload_n X dX5_word_84 rfl ?_
        refine hr_iload X dX5_word_85 rfl ?_
        refine hr_pI X hl_t0 hs_t0 lp_RX5_166 dX5_word_87 (fun M5 eM5 => ?_)
        refine hr_iload_n X dX5_word_90 rfl ?_
        exact hr_iret X dX5_word_91
    · refine hr_iload X dX5_word_33 rfl ?_
      refine hr_aload_n X dX5_word_35 rfl ?_
      refine hr_gI X hl_t0 hs_t0 lg_RX5_169 dX5_word_36 ?_
      refine hr_icmp_ge X 74 dX5_word_39 rfl ?_ ?_
      · refine hr_aload_n X dX5_word_74 rfl ?_
        refine hr_gR X 6 hl_t0 hs_t0 lg_RX5_70 rfl dX5_word_75 (fun q6 hl_q6 hs_q6 => ?_)
        refine hr_iload X dX5_word_78 rfl ?_
        refine hr_iald X hl_q6 hs_q6 dX5_word_80 (fun r7 _ _ => ?_)
        refine hr_if_ne X 92 dX5_word_81 rfl ?_ ?_
        · refine hr_iload X dX5_word_92 rfl ?_
          refine hr_iload_n X dX5_word_94 rfl ?_
          refine hr_icmp_le X 103 dX5_word_95 rfl ?_ ?_
          · refine hr_iload_n X dX5_word_103 rfl ?_
            refine hr_istore_n X dX5_word_104 (by decide) rfl ?_
            exact hr_wk (hs_some (hs_some (hs_some (hs_some (hs_none (hs_none (hs_nil))))))) (w_X5_word_105 X hl_t0 hs_t0 k9 hk9 v2 v3 2000 v1 M)
          · refine hr_iload X dX5_word_98 rfl ?_
            refine hr_goto X 104 dX5_word_100 rfl ?_
            refine hr_istore_n X dX5_word_104 (by decide) rfl ?_
            exact hr_wk (hs_some (hs_some (hs_some (hs_some (hs_none (hs_none (hs_nil))))))) (w_X5_word_105 X hl_t0 hs_t0 k9 hk9 v4 v3 2000 v1 M)
        · refine hr_aload_n X dX5_word_84 rfl ?_
          refine hr_iload X dX5_word_85 rfl ?_
          refine hr_pI X hl_t0 hs_t0 lp_RX5_166 dX5_word_87 (fun M8 eM8 => ?_)
          refine hr_iload_n X dX5_word_90 rfl ?_
          exact hr_iret X dX5_word_91
      · refine hr_aload_n X dX5_word_42 rfl ?_
        refine hr_gR X 7 hl_t0 hs_t0 lg_RX5_63 rfl dX5_word_43 (fun q9 hl_q9 hs_q9 => ?_)
        refine hr_aload_n X dX5_word_46 rfl ?_
        refine hr_gI X hl_t0 hs_t0 lg_RX5_172 dX5_word_47 ?_
        refine hr_iload X dX5_word_50 rfl ?_
        refine hr_iadd X dX5_word_52 ?_
        refine hr_lald X hl_q9 hs_q9 dX5_word_53 (fun r10 _ _ => ?_)
        refine hr_l2i X dX5_word_54 ?_
        refine hr_aload_n X dX5_word_55 rfl ?_
        refine hr_gR X 6 hl_t0 hs_t0 lg_RX5_70 rfl dX5_word_56 (fun q11 hl_q11 hs_q11 => ?_)
        refine hr_iload X dX5_word_59 rfl ?_
        refine hr_iald X hl_q11 hs_q11 dX5_word_61 (fun r12 _ _ => ?_)
        refine hr_icmp_ne X 74 dX5_word_62 rfl ?_ ?_
        · refine hr_aload_n X dX5_word_74 rfl ?_
          refine hr_gR X 6 hl_t0 hs_t0 lg_RX5_70 rfl dX5_word_75 (fun q13 hl_q13 hs_q13 => ?_)
          refine hr_iload X dX5_word_78 rfl ?_
          refine hr_iald X hl_q13 hs_q13 dX5_word_80 (fun r14 _ _ => ?_)
          refine hr_if_ne X 92 dX5_word_81 rfl ?_ ?_
          · refine hr_iload X dX5_word_92 rfl ?_
            refine hr_iload_n X dX5_word_94 rfl ?_
            refine hr_icmp_le X 103 dX5_word_95 rfl ?_ ?_
            · refine hr_iload_n X dX5_word_103 rfl ?_
              refine hr_istore_n X dX5_word_104 (by decide) rfl ?_
              exact hr_wk (hs_some (hs_some (hs_some (hs_some (hs_none (hs_none (hs_nil))))))) (w_X5_word_105 X hl_t0 hs_t0 k9 hk9 v2 v3 2000 v1 M)
            · refine hr_iload X dX5_word_98 rfl ?_
              refine hr_goto X 104 dX5_word_100 rfl ?_
              refine hr_istore_n X dX5_word_104 (by decide) rfl ?_
              exact hr_wk (hs_some (hs_some (hs_some (hs_some (hs_none (hs_none (hs_nil))))))) (w_X5_word_105 X hl_t0 hs_t0 k9 hk9 v4 v3 2000 v1 M)
          · refine hr_aload_n X dX5_word_84 rfl ?_
            refine hr_iload X dX5_word_85 rfl ?_
            refine hr_pI X hl_t0 hs_t0 lp_RX5_166 dX5_word_87 (fun M15 eM15 => ?_)
            refine hr_iload_n X dX5_word_90 rfl ?_
            exact hr_iret X dX5_word_91
        · refine hr_iinc X (v4 + 1) dX5_word_65 rfl (by rw [kc_1]) (by decide) rfl ?_
          refine hr_iinc X (v5 + 1) dX5_word_68 rfl (by rw [kc_1]) (by decide) rfl ?_
          refine hr_goto X 23 dX5_word_71 rfl ?_
          exact hr_wk (hs_some (hs_some (hs_some (hs_some (hs_some (hs_some (hs_nil))))))) (ih (v4 + 1) (v5 + 1) M)
set_option maxRecDepth 100000 in
set_option maxHeartbeats 4000000 in
theorem w_X5_word_9 {g : hf_G} {p : Program} {l : Launch} {ev : Env} {s : State} {m : MethodId} {args : Array Value} {below : List Frame} {meth : Method} {c : Code} (X : hf_X g p s m args meth c cX5_word 6 RX5 (some .int))    {t0 : Nat} (hl_t0 : t0 < 69) (hs_t0 : hf_shp t0 = 5) : ∀ (n : Nat) (v1 : Int32) (v2 : Int32) (v3 : Int32) (M : hf_M), hf_W g p l ev (1) s m args below meth c 6 (hf_QI g below args s) M 9 [some (.ref (hf_a g t0)), some (.int v1), some (.int v2), some (.int v3), none, none] [] (s_X5_word_9 t0 n v1 v2 v3 M) := by
  intro n
  induction n with
  | zero =>
    intros
    exact hr_none
  | succ n ih =>
    intro v1 v2 v3 M
    rw [s_X5_word_9]
    refine hr_iload_n X dX5_word_9 rfl ?_
    refine hr_iconst X 5 dX5_word_10 kc_5 ?_
    refine hr_icmp_ge X 129 dX5_word_11 rfl ?_ ?_
    · refine hr_aload_n X dX5_word_129 rfl ?_
      refine hr_iload_n X dX5_word_130 rfl ?_
      refine hr_pI X hl_t0 hs_t0 lp_RX5_163 dX5_word_131 (fun M1 eM1 => ?_)
      refine hr_iconst X (-1) dX5_word_134 kc_m1 ?_
      exact hr_iret X dX5_word_135
    · refine hr_aload_n X dX5_word_14 rfl ?_
      refine hr_gI X hl_t0 hs_t0 lg_RX5_166 dX5_word_15 ?_
      refine hr_istore X dX5_word_18 (by decide) rfl ?_
      refine hr_iload_n X dX5_word_20 rfl ?_
      refine hr_istore X dX5_word_21 (by decide) rfl ?_
      exact hr_wk (hs_some (hs_some (hs_some (hs_some (hs_some (hs_some (hs_nil))))))) (w_X5_word_23 X hl_t0 hs_t0 (s_X5_word_9 t0 n) ih v1 v2 v3 2000 (M.1 t0 26) v1 M)
set_option maxRecDepth 100000 in
set_option maxHeartbeats 4000000 in
theorem c_X5_word  {t0 : Nat} (hl_t0 : t0 < 69) (hs_t0 : hf_shp t0 = 5) (M : hf_M) : hf_CI yX5_word cX5_word 6 (some .int) (1) (fun g => [.ref (hf_a g t0)]) M (s_X5_word t0 M) := by
  refine hf_metI (by decide +kernel) (fun g => Nat.le_of_ble_eq_true rfl) (fun g p l ev s m args below meth c X => ?_)
  have X : hf_X g p s m args meth c cX5_word 6 RX5 (some .int) := X
  show hf_W g p l ev (1) s m args below meth c 6 (hf_QI g below args s) M 0 [some (.ref (hf_a g t0)), none, none, none, none, none] [] (s_X5_word t0 M)
  unfold s_X5_word
  refine hr_iconst X 0 dX5_word_0 kc_0 ?_
  refine hr_istore_n X dX5_word_1 (by decide) rfl ?_
  refine hr_aload_n X dX5_word_2 rfl ?_
  refine hr_gI X hl_t0 hs_t0 lg_RX5_166 dX5_word_3 ?_
  refine hr_istore_n X dX5_word_6 (by decide) rfl ?_
  refine hr_iconst X 0 dX5_word_7 kc_0 ?_
  refine hr_istore_n X dX5_word_8 (by decide) rfl ?_
  exact hr_wk (hs_some (hs_some (hs_some (hs_some (hs_none (hs_none (hs_nil))))))) (w_X5_word_9 X hl_t0 hs_t0 2000 0 (M.1 t0 26) 0 M)
set_option maxRecDepth 100000 in
set_option maxHeartbeats 4000000 in
theorem c_X5_isDigit  {t0 : Nat} (hl_t0 : t0 < 69) (hs_t0 : hf_shp t0 = 5) (M : hf_M) : hf_CI yX5_isDigit cX5_isDigit 1 (some .boolean) (1) (fun g => [.ref (hf_a g t0)]) M (s_X5_isDigit t0 M) := by
  refine hf_metI (by decide +kernel) (fun g => Nat.le_of_ble_eq_true rfl) (fun g p l ev s m args below meth c X => ?_)
  have X : hf_X g p s m args meth c cX5_isDigit 1 RX5 (some .boolean) := X
  show hf_W g p l ev (1) s m args below meth c 1 (hf_QI g below args s) M 0 [some (.ref (hf_a g t0))] [] (s_X5_isDigit t0 M)
  unfold s_X5_isDigit
  refine hr_aload_n X dX5_isDigit_0 rfl ?_
  refine hr_gI X hl_t0 hs_t0 lg_RX5_166 dX5_isDigit_1 ?_
  refine hr_aload_n X dX5_isDigit_4 rfl ?_
  refine hr_gI X hl_t0 hs_t0 lg_RX5_169 dX5_isDigit_5 ?_
  refine hr_icmp_ge X 55 dX5_isDigit_8 rfl ?_ ?_
  · refine hr_iconst X 0 dX5_isDigit_55 kc_0 ?_
    exact hr_zretC X (Or.inl rfl) dX5_isDigit_56
  · refine hr_aload_n X dX5_isDigit_11 rfl ?_
    refine hr_gR X 7 hl_t0 hs_t0 lg_RX5_63 rfl dX5_isDigit_12 (fun q1 hl_q1 hs_q1 => ?_)
    refine hr_aload_n X dX5_isDigit_15 rfl ?_
    refine hr_gI X hl_t0 hs_t0 lg_RX5_172 dX5_isDigit_16 ?_
    refine hr_aload_n X dX5_isDigit_19 rfl ?_
    refine hr_gI X hl_t0 hs_t0 lg_RX5_166 dX5_isDigit_20 ?_
    refine hr_iadd X dX5_isDigit_23 ?_
    refine hr_lald X hl_q1 hs_q1 dX5_isDigit_24 (fun r2 _ _ => ?_)
    refine hr_l2i X dX5_isDigit_25 ?_
    refine hr_bipush X 48 dX5_isDigit_26 kb_48 ?_
    refine hr_icmp_lt X 55 dX5_isDigit_28 rfl ?_ ?_
    · refine hr_iconst X 0 dX5_isDigit_55 kc_0 ?_
      exact hr_zretC X (Or.inl rfl) dX5_isDigit_56
    · refine hr_aload_n X dX5_isDigit_31 rfl ?_
      refine hr_gR X 7 hl_t0 hs_t0 lg_RX5_63 rfl dX5_isDigit_32 (fun q3 hl_q3 hs_q3 => ?_)
      refine hr_aload_n X dX5_isDigit_35 rfl ?_
      refine hr_gI X hl_t0 hs_t0 lg_RX5_172 dX5_isDigit_36 ?_
      refine hr_aload_n X dX5_isDigit_39 rfl ?_
      refine hr_gI X hl_t0 hs_t0 lg_RX5_166 dX5_isDigit_40 ?_
      refine hr_iadd X dX5_isDigit_43 ?_
      refine hr_lald X hl_q3 hs_q3 dX5_isDigit_44 (fun r4 _ _ => ?_)
      refine hr_l2i X dX5_isDigit_45 ?_
      refine hr_bipush X 57 dX5_isDigit_46 kb_57 ?_
      refine hr_icmp_gt X 55 dX5_isDigit_48 rfl ?_ ?_
      · refine hr_iconst X 0 dX5_isDigit_55 kc_0 ?_
        exact hr_zretC X (Or.inl rfl) dX5_isDigit_56
      · refine hr_iconst X 1 dX5_isDigit_51 kc_1 ?_
        refine hr_goto X 56 dX5_isDigit_52 rfl ?_
        exact hr_zretC X (Or.inr rfl) dX5_isDigit_56
set_option maxRecDepth 100000 in
set_option maxHeartbeats 4000000 in
theorem w_X5_number_29 {g : hf_G} {p : Program} {l : Launch} {ev : Env} {s : State} {m : MethodId} {args : Array Value} {below : List Frame} {meth : Method} {c : Code} (X : hf_X g p s m args meth c cX5_number 5 RX5 (some .boolean))    {t0 : Nat} (hl_t0 : t0 < 69) (hs_t0 : hf_shp t0 = 5) (v1 : Int32) (v2 : Int32) (v3 : Int32) : ∀ (n : Nat) (v4 : Int32) (M : hf_M), hf_W g p l ev (2) s m args below meth c 5 (hf_QI g below args s) M 29 [some (.ref (hf_a g t0)), some (.int v1), some (.int v2), some (.int v3), some (.int v4)] [] (s_X5_number_29 t0 v1 v2 v3 n v4 M) := by
  intro n
  induction n with
  | zero =>
    intros
    exact hr_none
  | succ n ih =>
    intro v4 M
    rw [s_X5_number_29]
    refine hr_iload X dX5_number_29 rfl ?_
    refine hr_iconst X 4 dX5_number_31 kc_4 ?_
    refine hr_icmp_ge X 88 dX5_number_32 rfl ?_ ?_
    · refine hr_aload_n X dX5_number_88 rfl ?_
      refine hr_gI X hl_t0 hs_t0 lg_RX5_175 dX5_number_89 ?_
      refine hr_iload_n X dX5_number_92 rfl ?_
      refine hr_icmp_lt X 104 dX5_number_93 rfl ?_ ?_
      · refine hr_aload_n X dX5_number_104 rfl ?_
        refine hr_iload_n X dX5_number_105 rfl ?_
        refine hr_cvI X [.int v3] [] (c_X5_wrong hl_t0 hs_t0 v3 M) lk_RX5_182 rfl rfl rfl hl_t0 hs_t0 ⟨by decide, rfl⟩ (by decide) (Nat.le_of_ble_eq_true rfl) dX5_number_106 (fun r1 M2 _ => ?_)
        refine hr_if_eq X 116 dX5_number_109 rfl ?_ ?_
        · refine hr_iconst X 0 dX5_number_116 kc_0 ?_
          exact hr_zretC X (Or.inl rfl) dX5_number_117
        · refine hr_iconst X 1 dX5_number_112 kc_1 ?_
          refine hr_goto X 117 dX5_number_113 rfl ?_
          exact hr_zretC X (Or.inr rfl) dX5_number_117
      · refine hr_aload_n X dX5_number_96 rfl ?_
        refine hr_gI X hl_t0 hs_t0 lg_RX5_175 dX5_number_97 ?_
        refine hr_iload_n X dX5_number_100 rfl ?_
        refine hr_icmp_le X 112 dX5_number_101 rfl ?_ ?_
        · refine hr_iconst X 1 dX5_number_112 kc_1 ?_
          refine hr_goto X 117 dX5_number_113 rfl ?_
          exact hr_zretC X (Or.inr rfl) dX5_number_117
        · refine hr_aload_n X dX5_number_104 rfl ?_
          refine hr_iload_n X dX5_number_105 rfl ?_
          refine hr_cvI X [.int v3] [] (c_X5_wrong hl_t0 hs_t0 v3 M) lk_RX5_182 rfl rfl rfl hl_t0 hs_t0 ⟨by decide, rfl⟩ (by decide) (Nat.le_of_ble_eq_true rfl) dX5_number_106 (fun r3 M4 _ => ?_)
          refine hr_if_eq X 116 dX5_number_109 rfl ?_ ?_
          · refine hr_iconst X 0 dX5_number_116 kc_0 ?_
            exact hr_zretC X (Or.inl rfl) dX5_number_117
          · refine hr_iconst X 1 dX5_number_112 kc_1 ?_
            refine hr_goto X 117 dX5_number_113 rfl ?_
            exact hr_zretC X (Or.inr rfl) dX5_number_117
    · refine hr_aload_n X dX5_number_35 rfl ?_
      refine hr_cvI X [] [] (c_X5_isDigit hl_t0 hs_t0 M) lk_RX5_178 rfl rfl rfl hl_t0 hs_t0 ⟨by decide, rfl⟩ (by decide) (Nat.le_of_ble_eq_true rfl) dX5_number_36 (fun r5 M6 _ => ?_)
      refine hr_if_eq X 88 dX5_number_39 rfl ?_ ?_
      · refine hr_aload_n X dX5_number_88 rfl ?_
        refine hr_gI X hl_t0 hs_t0 lg_RX5_175 dX5_number_89 ?_
        refine hr_iload_n X dX5_number_92 rfl ?_
        refine hr_icmp_lt X 104 dX5_number_93 rfl ?_ ?_
        · refine hr_aload_n X dX5_number_104 rfl ?_
          refine hr_iload_n X dX5_number_105 rfl ?_
          refine hr_cvI X [.int v3] [] (c_X5_wrong hl_t0 hs_t0 v3 M6) lk_RX5_182 rfl rfl rfl hl_t0 hs_t0 ⟨by decide, rfl⟩ (by decide) (Nat.le_of_ble_eq_true rfl) dX5_number_106 (fun r7 M8 _ => ?_)
          refine hr_if_eq X 116 dX5_number_109 rfl ?_ ?_
          · refine hr_iconst X 0 dX5_number_116 kc_0 ?_
            exact hr_zretC X (Or.inl rfl) dX5_number_117
          · refine hr_iconst X 1 dX5_number_112 kc_1 ?_
            refine hr_goto X 117 dX5_number_113 rfl ?_
            exact hr_zretC X (Or.inr rfl) dX5_number_117
        · refine hr_aload_n X dX5_number_96 rfl ?_
          refine hr_gI X hl_t0 hs_t0 lg_RX5_175 dX5_number_97 ?_
          refine hr_iload_n X dX5_number_100 rfl ?_
          refine hr_icmp_le X 112 dX5_number_101 rfl ?_ ?_
          · refine hr_iconst X 1 dX5_number_112 kc_1 ?_
            refine hr_goto X 117 dX5_number_113 rfl ?_
            exact hr_zretC X (Or.inr rfl) dX5_number_117
          · refine hr_aload_n X dX5_number_104 rfl ?_
            refine hr_iload_n X dX5_number_105 rfl ?_
            refine hr_cvI X [.int v3] [] (c_X5_wrong hl_t0 hs_t0 v3 M6) lk_RX5_182 rfl rfl rfl hl_t0 hs_t0 ⟨by decide, rfl⟩ (by decide) (Nat.le_of_ble_eq_true rfl) dX5_number_106 (fun r9 M10 _ => ?_)
            refine hr_if_eq X 116 dX5_number_109 rfl ?_ ?_
            · refine hr_iconst X 0 dX5_number_116 kc_0 ?_
              exact hr_zretC X (Or.inl rfl) dX5_number_117
            · refine hr_iconst X 1 dX5_number_112 kc_1 ?_
              refine hr_goto X 117 dX5_number_113 rfl ?_
              exact hr_zretC X (Or.inr rfl) dX5_number_117
      · refine hr_aload_n X dX5_number_42 rfl ?_
        refine hr_bipush X 10 dX5_number_43 kb_10 ?_
        refine hr_aload_n X dX5_number_45 rfl ?_
        refine hr_gI X hl_t0 hs_t0 lg_RX5_175 dX5_number_46 ?_
        refine hr_imul X dX5_number_49 ?_
        refine hr_aload_n X dX5_number_50 rfl ?_
        refine hr_gR X 7 hl_t0 hs_t0 lg_RX5_63 rfl dX5_number_51 (fun q11 hl_q11 hs_q11 => ?_)
        refine hr_aload_n X dX5_number_54 rfl ?_
        refine hr_gI X hl_t0 hs_t0 lg_RX5_172 dX5_number_55 ?_
        refine hr_aload_n X dX5_number_58 rfl ?_
        refine hr_gI X hl_t0 hs_t0 lg_RX5_166 dX5_number_59 ?_
        refine hr_iadd X dX5_number_62 ?_
        refine hr_lald X hl_q11 hs_q11 dX5_number_63 (fun r12 _ _ => ?_)
        refine hr_l2i X dX5_number_64 ?_
        refine hr_iadd X dX5_number_65 ?_
        refine hr_bipush X 48 dX5_number_66 kb_48 ?_
        refine hr_isub X dX5_number_68 ?_
        refine hr_pI X hl_t0 hs_t0 lp_RX5_175 dX5_number_69 (fun M13 eM13 => ?_)
        refine hr_aload_n X dX5_number_72 rfl ?_
        refine hr_dup X dX5_number_73 rfl ?_
        refine hr_gI X hl_t0 hs_t0 lg_RX5_166 dX5_number_74 ?_
        refine hr_iconst X 1 dX5_number_77 kc_1 ?_
        refine hr_iadd X dX5_number_78 ?_
        refine hr_pI X hl_t0 hs_t0 lp_RX5_166 dX5_number_79 (fun M14 eM14 => ?_)
        refine hr_iinc X (v4 + 1) dX5_number_82 rfl (by rw [kc_1]) (by decide) rfl ?_
        refine hr_goto X 29 dX5_number_85 rfl ?_
        exact hr_wk (hs_some (hs_some (hs_some (hs_some (hs_some (hs_nil)))))) (ih (v4 + 1) M14)
set_option maxRecDepth 100000 in
set_option maxHeartbeats 4000000 in
theorem c_X5_number  {t0 : Nat} (hl_t0 : t0 < 69) (hs_t0 : hf_shp t0 = 5) (a1 : Int32) (a2 : Int32) (M : hf_M) : hf_CI yX5_number cX5_number 5 (some .boolean) (2) (fun g => [.ref (hf_a g t0), .int a1, .int a2]) M (s_X5_number t0 a1 a2 M) := by
  refine hf_metI (by decide +kernel) (fun g => Nat.le_of_ble_eq_true rfl) (fun g p l ev s m args below meth c X => ?_)
  have X : hf_X g p s m args meth c cX5_number 5 RX5 (some .boolean) := X
  show hf_W g p l ev (2) s m args below meth c 5 (hf_QI g below args s) M 0 [some (.ref (hf_a g t0)), some (.int a1), some (.int a2), none, none] [] (s_X5_number t0 a1 a2 M)
  unfold s_X5_number
  refine hr_aload_n X dX5_number_0 rfl ?_
  refine hr_gI X hl_t0 hs_t0 lg_RX5_166 dX5_number_1 ?_
  refine hr_istore_n X dX5_number_4 (by decide) rfl ?_
  refine hr_aload_n X dX5_number_5 rfl ?_
  refine hr_iconst X 0 dX5_number_6 kc_0 ?_
  refine hr_pI X hl_t0 hs_t0 lp_RX5_175 dX5_number_7 (fun M1 eM1 => ?_)
  refine hr_aload_n X dX5_number_10 rfl ?_
  refine hr_cvI X [] [] (c_X5_isDigit hl_t0 hs_t0 M1) lk_RX5_178 rfl rfl rfl hl_t0 hs_t0 ⟨by decide, rfl⟩ (by decide) (Nat.le_of_ble_eq_true rfl) dX5_number_11 (fun r2 M3 _ => ?_)
  refine hr_if_ne X 26 dX5_number_14 rfl ?_ ?_
  · refine hr_iconst X 0 dX5_number_26 kc_0 ?_
    refine hr_istore X dX5_number_27 (by decide) rfl ?_
    exact hr_wk (hs_some (hs_some (hs_some (hs_some (hs_some (hs_nil)))))) (w_X5_number_29 X hl_t0 hs_t0 a1 a2 (M.1 t0 26) 2000 0 M3)
  · refine hr_aload_n X dX5_number_17 rfl ?_
    refine hr_aload_n X dX5_number_18 rfl ?_
    refine hr_gI X hl_t0 hs_t0 lg_RX5_166 dX5_number_19 ?_
    refine hr_cvI X [.int (M3.1 t0 26)] [] (c_X5_wrong hl_t0 hs_t0 (M3.1 t0 26) M3) lk_RX5_182 rfl rfl rfl hl_t0 hs_t0 ⟨by decide, rfl⟩ (by decide) (Nat.le_of_ble_eq_true rfl) dX5_number_22 (fun r4 M5 _ => ?_)
    exact hr_zret X dX5_number_25
set_option maxRecDepth 100000 in
set_option maxHeartbeats 4000000 in
theorem c_X5_high  {t0 : Nat} (hl_t0 : t0 < 69) (hs_t0 : hf_shp t0 = 5) (a1 : Int32) (a2 : Int32) (M : hf_M) : hf_CI yX5_high cX5_high 3 (some .int) (1) (fun g => [.ref (hf_a g t0), .int a1, .int a2]) M (s_X5_high t0 a1 a2 M) := by
  refine hf_metI (by decide +kernel) (fun g => Nat.le_of_ble_eq_true rfl) (fun g p l ev s m args below meth c X => ?_)
  have X : hf_X g p s m args meth c cX5_high 3 RX5 (some .int) := X
  show hf_W g p l ev (1) s m args below meth c 3 (hf_QI g below args s) M 0 [some (.ref (hf_a g t0)), some (.int a1), some (.int a2)] [] (s_X5_high t0 a1 a2 M)
  unfold s_X5_high
  refine hr_iload_n X dX5_high_0 rfl ?_
  refine hr_case 0 (fun _ => ?_) (fun n1_0 => ?_)
  · refine hr_tabIn X 32 dX5_high_1 (by decide) (by decide) rfl rfl ?_
    refine hr_bipush X 99 dX5_high_32 kb_99 ?_
    exact hr_iret X dX5_high_34
  refine hr_case 1 (fun _ => ?_) (fun n1_1 => ?_)
  · refine hr_tabIn X 35 dX5_high_1 (by decide) (by decide) rfl rfl ?_
    refine hr_iload_n X dX5_high_35 rfl ?_
    refine hr_if_ne X 44 dX5_high_36 rfl ?_ ?_
    · refine hr_sipush X 1023 dX5_high_44 ks_1023 ?_
      exact hr_iret X dX5_high_47
    · refine hr_bipush X 6 dX5_high_39 kb_6 ?_
      refine hr_goto X 47 dX5_high_41 rfl ?_
      exact hr_iret X dX5_high_47
  refine hr_case 2 (fun _ => ?_) (fun n1_2 => ?_)
  · refine hr_tabIn X 48 dX5_high_1 (by decide) (by decide) rfl rfl ?_
    refine hr_iload_n X dX5_high_48 rfl ?_
    refine hr_if_ne X 57 dX5_high_49 rfl ?_ ?_
    · refine hr_aload_n X dX5_high_57 rfl ?_
      refine hr_gR X 6 hl_t0 hs_t0 lg_RX5_73 rfl dX5_high_58 (fun q1 hl_q1 hs_q1 => ?_)
      refine hr_iconst X 0 dX5_high_61 kc_0 ?_
      refine hr_iald X hl_q1 hs_q1 dX5_high_62 (fun r2 _ _ => ?_)
      exact hr_iret X dX5_high_63
    · refine hr_bipush X 10 dX5_high_52 kb_10 ?_
      refine hr_goto X 63 dX5_high_54 rfl ?_
      exact hr_iret X dX5_high_63
  refine hr_case 3 (fun _ => ?_) (fun n1_3 => ?_)
  · refine hr_tabIn X 64 dX5_high_1 (by decide) (by decide) rfl rfl ?_
    refine hr_iload_n X dX5_high_64 rfl ?_
    refine hr_if_ne X 77 dX5_high_65 rfl ?_ ?_
    · refine hr_iload_n X dX5_high_77 rfl ?_
      refine hr_iconst X 1 dX5_high_78 kc_1 ?_
      refine hr_icmp_ne X 91 dX5_high_79 rfl ?_ ?_
      · refine hr_iconst X 1 dX5_high_91 kc_1 ?_
        exact hr_iret X dX5_high_92
      · refine hr_aload_n X dX5_high_82 rfl ?_
        refine hr_gI X hl_t0 hs_t0 lg_RX5_89 dX5_high_83 ?_
        refine hr_iconst X 1 dX5_high_86 kc_1 ?_
        refine hr_isub X dX5_high_87 ?_
        refine hr_goto X 92 dX5_high_88 rfl ?_
        exact hr_iret X dX5_high_92
    · refine hr_aload_n X dX5_high_68 rfl ?_
      refine hr_gI X hl_t0 hs_t0 lg_RX5_92 dX5_high_69 ?_
      refine hr_iconst X 1 dX5_high_72 kc_1 ?_
      refine hr_isub X dX5_high_73 ?_
      refine hr_goto X 92 dX5_high_74 rfl ?_
      exact hr_iret X dX5_high_92
  · have e0 := hf_neT 0 n1_0 (by decide)
    have e1 := hf_neT 1 n1_1 (by decide)
    have e2 := hf_neT 2 n1_2 (by decide)
    have e3 := hf_neT 3 n1_3 (by decide)
    refine hr_tabOut X 93 dX5_high_1 (by omega) rfl ?_
    refine hr_iload_n X dX5_high_93 rfl ?_
    refine hr_if_ne X 106 dX5_high_94 rfl ?_ ?_
    · refine hr_iconst X 1 dX5_high_106 kc_1 ?_
      exact hr_iret X dX5_high_107
    · refine hr_aload_n X dX5_high_97 rfl ?_
      refine hr_gI X hl_t0 hs_t0 lg_RX5_89 dX5_high_98 ?_
      refine hr_iconst X 1 dX5_high_101 kc_1 ?_
      refine hr_isub X dX5_high_102 ?_
      refine hr_goto X 107 dX5_high_103 rfl ?_
      exact hr_iret X dX5_high_107
set_option maxRecDepth 100000 in
set_option maxHeartbeats 4000000 in
theorem c_X5_isWordFull  {t0 : Nat} (hl_t0 : t0 < 69) (hs_t0 : hf_shp t0 = 5) (a1 : Int32) (M : hf_M) : hf_CI yX5_isWordFull cX5_isWordFull 2 (some .boolean) (1) (fun g => [.ref (hf_a g t0), .int a1]) M (s_X5_isWordFull t0 a1 M) := by
  refine hf_metI (by decide +kernel) (fun g => Nat.le_of_ble_eq_true rfl) (fun g p l ev s m args below meth c X => ?_)
  have X : hf_X g p s m args meth c cX5_isWordFull 2 RX5 (some .boolean) := X
  show hf_W g p l ev (1) s m args below meth c 2 (hf_QI g below args s) M 0 [some (.ref (hf_a g t0)), some (.int a1)] [] (s_X5_isWordFull t0 a1 M)
  unfold s_X5_isWordFull
  refine hr_iload_n X dX5_isWordFull_0 rfl ?_
  refine hr_if_ne X 13 dX5_isWordFull_1 rfl ?_ ?_
  · refine hr_iload_n X dX5_isWordFull_13 rfl ?_
    refine hr_iconst X 1 dX5_isWordFull_14 kc_1 ?_
    refine hr_icmp_ne X 27 dX5_isWordFull_15 rfl ?_ ?_
    · refine hr_iload_n X dX5_isWordFull_27 rfl ?_
      refine hr_iconst X 2 dX5_isWordFull_28 kc_2 ?_
      refine hr_icmp_ne X 39 dX5_isWordFull_29 rfl ?_ ?_
      · refine hr_iload_n X dX5_isWordFull_39 rfl ?_
        refine hr_iconst X 3 dX5_isWordFull_40 kc_3 ?_
        refine hr_icmp_ne X 57 dX5_isWordFull_41 rfl ?_ ?_
        · refine hr_iconst X 0 dX5_isWordFull_57 kc_0 ?_
          exact hr_zretC X (Or.inl rfl) dX5_isWordFull_58
        · refine hr_aload_n X dX5_isWordFull_44 rfl ?_
          refine hr_gI X hl_t0 hs_t0 lg_RX5_118 dX5_isWordFull_45 ?_
          refine hr_bipush X 24 dX5_isWordFull_48 kb_24 ?_
          refine hr_icmp_ne X 57 dX5_isWordFull_50 rfl ?_ ?_
          · refine hr_iconst X 0 dX5_isWordFull_57 kc_0 ?_
            exact hr_zretC X (Or.inl rfl) dX5_isWordFull_58
          · refine hr_iconst X 1 dX5_isWordFull_53 kc_1 ?_
            refine hr_goto X 58 dX5_isWordFull_54 rfl ?_
            exact hr_zretC X (Or.inr rfl) dX5_isWordFull_58
      · refine hr_aload_n X dX5_isWordFull_32 rfl ?_
        refine hr_gI X hl_t0 hs_t0 lg_RX5_118 dX5_isWordFull_33 ?_
        refine hr_if_gt X 53 dX5_isWordFull_36 rfl ?_ ?_
        · refine hr_iconst X 1 dX5_isWordFull_53 kc_1 ?_
          refine hr_goto X 58 dX5_isWordFull_54 rfl ?_
          exact hr_zretC X (Or.inr rfl) dX5_isWordFull_58
        · refine hr_iload_n X dX5_isWordFull_39 rfl ?_
          refine hr_iconst X 3 dX5_isWordFull_40 kc_3 ?_
          refine hr_icmp_ne X 57 dX5_isWordFull_41 rfl ?_ ?_
          · refine hr_iconst X 0 dX5_isWordFull_57 kc_0 ?_
            exact hr_zretC X (Or.inl rfl) dX5_isWordFull_58
          · refine hr_aload_n X dX5_isWordFull_44 rfl ?_
            refine hr_gI X hl_t0 hs_t0 lg_RX5_118 dX5_isWordFull_45 ?_
            refine hr_bipush X 24 dX5_isWordFull_48 kb_24 ?_
            refine hr_icmp_ne X 57 dX5_isWordFull_50 rfl ?_ ?_
            · refine hr_iconst X 0 dX5_isWordFull_57 kc_0 ?_
              exact hr_zretC X (Or.inl rfl) dX5_isWordFull_58
            · refine hr_iconst X 1 dX5_isWordFull_53 kc_1 ?_
              refine hr_goto X 58 dX5_isWordFull_54 rfl ?_
              exact hr_zretC X (Or.inr rfl) dX5_isWordFull_58
    · refine hr_aload_n X dX5_isWordFull_18 rfl ?_
      refine hr_gI X hl_t0 hs_t0 lg_RX5_92 dX5_isWordFull_19 ?_
      refine hr_bipush X 6 dX5_isWordFull_22 kb_6 ?_
      refine hr_icmp_eq X 53 dX5_isWordFull_24 rfl ?_ ?_
      · refine hr_iconst X 1 dX5_isWordFull_53 kc_1 ?_
        refine hr_goto X 58 dX5_isWordFull_54 rfl ?_
        exact hr_zretC X (Or.inr rfl) dX5_isWordFull_58
      · refine hr_iload_n X dX5_isWordFull_27 rfl ?_
        refine hr_iconst X 2 dX5_isWordFull_28 kc_2 ?_
        refine hr_icmp_ne X 39 dX5_isWordFull_29 rfl ?_ ?_
        · refine hr_iload_n X dX5_isWordFull_39 rfl ?_
          refine hr_iconst X 3 dX5_isWordFull_40 kc_3 ?_
          refine hr_icmp_ne X 57 dX5_isWordFull_41 rfl ?_ ?_
          · refine hr_iconst X 0 dX5_isWordFull_57 kc_0 ?_
            exact hr_zretC X (Or.inl rfl) dX5_isWordFull_58
          · refine hr_aload_n X dX5_isWordFull_44 rfl ?_
            refine hr_gI X hl_t0 hs_t0 lg_RX5_118 dX5_isWordFull_45 ?_
            refine hr_bipush X 24 dX5_isWordFull_48 kb_24 ?_
            refine hr_icmp_ne X 57 dX5_isWordFull_50 rfl ?_ ?_
            · refine hr_iconst X 0 dX5_isWordFull_57 kc_0 ?_
              exact hr_zretC X (Or.inl rfl) dX5_isWordFull_58
            · refine hr_iconst X 1 dX5_isWordFull_53 kc_1 ?_
              refine hr_goto X 58 dX5_isWordFull_54 rfl ?_
              exact hr_zretC X (Or.inr rfl) dX5_isWordFull_58
        · refine hr_aload_n X dX5_isWordFull_32 rfl ?_
          refine hr_gI X hl_t0 hs_t0 lg_RX5_118 dX5_isWordFull_33 ?_
          refine hr_if_gt X 53 dX5_isWordFull_36 rfl ?_ ?_
          · refine hr_iconst X 1 dX5_isWordFull_53 kc_1 ?_
            refine hr_goto X 58 dX5_isWordFull_54 rfl ?_
            exact hr_zretC X (Or.inr rfl) dX5_isWordFull_58
          · refine hr_iload_n X dX5_isWordFull_39 rfl ?_
            refine hr_iconst X 3 dX5_isWordFull_40 kc_3 ?_
            refine hr_icmp_ne X 57 dX5_isWordFull_41 rfl ?_ ?_
            · refine hr_iconst X 0 dX5_isWordFull_57 kc_0 ?_
              exact hr_zretC X (Or.inl rfl) dX5_isWordFull_58
            · refine hr_aload_n X dX5_isWordFull_44 rfl ?_
              refine hr_gI X hl_t0 hs_t0 lg_RX5_118 dX5_isWordFull_45 ?_
              refine hr_bipush X 24 dX5_isWordFull_48 kb_24 ?_
              refine hr_icmp_ne X 57 dX5_isWordFull_50 rfl ?_ ?_
              · refine hr_iconst X 0 dX5_isWordFull_57 kc_0 ?_
                exact hr_zretC X (Or.inl rfl) dX5_isWordFull_58
              · refine hr_iconst X 1 dX5_isWordFull_53 kc_1 ?_
                refine hr_goto X 58 dX5_isWordFull_54 rfl ?_
                exact hr_zretC X (Or.inr rfl) dX5_isWordFull_58
  · refine hr_aload_n X dX5_isWordFull_4 rfl ?_
    refine hr_gI X hl_t0 hs_t0 lg_RX5_89 dX5_isWordFull_5 ?_
    refine hr_bipush X 6 dX5_isWordFull_8 kb_6 ?_
    refine hr_icmp_eq X 53 dX5_isWordFull_10 rfl ?_ ?_
    · refine hr_iconst X 1 dX5_isWordFull_53 kc_1 ?_
      refine hr_goto X 58 dX5_isWordFull_54 rfl ?_
      exact hr_zretC X (Or.inr rfl) dX5_isWordFull_58
    · refine hr_iload_n X dX5_isWordFull_13 rfl ?_
      refine hr_iconst X 1 dX5_isWordFull_14 kc_1 ?_
      refine hr_icmp_ne X 27 dX5_isWordFull_15 rfl ?_ ?_
      · refine hr_iload_n X dX5_isWordFull_27 rfl ?_
        refine hr_iconst X 2 dX5_isWordFull_28 kc_2 ?_
        refine hr_icmp_ne X 39 dX5_isWordFull_29 rfl ?_ ?_
        · refine hr_iload_n X dX5_isWordFull_39 rfl ?_
          refine hr_iconst X 3 dX5_isWordFull_40 kc_3 ?_
          refine hr_icmp_ne X 57 dX5_isWordFull_41 rfl ?_ ?_
          · refine hr_iconst X 0 dX5_isWordFull_57 kc_0 ?_
            exact hr_zretC X (Or.inl rfl) dX5_isWordFull_58
          · refine hr_aload_n X dX5_isWordFull_44 rfl ?_
            refine hr_gI X hl_t0 hs_t0 lg_RX5_118 dX5_isWordFull_45 ?_
            refine hr_bipush X 24 dX5_isWordFull_48 kb_24 ?_
            refine hr_icmp_ne X 57 dX5_isWordFull_50 rfl ?_ ?_
            · refine hr_iconst X 0 dX5_isWordFull_57 kc_0 ?_
              exact hr_zretC X (Or.inl rfl) dX5_isWordFull_58
            · refine hr_iconst X 1 dX5_isWordFull_53 kc_1 ?_
              refine hr_goto X 58 dX5_isWordFull_54 rfl ?_
              exact hr_zretC X (Or.inr rfl) dX5_isWordFull_58
        · refine hr_aload_n X dX5_isWordFull_32 rfl ?_
          refine hr_gI X hl_t0 hs_t0 lg_RX5_118 dX5_isWordFull_33 ?_
          refine hr_if_gt X 53 dX5_isWordFull_36 rfl ?_ ?_
          · refine hr_iconst X 1 dX5_isWordFull_53 kc_1 ?_
            refine hr_goto X 58 dX5_isWordFull_54 rfl ?_
            exact hr_zretC X (Or.inr rfl) dX5_isWordFull_58
          · refine hr_iload_n X dX5_isWordFull_39 rfl ?_
            refine hr_iconst X 3 dX5_isWordFull_40 kc_3 ?_
            refine hr_icmp_ne X 57 dX5_isWordFull_41 rfl ?_ ?_
            · refine hr_iconst X 0 dX5_isWordFull_57 kc_0 ?_
              exact hr_zretC X (Or.inl rfl) dX5_isWordFull_58
            · refine hr_aload_n X dX5_isWordFull_44 rfl ?_
              refine hr_gI X hl_t0 hs_t0 lg_RX5_118 dX5_isWordFull_45 ?_
              refine hr_bipush X 24 dX5_isWordFull_48 kb_24 ?_
              refine hr_icmp_ne X 57 dX5_isWordFull_50 rfl ?_ ?_
              · refine hr_iconst X 0 dX5_isWordFull_57 kc_0 ?_
                exact hr_zretC X (Or.inl rfl) dX5_isWordFull_58
              · refine hr_iconst X 1 dX5_isWordFull_53 kc_1 ?_
                refine hr_goto X 58 dX5_isWordFull_54 rfl ?_
                exact hr_zretC X (Or.inr rfl) dX5_isWordFull_58
      · refine hr_aload_n X dX5_isWordFull_18 rfl ?_
        refine hr_gI X hl_t0 hs_t0 lg_RX5_92 dX5_isWordFull_19 ?_
        refine hr_bipush X 6 dX5_isWordFull_22 kb_6 ?_
        refine hr_icmp_eq X 53 dX5_isWordFull_24 rfl ?_ ?_
        · refine hr_iconst X 1 dX5_isWordFull_53 kc_1 ?_
          refine hr_goto X 58 dX5_isWordFull_54 rfl ?_
          exact hr_zretC X (Or.inr rfl) dX5_isWordFull_58
        · refine hr_iload_n X dX5_isWordFull_27 rfl ?_
          refine hr_iconst X 2 dX5_isWordFull_28 kc_2 ?_
          refine hr_icmp_ne X 39 dX5_isWordFull_29 rfl ?_ ?_
          · refine hr_iload_n X dX5_isWordFull_39 rfl ?_
            refine hr_iconst X 3 dX5_isWordFull_40 kc_3 ?_
            refine hr_icmp_ne X 57 dX5_isWordFull_41 rfl ?_ ?_
            · refine hr_iconst X 0 dX5_isWordFull_57 kc_0 ?_
              exact hr_zretC X (Or.inl rfl) dX5_isWordFull_58
            · refine hr_aload_n X dX5_isWordFull_44 rfl ?_
              refine hr_gI X hl_t0 hs_t0 lg_RX5_118 dX5_isWordFull_45 ?_
              refine hr_bipush X 24 dX5_isWordFull_48 kb_24 ?_
              refine hr_icmp_ne X 57 dX5_isWordFull_50 rfl ?_ ?_
              · refine hr_iconst X 0 dX5_isWordFull_57 kc_0 ?_
                exact hr_zretC X (Or.inl rfl) dX5_isWordFull_58
              · refine hr_iconst X 1 dX5_isWordFull_53 kc_1 ?_
                refine hr_goto X 58 dX5_isWordFull_54 rfl ?_
                exact hr_zretC X (Or.inr rfl) dX5_isWordFull_58
          · refine hr_aload_n X dX5_isWordFull_32 rfl ?_
            refine hr_gI X hl_t0 hs_t0 lg_RX5_118 dX5_isWordFull_33 ?_
            refine hr_if_gt X 53 dX5_isWordFull_36 rfl ?_ ?_
            · refine hr_iconst X 1 dX5_isWordFull_53 kc_1 ?_
              refine hr_goto X 58 dX5_isWordFull_54 rfl ?_
              exact hr_zretC X (Or.inr rfl) dX5_isWordFull_58
            · refine hr_iload_n X dX5_isWordFull_39 rfl ?_
              refine hr_iconst X 3 dX5_isWordFull_40 kc_3 ?_
              refine hr_icmp_ne X 57 dX5_isWordFull_41 rfl ?_ ?_
              · refine hr_iconst X 0 dX5_isWordFull_57 kc_0 ?_
                exact hr_zretC X (Or.inl rfl) dX5_isWordFull_58
              · refine hr_aload_n X dX5_isWordFull_44 rfl ?_
                refine hr_gI X hl_t0 hs_t0 lg_RX5_118 dX5_isWordFull_45 ?_
                refine hr_bipush X 24 dX5_isWordFull_48 kb_24 ?_
                refine hr_icmp_ne X 57 dX5_isWordFull_50 rfl ?_ ?_
                · refine hr_iconst X 0 dX5_isWordFull_57 kc_0 ?_
                  exact hr_zretC X (Or.inl rfl) dX5_isWordFull_58
                · refine hr_iconst X 1 dX5_isWordFull_53 kc_1 ?_
                  refine hr_goto X 58 dX5_isWordFull_54 rfl ?_
                  exact hr_zretC X (Or.inr rfl) dX5_isWordFull_58
set_option maxRecDepth 100000 in
set_option maxHeartbeats 4000000 in
theorem w_X5_isWordAt_37 {g : hf_G} {p : Program} {l : Launch} {ev : Env} {s : State} {m : MethodId} {args : Array Value} {below : List Frame} {meth : Method} {c : Code} (X : hf_X g p s m args meth c cX5_isWordAt 4 RX5 (some .boolean))    {t0 : Nat} (hl_t0 : t0 < 69) (hs_t0 : hf_shp t0 = 5) : ∀ (n : Nat) (v2 : Int32) (v3 : Int32) (M : hf_M), hf_W g p l ev (1) s m args below meth c 4 (hf_QI g below args s) M 37 [some (.ref (hf_a g t0)), none, some (.int v2), some (.int v3)] [] (s_X5_isWordAt_37 t0 n v2 v3 M) := by
  intro n
  induction n with
  | zero =>
    intros
    exact hr_none
  | succ n ih =>
    intro v2 v3 M
    rw [s_X5_isWordAt_37]
    refine hr_aload_n X dX5_isWordAt_37 rfl ?_
    refine hr_gR X 6 hl_t0 hs_t0 lg_RX5_70 rfl dX5_isWordAt_38 (fun q1 hl_q1 hs_q1 => ?_)
    refine hr_iload_n X dX5_isWordAt_41 rfl ?_
    refine hr_iald X hl_q1 hs_q1 dX5_isWordAt_42 (fun r2 _ _ => ?_)
    refine hr_bipush X 32 dX5_isWordAt_43 kb_32 ?_
    refine hr_icmp_le X 86 dX5_isWordAt_45 rfl ?_ ?_
    · refine hr_aload_n X dX5_isWordAt_86 rfl ?_
      refine hr_gR X 6 hl_t0 hs_t0 lg_RX5_70 rfl dX5_isWordAt_87 (fun q3 hl_q3 hs_q3 => ?_)
      refine hr_iload_n X dX5_isWordAt_90 rfl ?_
      refine hr_iald X hl_q3 hs_q3 dX5_isWordAt_91 (fun r4 _ _ => ?_)
      refine hr_bipush X 32 dX5_isWordAt_92 kb_32 ?_
      refine hr_icmp_gt X 101 dX5_isWordAt_94 rfl ?_ ?_
      · refine hr_iconst X 0 dX5_isWordAt_101 kc_0 ?_
        exact hr_zretC X (Or.inl rfl) dX5_isWordAt_102
      · refine hr_iconst X 1 dX5_isWordAt_97 kc_1 ?_
        refine hr_goto X 102 dX5_isWordAt_98 rfl ?_
        exact hr_zretC X (Or.inr rfl) dX5_isWordAt_102
    · refine hr_iload_n X dX5_isWordAt_48 rfl ?_
      refine hr_aload_n X dX5_isWordAt_49 rfl ?_
      refine hr_gI X hl_t0 hs_t0 lg_RX5_169 dX5_isWordAt_50 ?_
      refine hr_icmp_ge X 86 dX5_isWordAt_53 rfl ?_ ?_
      · refine hr_aload_n X dX5_isWordAt_86 rfl ?_
        refine hr_gR X 6 hl_t0 hs_t0 lg_RX5_70 rfl dX5_isWordAt_87 (fun q5 hl_q5 hs_q5 => ?_)
        refine hr_iload_n X dX5_isWordAt_90 rfl ?_
        refine hr_iald X hl_q5 hs_q5 dX5_isWordAt_91 (fun r6 _ _ => ?_)
        refine hr_bipush X 32 dX5_isWordAt_92 kb_32 ?_
        refine hr_icmp_gt X 101 dX5_isWordAt_94 rfl ?_ ?_
        · refine hr_iconst X 0 dX5_isWordAt_101 kc_0 ?_
          exact hr_zretC X (Or.inl rfl) dX5_isWordAt_102
        · refine hr_iconst X 1 dX5_isWordAt_97 kc_1 ?_
          refine hr_goto X 102 dX5_isWordAt_98 rfl ?_
          exact hr_zretC X (Or.inr rfl) dX5_isWordAt_102
      · refine hr_aload_n X dX5_isWordAt_56 rfl ?_
        refine hr_gR X 7 hl_t0 hs_t0 lg_RX5_63 rfl dX5_isWordAt_57 (fun q7 hl_q7 hs_q7 => ?_)
        refine hr_aload_n X dX5_isWordAt_60 rfl ?_
        refine hr_gI X hl_t0 hs_t0 lg_RX5_172 dX5_isWordAt_61 ?_
        refine hr_iload_n X dX5_isWordAt_64 rfl ?_
        refine hr_iadd X dX5_isWordAt_65 ?_
        refine hr_lald X hl_q7 hs_q7 dX5_isWordAt_66 (fun r8 _ _ => ?_)
        refine hr_l2i X dX5_isWordAt_67 ?_
        refine hr_aload_n X dX5_isWordAt_68 rfl ?_
        refine hr_gR X 6 hl_t0 hs_t0 lg_RX5_70 rfl dX5_isWordAt_69 (fun q9 hl_q9 hs_q9 => ?_)
        refine hr_iload_n X dX5_isWordAt_72 rfl ?_
        refine hr_iald X hl_q9 hs_q9 dX5_isWordAt_73 (fun r10 _ _ => ?_)
        refine hr_icmp_ne X 86 dX5_isWordAt_74 rfl ?_ ?_
        · refine hr_aload_n X dX5_isWordAt_86 rfl ?_
          refine hr_gR X 6 hl_t0 hs_t0 lg_RX5_70 rfl dX5_isWordAt_87 (fun q11 hl_q11 hs_q11 => ?_)
          refine hr_iload_n X dX5_isWordAt_90 rfl ?_
          refine hr_iald X hl_q11 hs_q11 dX5_isWordAt_91 (fun r12 _ _ => ?_)
          refine hr_bipush X 32 dX5_isWordAt_92 kb_32 ?_
          refine hr_icmp_gt X 101 dX5_isWordAt_94 rfl ?_ ?_
          · refine hr_iconst X 0 dX5_isWordAt_101 kc_0 ?_
            exact hr_zretC X (Or.inl rfl) dX5_isWordAt_102
          · refine hr_iconst X 1 dX5_isWordAt_97 kc_1 ?_
            refine hr_goto X 102 dX5_isWordAt_98 rfl ?_
            exact hr_zretC X (Or.inr rfl) dX5_isWordAt_102
        · refine hr_iinc X (v3 + 1) dX5_isWordAt_77 rfl (by rw [kc_1]) (by decide) rfl ?_
          refine hr_iinc X (v2 + 1) dX5_isWordAt_80 rfl (by rw [kc_1]) (by decide) rfl ?_
          refine hr_goto X 37 dX5_isWordAt_83 rfl ?_
          exact hr_wk (hs_some (hs_none (hs_some (hs_some (hs_nil))))) (ih (v2 + 1) (v3 + 1) M)
set_option maxRecDepth 100000 in
set_option maxHeartbeats 4000000 in
theorem w_X5_isWordAt_4 {g : hf_G} {p : Program} {l : Launch} {ev : Env} {s : State} {m : MethodId} {args : Array Value} {below : List Frame} {meth : Method} {c : Code} (X : hf_X g p s m args meth c cX5_isWordAt 4 RX5 (some .boolean))    {t0 : Nat} (hl_t0 : t0 < 69) (hs_t0 : hf_shp t0 = 5) (v1 : Int32) : ∀ (n : Nat) (v2 : Int32) (v3 : Int32) (M : hf_M), hf_W g p l ev (1) s m args below meth c 4 (hf_QI g below args s) M 4 [some (.ref (hf_a g t0)), some (.int v1), some (.int v2), some (.int v3)] [] (s_X5_isWordAt_4 t0 v1 n v2 v3 M) := by
  intro n
  induction n with
  | zero =>
    intros
    exact hr_none
  | succ n ih =>
    intro v2 v3 M
    rw [s_X5_isWordAt_4]
    refine hr_iload_n X dX5_isWordAt_4 rfl ?_
    refine hr_iload_n X dX5_isWordAt_5 rfl ?_
    refine hr_icmp_ge X 32 dX5_isWordAt_6 rfl ?_ ?_
    · refine hr_aload_n X dX5_isWordAt_32 rfl ?_
      refine hr_gI X hl_t0 hs_t0 lg_RX5_166 dX5_isWordAt_33 ?_
      refine hr_istore_n X dX5_isWordAt_36 (by decide) rfl ?_
      exact hr_wk (hs_some (hs_none (hs_some (hs_some (hs_nil))))) (w_X5_isWordAt_37 X hl_t0 hs_t0 2000 v2 (M.1 t0 26) M)
    · refine hr_iload_n X dX5_isWordAt_9 rfl ?_
      refine hr_aload_n X dX5_isWordAt_10 rfl ?_
      refine hr_gR X 6 hl_t0 hs_t0 lg_RX5_70 rfl dX5_isWordAt_11 (fun q1 hl_q1 hs_q1 => ?_)
      refine hr_iload_n X dX5_isWordAt_14 rfl ?_
      refine hr_iald X hl_q1 hs_q1 dX5_isWordAt_15 (fun r2 _ _ => ?_)
      refine hr_if_ne X 23 dX5_isWordAt_16 rfl ?_ ?_
      · refine hr_iconst X 0 dX5_isWordAt_23 kc_0 ?_
        refine hr_iadd X dX5_isWordAt_24 ?_
        refine hr_istore_n X dX5_isWordAt_25 (by decide) rfl ?_
        refine hr_iinc X (v2 + 1) dX5_isWordAt_26 rfl (by rw [kc_1]) (by decide) rfl ?_
        refine hr_goto X 4 dX5_isWordAt_29 rfl ?_
        exact hr_wk (hs_some (hs_some (hs_some (hs_some (hs_nil))))) (ih (v2 + 1) (v3 + 0) M)
      · refine hr_iconst X 1 dX5_isWordAt_19 kc_1 ?_
        refine hr_goto X 24 dX5_isWordAt_20 rfl ?_
        refine hr_iadd X dX5_isWordAt_24 ?_
        refine hr_istore_n X dX5_isWordAt_25 (by decide) rfl ?_
        refine hr_iinc X (v2 + 1) dX5_isWordAt_26 rfl (by rw [kc_1]) (by decide) rfl ?_
        refine hr_goto X 4 dX5_isWordAt_29 rfl ?_
        exact hr_wk (hs_some (hs_some (hs_some (hs_some (hs_nil))))) (ih (v2 + 1) (v3 + 1) M)
set_option maxRecDepth 100000 in
set_option maxHeartbeats 4000000 in
theorem c_X5_isWordAt  {t0 : Nat} (hl_t0 : t0 < 69) (hs_t0 : hf_shp t0 = 5) (a1 : Int32) (M : hf_M) : hf_CI yX5_isWordAt cX5_isWordAt 4 (some .boolean) (1) (fun g => [.ref (hf_a g t0), .int a1]) M (s_X5_isWordAt t0 a1 M) := by
  refine hf_metI (by decide +kernel) (fun g => Nat.le_of_ble_eq_true rfl) (fun g p l ev s m args below meth c X => ?_)
  have X : hf_X g p s m args meth c cX5_isWordAt 4 RX5 (some .boolean) := X
  show hf_W g p l ev (1) s m args below meth c 4 (hf_QI g below args s) M 0 [some (.ref (hf_a g t0)), some (.int a1), none, none] [] (s_X5_isWordAt t0 a1 M)
  unfold s_X5_isWordAt
  refine hr_iconst X 0 dX5_isWordAt_0 kc_0 ?_
  refine hr_istore_n X dX5_isWordAt_1 (by decide) rfl ?_
  refine hr_iconst X 0 dX5_isWordAt_2 kc_0 ?_
  refine hr_istore_n X dX5_isWordAt_3 (by decide) rfl ?_
  exact hr_wk (hs_some (hs_some (hs_some (hs_some (hs_nil))))) (w_X5_isWordAt_4 X hl_t0 hs_t0 a1 2000 0 0 M)
set_option maxRecDepth 100000 in
set_option maxHeartbeats 4000000 in
theorem w_X5_item_225 {g : hf_G} {p : Program} {l : Launch} {ev : Env} {s : State} {m : MethodId} {args : Array Value} {below : List Frame} {meth : Method} {c : Code} (X : hf_X g p s m args meth c cX5_item 6 RX5 (some .boolean))  {t0 : Nat} (hl_t0 : t0 < 69) (hs_t0 : hf_shp t0 = 5) (v2 : Int32) (v4 : Int32) (k142 : Int32 → Int32 → hf_M → Option (Int32 × hf_M)) (hk142 : ∀ (v3 : Int32) (v5 : Int32) (M : hf_M), hf_W g p l ev (6) s m args below meth c 6 (hf_QI g below args s) M 142 [some (.ref (hf_a g t0)), none, some (.int v2), some (.int v3), some (.int v4), some (.int v5)] [] (k142 v3 v5 M))  (v3 : Int32) (v5 : Int32) {w0 : Nat} (hl_w0 : w0 < 69) (hs_w0 : hf_shp w0 = 5) (w1 : Int32) (M : hf_M) : hf_W g p l ev (6) s m args below meth c 6 (hf_QI g below args s) M 225 [some (.ref (hf_a g t0)), none, some (.int v2), some (.int v3), some (.int v4), some (.int v5)] [.int w1, .ref (hf_a g w0)] (s_X5_item_225 k142 t0 v2 v3 v4 v5 w0 w1 M) := by
  unfold s_X5_item_225
  refine hr_aload_n X dX5_item_225 rfl ?_
  refine hr_iload_n X dX5_item_226 rfl ?_
  refine hr_iload X dX5_item_227 rfl ?_
  refine hr_cvI X [.int v2, .int v5] [.int w1, .ref (hf_a g w0)] (c_X5_high hl_t0 hs_t0 v2 v5 M) lk_RX5_195 rfl rfl rfl hl_t0 hs_t0 ⟨by decide, rfl⟩ (by decide) (Nat.le_of_ble_eq_true rfl) dX5_item_229 (fun r1 M2 _ => ?_)
  refine hr_cvI X [.int w1, .int r1] [] (c_X5_number hl_w0 hs_w0 w1 r1 M2) lk_RX5_198 rfl rfl rfl hl_w0 hs_w0 ⟨by decide, rfl⟩ (by decide) (Nat.le_of_ble_eq_true rfl) dX5_item_232 (fun r3 M4 _ => ?_)
  refine hr_if_ne X 240 dX5_item_235 rfl ?_ ?_
  · refine hr_iload_n X dX5_item_240 rfl ?_
    refine hr_iconst X 3 dX5_item_241 kc_3 ?_
    refine hr_icmp_ne X 267 dX5_item_242 rfl ?_ ?_
    · refine hr_aload_n X dX5_item_267 rfl ?_
      refine hr_gR X 6 hl_t0 hs_t0 lg_RX5_73 rfl dX5_item_268 (fun q5 hl_q5 hs_q5 => ?_)
      refine hr_iload X dX5_item_271 rfl ?_
      refine hr_aload_n X dX5_item_273 rfl ?_
      refine hr_gI X hl_t0 hs_t0 lg_RX5_175 dX5_item_274 ?_
      refine hr_iast X hl_q5 hs_q5 dX5_item_277 (fun M6 eM6 _ => ?_)
      refine hr_iinc X (v5 + 1) dX5_item_278 rfl (by rw [kc_1]) (by decide) rfl ?_
      refine hr_goto X 142 dX5_item_281 rfl ?_
      exact hr_wk (hs_some (hs_none (hs_some (hs_some (hs_some (hs_some (hs_nil))))))) (hk142 v3 (v5 + 1) M6)
    · refine hr_iload X dX5_item_245 rfl ?_
      refine hr_if_ne X 267 dX5_item_247 rfl ?_ ?_
      · refine hr_aload_n X dX5_item_267 rfl ?_
        refine hr_gR X 6 hl_t0 hs_t0 lg_RX5_73 rfl dX5_item_268 (fun q7 hl_q7 hs_q7 => ?_)
        refine hr_iload X dX5_item_271 rfl ?_
        refine hr_aload_n X dX5_item_273 rfl ?_
        refine hr_gI X hl_t0 hs_t0 lg_RX5_175 dX5_item_274 ?_
        refine hr_iast X hl_q7 hs_q7 dX5_item_277 (fun M8 eM8 _ => ?_)
        refine hr_iinc X (v5 + 1) dX5_item_278 rfl (by rw [kc_1]) (by decide) rfl ?_
        refine hr_goto X 142 dX5_item_281 rfl ?_
        exact hr_wk (hs_some (hs_none (hs_some (hs_some (hs_some (hs_some (hs_nil))))))) (hk142 v3 (v5 + 1) M8)
      · refine hr_aload_n X dX5_item_250 rfl ?_
        refine hr_aload_n X dX5_item_251 rfl ?_
        refine hr_gI X hl_t0 hs_t0 lg_RX5_175 dX5_item_252 ?_
        refine hr_cvI X [.int (M4.1 t0 28)] [] (c_X5_isFull hl_t0 hs_t0 (M4.1 t0 28) M4) lk_RX5_150 rfl rfl rfl hl_t0 hs_t0 ⟨by decide, rfl⟩ (by decide) (Nat.le_of_ble_eq_true rfl) dX5_item_255 (fun r9 M10 _ => ?_)
        refine hr_if_eq X 267 dX5_item_258 rfl ?_ ?_
        · refine hr_aload_n X dX5_item_267 rfl ?_
          refine hr_gR X 6 hl_t0 hs_t0 lg_RX5_73 rfl dX5_item_268 (fun q11 hl_q11 hs_q11 => ?_)
          refine hr_iload X dX5_item_271 rfl ?_
          refine hr_aload_n X dX5_item_273 rfl ?_
          refine hr_gI X hl_t0 hs_t0 lg_RX5_175 dX5_item_274 ?_
          refine hr_iast X hl_q11 hs_q11 dX5_item_277 (fun M12 eM12 _ => ?_)
          refine hr_iinc X (v5 + 1) dX5_item_278 rfl (by rw [kc_1]) (by decide) rfl ?_
          refine hr_goto X 142 dX5_item_281 rfl ?_
          exact hr_wk (hs_some (hs_none (hs_some (hs_some (hs_some (hs_some (hs_nil))))))) (hk142 v3 (v5 + 1) M12)
        · refine hr_aload_n X dX5_item_261 rfl ?_
          refine hr_iload_n X dX5_item_262 rfl ?_
          refine hr_cvI X [.int v3] [] (c_X5_wrong hl_t0 hs_t0 v3 M10) lk_RX5_182 rfl rfl rfl hl_t0 hs_t0 ⟨by decide, rfl⟩ (by decide) (Nat.le_of_ble_eq_true rfl) dX5_item_263 (fun r13 M14 _ => ?_)
          exact hr_zret X dX5_item_266
  · refine hr_iconst X 0 dX5_item_238 kc_0 ?_
    exact hr_zretC X (Or.inl rfl) dX5_item_239
set_option maxRecDepth 100000 in
set_option maxHeartbeats 4000000 in
theorem w_X5_item_224 {g : hf_G} {p : Program} {l : Launch} {ev : Env} {s : State} {m : MethodId} {args : Array Value} {below : List Frame} {meth : Method} {c : Code} (X : hf_X g p s m args meth c cX5_item 6 RX5 (some .boolean))  {t0 : Nat} (hl_t0 : t0 < 69) (hs_t0 : hf_shp t0 = 5) (v2 : Int32) (v4 : Int32) (k142 : Int32 → Int32 → hf_M → Option (Int32 × hf_M)) (hk142 : ∀ (v3 : Int32) (v5 : Int32) (M : hf_M), hf_W g p l ev (6) s m args below meth c 6 (hf_QI g below args s) M 142 [some (.ref (hf_a g t0)), none, some (.int v2), some (.int v3), some (.int v4), some (.int v5)] [] (k142 v3 v5 M))  (v3 : Int32) (v5 : Int32) {w0 : Nat} (hl_w0 : w0 < 69) (hs_w0 : hf_shp w0 = 5) (M : hf_M) : hf_W g p l ev (6) s m args below meth c 6 (hf_QI g below args s) M 224 [some (.ref (hf_a g t0)), none, some (.int v2), some (.int v3), some (.int v4), some (.int v5)] [.ref (hf_a g w0)] (s_X5_item_224 k142 t0 v2 v3 v4 v5 w0 M) := by
  unfold s_X5_item_224
  refine hr_iconst X 0 dX5_item_224 kc_0 ?_
  exact hr_wk (hs_some (hs_none (hs_some (hs_some (hs_some (hs_some (hs_nil))))))) (w_X5_item_225 X hl_t0 hs_t0 v2 v4 k142 hk142 v3 v5 hl_w0 hs_w0 0 M)
set_option maxRecDepth 100000 in
set_option maxHeartbeats 4000000 in
theorem w_X5_item_204 {g : hf_G} {p : Program} {l : Launch} {ev : Env} {s : State} {m : MethodId} {args : Array Value} {below : List Frame} {meth : Method} {c : Code} (X : hf_X g p s m args meth c cX5_item 6 RX5 (some .boolean))  {t0 : Nat} (hl_t0 : t0 < 69) (hs_t0 : hf_shp t0 = 5) (v2 : Int32) (v4 : Int32) (k142 : Int32 → Int32 → hf_M → Option (Int32 × hf_M)) (hk142 : ∀ (v3 : Int32) (v5 : Int32) (M : hf_M), hf_W g p l ev (6) s m args below meth c 6 (hf_QI g below args s) M 142 [some (.ref (hf_a g t0)), none, some (.int v2), some (.int v3), some (.int v4), some (.int v5)] [] (k142 v3 v5 M))  (v5 : Int32) (M : hf_M) : hf_W g p l ev (6) s m args below meth c 6 (hf_QI g below args s) M 204 [some (.ref (hf_a g t0)), none, some (.int v2), none, some (.int v4), some (.int v5)] [] (s_X5_item_204 k142 t0 v2 v4 v5 M) := by
  unfold s_X5_item_204
  refine hr_aload_n X dX5_item_204 rfl ?_
  refine hr_gI X hl_t0 hs_t0 lg_RX5_166 dX5_item_205 ?_
  refine hr_istore_n X dX5_item_208 (by decide) rfl ?_
  refine hr_aload_n X dX5_item_209 rfl ?_
  refine hr_iload_n X dX5_item_210 rfl ?_
  refine hr_iconst X 2 dX5_item_211 kc_2 ?_
  refine hr_icmp_ne X 224 dX5_item_212 rfl ?_ ?_
  · exact hr_wk (hs_some (hs_none (hs_some (hs_some (hs_some (hs_some (hs_nil))))))) (w_X5_item_224 X hl_t0 hs_t0 v2 v4 k142 hk142 (M.1 t0 26) v5 hl_t0 hs_t0 M)
  · refine hr_iload X dX5_item_215 rfl ?_
    refine hr_if_ne X 224 dX5_item_217 rfl ?_ ?_
    · exact hr_wk (hs_some (hs_none (hs_some (hs_some (hs_some (hs_some (hs_nil))))))) (w_X5_item_224 X hl_t0 hs_t0 v2 v4 k142 hk142 (M.1 t0 26) v5 hl_t0 hs_t0 M)
    · refine hr_iconst X 2 dX5_item_220 kc_2 ?_
      refine hr_goto X 225 dX5_item_221 rfl ?_
      exact hr_wk (hs_some (hs_none (hs_some (hs_some (hs_some (hs_some (hs_nil))))))) (w_X5_item_225 X hl_t0 hs_t0 v2 v4 k142 hk142 (M.1 t0 26) v5 hl_t0 hs_t0 2 M)
set_option maxRecDepth 100000 in
set_option maxHeartbeats 4000000 in
theorem w_X5_item_142 {g : hf_G} {p : Program} {l : Launch} {ev : Env} {s : State} {m : MethodId} {args : Array Value} {below : List Frame} {meth : Method} {c : Code} (X : hf_X g p s m args meth c cX5_item 6 RX5 (some .boolean))    {t0 : Nat} (hl_t0 : t0 < 69) (hs_t0 : hf_shp t0 = 5) (v2 : Int32) (v4 : Int32) : ∀ (n : Nat) (v3 : Int32) (v5 : Int32) (M : hf_M), hf_W g p l ev (6) s m args below meth c 6 (hf_QI g below args s) M 142 [some (.ref (hf_a g t0)), none, some (.int v2), some (.int v3), some (.int v4), some (.int v5)] [] (s_X5_item_142 t0 v2 v4 n v3 v5 M) := by
  intro n
  induction n with
  | zero =>
    intros
    exact hr_none
  | succ n ih =>
    intro v3 v5 M
    rw [s_X5_item_142]
    refine hr_iload X dX5_item_142 rfl ?_
    refine hr_iload X dX5_item_144 rfl ?_
    refine hr_icmp_ge X 284 dX5_item_146 rfl ?_ ?_
    · refine hr_iload_n X dX5_item_284 rfl ?_
      refine hr_case 0 (fun _ => ?_) (fun n285_0 => ?_)
      · refine hr_tabIn X 316 dX5_item_285 (by decide) (by decide) rfl rfl ?_
        refine hr_aload_n X dX5_item_316 rfl ?_
        refine hr_aload_n X dX5_item_317 rfl ?_
        refine hr_gR X 6 hl_t0 hs_t0 lg_RX5_73 rfl dX5_item_318 (fun q1 hl_q1 hs_q1 => ?_)
        refine hr_iconst X 0 dX5_item_321 kc_0 ?_
        refine hr_iald X hl_q1 hs_q1 dX5_item_322 (fun r2 _ _ => ?_)
        refine hr_cvI X [.int r2] [] (c_X5_facts hl_t0 hs_t0 r2 M) lk_RX5_113 rfl rfl rfl hl_t0 hs_t0 ⟨by decide, rfl⟩ (by decide) (Nat.le_of_ble_eq_true rfl) dX5_item_323 (fun r3 M4 _ => ?_)
        refine hr_pop X dX5_item_326 rfl ?_
        refine hr_iconst X 1 dX5_item_327 kc_1 ?_
        exact hr_zretC X (Or.inr rfl) dX5_item_328
      refine hr_case 1 (fun _ => ?_) (fun n285_1 => ?_)
      · refine hr_tabIn X 329 dX5_item_285 (by decide) (by decide) rfl rfl ?_
        refine hr_aload_n X dX5_item_329 rfl ?_
        refine hr_aload_n X dX5_item_330 rfl ?_
        refine hr_gR X 6 hl_t0 hs_t0 lg_RX5_73 rfl dX5_item_331 (fun q5 hl_q5 hs_q5 => ?_)
        refine hr_iconst X 0 dX5_item_334 kc_0 ?_
        refine hr_iald X hl_q5 hs_q5 dX5_item_335 (fun r6 _ _ => ?_)
        refine hr_aload_n X dX5_item_336 rfl ?_
        refine hr_gR X 6 hl_t0 hs_t0 lg_RX5_73 rfl dX5_item_337 (fun q7 hl_q7 hs_q7 => ?_)
        refine hr_iconst X 1 dX5_item_340 kc_1 ?_
        refine hr_iald X hl_q7 hs_q7 dX5_item_341 (fun r8 _ _ => ?_)
        refine hr_cvI X [.int r6, .int r8] [] (c_X5_speakers hl_t0 hs_t0 r6 r8 M) lk_RX5_115 rfl rfl rfl hl_t0 hs_t0 ⟨by decide, rfl⟩ (by decide) (Nat.le_of_ble_eq_true rfl) dX5_item_342 (fun r9 M10 _ => ?_)
        refine hr_pop X dX5_item_345 rfl ?_
        refine hr_iconst X 1 dX5_item_346 kc_1 ?_
        exact hr_zretC X (Or.inr rfl) dX5_item_347
      refine hr_case 2 (fun _ => ?_) (fun n285_2 => ?_)
      · refine hr_tabIn X 348 dX5_item_285 (by decide) (by decide) rfl rfl ?_
        refine hr_aload_n X dX5_item_348 rfl ?_
        refine hr_aload_n X dX5_item_349 rfl ?_
        refine hr_gR X 6 hl_t0 hs_t0 lg_RX5_73 rfl dX5_item_350 (fun q11 hl_q11 hs_q11 => ?_)
        refine hr_iconst X 0 dX5_item_353 kc_0 ?_
        refine hr_iald X hl_q11 hs_q11 dX5_item_354 (fun r12 _ _ => ?_)
        refine hr_pI X hl_t0 hs_t0 lp_RX5_7 dX5_item_355 (fun M13 eM13 => ?_)
        refine hr_aload_n X dX5_item_358 rfl ?_
        refine hr_aload_n X dX5_item_359 rfl ?_
        refine hr_gR X 6 hl_t0 hs_t0 lg_RX5_73 rfl dX5_item_360 (fun q14 hl_q14 hs_q14 => ?_)
        refine hr_iconst X 1 dX5_item_363 kc_1 ?_
        refine hr_iald X hl_q14 hs_q14 dX5_item_364 (fun r15 _ _ => ?_)
        refine hr_pI X hl_t0 hs_t0 lp_RX5_13 dX5_item_365 (fun M16 eM16 => ?_)
        refine hr_iconst X 1 dX5_item_368 kc_1 ?_
        exact hr_zretC X (Or.inr rfl) dX5_item_369
      refine hr_case 3 (fun _ => ?_) (fun n285_3 => ?_)
      · refine hr_tabIn X 370 dX5_item_285 (by decide) (by decide) rfl rfl ?_
        refine hr_aload_n X dX5_item_370 rfl ?_
        refine hr_aload_n X dX5_item_371 rfl ?_
        refine hr_gR X 6 hl_t0 hs_t0 lg_RX5_73 rfl dX5_item_372 (fun q17 hl_q17 hs_q17 => ?_)
        refine hr_iconst X 0 dX5_item_375 kc_0 ?_
        refine hr_iald X hl_q17 hs_q17 dX5_item_376 (fun r18 _ _ => ?_)
        refine hr_aload_n X dX5_item_377 rfl ?_
        refine hr_gR X 6 hl_t0 hs_t0 lg_RX5_73 rfl dX5_item_378 (fun q19 hl_q19 hs_q19 => ?_)
        refine hr_iconst X 1 dX5_item_381 kc_1 ?_
        refine hr_iald X hl_q19 hs_q19 dX5_item_382 (fun r20 _ _ => ?_)
        refine hr_aload_n X dX5_item_383 rfl ?_
        refine hr_gR X 6 hl_t0 hs_t0 lg_RX5_73 rfl dX5_item_384 (fun q21 hl_q21 hs_q21 => ?_)
        refine hr_iconst X 2 dX5_item_387 kc_2 ?_
        refine hr_iald X hl_q21 hs_q21 dX5_item_388 (fun r22 _ _ => ?_)
        refine hr_cvI X [.int r18, .int r20, .int r22] [] (c_X5_leaves hl_t0 hs_t0 r18 r20 r22 M) lk_RX5_153 rfl rfl rfl hl_t0 hs_t0 ⟨by decide, rfl⟩ (by decide) (Nat.le_of_ble_eq_true rfl) dX5_item_389 (fun r23 M24 _ => ?_)
        refine hr_if_ne X 401 dX5_item_392 rfl ?_ ?_
        · refine hr_aload_n X dX5_item_401 rfl ?_
          refine hr_aload_n X dX5_item_402 rfl ?_
          refine hr_gR X 6 hl_t0 hs_t0 lg_RX5_73 rfl dX5_item_403 (fun q25 hl_q25 hs_q25 => ?_)
          refine hr_iconst X 0 dX5_item_406 kc_0 ?_
          refine hr_iald X hl_q25 hs_q25 dX5_item_407 (fun r26 _ _ => ?_)
          refine hr_aload_n X dX5_item_408 rfl ?_
          refine hr_gR X 6 hl_t0 hs_t0 lg_RX5_73 rfl dX5_item_409 (fun q27 hl_q27 hs_q27 => ?_)
          refine hr_iconst X 1 dX5_item_412 kc_1 ?_
          refine hr_iald X hl_q27 hs_q27 dX5_item_413 (fun r28 _ _ => ?_)
          refine hr_aload_n X dX5_item_414 rfl ?_
          refine hr_gR X 6 hl_t0 hs_t0 lg_RX5_73 rfl dX5_item_415 (fun q29 hl_q29 hs_q29 => ?_)
          refine hr_iconst X 2 dX5_item_418 kc_2 ?_
          refine hr_iald X hl_q29 hs_q29 dX5_item_419 (fun r30 _ _ => ?_)
          refine hr_cvV X [.int r26, .int r28, .int r30] [] (c_X5_adds hl_t0 hs_t0 r26 r28 r30 M24) lk_RX5_138 rfl rfl rfl hl_t0 hs_t0 ⟨by decide, rfl⟩ (by decide) (Nat.le_of_ble_eq_true rfl) dX5_item_420 (fun _ M32 _ => ?_)
          refine hr_iconst X 1 dX5_item_423 kc_1 ?_
          exact hr_zretC X (Or.inr rfl) dX5_item_424
        · refine hr_aload_n X dX5_item_395 rfl ?_
          refine hr_iload_n X dX5_item_396 rfl ?_
          refine hr_cvI X [.int v3] [] (c_X5_wrong hl_t0 hs_t0 v3 M24) lk_RX5_182 rfl rfl rfl hl_t0 hs_t0 ⟨by decide, rfl⟩ (by decide) (Nat.le_of_ble_eq_true rfl) dX5_item_397 (fun r33 M34 _ => ?_)
          exact hr_zret X dX5_item_400
      · have e0 := hf_neT 0 n285_0 (by decide)
        have e1 := hf_neT 1 n285_1 (by decide)
        have e2 := hf_neT 2 n285_2 (by decide)
        have e3 := hf_neT 3 n285_3 (by decide)
        refine hr_tabOut X 425 dX5_item_285 (by omega) rfl ?_
        refine hr_aload_n X dX5_item_425 rfl ?_
        refine hr_aload_n X dX5_item_426 rfl ?_
        refine hr_gR X 6 hl_t0 hs_t0 lg_RX5_73 rfl dX5_item_427 (fun q35 hl_q35 hs_q35 => ?_)
        refine hr_iconst X 0 dX5_item_430 kc_0 ?_
        refine hr_iald X hl_q35 hs_q35 dX5_item_431 (fun r36 _ _ => ?_)
        refine hr_aload_n X dX5_item_432 rfl ?_
        refine hr_gR X 6 hl_t0 hs_t0 lg_RX5_73 rfl dX5_item_433 (fun q37 hl_q37 hs_q37 => ?_)
        refine hr_iconst X 1 dX5_item_436 kc_1 ?_
        refine hr_iald X hl_q37 hs_q37 dX5_item_437 (fun r38 _ _ => ?_)
        refine hr_cvI X [.int r36, .int r38] [] (c_X5_isLeft hl_t0 hs_t0 r36 r38 M) lk_RX5_160 rfl rfl rfl hl_t0 hs_t0 ⟨by decide, rfl⟩ (by decide) (Nat.le_of_ble_eq_true rfl) dX5_item_438 (fun r39 M40 _ => ?_)
        refine hr_if_ne X 452 dX5_item_441 rfl ?_ ?_
        · refine hr_iconst X 1 dX5_item_452 kc_1 ?_
          refine hr_goto X 457 dX5_item_453 rfl ?_
          exact hr_zretC X (Or.inr rfl) dX5_item_457
        · refine hr_aload_n X dX5_item_444 rfl ?_
          refine hr_iload_n X dX5_item_445 rfl ?_
          refine hr_cvI X [.int v3] [] (c_X5_wrong hl_t0 hs_t0 v3 M40) lk_RX5_182 rfl rfl rfl hl_t0 hs_t0 ⟨by decide, rfl⟩ (by decide) (Nat.le_of_ble_eq_true rfl) dX5_item_446 (fun r41 M42 _ => ?_)
          refine hr_if_eq X 456 dX5_item_449 rfl ?_ ?_
          · refine hr_iconst X 0 dX5_item_456 kc_0 ?_
            exact hr_zretC X (Or.inl rfl) dX5_item_457
          · refine hr_iconst X 1 dX5_item_452 kc_1 ?_
            refine hr_goto X 457 dX5_item_453 rfl ?_
            exact hr_zretC X (Or.inr rfl) dX5_item_457
    · refine hr_iload X dX5_item_149 rfl ?_
      refine hr_if_le X 204 dX5_item_151 rfl ?_ ?_
      · exact hr_wk (hs_some (hs_none (hs_some (hs_none (hs_some (hs_some (hs_nil))))))) (w_X5_item_204 X hl_t0 hs_t0 v2 v4 (s_X5_item_142 t0 v2 v4 n) ih v5 M)
      · refine hr_aload_n X dX5_item_154 rfl ?_
        refine hr_gI X hl_t0 hs_t0 lg_RX5_166 dX5_item_155 ?_
        refine hr_aload_n X dX5_item_158 rfl ?_
        refine hr_gI X hl_t0 hs_t0 lg_RX5_169 dX5_item_159 ?_
        refine hr_icmp_ge X 185 dX5_item_162 rfl ?_ ?_
        · refine hr_aload_n X dX5_item_185 rfl ?_
          refine hr_aload_n X dX5_item_186 rfl ?_
          refine hr_gI X hl_t0 hs_t0 lg_RX5_166 dX5_item_187 ?_
          refine hr_cvI X [.int (M.1 t0 26)] [] (c_X5_wrong hl_t0 hs_t0 (M.1 t0 26) M) lk_RX5_182 rfl rfl rfl hl_t0 hs_t0 ⟨by decide, rfl⟩ (by decide) (Nat.le_of_ble_eq_true rfl) dX5_item_190 (fun r43 M44 _ => ?_)
          exact hr_zret X dX5_item_193
        · refine hr_aload_n X dX5_item_165 rfl ?_
          refine hr_gR X 7 hl_t0 hs_t0 lg_RX5_63 rfl dX5_item_166 (fun q45 hl_q45 hs_q45 => ?_)
          refine hr_aload_n X dX5_item_169 rfl ?_
          refine hr_gI X hl_t0 hs_t0 lg_RX5_172 dX5_item_170 ?_
          refine hr_aload_n X dX5_item_173 rfl ?_
          refine hr_gI X hl_t0 hs_t0 lg_RX5_166 dX5_item_174 ?_
          refine hr_iadd X dX5_item_177 ?_
          refine hr_lald X hl_q45 hs_q45 dX5_item_178 (fun r46 _ _ => ?_)
          refine hr_l2i X dX5_item_179 ?_
          refine hr_bipush X 32 dX5_item_180 kb_32 ?_
          refine hr_icmp_eq X 194 dX5_item_182 rfl ?_ ?_
          · refine hr_aload_n X dX5_item_194 rfl ?_
            refine hr_dup X dX5_item_195 rfl ?_
            refine hr_gI X hl_t0 hs_t0 lg_RX5_166 dX5_item_196 ?_
            refine hr_iconst X 1 dX5_item_199 kc_1 ?_
            refine hr_iadd X dX5_item_200 ?_
            refine hr_pI X hl_t0 hs_t0 lp_RX5_166 dX5_item_201 (fun M47 eM47 => ?_)
            exact hr_wk (hs_some (hs_none (hs_some (hs_none (hs_some (hs_some (hs_nil))))))) (w_X5_item_204 X hl_t0 hs_t0 v2 v4 (s_X5_item_142 t0 v2 v4 n) ih v5 M47)
          · refine hr_aload_n X dX5_item_185 rfl ?_
            refine hr_aload_n X dX5_item_186 rfl ?_
            refine hr_gI X hl_t0 hs_t0 lg_RX5_166 dX5_item_187 ?_
            refine hr_cvI X [.int (M.1 t0 26)] [] (c_X5_wrong hl_t0 hs_t0 (M.1 t0 26) M) lk_RX5_182 rfl rfl rfl hl_t0 hs_t0 ⟨by decide, rfl⟩ (by decide) (Nat.le_of_ble_eq_true rfl) dX5_item_190 (fun r48 M49 _ => ?_)
            exact hr_zret X dX5_item_193
set_option maxRecDepth 100000 in
set_option maxHeartbeats 4000000 in
theorem w_X5_item_119 {g : hf_G} {p : Program} {l : Launch} {ev : Env} {s : State} {m : MethodId} {args : Array Value} {below : List Frame} {meth : Method} {c : Code} (X : hf_X g p s m args meth c cX5_item 6 RX5 (some .boolean))     {t0 : Nat} (hl_t0 : t0 < 69) (hs_t0 : hf_shp t0 = 5) (v2 : Int32) (v3 : Int32) (M : hf_M) : hf_W g p l ev (6) s m args below meth c 6 (hf_QI g below args s) M 119 [some (.ref (hf_a g t0)), none, some (.int v2), some (.int v3), none, none] [] (s_X5_item_119 t0 v2 v3 M) := by
  unfold s_X5_item_119
  refine hr_iload_n X dX5_item_119 rfl ?_
  refine hr_if_ne X 127 dX5_item_120 rfl ?_ ?_
  · refine hr_iload_n X dX5_item_127 rfl ?_
    refine hr_iconst X 3 dX5_item_128 kc_3 ?_
    refine hr_icmp_ne X 136 dX5_item_129 rfl ?_ ?_
    · refine hr_iconst X 2 dX5_item_136 kc_2 ?_
      refine hr_istore X dX5_item_137 (by decide) rfl ?_
      refine hr_iconst X 0 dX5_item_139 kc_0 ?_
      refine hr_istore X dX5_item_140 (by decide) rfl ?_
      exact hr_wk (hs_some (hs_none (hs_some (hs_some (hs_some (hs_some (hs_nil))))))) (w_X5_item_142 X hl_t0 hs_t0 v2 2 2000 v3 0 M)
    · refine hr_iconst X 3 dX5_item_132 kc_3 ?_
      refine hr_goto X 137 dX5_item_133 rfl ?_
      refine hr_istore X dX5_item_137 (by decide) rfl ?_
      refine hr_iconst X 0 dX5_item_139 kc_0 ?_
      refine hr_istore X dX5_item_140 (by decide) rfl ?_
      exact hr_wk (hs_some (hs_none (hs_some (hs_some (hs_some (hs_some (hs_nil))))))) (w_X5_item_142 X hl_t0 hs_t0 v2 3 2000 v3 0 M)
  · refine hr_iconst X 1 dX5_item_123 kc_1 ?_
    refine hr_goto X 137 dX5_item_124 rfl ?_
    refine hr_istore X dX5_item_137 (by decide) rfl ?_
    refine hr_iconst X 0 dX5_item_139 kc_0 ?_
    refine hr_istore X dX5_item_140 (by decide) rfl ?_
    exact hr_wk (hs_some (hs_none (hs_some (hs_some (hs_some (hs_some (hs_nil))))))) (w_X5_item_142 X hl_t0 hs_t0 v2 1 2000 v3 0 M)
set_option maxRecDepth 100000 in
set_option maxHeartbeats 4000000 in
theorem w_X5_item_99 {g : hf_G} {p : Program} {l : Launch} {ev : Env} {s : State} {m : MethodId} {args : Array Value} {below : List Frame} {meth : Method} {c : Code} (X : hf_X g p s m args meth c cX5_item 6 RX5 (some .boolean))     {t0 : Nat} (hl_t0 : t0 < 69) (hs_t0 : hf_shp t0 = 5) (v1 : Int32) (v2 : Int32) (v3 : Int32) (M : hf_M) : hf_W g p l ev (6) s m args below meth c 6 (hf_QI g below args s) M 99 [some (.ref (hf_a g t0)), some (.int v1), some (.int v2), some (.int v3), none, none] [] (s_X5_item_99 t0 v1 v2 v3 M) := by
  unfold s_X5_item_99
  refine hr_iload_n X dX5_item_99 rfl ?_
  refine hr_iconst X 3 dX5_item_100 kc_3 ?_
  refine hr_icmp_ne X 119 dX5_item_101 rfl ?_ ?_
  · exact hr_wk (hs_some (hs_none (hs_some (hs_some (hs_none (hs_none (hs_nil))))))) (w_X5_item_119 X hl_t0 hs_t0 v2 v3 M)
  · refine hr_aload_n X dX5_item_104 rfl ?_
    refine hr_gI X hl_t0 hs_t0 lg_RX5_118 dX5_item_105 ?_
    refine hr_bipush X 24 dX5_item_108 kb_24 ?_
    refine hr_icmp_ne X 119 dX5_item_110 rfl ?_ ?_
    · exact hr_wk (hs_some (hs_none (hs_some (hs_some (hs_none (hs_none (hs_nil))))))) (w_X5_item_119 X hl_t0 hs_t0 v2 v3 M)
    · refine hr_aload_n X dX5_item_113 rfl ?_
      refine hr_iload_n X dX5_item_114 rfl ?_
      refine hr_cvI X [.int v1] [] (c_X5_wrong hl_t0 hs_t0 v1 M) lk_RX5_182 rfl rfl rfl hl_t0 hs_t0 ⟨by decide, rfl⟩ (by decide) (Nat.le_of_ble_eq_true rfl) dX5_item_115 (fun r1 M2 _ => ?_)
      exact hr_zret X dX5_item_118
set_option maxRecDepth 100000 in
set_option maxHeartbeats 4000000 in
theorem w_X5_item_87 {g : hf_G} {p : Program} {l : Launch} {ev : Env} {s : State} {m : MethodId} {args : Array Value} {below : List Frame} {meth : Method} {c : Code} (X : hf_X g p s m args meth c cX5_item 6 RX5 (some .boolean))     {t0 : Nat} (hl_t0 : t0 < 69) (hs_t0 : hf_shp t0 = 5) (v1 : Int32) (v2 : Int32) (v3 : Int32) (M : hf_M) : hf_W g p l ev (6) s m args below meth c 6 (hf_QI g below args s) M 87 [some (.ref (hf_a g t0)), some (.int v1), some (.int v2), some (.int v3), none, none] [] (s_X5_item_87 t0 v1 v2 v3 M) := by
  unfold s_X5_item_87
  refine hr_iload_n X dX5_item_87 rfl ?_
  refine hr_iconst X 2 dX5_item_88 kc_2 ?_
  refine hr_icmp_ne X 99 dX5_item_89 rfl ?_ ?_
  · exact hr_wk (hs_some (hs_some (hs_some (hs_some (hs_none (hs_none (hs_nil))))))) (w_X5_item_99 X hl_t0 hs_t0 v1 v2 v3 M)
  · refine hr_aload_n X dX5_item_92 rfl ?_
    refine hr_gI X hl_t0 hs_t0 lg_RX5_118 dX5_item_93 ?_
    refine hr_if_gt X 113 dX5_item_96 rfl ?_ ?_
    · refine hr_aload_n X dX5_item_113 rfl ?_
      refine hr_iload_n X dX5_item_114 rfl ?_
      refine hr_cvI X [.int v1] [] (c_X5_wrong hl_t0 hs_t0 v1 M) lk_RX5_182 rfl rfl rfl hl_t0 hs_t0 ⟨by decide, rfl⟩ (by decide) (Nat.le_of_ble_eq_true rfl) dX5_item_115 (fun r1 M2 _ => ?_)
      exact hr_zret X dX5_item_118
    · exact hr_wk (hs_some (hs_some (hs_some (hs_some (hs_none (hs_none (hs_nil))))))) (w_X5_item_99 X hl_t0 hs_t0 v1 v2 v3 M)
set_option maxRecDepth 100000 in
set_option maxHeartbeats 4000000 in
theorem w_X5_item_73 {g : hf_G} {p : Program} {l : Launch} {ev : Env} {s : State} {m : MethodId} {args : Array Value} {below : List Frame} {meth : Method} {c : Code} (X : hf_X g p s m args meth c cX5_item 6 RX5 (some .boolean))     {t0 : Nat} (hl_t0 : t0 < 69) (hs_t0 : hf_shp t0 = 5) (v1 : Int32) (v2 : Int32) (v3 : Int32) (M : hf_M) : hf_W g p l ev (6) s m args below meth c 6 (hf_QI g below args s) M 73 [some (.ref (hf_a g t0)), some (.int v1), some (.int v2), some (.int v3), none, none] [] (s_X5_item_73 t0 v1 v2 v3 M) := by
  unfold s_X5_item_73
  refine hr_iload_n X dX5_item_73 rfl ?_
  refine hr_iconst X 1 dX5_item_74 kc_1 ?_
  refine hr_icmp_ne X 87 dX5_item_75 rfl ?_ ?_
  · exact hr_wk (hs_some (hs_some (hs_some (hs_some (hs_none (hs_none (hs_nil))))))) (w_X5_item_87 X hl_t0 hs_t0 v1 v2 v3 M)
  · refine hr_aload_n X dX5_item_78 rfl ?_
    refine hr_gI X hl_t0 hs_t0 lg_RX5_92 dX5_item_79 ?_
    refine hr_bipush X 6 dX5_item_82 kb_6 ?_
    refine hr_icmp_eq X 113 dX5_item_84 rfl ?_ ?_
    · refine hr_aload_n X dX5_item_113 rfl ?_
      refine hr_iload_n X dX5_item_114 rfl ?_
      refine hr_cvI X [.int v1] [] (c_X5_wrong hl_t0 hs_t0 v1 M) lk_RX5_182 rfl rfl rfl hl_t0 hs_t0 ⟨by decide, rfl⟩ (by decide) (Nat.le_of_ble_eq_true rfl) dX5_item_115 (fun r1 M2 _ => ?_)
      exact hr_zret X dX5_item_118
    · exact hr_wk (hs_some (hs_some (hs_some (hs_some (hs_none (hs_none (hs_nil))))))) (w_X5_item_87 X hl_t0 hs_t0 v1 v2 v3 M)
set_option maxRecDepth 100000 in
set_option maxHeartbeats 4000000 in
theorem w_X5_item_2 {g : hf_G} {p : Program} {l : Launch} {ev : Env} {s : State} {m : MethodId} {args : Array Value} {below : List Frame} {meth : Method} {c : Code} (X : hf_X g p s m args meth c cX5_item 6 RX5 (some .boolean))    {t0 : Nat} (hl_t0 : t0 < 69) (hs_t0 : hf_shp t0 = 5) : ∀ (n : Nat) (v1 : Int32) (M : hf_M), hf_W g p l ev (6) s m args below meth c 6 (hf_QI g below args s) M 2 [some (.ref (hf_a g t0)), some (.int v1), none, none, none, none] [] (s_X5_item_2 t0 n v1 M) := by
  intro n
  induction n with
  | zero =>
    intros
    exact hr_none
  | succ n ih =>
    intro v1 M
    rw [s_X5_item_2]
    refine hr_iload_n X dX5_item_2 rfl ?_
    refine hr_iconst X 5 dX5_item_3 kc_5 ?_
    refine hr_icmp_ge X 38 dX5_item_4 rfl ?_ ?_
    · refine hr_aload_n X dX5_item_38 rfl ?_
      refine hr_gI X hl_t0 hs_t0 lg_RX5_166 dX5_item_39 ?_
      refine hr_istore_n X dX5_item_42 (by decide) rfl ?_
      refine hr_aload_n X dX5_item_43 rfl ?_
      refine hr_cvI X [] [] (c_X5_word hl_t0 hs_t0 M) lk_RX5_191 rfl rfl rfl hl_t0 hs_t0 ⟨by decide, rfl⟩ (by decide) (Nat.le_of_ble_eq_true rfl) dX5_item_44 (fun r1 M2 _ => ?_)
      refine hr_istore_n X dX5_item_47 (by decide) rfl ?_
      refine hr_aload_n X dX5_item_48 rfl ?_
      refine hr_gI X hl_t0 hs_t0 lg_RX5_166 dX5_item_49 ?_
      refine hr_istore_n X dX5_item_52 (by decide) rfl ?_
      refine hr_iload_n X dX5_item_53 rfl ?_
      refine hr_iconst X (-1) dX5_item_54 kc_m1 ?_
      refine hr_icmp_ne X 60 dX5_item_55 rfl ?_ ?_
      · refine hr_iload_n X dX5_item_60 rfl ?_
        refine hr_if_ne X 73 dX5_item_61 rfl ?_ ?_
        · exact hr_wk (hs_some (hs_some (hs_some (hs_some (hs_none (hs_none (hs_nil))))))) (w_X5_item_73 X hl_t0 hs_t0 (M.1 t0 26) r1 (M2.1 t0 26) M2)
        · refine hr_aload_n X dX5_item_64 rfl ?_
          refine hr_gI X hl_t0 hs_t0 lg_RX5_89 dX5_item_65 ?_
          refine hr_bipush X 6 dX5_item_68 kb_6 ?_
          refine hr_icmp_eq X 113 dX5_item_70 rfl ?_ ?_
          · refine hr_aload_n X dX5_item_113 rfl ?_
            refine hr_iload_n X dX5_item_114 rfl ?_
            refine hr_cvI X [.int (M.1 t0 26)] [] (c_X5_wrong hl_t0 hs_t0 (M.1 t0 26) M2) lk_RX5_182 rfl rfl rfl hl_t0 hs_t0 ⟨by decide, rfl⟩ (by decide) (Nat.le_of_ble_eq_true rfl) dX5_item_115 (fun r3 M4 _ => ?_)
            exact hr_zret X dX5_item_118
          · exact hr_wk (hs_some (hs_some (hs_some (hs_some (hs_none (hs_none (hs_nil))))))) (w_X5_item_73 X hl_t0 hs_t0 (M.1 t0 26) r1 (M2.1 t0 26) M2)
      · refine hr_iconst X 0 dX5_item_58 kc_0 ?_
        exact hr_zretC X (Or.inl rfl) dX5_item_59
    · refine hr_aload_n X dX5_item_7 rfl ?_
      refine hr_iload_n X dX5_item_8 rfl ?_
      refine hr_cvI X [.int v1] [] (c_X5_isWordAt hl_t0 hs_t0 v1 M) lk_RX5_185 rfl rfl rfl hl_t0 hs_t0 ⟨by decide, rfl⟩ (by decide) (Nat.le_of_ble_eq_true rfl) dX5_item_9 (fun r5 M6 _ => ?_)
      refine hr_if_eq X 32 dX5_item_12 rfl ?_ ?_
      · refine hr_iinc X (v1 + 1) dX5_item_32 rfl (by rw [kc_1]) (by decide) rfl ?_
        refine hr_goto X 2 dX5_item_35 rfl ?_
        exact hr_wk (hs_some (hs_some (hs_none (hs_none (hs_none (hs_none (hs_nil))))))) (ih (v1 + 1) M6)
      · refine hr_aload_n X dX5_item_15 rfl ?_
        refine hr_iload_n X dX5_item_16 rfl ?_
        refine hr_cvI X [.int v1] [] (c_X5_isWordFull hl_t0 hs_t0 v1 M6) lk_RX5_188 rfl rfl rfl hl_t0 hs_t0 ⟨by decide, rfl⟩ (by decide) (Nat.le_of_ble_eq_true rfl) dX5_item_17 (fun r7 M8 _ => ?_)
        refine hr_if_eq X 32 dX5_item_20 rfl ?_ ?_
        · refine hr_iinc X (v1 + 1) dX5_item_32 rfl (by rw [kc_1]) (by decide) rfl ?_
          refine hr_goto X 2 dX5_item_35 rfl ?_
          exact hr_wk (hs_some (hs_some (hs_none (hs_none (hs_none (hs_none (hs_nil))))))) (ih (v1 + 1) M8)
        · refine hr_aload_n X dX5_item_23 rfl ?_
          refine hr_aload_n X dX5_item_24 rfl ?_
          refine hr_gI X hl_t0 hs_t0 lg_RX5_166 dX5_item_25 ?_
          refine hr_cvI X [.int (M8.1 t0 26)] [] (c_X5_wrong hl_t0 hs_t0 (M8.1 t0 26) M8) lk_RX5_182 rfl rfl rfl hl_t0 hs_t0 ⟨by decide, rfl⟩ (by decide) (Nat.le_of_ble_eq_true rfl) dX5_item_28 (fun r9 M10 _ => ?_)
          exact hr_zret X dX5_item_31
set_option maxRecDepth 100000 in
set_option maxHeartbeats 4000000 in
theorem c_X5_item  {t0 : Nat} (hl_t0 : t0 < 69) (hs_t0 : hf_shp t0 = 5) (M : hf_M) : hf_CI yX5_item cX5_item 6 (some .boolean) (6) (fun g => [.ref (hf_a g t0)]) M (s_X5_item t0 M) := by
  refine hf_metI (by decide +kernel) (fun g => Nat.le_of_ble_eq_true rfl) (fun g p l ev s m args below meth c X => ?_)
  have X : hf_X g p s m args meth c cX5_item 6 RX5 (some .boolean) := X
  show hf_W g p l ev (6) s m args below meth c 6 (hf_QI g below args s) M 0 [some (.ref (hf_a g t0)), none, none, none, none, none] [] (s_X5_item t0 M)
  unfold s_X5_item
  refine hr_iconst X 0 dX5_item_0 kc_0 ?_
  refine hr_istore_n X dX5_item_1 (by decide) rfl ?_
  exact hr_wk (hs_some (hs_some (hs_none (hs_none (hs_none (hs_none (hs_nil))))))) (w_X5_item_2 X hl_t0 hs_t0 2000 0 M)
set_option maxRecDepth 100000 in
set_option maxHeartbeats 4000000 in
theorem w_X5_keeps_3 {g : hf_G} {p : Program} {l : Launch} {ev : Env} {s : State} {m : MethodId} {args : Array Value} {below : List Frame} {meth : Method} {c : Code} (X : hf_X g p s m args meth c cX5_keeps 7 RX5 (some .int))    {t1 : Nat} (hl_t1 : t1 < 69) (hs_t1 : hf_shp t1 = 6) (v2 : Int32) {t3 : Nat} (hl_t3 : t3 < 69) (hs_t3 : hf_shp t3 = 6) (v4 : Int32) (v5 : Int32) : ∀ (n : Nat) (v6 : Int32) (M : hf_M), hf_W g p l ev (1) s m args below meth c 7 (hf_QI g below args s) M 3 [none, some (.ref (hf_a g t1)), some (.int v2), some (.ref (hf_a g t3)), some (.int v4), some (.int v5), some (.int v6)] [] (s_X5_keeps_3 t1 v2 t3 v4 v5 n v6 M) := by
  intro n
  induction n with
  | zero =>
    intros
    exact hr_none
  | succ n ih =>
    intro v6 M
    rw [s_X5_keeps_3]
    refine hr_iload X dX5_keeps_3 rfl ?_
    refine hr_iload_n X dX5_keeps_5 rfl ?_
    refine hr_icmp_ge X 45 dX5_keeps_6 rfl ?_ ?_
    · refine hr_iload X dX5_keeps_45 rfl ?_
      refine hr_iload_n X dX5_keeps_47 rfl ?_
      refine hr_iadd X dX5_keeps_48 ?_
      exact hr_iret X dX5_keeps_49
    · refine hr_iload X dX5_keeps_9 rfl ?_
      refine hr_if_eq X 28 dX5_keeps_11 rfl ?_ ?_
      · refine hr_aload_n X dX5_keeps_28 rfl ?_
        refine hr_iload X dX5_keeps_29 rfl ?_
        refine hr_iload X dX5_keeps_31 rfl ?_
        refine hr_iadd X dX5_keeps_33 ?_
        refine hr_aload_n X dX5_keeps_34 rfl ?_
        refine hr_iload X dX5_keeps_35 rfl ?_
        refine hr_iald X hl_t1 hs_t1 dX5_keeps_37 (fun r1 _ _ => ?_)
        refine hr_iast X hl_t3 hs_t3 dX5_keeps_38 (fun M2 eM2 _ => ?_)
        refine hr_iinc X (v6 + 1) dX5_keeps_39 rfl (by rw [kc_1]) (by decide) rfl ?_
        refine hr_goto X 3 dX5_keeps_42 rfl ?_
        exact hr_wk (hs_none (hs_some (hs_some (hs_some (hs_some (hs_some (hs_some (hs_nil)))))))) (ih (v6 + 1) M2)
      · refine hr_aload_n X dX5_keeps_14 rfl ?_
        refine hr_iload X dX5_keeps_15 rfl ?_
        refine hr_aload_n X dX5_keeps_17 rfl ?_
        refine hr_iload X dX5_keeps_18 rfl ?_
        refine hr_iload X dX5_keeps_20 rfl ?_
        refine hr_iadd X dX5_keeps_22 ?_
        refine hr_iald X hl_t3 hs_t3 dX5_keeps_23 (fun r3 _ _ => ?_)
        refine hr_iast X hl_t1 hs_t1 dX5_keeps_24 (fun M4 eM4 _ => ?_)
        refine hr_goto X 39 dX5_keeps_25 rfl ?_
        refine hr_iinc X (v6 + 1) dX5_keeps_39 rfl (by rw [kc_1]) (by decide) rfl ?_
        refine hr_goto X 3 dX5_keeps_42 rfl ?_
        exact hr_wk (hs_none (hs_some (hs_some (hs_some (hs_some (hs_some (hs_some (hs_nil)))))))) (ih (v6 + 1) M4)
set_option maxRecDepth 100000 in
set_option maxHeartbeats 4000000 in
theorem c_X5_keeps  {t0 : Nat} (hl_t0 : t0 < 69) (hs_t0 : hf_shp t0 = 5) {t1 : Nat} (hl_t1 : t1 < 69) (hs_t1 : hf_shp t1 = 6) (a2 : Int32) {t3 : Nat} (hl_t3 : t3 < 69) (hs_t3 : hf_shp t3 = 6) (a4 : Int32) (a5 : Int32) (M : hf_M) : hf_CI yX5_keeps cX5_keeps 7 (some .int) (1) (fun g => [.ref (hf_a g t0), .ref (hf_a g t1), .int a2, .ref (hf_a g t3), .int a4, .int a5]) M (s_X5_keeps t0 t1 a2 t3 a4 a5 M) := by
  refine hf_metI (by decide +kernel) (fun g => Nat.le_of_ble_eq_true rfl) (fun g p l ev s m args below meth c X => ?_)
  have X : hf_X g p s m args meth c cX5_keeps 7 RX5 (some .int) := X
  show hf_W g p l ev (1) s m args below meth c 7 (hf_QI g below args s) M 0 [some (.ref (hf_a g t0)), some (.ref (hf_a g t1)), some (.int a2), some (.ref (hf_a g t3)), some (.int a4), some (.int a5), none] [] (s_X5_keeps t0 t1 a2 t3 a4 a5 M)
  unfold s_X5_keeps
  refine hr_iconst X 0 dX5_keeps_0 kc_0 ?_
  refine hr_istore X dX5_keeps_1 (by decide) rfl ?_
  exact hr_wk (hs_none (hs_some (hs_some (hs_some (hs_some (hs_some (hs_some (hs_nil)))))))) (w_X5_keeps_3 X hl_t1 hs_t1 a2 hl_t3 hs_t3 a4 a5 2000 0 M)
set_option maxRecDepth 100000 in
set_option maxHeartbeats 4000000 in
theorem c_X5_all  {t0 : Nat} (hl_t0 : t0 < 69) (hs_t0 : hf_shp t0 = 5) {t1 : Nat} (hl_t1 : t1 < 69) (hs_t1 : hf_shp t1 = 6) (a2 : Int32) (a3 : Int32) (M : hf_M) : hf_CV yX5_all cX5_all 5 (none) (2) (fun g => [.ref (hf_a g t0), .ref (hf_a g t1), .int a2, .int a3]) M (s_X5_all t0 t1 a2 a3 M) := by
  refine hf_metV (by decide +kernel) (fun g => Nat.le_of_ble_eq_true rfl) (fun g p l ev s m args below meth c X => ?_)
  have X : hf_X g p s m args meth c cX5_all 5 RX5 (none) := X
  show hf_W g p l ev (2) s m args below meth c 5 (hf_QV g below args s) M 0 [some (.ref (hf_a g t0)), some (.ref (hf_a g t1)), some (.int a2), some (.int a3), none] [] (s_X5_all t0 t1 a2 a3 M)
  unfold s_X5_all
  refine hr_aload_n X dX5_all_0 rfl ?_
  refine hr_aload_n X dX5_all_1 rfl ?_
  refine hr_gR X 6 hl_t0 hs_t0 lg_RX5_33 rfl dX5_all_2 (fun q1 hl_q1 hs_q1 => ?_)
  refine hr_bipush X 6 dX5_all_5 kb_6 ?_
  refine hr_aload_n X dX5_all_7 rfl ?_
  refine hr_iconst X 0 dX5_all_8 kc_0 ?_
  refine hr_iload_n X dX5_all_9 rfl ?_
  refine hr_cvI X [.ref (hf_a g q1), .int 6, .ref (hf_a g t1), .int 0, .int a3] [] (c_X5_keeps hl_t0 hs_t0 hl_q1 hs_q1 6 hl_t1 hs_t1 0 a3 M) lk_RX5_201 rfl rfl rfl hl_t0 hs_t0 ⟨by decide, rfl⟩ (by decide) (Nat.le_of_ble_eq_true rfl) dX5_all_10 (fun r2 M3 _ => ?_)
  refine hr_istore X dX5_all_13 (by decide) rfl ?_
  refine hr_aload_n X dX5_all_15 rfl ?_
  refine hr_aload_n X dX5_all_16 rfl ?_
  refine hr_gR X 6 hl_t0 hs_t0 lg_RX5_36 rfl dX5_all_17 (fun q4 hl_q4 hs_q4 => ?_)
  refine hr_bipush X 6 dX5_all_20 kb_6 ?_
  refine hr_aload_n X dX5_all_22 rfl ?_
  refine hr_iload X dX5_all_23 rfl ?_
  refine hr_iload_n X dX5_all_25 rfl ?_
  refine hr_cvI X [.ref (hf_a g q4), .int 6, .ref (hf_a g t1), .int r2, .int a3] [] (c_X5_keeps hl_t0 hs_t0 hl_q4 hs_q4 6 hl_t1 hs_t1 r2 a3 M3) lk_RX5_201 rfl rfl rfl hl_t0 hs_t0 ⟨by decide, rfl⟩ (by decide) (Nat.le_of_ble_eq_true rfl) dX5_all_26 (fun r5 M6 _ => ?_)
  refine hr_istore X dX5_all_29 (by decide) rfl ?_
  refine hr_aload_n X dX5_all_31 rfl ?_
  refine hr_aload_n X dX5_all_32 rfl ?_
  refine hr_gR X 6 hl_t0 hs_t0 lg_RX5_39 rfl dX5_all_33 (fun q7 hl_q7 hs_q7 => ?_)
  refine hr_bipush X 6 dX5_all_36 kb_6 ?_
  refine hr_aload_n X dX5_all_38 rfl ?_
  refine hr_iload X dX5_all_39 rfl ?_
  refine hr_iload_n X dX5_all_41 rfl ?_
  refine hr_cvI X [.ref (hf_a g q7), .int 6, .ref (hf_a g t1), .int r5, .int a3] [] (c_X5_keeps hl_t0 hs_t0 hl_q7 hs_q7 6 hl_t1 hs_t1 r5 a3 M6) lk_RX5_201 rfl rfl rfl hl_t0 hs_t0 ⟨by decide, rfl⟩ (by decide) (Nat.le_of_ble_eq_true rfl) dX5_all_42 (fun r8 M9 _ => ?_)
  refine hr_istore X dX5_all_45 (by decide) rfl ?_
  refine hr_aload_n X dX5_all_47 rfl ?_
  refine hr_aload_n X dX5_all_48 rfl ?_
  refine hr_gR X 6 hl_t0 hs_t0 lg_RX5_42 rfl dX5_all_49 (fun q10 hl_q10 hs_q10 => ?_)
  refine hr_bipush X 28 dX5_all_52 kb_28 ?_
  refine hr_aload_n X dX5_all_54 rfl ?_
  refine hr_iload X dX5_all_55 rfl ?_
  refine hr_iload_n X dX5_all_57 rfl ?_
  refine hr_cvI X [.ref (hf_a g q10), .int 28, .ref (hf_a g t1), .int r8, .int a3] [] (c_X5_keeps hl_t0 hs_t0 hl_q10 hs_q10 28 hl_t1 hs_t1 r8 a3 M9) lk_RX5_201 rfl rfl rfl hl_t0 hs_t0 ⟨by decide, rfl⟩ (by decide) (Nat.le_of_ble_eq_true rfl) dX5_all_58 (fun r11 M12 _ => ?_)
  refine hr_istore X dX5_all_61 (by decide) rfl ?_
  refine hr_aload_n X dX5_all_63 rfl ?_
  refine hr_aload_n X dX5_all_64 rfl ?_
  refine hr_gR X 6 hl_t0 hs_t0 lg_RX5_45 rfl dX5_all_65 (fun q13 hl_q13 hs_q13 => ?_)
  refine hr_bipush X 28 dX5_all_68 kb_28 ?_
  refine hr_aload_n X dX5_all_70 rfl ?_
  refine hr_iload X dX5_all_71 rfl ?_
  refine hr_iload_n X dX5_all_73 rfl ?_
  refine hr_cvI X [.ref (hf_a g q13), .int 28, .ref (hf_a g t1), .int r11, .int a3] [] (c_X5_keeps hl_t0 hs_t0 hl_q13 hs_q13 28 hl_t1 hs_t1 r11 a3 M12) lk_RX5_201 rfl rfl rfl hl_t0 hs_t0 ⟨by decide, rfl⟩ (by decide) (Nat.le_of_ble_eq_true rfl) dX5_all_74 (fun r14 M15 _ => ?_)
  refine hr_istore X dX5_all_77 (by decide) rfl ?_
  refine hr_aload_n X dX5_all_79 rfl ?_
  refine hr_aload_n X dX5_all_80 rfl ?_
  refine hr_gR X 6 hl_t0 hs_t0 lg_RX5_48 rfl dX5_all_81 (fun q16 hl_q16 hs_q16 => ?_)
  refine hr_bipush X 28 dX5_all_84 kb_28 ?_
  refine hr_aload_n X dX5_all_86 rfl ?_
  refine hr_iload X dX5_all_87 rfl ?_
  refine hr_iload_n X dX5_all_89 rfl ?_
  refine hr_cvI X [.ref (hf_a g q16), .int 28, .ref (hf_a g t1), .int r14, .int a3] [] (c_X5_keeps hl_t0 hs_t0 hl_q16 hs_q16 28 hl_t1 hs_t1 r14 a3 M15) lk_RX5_201 rfl rfl rfl hl_t0 hs_t0 ⟨by decide, rfl⟩ (by decide) (Nat.le_of_ble_eq_true rfl) dX5_all_90 (fun r17 M18 _ => ?_)
  refine hr_istore X dX5_all_93 (by decide) rfl ?_
  refine hr_iload_n X dX5_all_95 rfl ?_
  refine hr_if_eq X 192 dX5_all_96 rfl ?_ ?_
  · refine hr_aload_n X dX5_all_192 rfl ?_
    refine hr_iload X dX5_all_193 rfl ?_
    refine hr_aload_n X dX5_all_195 rfl ?_
    refine hr_gI X hl_t0 hs_t0 lg_RX5_89 dX5_all_196 ?_
    refine hr_iast X hl_t1 hs_t1 dX5_all_199 (fun M19 eM19 _ => ?_)
    refine hr_aload_n X dX5_all_200 rfl ?_
    refine hr_iload X dX5_all_201 rfl ?_
    refine hr_iconst X 1 dX5_all_203 kc_1 ?_
    refine hr_iadd X dX5_all_204 ?_
    refine hr_aload_n X dX5_all_205 rfl ?_
    refine hr_gI X hl_t0 hs_t0 lg_RX5_92 dX5_all_206 ?_
    refine hr_iast X hl_t1 hs_t1 dX5_all_209 (fun M20 eM20 _ => ?_)
    refine hr_aload_n X dX5_all_210 rfl ?_
    refine hr_iload X dX5_all_211 rfl ?_
    refine hr_iconst X 2 dX5_all_213 kc_2 ?_
    refine hr_iadd X dX5_all_214 ?_
    refine hr_aload_n X dX5_all_215 rfl ?_
    refine hr_gI X hl_t0 hs_t0 lg_RX5_118 dX5_all_216 ?_
    refine hr_iast X hl_t1 hs_t1 dX5_all_219 (fun M21 eM21 _ => ?_)
    refine hr_aload_n X dX5_all_220 rfl ?_
    refine hr_iload X dX5_all_221 rfl ?_
    refine hr_iconst X 3 dX5_all_223 kc_3 ?_
    refine hr_iadd X dX5_all_224 ?_
    refine hr_aload_n X dX5_all_225 rfl ?_
    refine hr_gI X hl_t0 hs_t0 lg_RX5_7 dX5_all_226 ?_
    refine hr_iast X hl_t1 hs_t1 dX5_all_229 (fun M22 eM22 _ => ?_)
    refine hr_aload_n X dX5_all_230 rfl ?_
    refine hr_iload X dX5_all_231 rfl ?_
    refine hr_iconst X 4 dX5_all_233 kc_4 ?_
    refine hr_iadd X dX5_all_234 ?_
    refine hr_aload_n X dX5_all_235 rfl ?_
    refine hr_gI X hl_t0 hs_t0 lg_RX5_13 dX5_all_236 ?_
    refine hr_iast X hl_t1 hs_t1 dX5_all_239 (fun M23 eM23 _ => ?_)
    refine hr_aload_n X dX5_all_240 rfl ?_
    refine hr_iload X dX5_all_241 rfl ?_
    refine hr_iconst X 5 dX5_all_243 kc_5 ?_
    refine hr_iadd X dX5_all_244 ?_
    refine hr_aload_n X dX5_all_245 rfl ?_
    refine hr_gI X hl_t0 hs_t0 lg_RX5_205 dX5_all_246 ?_
    refine hr_iast X hl_t1 hs_t1 dX5_all_249 (fun M24 eM24 _ => ?_)
    refine hr_aload_n X dX5_all_250 rfl ?_
    refine hr_iload X dX5_all_251 rfl ?_
    refine hr_bipush X 6 dX5_all_253 kb_6 ?_
    refine hr_iadd X dX5_all_255 ?_
    refine hr_aload_n X dX5_all_256 rfl ?_
    refine hr_gI X hl_t0 hs_t0 lg_RX5_16 dX5_all_257 ?_
    refine hr_iast X hl_t1 hs_t1 dX5_all_260 (fun M25 eM25 _ => ?_)
    refine hr_aload_n X dX5_all_261 rfl ?_
    refine hr_iload X dX5_all_262 rfl ?_
    refine hr_bipush X 7 dX5_all_264 kb_7 ?_
    refine hr_iadd X dX5_all_266 ?_
    refine hr_aload_n X dX5_all_267 rfl ?_
    refine hr_gI X hl_t0 hs_t0 lg_RX5_19 dX5_all_268 ?_
    refine hr_iast X hl_t1 hs_t1 dX5_all_271 (fun M26 eM26 _ => ?_)
    refine hr_aload_n X dX5_all_272 rfl ?_
    refine hr_gR X 7 hl_t0 hs_t0 lg_RX5_82 rfl dX5_all_273 (fun q27 hl_q27 hs_q27 => ?_)
    refine hr_iload_n X dX5_all_276 rfl ?_
    refine hr_aload_n X dX5_all_277 rfl ?_
    refine hr_gL X hl_t0 hs_t0 lg_RX5_25 dX5_all_278 ?_
    refine hr_last X hl_q27 hs_q27 dX5_all_281 (fun M28 eM28 _ => ?_)
    exact hr_vret X dX5_all_282
  · refine hr_aload_n X dX5_all_99 rfl ?_
    refine hr_aload_n X dX5_all_100 rfl ?_
    refine hr_iload X dX5_all_101 rfl ?_
    refine hr_iald X hl_t1 hs_t1 dX5_all_103 (fun r29 _ _ => ?_)
    refine hr_pI X hl_t0 hs_t0 lp_RX5_89 dX5_all_104 (fun M30 eM30 => ?_)
    refine hr_aload_n X dX5_all_107 rfl ?_
    refine hr_aload_n X dX5_all_108 rfl ?_
    refine hr_iload X dX5_all_109 rfl ?_
    refine hr_iconst X 1 dX5_all_111 kc_1 ?_
    refine hr_iadd X dX5_all_112 ?_
    refine hr_iald X hl_t1 hs_t1 dX5_all_113 (fun r31 _ _ => ?_)
    refine hr_pI X hl_t0 hs_t0 lp_RX5_92 dX5_all_114 (fun M32 eM32 => ?_)
    refine hr_aload_n X dX5_all_117 rfl ?_
    refine hr_aload_n X dX5_all_118 rfl ?_
    refine hr_iload X dX5_all_119 rfl ?_
    refine hr_iconst X 2 dX5_all_121 kc_2 ?_
    refine hr_iadd X dX5_all_122 ?_
    refine hr_iald X hl_t1 hs_t1 dX5_all_123 (fun r33 _ _ => ?_)
    refine hr_pI X hl_t0 hs_t0 lp_RX5_118 dX5_all_124 (fun M34 eM34 => ?_)
    refine hr_aload_n X dX5_all_127 rfl ?_
    refine hr_aload_n X dX5_all_128 rfl ?_
    refine hr_iload X dX5_all_129 rfl ?_
    refine hr_iconst X 3 dX5_all_131 kc_3 ?_
    refine hr_iadd X dX5_all_132 ?_
    refine hr_iald X hl_t1 hs_t1 dX5_all_133 (fun r35 _ _ => ?_)
    refine hr_pI X hl_t0 hs_t0 lp_RX5_7 dX5_all_134 (fun M36 eM36 => ?_)
    refine hr_aload_n X dX5_all_137 rfl ?_
    refine hr_aload_n X dX5_all_138 rfl ?_
    refine hr_iload X dX5_all_139 rfl ?_
    refine hr_iconst X 4 dX5_all_141 kc_4 ?_
    refine hr_iadd X dX5_all_142 ?_
    refine hr_iald X hl_t1 hs_t1 dX5_all_143 (fun r37 _ _ => ?_)
    refine hr_pI X hl_t0 hs_t0 lp_RX5_13 dX5_all_144 (fun M38 eM38 => ?_)
    refine hr_aload_n X dX5_all_147 rfl ?_
    refine hr_aload_n X dX5_all_148 rfl ?_
    refine hr_iload X dX5_all_149 rfl ?_
    refine hr_iconst X 5 dX5_all_151 kc_5 ?_
    refine hr_iadd X dX5_all_152 ?_
    refine hr_iald X hl_t1 hs_t1 dX5_all_153 (fun r39 _ _ => ?_)
    refine hr_pI X hl_t0 hs_t0 lp_RX5_205 dX5_all_154 (fun M40 eM40 => ?_)
    refine hr_aload_n X dX5_all_157 rfl ?_
    refine hr_aload_n X dX5_all_158 rfl ?_
    refine hr_iload X dX5_all_159 rfl ?_
    refine hr_bipush X 6 dX5_all_161 kb_6 ?_
    refine hr_iadd X dX5_all_163 ?_
    refine hr_iald X hl_t1 hs_t1 dX5_all_164 (fun r41 _ _ => ?_)
    refine hr_pI X hl_t0 hs_t0 lp_RX5_16 dX5_all_165 (fun M42 eM42 => ?_)
    refine hr_aload_n X dX5_all_168 rfl ?_
    refine hr_aload_n X dX5_all_169 rfl ?_
    refine hr_iload X dX5_all_170 rfl ?_
    refine hr_bipush X 7 dX5_all_172 kb_7 ?_
    refine hr_iadd X dX5_all_174 ?_
    refine hr_iald X hl_t1 hs_t1 dX5_all_175 (fun r43 _ _ => ?_)
    refine hr_pI X hl_t0 hs_t0 lp_RX5_19 dX5_all_176 (fun M44 eM44 => ?_)
    refine hr_aload_n X dX5_all_179 rfl ?_
    refine hr_aload_n X dX5_all_180 rfl ?_
    refine hr_gR X 7 hl_t0 hs_t0 lg_RX5_82 rfl dX5_all_181 (fun q45 hl_q45 hs_q45 => ?_)
    refine hr_iload_n X dX5_all_184 rfl ?_
    refine hr_lald X hl_q45 hs_q45 dX5_all_185 (fun r46 _ _ => ?_)
    refine hr_pL X hl_t0 hs_t0 lp_RX5_25 dX5_all_186 (fun M47 eM47 => ?_)
    refine hr_goto X 282 dX5_all_189 rfl ?_
    exact hr_vret X dX5_all_282
set_option maxRecDepth 100000 in
set_option maxHeartbeats 4000000 in
theorem w_X5_town_63 {g : hf_G} {p : Program} {l : Launch} {ev : Env} {s : State} {m : MethodId} {args : Array Value} {below : List Frame} {meth : Method} {c : Code} (X : hf_X g p s m args meth c cX5_town 5 RX5 (some .int))    {t0 : Nat} (hl_t0 : t0 < 69) (hs_t0 : hf_shp t0 = 5) : ∀ (n : Nat) (v3 : Int32) (v4 : Int32) (M : hf_M), hf_W g p l ev (7) s m args below meth c 5 (hf_QI g below args s) M 63 [some (.ref (hf_a g t0)), none, none, some (.int v3), some (.int v4)] [] (s_X5_town_63 t0 n v3 v4 M) := by
  intro n
  induction n with
  | zero =>
    intros
    exact hr_none
  | succ n ih =>
    intro v3 v4 M
    rw [s_X5_town_63]
    refine hr_iload X dX5_town_63 rfl ?_
    refine hr_if_eq X 134 dX5_town_65 rfl ?_ ?_
    · refine hr_iload X dX5_town_134 rfl ?_
      refine hr_if_eq X 141 dX5_town_136 rfl ?_ ?_
      · refine hr_aload_n X dX5_town_141 rfl ?_
        refine hr_aload_n X dX5_town_142 rfl ?_
        refine hr_gR X 6 hl_t0 hs_t0 lg_RX5_76 rfl dX5_town_143 (fun q1 hl_q1 hs_q1 => ?_)
        refine hr_iconst X 0 dX5_town_146 kc_0 ?_
        refine hr_iconst X 1 dX5_town_147 kc_1 ?_
        refine hr_cvV X [.ref (hf_a g q1), .int 0, .int 1] [] (c_X5_all hl_t0 hs_t0 hl_q1 hs_q1 0 1 M) lk_RX5_211 rfl rfl rfl hl_t0 hs_t0 ⟨by decide, rfl⟩ (by decide) (Nat.le_of_ble_eq_true rfl) dX5_town_148 (fun _ M3 _ => ?_)
        refine hr_aload_n X dX5_town_151 rfl ?_
        refine hr_aload_n X dX5_town_152 rfl ?_
        refine hr_gI X hl_t0 hs_t0 lg_RX5_163 dX5_town_153 ?_
        refine hr_pI X hl_t0 hs_t0 lp_RX5_22 dX5_town_156 (fun M4 eM4 => ?_)
        refine hr_aload_n X dX5_town_159 rfl ?_
        refine hr_bipush X (-6) dX5_town_160 kb_m6 ?_
        refine hr_cvI X [.int (-6)] [] (c_X5_no hl_t0 hs_t0 (-6) M4) lk_RX5_99 rfl rfl rfl hl_t0 hs_t0 ⟨by decide, rfl⟩ (by decide) (Nat.le_of_ble_eq_true rfl) dX5_town_162 (fun r5 M6 _ => ?_)
        exact hr_iret X dX5_town_165
      · refine hr_iload_n X dX5_town_139 rfl ?_
        exact hr_iret X dX5_town_140
    · refine hr_aload_n X dX5_town_68 rfl ?_
      refine hr_gI X hl_t0 hs_t0 lg_RX5_166 dX5_town_69 ?_
      refine hr_aload_n X dX5_town_72 rfl ?_
      refine hr_gI X hl_t0 hs_t0 lg_RX5_169 dX5_town_73 ?_
      refine hr_icmp_ge X 134 dX5_town_76 rfl ?_ ?_
      · refine hr_iload X dX5_town_134 rfl ?_
        refine hr_if_eq X 141 dX5_town_136 rfl ?_ ?_
        · refine hr_aload_n X dX5_town_141 rfl ?_
          refine hr_aload_n X dX5_town_142 rfl ?_
          refine hr_gR X 6 hl_t0 hs_t0 lg_RX5_76 rfl dX5_town_143 (fun q7 hl_q7 hs_q7 => ?_)
          refine hr_iconst X 0 dX5_town_146 kc_0 ?_
          refine hr_iconst X 1 dX5_town_147 kc_1 ?_
          refine hr_cvV X [.ref (hf_a g q7), .int 0, .int 1] [] (c_X5_all hl_t0 hs_t0 hl_q7 hs_q7 0 1 M) lk_RX5_211 rfl rfl rfl hl_t0 hs_t0 ⟨by decide, rfl⟩ (by decide) (Nat.le_of_ble_eq_true rfl) dX5_town_148 (fun _ M9 _ => ?_)
          refine hr_aload_n X dX5_town_151 rfl ?_
          refine hr_aload_n X dX5_town_152 rfl ?_
          refine hr_gI X hl_t0 hs_t0 lg_RX5_163 dX5_town_153 ?_
          refine hr_pI X hl_t0 hs_t0 lp_RX5_22 dX5_town_156 (fun M10 eM10 => ?_)
          refine hr_aload_n X dX5_town_159 rfl ?_
          refine hr_bipush X (-6) dX5_town_160 kb_m6 ?_
          refine hr_cvI X [.int (-6)] [] (c_X5_no hl_t0 hs_t0 (-6) M10) lk_RX5_99 rfl rfl rfl hl_t0 hs_t0 ⟨by decide, rfl⟩ (by decide) (Nat.le_of_ble_eq_true rfl) dX5_town_162 (fun r11 M12 _ => ?_)
          exact hr_iret X dX5_town_165
        · refine hr_iload_n X dX5_town_139 rfl ?_
          exact hr_iret X dX5_town_140
      · refine hr_aload_n X dX5_town_79 rfl ?_
        refine hr_gR X 7 hl_t0 hs_t0 lg_RX5_63 rfl dX5_town_80 (fun q13 hl_q13 hs_q13 => ?_)
        refine hr_aload_n X dX5_town_83 rfl ?_
        refine hr_gI X hl_t0 hs_t0 lg_RX5_172 dX5_town_84 ?_
        refine hr_aload_n X dX5_town_87 rfl ?_
        refine hr_gI X hl_t0 hs_t0 lg_RX5_166 dX5_town_88 ?_
        refine hr_iadd X dX5_town_91 ?_
        refine hr_lald X hl_q13 hs_q13 dX5_town_92 (fun r14 _ _ => ?_)
        refine hr_l2i X dX5_town_93 ?_
        refine hr_bipush X 59 dX5_town_94 kb_59 ?_
        refine hr_icmp_eq X 112 dX5_town_96 rfl ?_ ?_
        · refine hr_aload_n X dX5_town_112 rfl ?_
          refine hr_dup X dX5_town_113 rfl ?_
          refine hr_gI X hl_t0 hs_t0 lg_RX5_166 dX5_town_114 ?_
          refine hr_iconst X 1 dX5_town_117 kc_1 ?_
          refine hr_iadd X dX5_town_118 ?_
          refine hr_pI X hl_t0 hs_t0 lp_RX5_166 dX5_town_119 (fun M15 eM15 => ?_)
          refine hr_iinc X (v3 + 1) dX5_town_122 rfl (by rw [kc_1]) (by decide) rfl ?_
          refine hr_aload_n X dX5_town_125 rfl ?_
          refine hr_cvI X [] [] (c_X5_item hl_t0 hs_t0 M15) lk_RX5_215 rfl rfl rfl hl_t0 hs_t0 ⟨by decide, rfl⟩ (by decide) (Nat.le_of_ble_eq_true rfl) dX5_town_126 (fun r16 M17 _ => ?_)
          refine hr_istore X dX5_town_129 (by decide) rfl ?_
          refine hr_goto X 63 dX5_town_131 rfl ?_
          exact hr_wk (hs_some (hs_none (hs_none (hs_some (hs_some (hs_nil)))))) (ih (v3 + 1) r16 M17)
        · refine hr_aload_n X dX5_town_99 rfl ?_
          refine hr_aload_n X dX5_town_100 rfl ?_
          refine hr_gI X hl_t0 hs_t0 lg_RX5_166 dX5_town_101 ?_
          refine hr_cvI X [.int (M.1 t0 26)] [] (c_X5_wrong hl_t0 hs_t0 (M.1 t0 26) M) lk_RX5_182 rfl rfl rfl hl_t0 hs_t0 ⟨by decide, rfl⟩ (by decide) (Nat.le_of_ble_eq_true rfl) dX5_town_104 (fun r18 M19 _ => ?_)
          refine hr_istore X dX5_town_107 (by decide) rfl ?_
          refine hr_goto X 63 dX5_town_109 rfl ?_
          exact hr_wk (hs_some (hs_none (hs_none (hs_some (hs_some (hs_nil)))))) (ih v3 r18 M19)
set_option maxRecDepth 100000 in
set_option maxHeartbeats 4000000 in
theorem c_X5_town  {t0 : Nat} (hl_t0 : t0 < 69) (hs_t0 : hf_shp t0 = 5) (a1 : Int32) (M : hf_M) : hf_CI yX5_town cX5_town 5 (some .int) (7) (fun g => [.ref (hf_a g t0), .int a1]) M (s_X5_town t0 a1 M) := by
  refine hf_metI (by decide +kernel) (fun g => Nat.le_of_ble_eq_true rfl) (fun g p l ev s m args below meth c X => ?_)
  have X : hf_X g p s m args meth c cX5_town 5 RX5 (some .int) := X
  show hf_W g p l ev (7) s m args below meth c 5 (hf_QI g below args s) M 0 [some (.ref (hf_a g t0)), some (.int a1), none, none, none] [] (s_X5_town t0 a1 M)
  unfold s_X5_town
  refine hr_aload_n X dX5_town_0 rfl ?_
  refine hr_iload_n X dX5_town_1 rfl ?_
  refine hr_cvI X [.int a1] [] (c_X5_wants hl_t0 hs_t0 a1 M) lk_RX5_208 rfl rfl rfl hl_t0 hs_t0 ⟨by decide, rfl⟩ (by decide) (Nat.le_of_ble_eq_true rfl) dX5_town_2 (fun r1 M2 _ => ?_)
  refine hr_istore_n X dX5_town_5 (by decide) rfl ?_
  refine hr_iload_n X dX5_town_6 rfl ?_
  refine hr_if_eq X 16 dX5_town_7 rfl ?_ ?_
  · refine hr_aload_n X dX5_town_16 rfl ?_
    refine hr_aload_n X dX5_town_17 rfl ?_
    refine hr_gR X 6 hl_t0 hs_t0 lg_RX5_76 rfl dX5_town_18 (fun q3 hl_q3 hs_q3 => ?_)
    refine hr_iconst X 0 dX5_town_21 kc_0 ?_
    refine hr_iconst X 0 dX5_town_22 kc_0 ?_
    refine hr_cvV X [.ref (hf_a g q3), .int 0, .int 0] [] (c_X5_all hl_t0 hs_t0 hl_q3 hs_q3 0 0 M2) lk_RX5_211 rfl rfl rfl hl_t0 hs_t0 ⟨by decide, rfl⟩ (by decide) (Nat.le_of_ble_eq_true rfl) dX5_town_23 (fun _ M5 _ => ?_)
    refine hr_aload_n X dX5_town_26 rfl ?_
    refine hr_sipush X 160 dX5_town_27 ks_160 ?_
    refine hr_iload_n X dX5_town_30 rfl ?_
    refine hr_imul X dX5_town_31 ?_
    refine hr_pI X hl_t0 hs_t0 lp_RX5_172 dX5_town_32 (fun M6 eM6 => ?_)
    refine hr_aload_n X dX5_town_35 rfl ?_
    refine hr_iconst X 0 dX5_town_36 kc_0 ?_
    refine hr_pI X hl_t0 hs_t0 lp_RX5_166 dX5_town_37 (fun M7 eM7 => ?_)
    refine hr_aload_n X dX5_town_40 rfl ?_
    refine hr_aload_n X dX5_town_41 rfl ?_
    refine hr_gR X 6 hl_t0 hs_t0 lg_RX5_57 rfl dX5_town_42 (fun q8 hl_q8 hs_q8 => ?_)
    refine hr_iload_n X dX5_town_45 rfl ?_
    refine hr_iald X hl_q8 hs_q8 dX5_town_46 (fun r9 _ _ => ?_)
    refine hr_pI X hl_t0 hs_t0 lp_RX5_169 dX5_town_47 (fun M10 eM10 => ?_)
    refine hr_aload_n X dX5_town_50 rfl ?_
    refine hr_iconst X (-1) dX5_town_51 kc_m1 ?_
    refine hr_pI X hl_t0 hs_t0 lp_RX5_22 dX5_town_52 (fun M11 eM11 => ?_)
    refine hr_iconst X 1 dX5_town_55 kc_1 ?_
    refine hr_istore_n X dX5_town_56 (by decide) rfl ?_
    refine hr_aload_n X dX5_town_57 rfl ?_
    refine hr_cvI X [] [] (c_X5_item hl_t0 hs_t0 M11) lk_RX5_215 rfl rfl rfl hl_t0 hs_t0 ⟨by decide, rfl⟩ (by decide) (Nat.le_of_ble_eq_true rfl) dX5_town_58 (fun r12 M13 _ => ?_)
    refine hr_istore X dX5_town_61 (by decide) rfl ?_
    exact hr_wk (hs_some (hs_none (hs_none (hs_some (hs_some (hs_nil)))))) (w_X5_town_63 X hl_t0 hs_t0 2000 1 r12 M13)
  · refine hr_aload_n X dX5_town_10 rfl ?_
    refine hr_iload_n X dX5_town_11 rfl ?_
    refine hr_cvI X [.int r1] [] (c_X5_no hl_t0 hs_t0 r1 M2) lk_RX5_99 rfl rfl rfl hl_t0 hs_t0 ⟨by decide, rfl⟩ (by decide) (Nat.le_of_ble_eq_true rfl) dX5_town_12 (fun r14 M15 _ => ?_)
    exact hr_iret X dX5_town_15
set_option maxRecDepth 100000 in
set_option maxHeartbeats 4000000 in
theorem c_X5_fault  {t0 : Nat} (hl_t0 : t0 < 69) (hs_t0 : hf_shp t0 = 5) (M : hf_M) : hf_CI yX5_fault cX5_fault 1 (some .int) (1) (fun g => [.ref (hf_a g t0)]) M (s_X5_fault t0 M) := by
  refine hf_metI (by decide +kernel) (fun g => Nat.le_of_ble_eq_true rfl) (fun g p l ev s m args below meth c X => ?_)
  have X : hf_X g p s m args meth c cX5_fault 1 RX5 (some .int) := X
  show hf_W g p l ev (1) s m args below meth c 1 (hf_QI g below args s) M 0 [some (.ref (hf_a g t0))] [] (s_X5_fault t0 M)
  unfold s_X5_fault
  refine hr_aload_n X dX5_fault_0 rfl ?_
  refine hr_gI X hl_t0 hs_t0 lg_RX5_22 dX5_fault_1 ?_
  exact hr_iret X dX5_fault_4
set_option maxRecDepth 100000 in
set_option maxHeartbeats 4000000 in
theorem c_X5_canBe  {t0 : Nat} (hl_t0 : t0 < 69) (hs_t0 : hf_shp t0 = 5) (a1 : Int32) (a2 : Int32) (M : hf_M) : hf_CI yX5_canBe cX5_canBe 3 (some .int) (3) (fun g => [.ref (hf_a g t0), .int a1, .int a2]) M (s_X5_canBe t0 a1 a2 M) := by
  refine hf_metI (by decide +kernel) (fun g => Nat.le_of_ble_eq_true rfl) (fun g p l ev s m args below meth c X => ?_)
  have X : hf_X g p s m args meth c cX5_canBe 3 RX5 (some .int) := X
  show hf_W g p l ev (3) s m args below meth c 3 (hf_QI g below args s) M 0 [some (.ref (hf_a g t0)), some (.int a1), some (.int a2)] [] (s_X5_canBe t0 a1 a2 M)
  unfold s_X5_canBe
  refine hr_aload_n X dX5_canBe_0 rfl ?_
  refine hr_iload_n X dX5_canBe_1 rfl ?_
  refine hr_cvI X [.int a1] [] (c_X5_isSpeaker hl_t0 hs_t0 a1 M) lk_RX5_103 rfl rfl rfl hl_t0 hs_t0 ⟨by decide, rfl⟩ (by decide) (Nat.le_of_ble_eq_true rfl) dX5_canBe_2 (fun r1 M2 _ => ?_)
  refine hr_if_eq X 22 dX5_canBe_5 rfl ?_ ?_
  · refine hr_aload_n X dX5_canBe_22 rfl ?_
    refine hr_iconst X (-1) dX5_canBe_23 kc_m1 ?_
    refine hr_cvI X [.int (-1)] [] (c_X5_no hl_t0 hs_t0 (-1) M2) lk_RX5_99 rfl rfl rfl hl_t0 hs_t0 ⟨by decide, rfl⟩ (by decide) (Nat.le_of_ble_eq_true rfl) dX5_canBe_24 (fun r3 M4 _ => ?_)
    exact hr_iret X dX5_canBe_27
  · refine hr_iload_n X dX5_canBe_8 rfl ?_
    refine hr_if_lt X 22 dX5_canBe_9 rfl ?_ ?_
    · refine hr_aload_n X dX5_canBe_22 rfl ?_
      refine hr_iconst X (-1) dX5_canBe_23 kc_m1 ?_
      refine hr_cvI X [.int (-1)] [] (c_X5_no hl_t0 hs_t0 (-1) M2) lk_RX5_99 rfl rfl rfl hl_t0 hs_t0 ⟨by decide, rfl⟩ (by decide) (Nat.le_of_ble_eq_true rfl) dX5_canBe_24 (fun r5 M6 _ => ?_)
      exact hr_iret X dX5_canBe_27
    · refine hr_iload_n X dX5_canBe_12 rfl ?_
      refine hr_iconst X 1 dX5_canBe_13 kc_1 ?_
      refine hr_aload_n X dX5_canBe_14 rfl ?_
      refine hr_gI X hl_t0 hs_t0 lg_RX5_89 dX5_canBe_15 ?_
      refine hr_ishl X dX5_canBe_18 ?_
      refine hr_icmp_lt X 28 dX5_canBe_19 rfl ?_ ?_
      · refine hr_aload_n X dX5_canBe_28 rfl ?_
        refine hr_iload_n X dX5_canBe_29 rfl ?_
        refine hr_iload_n X dX5_canBe_30 rfl ?_
        refine hr_iconst X (-1) dX5_canBe_31 kc_m1 ?_
        refine hr_cvI X [.int a1, .int a2, .int (-1)] [] (c_X5_canBeOf hl_t0 hs_t0 a1 a2 (-1) M2) lk_RX5_130 rfl rfl rfl hl_t0 hs_t0 ⟨by decide, rfl⟩ (by decide) (Nat.le_of_ble_eq_true rfl) dX5_canBe_32 (fun r7 M8 _ => ?_)
        refine hr_if_eq X 42 dX5_canBe_35 rfl ?_ ?_
        · refine hr_iconst X 0 dX5_canBe_42 kc_0 ?_
          exact hr_iret X dX5_canBe_43
        · refine hr_iconst X 1 dX5_canBe_38 kc_1 ?_
          refine hr_goto X 43 dX5_canBe_39 rfl ?_
          exact hr_iret X dX5_canBe_43
      · refine hr_aload_n X dX5_canBe_22 rfl ?_
        refine hr_iconst X (-1) dX5_canBe_23 kc_m1 ?_
        refine hr_cvI X [.int (-1)] [] (c_X5_no hl_t0 hs_t0 (-1) M2) lk_RX5_99 rfl rfl rfl hl_t0 hs_t0 ⟨by decide, rfl⟩ (by decide) (Nat.le_of_ble_eq_true rfl) dX5_canBe_24 (fun r9 M10 _ => ?_)
        exact hr_iret X dX5_canBe_27
set_option maxRecDepth 100000 in
set_option maxHeartbeats 4000000 in
theorem c_X5_lets  {t0 : Nat} (hl_t0 : t0 < 69) (hs_t0 : hf_shp t0 = 5) (a1 : Int32) (a2 : Int32) (a3 : Int32) (M : hf_M) : hf_CI yX5_lets cX5_lets 5 (some .boolean) (3) (fun g => [.ref (hf_a g t0), .int a1, .int a2, .int a3]) M (s_X5_lets t0 a1 a2 a3 M) := by
  refine hf_metI (by decide +kernel) (fun g => Nat.le_of_ble_eq_true rfl) (fun g p l ev s m args below meth c X => ?_)
  have X : hf_X g p s m args meth c cX5_lets 5 RX5 (some .boolean) := X
  show hf_W g p l ev (3) s m args below meth c 5 (hf_QI g below args s) M 0 [some (.ref (hf_a g t0)), some (.int a1), some (.int a2), some (.int a3), none] [] (s_X5_lets t0 a1 a2 a3 M)
  unfold s_X5_lets
  refine hr_aload_n X dX5_lets_0 rfl ?_
  refine hr_iload_n X dX5_lets_1 rfl ?_
  refine hr_iconst X 0 dX5_lets_2 kc_0 ?_
  refine hr_iload_n X dX5_lets_3 rfl ?_
  refine hr_iconst X 1 dX5_lets_4 kc_1 ?_
  refine hr_iand X dX5_lets_5 ?_
  refine hr_iconst X 1 dX5_lets_6 kc_1 ?_
  refine hr_icmp_ne X 14 dX5_lets_7 rfl ?_ ?_
  · refine hr_iconst X 0 dX5_lets_14 kc_0 ?_
    refine hr_iload_n X dX5_lets_15 rfl ?_
    refine hr_icmp_ne X 23 dX5_lets_16 rfl ?_ ?_
    · refine hr_iconst X 0 dX5_lets_23 kc_0 ?_
      refine hr_cvV X [.int a1, .int 0, .int 0] [] (c_X5_adds hl_t0 hs_t0 a1 0 0 M) lk_RX5_138 rfl rfl rfl hl_t0 hs_t0 ⟨by decide, rfl⟩ (by decide) (Nat.le_of_ble_eq_true rfl) dX5_lets_24 (fun _ M2 _ => ?_)
      refine hr_aload_n X dX5_lets_27 rfl ?_
      refine hr_iload_n X dX5_lets_28 rfl ?_
      refine hr_iload_n X dX5_lets_29 rfl ?_
      refine hr_iconst X (-1) dX5_lets_30 kc_m1 ?_
      refine hr_cvI X [.int a1, .int a2, .int (-1)] [] (c_X5_canBeOf hl_t0 hs_t0 a1 a2 (-1) M2) lk_RX5_130 rfl rfl rfl hl_t0 hs_t0 ⟨by decide, rfl⟩ (by decide) (Nat.le_of_ble_eq_true rfl) dX5_lets_31 (fun r3 M4 _ => ?_)
      refine hr_istore X dX5_lets_34 (by decide) rfl ?_
      refine hr_aload_n X dX5_lets_36 rfl ?_
      refine hr_dup X dX5_lets_37 rfl ?_
      refine hr_gI X hl_t0 hs_t0 lg_RX5_118 dX5_lets_38 ?_
      refine hr_iconst X 1 dX5_lets_41 kc_1 ?_
      refine hr_isub X dX5_lets_42 ?_
      refine hr_pI X hl_t0 hs_t0 lp_RX5_118 dX5_lets_43 (fun M5 eM5 => ?_)
      refine hr_iload X dX5_lets_46 rfl ?_
      exact hr_zret X dX5_lets_48
    · refine hr_iconst X 1 dX5_lets_19 kc_1 ?_
      refine hr_goto X 24 dX5_lets_20 rfl ?_
      refine hr_cvV X [.int a1, .int 0, .int 1] [] (c_X5_adds hl_t0 hs_t0 a1 0 1 M) lk_RX5_138 rfl rfl rfl hl_t0 hs_t0 ⟨by decide, rfl⟩ (by decide) (Nat.le_of_ble_eq_true rfl) dX5_lets_24 (fun _ M7 _ => ?_)
      refine hr_aload_n X dX5_lets_27 rfl ?_
      refine hr_iload_n X dX5_lets_28 rfl ?_
      refine hr_iload_n X dX5_lets_29 rfl ?_
      refine hr_iconst X (-1) dX5_lets_30 kc_m1 ?_
      refine hr_cvI X [.int a1, .int a2, .int (-1)] [] (c_X5_canBeOf hl_t0 hs_t0 a1 a2 (-1) M7) lk_RX5_130 rfl rfl rfl hl_t0 hs_t0 ⟨by decide, rfl⟩ (by decide) (Nat.le_of_ble_eq_true rfl) dX5_lets_31 (fun r8 M9 _ => ?_)
      refine hr_istore X dX5_lets_34 (by decide) rfl ?_
      refine hr_aload_n X dX5_lets_36 rfl ?_
      refine hr_dup X dX5_lets_37 rfl ?_
      refine hr_gI X hl_t0 hs_t0 lg_RX5_118 dX5_lets_38 ?_
      refine hr_iconst X 1 dX5_lets_41 kc_1 ?_
      refine hr_isub X dX5_lets_42 ?_
      refine hr_pI X hl_t0 hs_t0 lp_RX5_118 dX5_lets_43 (fun M10 eM10 => ?_)
      refine hr_iload X dX5_lets_46 rfl ?_
      exact hr_zret X dX5_lets_48
  · refine hr_iconst X 1 dX5_lets_10 kc_1 ?_
    refine hr_goto X 15 dX5_lets_11 rfl ?_
    refine hr_iload_n X dX5_lets_15 rfl ?_
    refine hr_icmp_ne X 23 dX5_lets_16 rfl ?_ ?_
    · refine hr_iconst X 0 dX5_lets_23 kc_0 ?_
      refine hr_cvV X [.int a1, .int 0, .int 0] [] (c_X5_adds hl_t0 hs_t0 a1 0 0 M) lk_RX5_138 rfl rfl rfl hl_t0 hs_t0 ⟨by decide, rfl⟩ (by decide) (Nat.le_of_ble_eq_true rfl) dX5_lets_24 (fun _ M12 _ => ?_)
      refine hr_aload_n X dX5_lets_27 rfl ?_
      refine hr_iload_n X dX5_lets_28 rfl ?_
      refine hr_iload_n X dX5_lets_29 rfl ?_
      refine hr_iconst X (-1) dX5_lets_30 kc_m1 ?_
      refine hr_cvI X [.int a1, .int a2, .int (-1)] [] (c_X5_canBeOf hl_t0 hs_t0 a1 a2 (-1) M12) lk_RX5_130 rfl rfl rfl hl_t0 hs_t0 ⟨by decide, rfl⟩ (by decide) (Nat.le_of_ble_eq_true rfl) dX5_lets_31 (fun r13 M14 _ => ?_)
      refine hr_istore X dX5_lets_34 (by decide) rfl ?_
      refine hr_aload_n X dX5_lets_36 rfl ?_
      refine hr_dup X dX5_lets_37 rfl ?_
      refine hr_gI X hl_t0 hs_t0 lg_RX5_118 dX5_lets_38 ?_
      refine hr_iconst X 1 dX5_lets_41 kc_1 ?_
      refine hr_isub X dX5_lets_42 ?_
      refine hr_pI X hl_t0 hs_t0 lp_RX5_118 dX5_lets_43 (fun M15 eM15 => ?_)
      refine hr_iload X dX5_lets_46 rfl ?_
      exact hr_zret X dX5_lets_48
    · refine hr_iconst X 1 dX5_lets_19 kc_1 ?_
      refine hr_goto X 24 dX5_lets_20 rfl ?_
      refine hr_cvV X [.int a1, .int 0, .int 1] [] (c_X5_adds hl_t0 hs_t0 a1 0 1 M) lk_RX5_138 rfl rfl rfl hl_t0 hs_t0 ⟨by decide, rfl⟩ (by decide) (Nat.le_of_ble_eq_true rfl) dX5_lets_24 (fun _ M17 _ => ?_)
      refine hr_aload_n X dX5_lets_27 rfl ?_
      refine hr_iload_n X dX5_lets_28 rfl ?_
      refine hr_iload_n X dX5_lets_29 rfl ?_
      refine hr_iconst X (-1) dX5_lets_30 kc_m1 ?_
      refine hr_cvI X [.int a1, .int a2, .int (-1)] [] (c_X5_canBeOf hl_t0 hs_t0 a1 a2 (-1) M17) lk_RX5_130 rfl rfl rfl hl_t0 hs_t0 ⟨by decide, rfl⟩ (by decide) (Nat.le_of_ble_eq_true rfl) dX5_lets_31 (fun r18 M19 _ => ?_)
      refine hr_istore X dX5_lets_34 (by decide) rfl ?_
      refine hr_aload_n X dX5_lets_36 rfl ?_
      refine hr_dup X dX5_lets_37 rfl ?_
      refine hr_gI X hl_t0 hs_t0 lg_RX5_118 dX5_lets_38 ?_
      refine hr_iconst X 1 dX5_lets_41 kc_1 ?_
      refine hr_isub X dX5_lets_42 ?_
      refine hr_pI X hl_t0 hs_t0 lp_RX5_118 dX5_lets_43 (fun M20 eM20 => ?_)
      refine hr_iload X dX5_lets_46 rfl ?_
      exact hr_zret X dX5_lets_48
set_option maxRecDepth 100000 in
set_option maxHeartbeats 4000000 in
theorem w_X5_can_87 {g : hf_G} {p : Program} {l : Launch} {ev : Env} {s : State} {m : MethodId} {args : Array Value} {below : List Frame} {meth : Method} {c : Code} (X : hf_X g p s m args meth c cX5_can 7 RX5 (some .int))    {t0 : Nat} (hl_t0 : t0 < 69) (hs_t0 : hf_shp t0 = 5) (v1 : Int32) (v3 : Int32) (v4 : Int64) : ∀ (n : Nat) (v6 : Int32) (M : hf_M), hf_W g p l ev (6) s m args below meth c 7 (hf_QI g below args s) M 87 [some (.ref (hf_a g t0)), some (.int v1), none, some (.int v3), some (.long v4), none, some (.int v6)] [] (s_X5_can_87 t0 v1 v3 v4 n v6 M) := by
  intro n
  induction n with
  | zero =>
    intros
    exact hr_none
  | succ n ih =>
    intro v6 M
    rw [s_X5_can_87]
    refine hr_iload X dX5_can_87 rfl ?_
    refine hr_iconst X 1 dX5_can_89 kc_1 ?_
    refine hr_aload_n X dX5_can_90 rfl ?_
    refine hr_gI X hl_t0 hs_t0 lg_RX5_89 dX5_can_91 ?_
    refine hr_ishl X dX5_can_94 ?_
    refine hr_icmp_ge X 138 dX5_can_95 rfl ?_ ?_
    · refine hr_iconst X 0 dX5_can_138 kc_0 ?_
      exact hr_iret X dX5_can_139
    · refine hr_lload X dX5_can_98 rfl ?_
      refine hr_iload X dX5_can_100 rfl ?_
      refine hr_lshr X dX5_can_102 ?_
      refine hr_lconst X 1 dX5_can_103 rfl ?_
      refine hr_land X dX5_can_104 ?_
      refine hr_lconst X 1 dX5_can_105 rfl ?_
      refine hr_lcmp X dX5_can_106 ?_
      refine hr_if_ne X 132 dX5_can_107 rfl ?_ ?_
      · refine hr_iinc X (v6 + 1) dX5_can_132 rfl (by rw [kc_1]) (by decide) rfl ?_
        refine hr_goto X 87 dX5_can_135 rfl ?_
        exact hr_wk (hs_some (hs_some (hs_none (hs_some (hs_some (hs_none (hs_some (hs_nil)))))))) (ih (v6 + 1) M)
      · refine hr_aload_n X dX5_can_110 rfl ?_
        refine hr_iload_n X dX5_can_111 rfl ?_
        refine hr_iload X dX5_can_112 rfl ?_
        refine hr_iload_n X dX5_can_114 rfl ?_
        refine hr_iconst X 1 dX5_can_115 kc_1 ?_
        refine hr_icmp_ne X 123 dX5_can_116 rfl ?_ ?_
        · refine hr_iconst X 0 dX5_can_123 kc_0 ?_
          refine hr_cvI X [.int v1, .int v6, .int 0] [] (c_X5_lets hl_t0 hs_t0 v1 v6 0 M) lk_RX5_218 rfl rfl rfl hl_t0 hs_t0 ⟨by decide, rfl⟩ (by decide) (Nat.le_of_ble_eq_true rfl) dX5_can_124 (fun r1 M2 _ => ?_)
          refine hr_if_eq X 132 dX5_can_127 rfl ?_ ?_
          · refine hr_iinc X (v6 + 1) dX5_can_132 rfl (by rw [kc_1]) (by decide) rfl ?_
            refine hr_goto X 87 dX5_can_135 rfl ?_
            exact hr_wk (hs_some (hs_some (hs_none (hs_some (hs_some (hs_none (hs_some (hs_nil)))))))) (ih (v6 + 1) M2)
          · refine hr_iconst X 1 dX5_can_130 kc_1 ?_
            exact hr_iret X dX5_can_131
        · refine hr_iconst X 1 dX5_can_119 kc_1 ?_
          refine hr_goto X 124 dX5_can_120 rfl ?_
          refine hr_cvI X [.int v1, .int v6, .int 1] [] (c_X5_lets hl_t0 hs_t0 v1 v6 1 M) lk_RX5_218 rfl rfl rfl hl_t0 hs_t0 ⟨by decide, rfl⟩ (by decide) (Nat.le_of_ble_eq_true rfl) dX5_can_124 (fun r3 M4 _ => ?_)
          refine hr_if_eq X 132 dX5_can_127 rfl ?_ ?_
          · refine hr_iinc X (v6 + 1) dX5_can_132 rfl (by rw [kc_1]) (by decide) rfl ?_
            refine hr_goto X 87 dX5_can_135 rfl ?_
            exact hr_wk (hs_some (hs_some (hs_none (hs_some (hs_some (hs_none (hs_some (hs_nil)))))))) (ih (v6 + 1) M4)
          · refine hr_iconst X 1 dX5_can_130 kc_1 ?_
            exact hr_iret X dX5_can_131
set_option maxRecDepth 100000 in
set_option maxHeartbeats 4000000 in
theorem c_X5_can  {t0 : Nat} (hl_t0 : t0 < 69) (hs_t0 : hf_shp t0 = 5) (a1 : Int32) (a2 : Int32) (a3 : Int32) (M : hf_M) : hf_CI yX5_can cX5_can 7 (some .int) (6) (fun g => [.ref (hf_a g t0), .int a1, .int a2, .int a3]) M (s_X5_can t0 a1 a2 a3 M) := by
  refine hf_metI (by decide +kernel) (fun g => Nat.le_of_ble_eq_true rfl) (fun g p l ev s m args below meth c X => ?_)
  have X : hf_X g p s m args meth c cX5_can 7 RX5 (some .int) := X
  show hf_W g p l ev (6) s m args below meth c 7 (hf_QI g below args s) M 0 [some (.ref (hf_a g t0)), some (.int a1), some (.int a2), some (.int a3), none, none, none] [] (s_X5_can t0 a1 a2 a3 M)
  unfold s_X5_can
  refine hr_aload_n X dX5_can_0 rfl ?_
  refine hr_iload_n X dX5_can_1 rfl ?_
  refine hr_cvI X [.int a1] [] (c_X5_isSpeaker hl_t0 hs_t0 a1 M) lk_RX5_103 rfl rfl rfl hl_t0 hs_t0 ⟨by decide, rfl⟩ (by decide) (Nat.le_of_ble_eq_true rfl) dX5_can_2 (fun r1 M2 _ => ?_)
  refine hr_if_eq X 16 dX5_can_5 rfl ?_ ?_
  · refine hr_aload_n X dX5_can_16 rfl ?_
    refine hr_iconst X (-1) dX5_can_17 kc_m1 ?_
    refine hr_cvI X [.int (-1)] [] (c_X5_no hl_t0 hs_t0 (-1) M2) lk_RX5_99 rfl rfl rfl hl_t0 hs_t0 ⟨by decide, rfl⟩ (by decide) (Nat.le_of_ble_eq_true rfl) dX5_can_18 (fun r3 M4 _ => ?_)
    exact hr_iret X dX5_can_21
  · refine hr_aload_n X dX5_can_8 rfl ?_
    refine hr_iload_n X dX5_can_9 rfl ?_
    refine hr_cvI X [.int a2] [] (c_X5_isFact hl_t0 hs_t0 a2 M2) lk_RX5_121 rfl rfl rfl hl_t0 hs_t0 ⟨by decide, rfl⟩ (by decide) (Nat.le_of_ble_eq_true rfl) dX5_can_10 (fun r5 M6 _ => ?_)
    refine hr_if_ne X 22 dX5_can_13 rfl ?_ ?_
    · refine hr_iload_n X dX5_can_22 rfl ?_
      refine hr_if_lt X 31 dX5_can_23 rfl ?_ ?_
      · refine hr_aload_n X dX5_can_31 rfl ?_
        refine hr_bipush X (-5) dX5_can_32 kb_m5 ?_
        refine hr_cvI X [.int (-5)] [] (c_X5_no hl_t0 hs_t0 (-5) M6) lk_RX5_99 rfl rfl rfl hl_t0 hs_t0 ⟨by decide, rfl⟩ (by decide) (Nat.le_of_ble_eq_true rfl) dX5_can_34 (fun r7 M8 _ => ?_)
        exact hr_iret X dX5_can_37
      · refine hr_iload_n X dX5_can_26 rfl ?_
        refine hr_iconst X 3 dX5_can_27 kc_3 ?_
        refine hr_icmp_le X 38 dX5_can_28 rfl ?_ ?_
        · refine hr_aload_n X dX5_can_38 rfl ?_
          refine hr_iload_n X dX5_can_39 rfl ?_
          refine hr_cvI X [.int a1] [] (c_X5_isFull hl_t0 hs_t0 a1 M6) lk_RX5_150 rfl rfl rfl hl_t0 hs_t0 ⟨by decide, rfl⟩ (by decide) (Nat.le_of_ble_eq_true rfl) dX5_can_40 (fun r9 M10 _ => ?_)
          refine hr_if_eq X 48 dX5_can_43 rfl ?_ ?_
          · refine hr_iload_n X dX5_can_48 rfl ?_
            refine hr_iconst X 1 dX5_can_49 kc_1 ?_
            refine hr_icmp_le X 78 dX5_can_50 rfl ?_ ?_
            · refine hr_aload_n X dX5_can_78 rfl ?_
              refine hr_cvJ X [] [] (c_X5_worldsNow hl_t0 hs_t0 M10) lk_RX5_142 rfl rfl rfl hl_t0 hs_t0 ⟨by decide, rfl⟩ (by decide) (Nat.le_of_ble_eq_true rfl) dX5_can_79 (fun r11 M12 _ => ?_)
              refine hr_lstore X dX5_can_82 (by decide) rfl ?_
              refine hr_iconst X 0 dX5_can_84 kc_0 ?_
              refine hr_istore X dX5_can_85 (by decide) rfl ?_
              exact hr_wk (hs_some (hs_some (hs_none (hs_some (hs_some (hs_none (hs_some (hs_nil)))))))) (w_X5_can_87 X hl_t0 hs_t0 a1 a3 r11 2000 0 M12)
            · refine hr_aload_n X dX5_can_53 rfl ?_
              refine hr_iload_n X dX5_can_54 rfl ?_
              refine hr_iload_n X dX5_can_55 rfl ?_
              refine hr_iload_n X dX5_can_56 rfl ?_
              refine hr_iconst X 2 dX5_can_57 kc_2 ?_
              refine hr_icmp_ne X 65 dX5_can_58 rfl ?_ ?_
              · refine hr_iconst X 0 dX5_can_65 kc_0 ?_
                refine hr_cvI X [.int a1, .int a2, .int 0] [] (c_X5_leaves hl_t0 hs_t0 a1 a2 0 M10) lk_RX5_153 rfl rfl rfl hl_t0 hs_t0 ⟨by decide, rfl⟩ (by decide) (Nat.le_of_ble_eq_true rfl) dX5_can_66 (fun r13 M14 _ => ?_)
                refine hr_if_le X 76 dX5_can_69 rfl ?_ ?_
                · refine hr_iconst X 0 dX5_can_76 kc_0 ?_
                  exact hr_iret X dX5_can_77
                · refine hr_iconst X 1 dX5_can_72 kc_1 ?_
                  refine hr_goto X 77 dX5_can_73 rfl ?_
                  exact hr_iret X dX5_can_77
              · refine hr_iconst X 1 dX5_can_61 kc_1 ?_
                refine hr_goto X 66 dX5_can_62 rfl ?_
                refine hr_cvI X [.int a1, .int a2, .int 1] [] (c_X5_leaves hl_t0 hs_t0 a1 a2 1 M10) lk_RX5_153 rfl rfl rfl hl_t0 hs_t0 ⟨by decide, rfl⟩ (by decide) (Nat.le_of_ble_eq_true rfl) dX5_can_66 (fun r15 M16 _ => ?_)
                refine hr_if_le X 76 dX5_can_69 rfl ?_ ?_
                · refine hr_iconst X 0 dX5_can_76 kc_0 ?_
                  exact hr_iret X dX5_can_77
                · refine hr_iconst X 1 dX5_can_72 kc_1 ?_
                  refine hr_goto X 77 dX5_can_73 rfl ?_
                  exact hr_iret X dX5_can_77
          · refine hr_iconst X 0 dX5_can_46 kc_0 ?_
            exact hr_iret X dX5_can_47
        · refine hr_aload_n X dX5_can_31 rfl ?_
          refine hr_bipush X (-5) dX5_can_32 kb_m5 ?_
          refine hr_cvI X [.int (-5)] [] (c_X5_no hl_t0 hs_t0 (-5) M6) lk_RX5_99 rfl rfl rfl hl_t0 hs_t0 ⟨by decide, rfl⟩ (by decide) (Nat.le_of_ble_eq_true rfl) dX5_can_34 (fun r17 M18 _ => ?_)
          exact hr_iret X dX5_can_37
    · refine hr_aload_n X dX5_can_16 rfl ?_
      refine hr_iconst X (-1) dX5_can_17 kc_m1 ?_
      refine hr_cvI X [.int (-1)] [] (c_X5_no hl_t0 hs_t0 (-1) M6) lk_RX5_99 rfl rfl rfl hl_t0 hs_t0 ⟨by decide, rfl⟩ (by decide) (Nat.le_of_ble_eq_true rfl) dX5_can_18 (fun r19 M20 _ => ?_)
      exact hr_iret X dX5_can_21
set_option maxRecDepth 100000 in
set_option maxHeartbeats 4000000 in
theorem c_X5_worlds  {t0 : Nat} (hl_t0 : t0 < 69) (hs_t0 : hf_shp t0 = 5) (M : hf_M) : hf_CJ yX5_worlds cX5_worlds 1 (some .long) (5) (fun g => [.ref (hf_a g t0)]) M (s_X5_worlds t0 M) := by
  refine hf_metJ (by decide +kernel) (fun g => Nat.le_of_ble_eq_true rfl) (fun g p l ev s m args below meth c X => ?_)
  have X : hf_X g p s m args meth c cX5_worlds 1 RX5 (some .long) := X
  show hf_W g p l ev (5) s m args below meth c 1 (hf_QJ g below args s) M 0 [some (.ref (hf_a g t0))] [] (s_X5_worlds t0 M)
  unfold s_X5_worlds
  refine hr_aload_n X dX5_worlds_0 rfl ?_
  refine hr_cvJ X [] [] (c_X5_worldsNow hl_t0 hs_t0 M) lk_RX5_142 rfl rfl rfl hl_t0 hs_t0 ⟨by decide, rfl⟩ (by decide) (Nat.le_of_ble_eq_true rfl) dX5_worlds_1 (fun r1 M2 _ => ?_)
  exact hr_lret X dX5_worlds_4
set_option maxRecDepth 100000 in
set_option maxHeartbeats 4000000 in
theorem c_X5_many  {t0 : Nat} (hl_t0 : t0 < 69) (hs_t0 : hf_shp t0 = 5) (M : hf_M) : hf_CI yX5_many cX5_many 1 (some .int) (5) (fun g => [.ref (hf_a g t0)]) M (s_X5_many t0 M) := by
  refine hf_metI (by decide +kernel) (fun g => Nat.le_of_ble_eq_true rfl) (fun g p l ev s m args below meth c X => ?_)
  have X : hf_X g p s m args meth c cX5_many 1 RX5 (some .int) := X
  show hf_W g p l ev (5) s m args below meth c 1 (hf_QI g below args s) M 0 [some (.ref (hf_a g t0))] [] (s_X5_many t0 M)
  unfold s_X5_many
  refine hr_aload_n X dX5_many_0 rfl ?_
  refine hr_aload_n X dX5_many_1 rfl ?_
  refine hr_cvJ X [] [.ref (hf_a g t0)] (c_X5_worldsNow hl_t0 hs_t0 M) lk_RX5_142 rfl rfl rfl hl_t0 hs_t0 ⟨by decide, rfl⟩ (by decide) (Nat.le_of_ble_eq_true rfl) dX5_many_2 (fun r1 M2 _ => ?_)
  refine hr_cvI X [.long r1] [] (c_X5_count hl_t0 hs_t0 r1 M2) lk_RX5_146 rfl rfl rfl hl_t0 hs_t0 ⟨by decide, rfl⟩ (by decide) (Nat.le_of_ble_eq_true rfl) dX5_many_5 (fun r3 M4 _ => ?_)
  exact hr_iret X dX5_many_8
