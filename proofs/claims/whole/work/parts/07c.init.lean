def hm_0 : hf_M := (fun _ _ => 0, fun _ _ => 0, fun _ _ => none)
theorem hdf_X0 : ∀ j, j < 5 → defaultValue (tyX0 j) = if hf_fty 0 j = 0 then .int 0 else if hf_fty 0 j = 1 then .long 0 else .null := by decide +kernel
theorem hdf_X1 : ∀ j, j < 7 → defaultValue (tyX1 j) = if hf_fty 1 j = 0 then .int 0 else if hf_fty 1 j = 1 then .long 0 else .null := by decide +kernel
theorem hdf_X2 : ∀ j, j < 3 → defaultValue (tyX2 j) = if hf_fty 2 j = 0 then .int 0 else if hf_fty 2 j = 1 then .long 0 else .null := by decide +kernel
theorem hdf_X3 : ∀ j, j < 17 → defaultValue (tyX3 j) = if hf_fty 3 j = 0 then .int 0 else if hf_fty 3 j = 1 then .long 0 else .null := by decide +kernel
theorem hdf_X4 : ∀ j, j < 9 → defaultValue (tyX4 j) = if hf_fty 4 j = 0 then .int 0 else if hf_fty 4 j = 1 then .long 0 else .null := by decide +kernel
theorem hdf_X5 : ∀ j, j < 38 → defaultValue (tyX5 j) = if hf_fty 5 j = 0 then .int 0 else if hf_fty 5 j = 1 then .long 0 else .null := by decide +kernel
def hm_1 : hf_M := hf_sI (hf_sI (hf_sI (hf_sI (hf_sI (hf_sL (hf_sI (hf_sI (hf_sI (hf_sR (hf_sR (hf_sR (hf_sR (hf_sR (hf_sR (hf_sR (hf_sR (hm_0) 1 0 (some 2)) 1 1 (some 3)) 1 2 (some 4)) 1 3 (some 5)) 1 4 (some 6)) 1 5 (some 7)) 1 6 (some 8)) 1 7 (some 9)) 1 8 0) 1 9 0) 1 10 0) 1 11 1) 1 12 4) 1 13 2) 1 14 0) 1 15 1) 1 16 (-1)
set_option maxRecDepth 100000 in
set_option maxHeartbeats 4000000 in
theorem ci_X3_1 : hc_C yX3_init cX3_init 1 1 2 8 216 hm_0 hm_1 (fun g => [.ref (hf_a g 1)]) := by
  refine hc_met (by decide +kernel) rfl (by decide) (fun g p l e s m args below meth c X hnm => ?_)
  have X : hf_X g p s m args meth c cX3_init 1 RX3 none := X
  show hc_W g p l e (hc_R 1 8 216) s m args below meth c 1 (MQ below (va_Qv (fun _ : Unit => True) (fun _ t => hc_Pic g (2 + 8) hm_1 t) (hf_A g)) args s 8 216 (hf_A g)) 2 hm_0 0 0 0 [some (.ref (hf_a g 1))] []
  refine hc_aload_n X dX3_init_0 rfl ?_
  refine hc_objInit X (hf_c1 28 rfl rfl) (hf_c1 21 rfl rfl) (hf_c1 22 rfl rfl) (by decide) (by decide) dX3_init_1 ?_
  refine hc_aload_n X dX3_init_4 rfl ?_
  refine hc_bipush X 6 dX3_init_5 (by decide) ?_
  refine hc_newI X (w := 6) rfl rfl (fun _ => rfl) (hf_c1 100 rfl rfl) (by decide) (by decide) (by decide) dX3_init_7 ?_
  refine hc_putF X (q := 2) (t := 1) (ci := 3) (j := 0) (by decide) rfl ⟨rfl, by decide, by decide, rfl, by decide⟩ hin_X3 (hf_c1 29 rfl rfl) rfl tyX3_ok nmX3 rfl rfl rfl rfl hnm rfl dX3_init_9 ?_
  refine hc_aload_n X dX3_init_12 rfl ?_
  refine hc_bipush X 6 dX3_init_13 (by decide) ?_
  refine hc_newI X (w := 6) rfl rfl (fun _ => rfl) (hf_c1 100 rfl rfl) (by decide) (by decide) (by decide) dX3_init_15 ?_
  refine hc_putF X (q := 3) (t := 1) (ci := 3) (j := 1) (by decide) rfl ⟨rfl, by decide, by decide, rfl, by decide⟩ hin_X3 (hf_c1 31 rfl rfl) rfl tyX3_ok nmX3 rfl rfl rfl rfl hnm rfl dX3_init_17 ?_
  refine hc_aload_n X dX3_init_20 rfl ?_
  refine hc_bipush X 6 dX3_init_21 (by decide) ?_
  refine hc_newI X (w := 6) rfl rfl (fun _ => rfl) (hf_c1 100 rfl rfl) (by decide) (by decide) (by decide) dX3_init_23 ?_
  refine hc_putF X (q := 4) (t := 1) (ci := 3) (j := 2) (by decide) rfl ⟨rfl, by decide, by decide, rfl, by decide⟩ hin_X3 (hf_c1 33 rfl rfl) rfl tyX3_ok nmX3 rfl rfl rfl rfl hnm rfl dX3_init_25 ?_
  refine hc_aload_n X dX3_init_28 rfl ?_
  refine hc_bipush X 6 dX3_init_29 (by decide) ?_
  refine hc_newI X (w := 6) rfl rfl (fun _ => rfl) (hf_c1 100 rfl rfl) (by decide) (by decide) (by decide) dX3_init_31 ?_
  refine hc_putF X (q := 5) (t := 1) (ci := 3) (j := 3) (by decide) rfl ⟨rfl, by decide, by decide, rfl, by decide⟩ hin_X3 (hf_c1 35 rfl rfl) rfl tyX3_ok nmX3 rfl rfl rfl rfl hnm rfl dX3_init_33 ?_
  refine hc_aload_n X dX3_init_36 rfl ?_
  refine hc_bipush X 48 dX3_init_37 (by decide) ?_
  refine hc_newI X (w := 48) rfl rfl (fun _ => rfl) (hf_c1 100 rfl rfl) (by decide) (by decide) (by decide) dX3_init_39 ?_
  refine hc_putF X (q := 6) (t := 1) (ci := 3) (j := 4) (by decide) rfl ⟨rfl, by decide, by decide, rfl, by decide⟩ hin_X3 (hf_c1 37 rfl rfl) rfl tyX3_ok nmX3 rfl rfl rfl rfl hnm rfl dX3_init_41 ?_
  refine hc_aload_n X dX3_init_44 rfl ?_
  refine hc_bipush X 48 dX3_init_45 (by decide) ?_
  refine hc_newI X (w := 48) rfl rfl (fun _ => rfl) (hf_c1 100 rfl rfl) (by decide) (by decide) (by decide) dX3_init_47 ?_
  refine hc_putF X (q := 7) (t := 1) (ci := 3) (j := 5) (by decide) rfl ⟨rfl, by decide, by decide, rfl, by decide⟩ hin_X3 (hf_c1 38 rfl rfl) rfl tyX3_ok nmX3 rfl rfl rfl rfl hnm rfl dX3_init_49 ?_
  refine hc_aload_n X dX3_init_52 rfl ?_
  refine hc_bipush X 48 dX3_init_53 (by decide) ?_
  refine hc_newI X (w := 48) rfl rfl (fun _ => rfl) (hf_c1 100 rfl rfl) (by decide) (by decide) (by decide) dX3_init_55 ?_
  refine hc_putF X (q := 8) (t := 1) (ci := 3) (j := 6) (by decide) rfl ⟨rfl, by decide, by decide, rfl, by decide⟩ hin_X3 (hf_c1 39 rfl rfl) rfl tyX3_ok nmX3 rfl rfl rfl rfl hnm rfl dX3_init_57 ?_
  refine hc_aload_n X dX3_init_60 rfl ?_
  refine hc_bipush X 48 dX3_init_61 (by decide) ?_
  refine hc_newJ X (w := 48) rfl rfl (fun _ => rfl) (hf_c1 101 rfl rfl) (by decide) (by decide) (by decide) dX3_init_63 ?_
  refine hc_putF X (q := 9) (t := 1) (ci := 3) (j := 7) (by decide) rfl ⟨rfl, by decide, by decide, rfl, by decide⟩ hin_X3 (hf_c1 41 rfl rfl) rfl tyX3_ok nmX3 rfl rfl rfl rfl hnm rfl dX3_init_65 ?_
  refine hc_aload_n X dX3_init_68 rfl ?_
  refine hc_iconst X 0 dX3_init_69 (by decide) ?_
  refine hc_putI X (t := 1) (ci := 3) (j := 8) (by decide) rfl ⟨rfl, by decide, by decide, rfl, by decide⟩ hin_X3 (hf_c1 42 rfl rfl) rfl tyX3_ok nmX3 rfl rfl rfl rfl dX3_init_70 ?_
  refine hc_aload_n X dX3_init_73 rfl ?_
  refine hc_iconst X 0 dX3_init_74 (by decide) ?_
  refine hc_putI X (t := 1) (ci := 3) (j := 9) (by decide) rfl ⟨rfl, by decide, by decide, rfl, by decide⟩ hin_X3 (hf_c1 45 rfl rfl) rfl tyX3_ok nmX3 rfl rfl rfl rfl dX3_init_75 ?_
  refine hc_aload_n X dX3_init_78 rfl ?_
  refine hc_iconst X 0 dX3_init_79 (by decide) ?_
  refine hc_putI X (t := 1) (ci := 3) (j := 10) (by decide) rfl ⟨rfl, by decide, by decide, rfl, by decide⟩ hin_X3 (hf_c1 48 rfl rfl) rfl tyX3_ok nmX3 rfl rfl rfl rfl dX3_init_80 ?_
  refine hc_aload_n X dX3_init_83 rfl ?_
  refine hc_lconst X 1 dX3_init_84 rfl ?_
  refine hc_putL X (t := 1) (ci := 3) (j := 11) (by decide) rfl ⟨rfl, by decide, by decide, rfl, by decide⟩ hin_X3 (hf_c1 51 rfl rfl) rfl tyX3_ok nmX3 rfl rfl rfl rfl dX3_init_85 ?_
  refine hc_aload_n X dX3_init_88 rfl ?_
  refine hc_iconst X 4 dX3_init_89 (by decide) ?_
  refine hc_putI X (t := 1) (ci := 3) (j := 12) (by decide) rfl ⟨rfl, by decide, by decide, rfl, by decide⟩ hin_X3 (hf_c1 53 rfl rfl) rfl tyX3_ok nmX3 rfl rfl rfl rfl dX3_init_90 ?_
  refine hc_aload_n X dX3_init_93 rfl ?_
  refine hc_iconst X 2 dX3_init_94 (by decide) ?_
  refine hc_putI X (t := 1) (ci := 3) (j := 13) (by decide) rfl ⟨rfl, by decide, by decide, rfl, by decide⟩ hin_X3 (hf_c1 56 rfl rfl) rfl tyX3_ok nmX3 rfl rfl rfl rfl dX3_init_95 ?_
  refine hc_aload_n X dX3_init_98 rfl ?_
  refine hc_iconst X 0 dX3_init_99 (by decide) ?_
  refine hc_putI X (t := 1) (ci := 3) (j := 14) (by decide) rfl ⟨rfl, by decide, by decide, rfl, by decide⟩ hin_X3 (hf_c1 59 rfl rfl) rfl tyX3_ok nmX3 rfl rfl rfl rfl dX3_init_100 ?_
  refine hc_aload_n X dX3_init_103 rfl ?_
  refine hc_iconst X 1 dX3_init_104 (by decide) ?_
  refine hc_putI X (t := 1) (ci := 3) (j := 15) (by decide) rfl ⟨rfl, by decide, by decide, rfl, by decide⟩ hin_X3 (hf_c1 61 rfl rfl) rfl tyX3_ok nmX3 rfl rfl rfl rfl dX3_init_105 ?_
  refine hc_aload_n X dX3_init_108 rfl ?_
  refine hc_iconst X (-1) dX3_init_109 (by decide) ?_
  refine hc_putI X (t := 1) (ci := 3) (j := 16) (by decide) rfl ⟨rfl, by decide, by decide, rfl, by decide⟩ hin_X3 (hf_c1 63 rfl rfl) rfl tyX3_ok nmX3 rfl rfl rfl rfl dX3_init_110 ?_
  exact hc_vret X (N0 := 2) (mc := 8) rfl dX3_init_113
def hm_2 : hf_M := hf_sR (hm_1) 0 0 (some 1)
def hm_3 : hf_M := hf_sI (hf_sI (hf_sI (hf_sI (hf_sI (hf_sL (hf_sI (hf_sI (hf_sI (hf_sR (hf_sR (hf_sR (hf_sR (hf_sR (hf_sR (hf_sR (hf_sR (hm_2) 10 0 (some 11)) 10 1 (some 12)) 10 2 (some 13)) 10 3 (some 14)) 10 4 (some 15)) 10 5 (some 16)) 10 6 (some 17)) 10 7 (some 18)) 10 8 0) 10 9 0) 10 10 0) 10 11 1) 10 12 4) 10 13 2) 10 14 0) 10 15 1) 10 16 (-1)
set_option maxRecDepth 100000 in
set_option maxHeartbeats 4000000 in
theorem ci_X3_10 : hc_C yX3_init cX3_init 1 1 11 8 216 hm_2 hm_3 (fun g => [.ref (hf_a g 10)]) := by
  refine hc_met (by decide +kernel) rfl (by decide) (fun g p l e s m args below meth c X hnm => ?_)
  have X : hf_X g p s m args meth c cX3_init 1 RX3 none := X
  show hc_W g p l e (hc_R 1 8 216) s m args below meth c 1 (MQ below (va_Qv (fun _ : Unit => True) (fun _ t => hc_Pic g (11 + 8) hm_3 t) (hf_A g)) args s 8 216 (hf_A g)) 11 hm_2 0 0 0 [some (.ref (hf_a g 10))] []
  refine hc_aload_n X dX3_init_0 rfl ?_
  refine hc_objInit X (hf_c1 28 rfl rfl) (hf_c1 21 rfl rfl) (hf_c1 22 rfl rfl) (by decide) (by decide) dX3_init_1 ?_
  refine hc_aload_n X dX3_init_4 rfl ?_
  refine hc_bipush X 6 dX3_init_5 (by decide) ?_
  refine hc_newI X (w := 6) rfl rfl (fun _ => rfl) (hf_c1 100 rfl rfl) (by decide) (by decide) (by decide) dX3_init_7 ?_
  refine hc_putF X (q := 11) (t := 10) (ci := 3) (j := 0) (by decide) rfl ⟨rfl, by decide, by decide, rfl, by decide⟩ hin_X3 (hf_c1 29 rfl rfl) rfl tyX3_ok nmX3 rfl rfl rfl rfl hnm rfl dX3_init_9 ?_
  refine hc_aload_n X dX3_init_12 rfl ?_
  refine hc_bipush X 6 dX3_init_13 (by decide) ?_
  refine hc_newI X (w := 6) rfl rfl (fun _ => rfl) (hf_c1 100 rfl rfl) (by decide) (by decide) (by decide) dX3_init_15 ?_
  refine hc_putF X (q := 12) (t := 10) (ci := 3) (j := 1) (by decide) rfl ⟨rfl, by decide, by decide, rfl, by decide⟩ hin_X3 (hf_c1 31 rfl rfl) rfl tyX3_ok nmX3 rfl rfl rfl rfl hnm rfl dX3_init_17 ?_
  refine hc_aload_n X dX3_init_20 rfl ?_
  refine hc_bipush X 6 dX3_init_21 (by decide) ?_
  refine hc_newI X (w := 6) rfl rfl (fun _ => rfl) (hf_c1 100 rfl rfl) (by decide) (by decide) (by decide) dX3_init_23 ?_
  refine hc_putF X (q := 13) (t := 10) (ci := 3) (j := 2) (by decide) rfl ⟨rfl, by decide, by decide, rfl, by decide⟩ hin_X3 (hf_c1 33 rfl rfl) rfl tyX3_ok nmX3 rfl rfl rfl rfl hnm rfl dX3_init_25 ?_
  refine hc_aload_n X dX3_init_28 rfl ?_
  refine hc_bipush X 6 dX3_init_29 (by decide) ?_
  refine hc_newI X (w := 6) rfl rfl (fun _ => rfl) (hf_c1 100 rfl rfl) (by decide) (by decide) (by decide) dX3_init_31 ?_
  refine hc_putF X (q := 14) (t := 10) (ci := 3) (j := 3) (by decide) rfl ⟨rfl, by decide, by decide, rfl, by decide⟩ hin_X3 (hf_c1 35 rfl rfl) rfl tyX3_ok nmX3 rfl rfl rfl rfl hnm rfl dX3_init_33 ?_
  refine hc_aload_n X dX3_init_36 rfl ?_
  refine hc_bipush X 48 dX3_init_37 (by decide) ?_
  refine hc_newI X (w := 48) rfl rfl (fun _ => rfl) (hf_c1 100 rfl rfl) (by decide) (by decide) (by decide) dX3_init_39 ?_
  refine hc_putF X (q := 15) (t := 10) (ci := 3) (j := 4) (by decide) rfl ⟨rfl, by decide, by decide, rfl, by decide⟩ hin_X3 (hf_c1 37 rfl rfl) rfl tyX3_ok nmX3 rfl rfl rfl rfl hnm rfl dX3_init_41 ?_
  refine hc_aload_n X dX3_init_44 rfl ?_
  refine hc_bipush X 48 dX3_init_45 (by decide) ?_
  refine hc_newI X (w := 48) rfl rfl (fun _ => rfl) (hf_c1 100 rfl rfl) (by decide) (by decide) (by decide) dX3_init_47 ?_
  refine hc_putF X (q := 16) (t := 10) (ci := 3) (j := 5) (by decide) rfl ⟨rfl, by decide, by decide, rfl, by decide⟩ hin_X3 (hf_c1 38 rfl rfl) rfl tyX3_ok nmX3 rfl rfl rfl rfl hnm rfl dX3_init_49 ?_
  refine hc_aload_n X dX3_init_52 rfl ?_
  refine hc_bipush X 48 dX3_init_53 (by decide) ?_
  refine hc_newI X (w := 48) rfl rfl (fun _ => rfl) (hf_c1 100 rfl rfl) (by decide) (by decide) (by decide) dX3_init_55 ?_
  refine hc_putF X (q := 17) (t := 10) (ci := 3) (j := 6) (by decide) rfl ⟨rfl, by decide, by decide, rfl, by decide⟩ hin_X3 (hf_c1 39 rfl rfl) rfl tyX3_ok nmX3 rfl rfl rfl rfl hnm rfl dX3_init_57 ?_
  refine hc_aload_n X dX3_init_60 rfl ?_
  refine hc_bipush X 48 dX3_init_61 (by decide) ?_
  refine hc_newJ X (w := 48) rfl rfl (fun _ => rfl) (hf_c1 101 rfl rfl) (by decide) (by decide) (by decide) dX3_init_63 ?_
  refine hc_putF X (q := 18) (t := 10) (ci := 3) (j := 7) (by decide) rfl ⟨rfl, by decide, by decide, rfl, by decide⟩ hin_X3 (hf_c1 41 rfl rfl) rfl tyX3_ok nmX3 rfl rfl rfl rfl hnm rfl dX3_init_65 ?_
  refine hc_aload_n X dX3_init_68 rfl ?_
  refine hc_iconst X 0 dX3_init_69 (by decide) ?_
  refine hc_putI X (t := 10) (ci := 3) (j := 8) (by decide) rfl ⟨rfl, by decide, by decide, rfl, by decide⟩ hin_X3 (hf_c1 42 rfl rfl) rfl tyX3_ok nmX3 rfl rfl rfl rfl dX3_init_70 ?_
  refine hc_aload_n X dX3_init_73 rfl ?_
  refine hc_iconst X 0 dX3_init_74 (by decide) ?_
  refine hc_putI X (t := 10) (ci := 3) (j := 9) (by decide) rfl ⟨rfl, by decide, by decide, rfl, by decide⟩ hin_X3 (hf_c1 45 rfl rfl) rfl tyX3_ok nmX3 rfl rfl rfl rfl dX3_init_75 ?_
  refine hc_aload_n X dX3_init_78 rfl ?_
  refine hc_iconst X 0 dX3_init_79 (by decide) ?_
  refine hc_putI X (t := 10) (ci := 3) (j := 10) (by decide) rfl ⟨rfl, by decide, by decide, rfl, by decide⟩ hin_X3 (hf_c1 48 rfl rfl) rfl tyX3_ok nmX3 rfl rfl rfl rfl dX3_init_80 ?_
  refine hc_aload_n X dX3_init_83 rfl ?_
  refine hc_lconst X 1 dX3_init_84 rfl ?_
  refine hc_putL X (t := 10) (ci := 3) (j := 11) (by decide) rfl ⟨rfl, by decide, by decide, rfl, by decide⟩ hin_X3 (hf_c1 51 rfl rfl) rfl tyX3_ok nmX3 rfl rfl rfl rfl dX3_init_85 ?_
  refine hc_aload_n X dX3_init_88 rfl ?_
  refine hc_iconst X 4 dX3_init_89 (by decide) ?_
  refine hc_putI X (t := 10) (ci := 3) (j := 12) (by decide) rfl ⟨rfl, by decide, by decide, rfl, by decide⟩ hin_X3 (hf_c1 53 rfl rfl) rfl tyX3_ok nmX3 rfl rfl rfl rfl dX3_init_90 ?_
  refine hc_aload_n X dX3_init_93 rfl ?_
  refine hc_iconst X 2 dX3_init_94 (by decide) ?_
  refine hc_putI X (t := 10) (ci := 3) (j := 13) (by decide) rfl ⟨rfl, by decide, by decide, rfl, by decide⟩ hin_X3 (hf_c1 56 rfl rfl) rfl tyX3_ok nmX3 rfl rfl rfl rfl dX3_init_95 ?_
  refine hc_aload_n X dX3_init_98 rfl ?_
  refine hc_iconst X 0 dX3_init_99 (by decide) ?_
  refine hc_putI X (t := 10) (ci := 3) (j := 14) (by decide) rfl ⟨rfl, by decide, by decide, rfl, by decide⟩ hin_X3 (hf_c1 59 rfl rfl) rfl tyX3_ok nmX3 rfl rfl rfl rfl dX3_init_100 ?_
  refine hc_aload_n X dX3_init_103 rfl ?_
  refine hc_iconst X 1 dX3_init_104 (by decide) ?_
  refine hc_putI X (t := 10) (ci := 3) (j := 15) (by decide) rfl ⟨rfl, by decide, by decide, rfl, by decide⟩ hin_X3 (hf_c1 61 rfl rfl) rfl tyX3_ok nmX3 rfl rfl rfl rfl dX3_init_105 ?_
  refine hc_aload_n X dX3_init_108 rfl ?_
  refine hc_iconst X (-1) dX3_init_109 (by decide) ?_
  refine hc_putI X (t := 10) (ci := 3) (j := 16) (by decide) rfl ⟨rfl, by decide, by decide, rfl, by decide⟩ hin_X3 (hf_c1 63 rfl rfl) rfl tyX3_ok nmX3 rfl rfl rfl rfl dX3_init_110 ?_
  exact hc_vret X (N0 := 11) (mc := 8) rfl dX3_init_113
def hm_4 : hf_M := hf_sR (hm_3) 0 1 (some 10)
def hm_5 : hf_M := hf_sI (hf_sI (hf_sI (hf_sI (hf_sI (hf_sL (hf_sI (hf_sI (hf_sI (hf_sR (hf_sR (hf_sR (hf_sR (hf_sR (hf_sR (hf_sR (hf_sR (hm_4) 19 0 (some 20)) 19 1 (some 21)) 19 2 (some 22)) 19 3 (some 23)) 19 4 (some 24)) 19 5 (some 25)) 19 6 (some 26)) 19 7 (some 27)) 19 8 0) 19 9 0) 19 10 0) 19 11 1) 19 12 4) 19 13 2) 19 14 0) 19 15 1) 19 16 (-1)
set_option maxRecDepth 100000 in
set_option maxHeartbeats 4000000 in
theorem ci_X3_19 : hc_C yX3_init cX3_init 1 1 20 8 216 hm_4 hm_5 (fun g => [.ref (hf_a g 19)]) := by
  refine hc_met (by decide +kernel) rfl (by decide) (fun g p l e s m args below meth c X hnm => ?_)
  have X : hf_X g p s m args meth c cX3_init 1 RX3 none := X
  show hc_W g p l e (hc_R 1 8 216) s m args below meth c 1 (MQ below (va_Qv (fun _ : Unit => True) (fun _ t => hc_Pic g (20 + 8) hm_5 t) (hf_A g)) args s 8 216 (hf_A g)) 20 hm_4 0 0 0 [some (.ref (hf_a g 19))] []
  refine hc_aload_n X dX3_init_0 rfl ?_
  refine hc_objInit X (hf_c1 28 rfl rfl) (hf_c1 21 rfl rfl) (hf_c1 22 rfl rfl) (by decide) (by decide) dX3_init_1 ?_
  refine hc_aload_n X dX3_init_4 rfl ?_
  refine hc_bipush X 6 dX3_init_5 (by decide) ?_
  refine hc_newI X (w := 6) rfl rfl (fun _ => rfl) (hf_c1 100 rfl rfl) (by decide) (by decide) (by decide) dX3_init_7 ?_
  refine hc_putF X (q := 20) (t := 19) (ci := 3) (j := 0) (by decide) rfl ⟨rfl, by decide, by decide, rfl, by decide⟩ hin_X3 (hf_c1 29 rfl rfl) rfl tyX3_ok nmX3 rfl rfl rfl rfl hnm rfl dX3_init_9 ?_
  refine hc_aload_n X dX3_init_12 rfl ?_
  refine hc_bipush X 6 dX3_init_13 (by decide) ?_
  refine hc_newI X (w := 6) rfl rfl (fun _ => rfl) (hf_c1 100 rfl rfl) (by decide) (by decide) (by decide) dX3_init_15 ?_
  refine hc_putF X (q := 21) (t := 19) (ci := 3) (j := 1) (by decide) rfl ⟨rfl, by decide, by decide, rfl, by decide⟩ hin_X3 (hf_c1 31 rfl rfl) rfl tyX3_ok nmX3 rfl rfl rfl rfl hnm rfl dX3_init_17 ?_
  refine hc_aload_n X dX3_init_20 rfl ?_
  refine hc_bipush X 6 dX3_init_21 (by decide) ?_
  refine hc_newI X (w := 6) rfl rfl (fun _ => rfl) (hf_c1 100 rfl rfl) (by decide) (by decide) (by decide) dX3_init_23 ?_
  refine hc_putF X (q := 22) (t := 19) (ci := 3) (j := 2) (by decide) rfl ⟨rfl, by decide, by decide, rfl, by decide⟩ hin_X3 (hf_c1 33 rfl rfl) rfl tyX3_ok nmX3 rfl rfl rfl rfl hnm rfl dX3_init_25 ?_
  refine hc_aload_n X dX3_init_28 rfl ?_
  refine hc_bipush X 6 dX3_init_29 (by decide) ?_
  refine hc_newI X (w := 6) rfl rfl (fun _ => rfl) (hf_c1 100 rfl rfl) (by decide) (by decide) (by decide) dX3_init_31 ?_
  refine hc_putF X (q := 23) (t := 19) (ci := 3) (j := 3) (by decide) rfl ⟨rfl, by decide, by decide, rfl, by decide⟩ hin_X3 (hf_c1 35 rfl rfl) rfl tyX3_ok nmX3 rfl rfl rfl rfl hnm rfl dX3_init_33 ?_
  refine hc_aload_n X dX3_init_36 rfl ?_
  refine hc_bipush X 48 dX3_init_37 (by decide) ?_
  refine hc_newI X (w := 48) rfl rfl (fun _ => rfl) (hf_c1 100 rfl rfl) (by decide) (by decide) (by decide) dX3_init_39 ?_
  refine hc_putF X (q := 24) (t := 19) (ci := 3) (j := 4) (by decide) rfl ⟨rfl, by decide, by decide, rfl, by decide⟩ hin_X3 (hf_c1 37 rfl rfl) rfl tyX3_ok nmX3 rfl rfl rfl rfl hnm rfl dX3_init_41 ?_
  refine hc_aload_n X dX3_init_44 rfl ?_
  refine hc_bipush X 48 dX3_init_45 (by decide) ?_
  refine hc_newI X (w := 48) rfl rfl (fun _ => rfl) (hf_c1 100 rfl rfl) (by decide) (by decide) (by decide) dX3_init_47 ?_
  refine hc_putF X (q := 25) (t := 19) (ci := 3) (j := 5) (by decide) rfl ⟨rfl, by decide, by decide, rfl, by decide⟩ hin_X3 (hf_c1 38 rfl rfl) rfl tyX3_ok nmX3 rfl rfl rfl rfl hnm rfl dX3_init_49 ?_
  refine hc_aload_n X dX3_init_52 rfl ?_
  refine hc_bipush X 48 dX3_init_53 (by decide) ?_
  refine hc_newI X (w := 48) rfl rfl (fun _ => rfl) (hf_c1 100 rfl rfl) (by decide) (by decide) (by decide) dX3_init_55 ?_
  refine hc_putF X (q := 26) (t := 19) (ci := 3) (j := 6) (by decide) rfl ⟨rfl, by decide, by decide, rfl, by decide⟩ hin_X3 (hf_c1 39 rfl rfl) rfl tyX3_ok nmX3 rfl rfl rfl rfl hnm rfl dX3_init_57 ?_
  refine hc_aload_n X dX3_init_60 rfl ?_
  refine hc_bipush X 48 dX3_init_61 (by decide) ?_
  refine hc_newJ X (w := 48) rfl rfl (fun _ => rfl) (hf_c1 101 rfl rfl) (by decide) (by decide) (by decide) dX3_init_63 ?_
  refine hc_putF X (q := 27) (t := 19) (ci := 3) (j := 7) (by decide) rfl ⟨rfl, by decide, by decide, rfl, by decide⟩ hin_X3 (hf_c1 41 rfl rfl) rfl tyX3_ok nmX3 rfl rfl rfl rfl hnm rfl dX3_init_65 ?_
  refine hc_aload_n X dX3_init_68 rfl ?_
  refine hc_iconst X 0 dX3_init_69 (by decide) ?_
  refine hc_putI X (t := 19) (ci := 3) (j := 8) (by decide) rfl ⟨rfl, by decide, by decide, rfl, by decide⟩ hin_X3 (hf_c1 42 rfl rfl) rfl tyX3_ok nmX3 rfl rfl rfl rfl dX3_init_70 ?_
  refine hc_aload_n X dX3_init_73 rfl ?_
  refine hc_iconst X 0 dX3_init_74 (by decide) ?_
  refine hc_putI X (t := 19) (ci := 3) (j := 9) (by decide) rfl ⟨rfl, by decide, by decide, rfl, by decide⟩ hin_X3 (hf_c1 45 rfl rfl) rfl tyX3_ok nmX3 rfl rfl rfl rfl dX3_init_75 ?_
  refine hc_aload_n X dX3_init_78 rfl ?_
  refine hc_iconst X 0 dX3_init_79 (by decide) ?_
  refine hc_putI X (t := 19) (ci := 3) (j := 10) (by decide) rfl ⟨rfl, by decide, by decide, rfl, by decide⟩ hin_X3 (hf_c1 48 rfl rfl) rfl tyX3_ok nmX3 rfl rfl rfl rfl dX3_init_80 ?_
  refine hc_aload_n X dX3_init_83 rfl ?_
  refine hc_lconst X 1 dX3_init_84 rfl ?_
  refine hc_putL X (t := 19) (ci := 3) (j := 11) (by decide) rfl ⟨rfl, by decide, by decide, rfl, by decide⟩ hin_X3 (hf_c1 51 rfl rfl) rfl tyX3_ok nmX3 rfl rfl rfl rfl dX3_init_85 ?_
  refine hc_aload_n X dX3_init_88 rfl ?_
  refine hc_iconst X 4 dX3_init_89 (by decide) ?_
  refine hc_putI X (t := 19) (ci := 3) (j := 12) (by decide) rfl ⟨rfl, by decide, by decide, rfl, by decide⟩ hin_X3 (hf_c1 53 rfl rfl) rfl tyX3_ok nmX3 rfl rfl rfl rfl dX3_init_90 ?_
  refine hc_aload_n X dX3_init_93 rfl ?_
  refine hc_iconst X 2 dX3_init_94 (by decide) ?_
  refine hc_putI X (t := 19) (ci := 3) (j := 13) (by decide) rfl ⟨rfl, by decide, by decide, rfl, by decide⟩ hin_X3 (hf_c1 56 rfl rfl) rfl tyX3_ok nmX3 rfl rfl rfl rfl dX3_init_95 ?_
  refine hc_aload_n X dX3_init_98 rfl ?_
  refine hc_iconst X 0 dX3_init_99 (by decide) ?_
  refine hc_putI X (t := 19) (ci := 3) (j := 14) (by decide) rfl ⟨rfl, by decide, by decide, rfl, by decide⟩ hin_X3 (hf_c1 59 rfl rfl) rfl tyX3_ok nmX3 rfl rfl rfl rfl dX3_init_100 ?_
  refine hc_aload_n X dX3_init_103 rfl ?_
  refine hc_iconst X 1 dX3_init_104 (by decide) ?_
  refine hc_putI X (t := 19) (ci := 3) (j := 15) (by decide) rfl ⟨rfl, by decide, by decide, rfl, by decide⟩ hin_X3 (hf_c1 61 rfl rfl) rfl tyX3_ok nmX3 rfl rfl rfl rfl dX3_init_105 ?_
  refine hc_aload_n X dX3_init_108 rfl ?_
  refine hc_iconst X (-1) dX3_init_109 (by decide) ?_
  refine hc_putI X (t := 19) (ci := 3) (j := 16) (by decide) rfl ⟨rfl, by decide, by decide, rfl, by decide⟩ hin_X3 (hf_c1 63 rfl rfl) rfl tyX3_ok nmX3 rfl rfl rfl rfl dX3_init_110 ?_
  exact hc_vret X (N0 := 20) (mc := 8) rfl dX3_init_113
def hm_6 : hf_M := hf_sR (hf_sR (hm_5) 0 2 (some 19)) 0 3 (some 28)
def hm_7 : hf_M := hf_sI (hf_sI (hf_sI (hf_sI (hf_sI (hf_sR (hf_sR (hm_6) 29 0 none) 29 1 none) 29 2 0) 29 3 (-1)) 29 4 0) 29 5 0) 29 6 0
set_option maxRecDepth 100000 in
set_option maxHeartbeats 4000000 in
theorem ci_X1_29 : hc_C yX1_init cX1_init 1 1 30 0 0 hm_6 hm_7 (fun g => [.ref (hf_a g 29)]) := by
  refine hc_met (by decide +kernel) rfl (by decide) (fun g p l e s m args below meth c X hnm => ?_)
  have X : hf_X g p s m args meth c cX1_init 1 RX1 none := X
  show hc_W g p l e (hc_R 1 0 0) s m args below meth c 1 (MQ below (va_Qv (fun _ : Unit => True) (fun _ t => hc_Pic g (30 + 0) hm_7 t) (hf_A g)) args s 0 0 (hf_A g)) 30 hm_6 0 0 0 [some (.ref (hf_a g 29))] []
  refine hc_aload_n X dX1_init_0 rfl ?_
  refine hc_objInit X (hf_c1 109 rfl rfl) (hf_c1 21 rfl rfl) (hf_c1 22 rfl rfl) (by decide) (by decide) dX1_init_1 ?_
  refine hc_aload_n X dX1_init_4 rfl ?_
  refine hc_null X dX1_init_5 ?_
  refine hc_putN X (t := 29) (ci := 1) (j := 0) (by decide) rfl ⟨rfl, by decide, by decide, rfl, by decide⟩ hin_X1 (hf_c1 110 rfl rfl) rfl tyX1_ok nmX1 rfl rfl rfl rfl dX1_init_6 ?_
  refine hc_aload_n X dX1_init_9 rfl ?_
  refine hc_null X dX1_init_10 ?_
  refine hc_putN X (t := 29) (ci := 1) (j := 1) (by decide) rfl ⟨rfl, by decide, by decide, rfl, by decide⟩ hin_X1 (hf_c1 111 rfl rfl) rfl tyX1_ok nmX1 rfl rfl rfl rfl dX1_init_11 ?_
  refine hc_aload_n X dX1_init_14 rfl ?_
  refine hc_iconst X 0 dX1_init_15 (by decide) ?_
  refine hc_putI X (t := 29) (ci := 1) (j := 2) (by decide) rfl ⟨rfl, by decide, by decide, rfl, by decide⟩ hin_X1 (hf_c1 112 rfl rfl) rfl tyX1_ok nmX1 rfl rfl rfl rfl dX1_init_16 ?_
  refine hc_aload_n X dX1_init_19 rfl ?_
  refine hc_iconst X (-1) dX1_init_20 (by decide) ?_
  refine hc_putI X (t := 29) (ci := 1) (j := 3) (by decide) rfl ⟨rfl, by decide, by decide, rfl, by decide⟩ hin_X1 (hf_c1 113 rfl rfl) rfl tyX1_ok nmX1 rfl rfl rfl rfl dX1_init_21 ?_
  refine hc_aload_n X dX1_init_24 rfl ?_
  refine hc_iconst X 0 dX1_init_25 (by decide) ?_
  refine hc_putI X (t := 29) (ci := 1) (j := 4) (by decide) rfl ⟨rfl, by decide, by decide, rfl, by decide⟩ hin_X1 (hf_c1 114 rfl rfl) rfl tyX1_ok nmX1 rfl rfl rfl rfl dX1_init_26 ?_
  refine hc_aload_n X dX1_init_29 rfl ?_
  refine hc_iconst X 0 dX1_init_30 (by decide) ?_
  refine hc_putI X (t := 29) (ci := 1) (j := 5) (by decide) rfl ⟨rfl, by decide, by decide, rfl, by decide⟩ hin_X1 (hf_c1 116 rfl rfl) rfl tyX1_ok nmX1 rfl rfl rfl rfl dX1_init_31 ?_
  refine hc_aload_n X dX1_init_34 rfl ?_
  refine hc_iconst X 0 dX1_init_35 (by decide) ?_
  refine hc_putI X (t := 29) (ci := 1) (j := 6) (by decide) rfl ⟨rfl, by decide, by decide, rfl, by decide⟩ hin_X1 (hf_c1 117 rfl rfl) rfl tyX1_ok nmX1 rfl rfl rfl rfl dX1_init_36 ?_
  exact hc_vret X (N0 := 30) (mc := 0) rfl dX1_init_39
def hm_8 : hf_M := hf_sR (hm_7) 0 4 (some 29)
def hm_9 : hf_M := hf_sI (hf_sI (hf_sI (hf_sI (hf_sR (hm_8) 30 0 (some 31)) 30 1 0) 30 2 0) 30 3 0) 30 4 0
set_option maxRecDepth 100000 in
set_option maxHeartbeats 4000000 in
theorem ci_X0_30 : hc_C yX0_init cX0_init 1 1 31 1 20 hm_8 hm_9 (fun g => [.ref (hf_a g 30)]) := by
  refine hc_met (by decide +kernel) rfl (by decide) (fun g p l e s m args below meth c X hnm => ?_)
  have X : hf_X g p s m args meth c cX0_init 1 RX0 none := X
  show hc_W g p l e (hc_R 1 1 20) s m args below meth c 1 (MQ below (va_Qv (fun _ : Unit => True) (fun _ t => hc_Pic g (31 + 1) hm_9 t) (hf_A g)) args s 1 20 (hf_A g)) 31 hm_8 0 0 0 [some (.ref (hf_a g 30))] []
  refine hc_aload_n X dX0_init_0 rfl ?_
  refine hc_objInit X (hf_c1 138 rfl rfl) (hf_c1 21 rfl rfl) (hf_c1 22 rfl rfl) (by decide) (by decide) dX0_init_1 ?_
  refine hc_aload_n X dX0_init_4 rfl ?_
  refine hc_bipush X 20 dX0_init_5 (by decide) ?_
  refine hc_newI X (w := 20) rfl rfl (fun _ => rfl) (hf_c1 100 rfl rfl) (by decide) (by decide) (by decide) dX0_init_7 ?_
  refine hc_putF X (q := 31) (t := 30) (ci := 0) (j := 0) (by decide) rfl ⟨rfl, by decide, by decide, rfl, by decide⟩ hin_X0 (hf_c1 139 rfl rfl) rfl tyX0_ok nmX0 rfl rfl rfl rfl hnm rfl dX0_init_9 ?_
  refine hc_aload_n X dX0_init_12 rfl ?_
  refine hc_iconst X 0 dX0_init_13 (by decide) ?_
  refine hc_putI X (t := 30) (ci := 0) (j := 1) (by decide) rfl ⟨rfl, by decide, by decide, rfl, by decide⟩ hin_X0 (hf_c1 141 rfl rfl) rfl tyX0_ok nmX0 rfl rfl rfl rfl dX0_init_14 ?_
  refine hc_aload_n X dX0_init_17 rfl ?_
  refine hc_iconst X 0 dX0_init_18 (by decide) ?_
  refine hc_putI X (t := 30) (ci := 0) (j := 2) (by decide) rfl ⟨rfl, by decide, by decide, rfl, by decide⟩ hin_X0 (hf_c1 143 rfl rfl) rfl tyX0_ok nmX0 rfl rfl rfl rfl dX0_init_19 ?_
  refine hc_aload_n X dX0_init_22 rfl ?_
  refine hc_iconst X 0 dX0_init_23 (by decide) ?_
  refine hc_putI X (t := 30) (ci := 0) (j := 3) (by decide) rfl ⟨rfl, by decide, by decide, rfl, by decide⟩ hin_X0 (hf_c1 144 rfl rfl) rfl tyX0_ok nmX0 rfl rfl rfl rfl dX0_init_24 ?_
  refine hc_aload_n X dX0_init_27 rfl ?_
  refine hc_iconst X 0 dX0_init_28 (by decide) ?_
  refine hc_putI X (t := 30) (ci := 0) (j := 4) (by decide) rfl ⟨rfl, by decide, by decide, rfl, by decide⟩ hin_X0 (hf_c1 145 rfl rfl) rfl tyX0_ok nmX0 rfl rfl rfl rfl dX0_init_29 ?_
  exact hc_vret X (N0 := 31) (mc := 1) rfl dX0_init_32
def hm_10 : hf_M := hf_sI (hf_sI (hf_sR (hf_sR (hm_9) 0 5 (some 30)) 0 6 (some 32)) 0 7 0) 0 8 (-1)
def hm_11 : hf_M := hf_sI (hf_sI (hf_sR (hm_10) 33 0 (some 34)) 33 1 (-1)) 33 2 0
set_option maxRecDepth 100000 in
set_option maxHeartbeats 4000000 in
theorem ci_X2_33 : hc_C yX2_init cX2_init 1 1 34 1 160 hm_10 hm_11 (fun g => [.ref (hf_a g 33)]) := by
  refine hc_met (by decide +kernel) rfl (by decide) (fun g p l e s m args below meth c X hnm => ?_)
  have X : hf_X g p s m args meth c cX2_init 1 RX2 none := X
  show hc_W g p l e (hc_R 1 1 160) s m args below meth c 1 (MQ below (va_Qv (fun _ : Unit => True) (fun _ t => hc_Pic g (34 + 1) hm_11 t) (hf_A g)) args s 1 160 (hf_A g)) 34 hm_10 0 0 0 [some (.ref (hf_a g 33))] []
  refine hc_aload_n X dX2_init_0 rfl ?_
  refine hc_objInit X (hf_c1 161 rfl rfl) (hf_c1 21 rfl rfl) (hf_c1 22 rfl rfl) (by decide) (by decide) dX2_init_1 ?_
  refine hc_aload_n X dX2_init_4 rfl ?_
  refine hc_sipush X 160 dX2_init_5 (by decide) ?_
  refine hc_newJ X (w := 160) rfl rfl (fun _ => rfl) (hf_c1 101 rfl rfl) (by decide) (by decide) (by decide) dX2_init_8 ?_
  refine hc_putF X (q := 34) (t := 33) (ci := 2) (j := 0) (by decide) rfl ⟨rfl, by decide, by decide, rfl, by decide⟩ hin_X2 (hf_c1 162 rfl rfl) rfl tyX2_ok nmX2 rfl rfl rfl rfl hnm rfl dX2_init_10 ?_
  refine hc_aload_n X dX2_init_13 rfl ?_
  refine hc_iconst X (-1) dX2_init_14 (by decide) ?_
  refine hc_putI X (t := 33) (ci := 2) (j := 1) (by decide) rfl ⟨rfl, by decide, by decide, rfl, by decide⟩ hin_X2 (hf_c1 164 rfl rfl) rfl tyX2_ok nmX2 rfl rfl rfl rfl dX2_init_15 ?_
  refine hc_aload_n X dX2_init_18 rfl ?_
  refine hc_iconst X 0 dX2_init_19 (by decide) ?_
  refine hc_putI X (t := 33) (ci := 2) (j := 2) (by decide) rfl ⟨rfl, by decide, by decide, rfl, by decide⟩ hin_X2 (hf_c1 166 rfl rfl) rfl tyX2_ok nmX2 rfl rfl rfl rfl dX2_init_20 ?_
  exact hc_vret X (N0 := 34) (mc := 1) rfl dX2_init_23
def hm_12 : hf_M := hf_sR (hm_11) 28 (0 : Int32).toNatClampNeg (some 33)
def hm_13 : hf_M := hf_sI (hf_sI (hf_sR (hm_12) 35 0 (some 36)) 35 1 (-1)) 35 2 0
set_option maxRecDepth 100000 in
set_option maxHeartbeats 4000000 in
theorem ci_X2_35 : hc_C yX2_init cX2_init 1 1 36 1 160 hm_12 hm_13 (fun g => [.ref (hf_a g 35)]) := by
  refine hc_met (by decide +kernel) rfl (by decide) (fun g p l e s m args below meth c X hnm => ?_)
  have X : hf_X g p s m args meth c cX2_init 1 RX2 none := X
  show hc_W g p l e (hc_R 1 1 160) s m args below meth c 1 (MQ below (va_Qv (fun _ : Unit => True) (fun _ t => hc_Pic g (36 + 1) hm_13 t) (hf_A g)) args s 1 160 (hf_A g)) 36 hm_12 0 0 0 [some (.ref (hf_a g 35))] []
  refine hc_aload_n X dX2_init_0 rfl ?_
  refine hc_objInit X (hf_c1 161 rfl rfl) (hf_c1 21 rfl rfl) (hf_c1 22 rfl rfl) (by decide) (by decide) dX2_init_1 ?_
  refine hc_aload_n X dX2_init_4 rfl ?_
  refine hc_sipush X 160 dX2_init_5 (by decide) ?_
  refine hc_newJ X (w := 160) rfl rfl (fun _ => rfl) (hf_c1 101 rfl rfl) (by decide) (by decide) (by decide) dX2_init_8 ?_
  refine hc_putF X (q := 36) (t := 35) (ci := 2) (j := 0) (by decide) rfl ⟨rfl, by decide, by decide, rfl, by decide⟩ hin_X2 (hf_c1 162 rfl rfl) rfl tyX2_ok nmX2 rfl rfl rfl rfl hnm rfl dX2_init_10 ?_
  refine hc_aload_n X dX2_init_13 rfl ?_
  refine hc_iconst X (-1) dX2_init_14 (by decide) ?_
  refine hc_putI X (t := 35) (ci := 2) (j := 1) (by decide) rfl ⟨rfl, by decide, by decide, rfl, by decide⟩ hin_X2 (hf_c1 164 rfl rfl) rfl tyX2_ok nmX2 rfl rfl rfl rfl dX2_init_15 ?_
  refine hc_aload_n X dX2_init_18 rfl ?_
  refine hc_iconst X 0 dX2_init_19 (by decide) ?_
  refine hc_putI X (t := 35) (ci := 2) (j := 2) (by decide) rfl ⟨rfl, by decide, by decide, rfl, by decide⟩ hin_X2 (hf_c1 166 rfl rfl) rfl tyX2_ok nmX2 rfl rfl rfl rfl dX2_init_20 ?_
  exact hc_vret X (N0 := 36) (mc := 1) rfl dX2_init_23
def hm_14 : hf_M := hf_sR (hm_13) 28 (1 : Int32).toNatClampNeg (some 35)
def hm_15 : hf_M := hf_sI (hf_sI (hf_sR (hm_14) 37 0 (some 38)) 37 1 (-1)) 37 2 0
set_option maxRecDepth 100000 in
set_option maxHeartbeats 4000000 in
theorem ci_X2_37 : hc_C yX2_init cX2_init 1 1 38 1 160 hm_14 hm_15 (fun g => [.ref (hf_a g 37)]) := by
  refine hc_met (by decide +kernel) rfl (by decide) (fun g p l e s m args below meth c X hnm => ?_)
  have X : hf_X g p s m args meth c cX2_init 1 RX2 none := X
  show hc_W g p l e (hc_R 1 1 160) s m args below meth c 1 (MQ below (va_Qv (fun _ : Unit => True) (fun _ t => hc_Pic g (38 + 1) hm_15 t) (hf_A g)) args s 1 160 (hf_A g)) 38 hm_14 0 0 0 [some (.ref (hf_a g 37))] []
  refine hc_aload_n X dX2_init_0 rfl ?_
  refine hc_objInit X (hf_c1 161 rfl rfl) (hf_c1 21 rfl rfl) (hf_c1 22 rfl rfl) (by decide) (by decide) dX2_init_1 ?_
  refine hc_aload_n X dX2_init_4 rfl ?_
  refine hc_sipush X 160 dX2_init_5 (by decide) ?_
  refine hc_newJ X (w := 160) rfl rfl (fun _ => rfl) (hf_c1 101 rfl rfl) (by decide) (by decide) (by decide) dX2_init_8 ?_
  refine hc_putF X (q := 38) (t := 37) (ci := 2) (j := 0) (by decide) rfl ⟨rfl, by decide, by decide, rfl, by decide⟩ hin_X2 (hf_c1 162 rfl rfl) rfl tyX2_ok nmX2 rfl rfl rfl rfl hnm rfl dX2_init_10 ?_
  refine hc_aload_n X dX2_init_13 rfl ?_
  refine hc_iconst X (-1) dX2_init_14 (by decide) ?_
  refine hc_putI X (t := 37) (ci := 2) (j := 1) (by decide) rfl ⟨rfl, by decide, by decide, rfl, by decide⟩ hin_X2 (hf_c1 164 rfl rfl) rfl tyX2_ok nmX2 rfl rfl rfl rfl dX2_init_15 ?_
  refine hc_aload_n X dX2_init_18 rfl ?_
  refine hc_iconst X 0 dX2_init_19 (by decide) ?_
  refine hc_putI X (t := 37) (ci := 2) (j := 2) (by decide) rfl ⟨rfl, by decide, by decide, rfl, by decide⟩ hin_X2 (hf_c1 166 rfl rfl) rfl tyX2_ok nmX2 rfl rfl rfl rfl dX2_init_20 ?_
  exact hc_vret X (N0 := 38) (mc := 1) rfl dX2_init_23
def hm_16 : hf_M := hf_sR (hm_15) 28 (2 : Int32).toNatClampNeg (some 37)
def hm_17 : hf_M := hf_sI (hf_sI (hf_sR (hm_16) 39 0 (some 40)) 39 1 (-1)) 39 2 0
set_option maxRecDepth 100000 in
set_option maxHeartbeats 4000000 in
theorem ci_X2_39 : hc_C yX2_init cX2_init 1 1 40 1 160 hm_16 hm_17 (fun g => [.ref (hf_a g 39)]) := by
  refine hc_met (by decide +kernel) rfl (by decide) (fun g p l e s m args below meth c X hnm => ?_)
  have X : hf_X g p s m args meth c cX2_init 1 RX2 none := X
  show hc_W g p l e (hc_R 1 1 160) s m args below meth c 1 (MQ below (va_Qv (fun _ : Unit => True) (fun _ t => hc_Pic g (40 + 1) hm_17 t) (hf_A g)) args s 1 160 (hf_A g)) 40 hm_16 0 0 0 [some (.ref (hf_a g 39))] []
  refine hc_aload_n X dX2_init_0 rfl ?_
  refine hc_objInit X (hf_c1 161 rfl rfl) (hf_c1 21 rfl rfl) (hf_c1 22 rfl rfl) (by decide) (by decide) dX2_init_1 ?_
  refine hc_aload_n X dX2_init_4 rfl ?_
  refine hc_sipush X 160 dX2_init_5 (by decide) ?_
  refine hc_newJ X (w := 160) rfl rfl (fun _ => rfl) (hf_c1 101 rfl rfl) (by decide) (by decide) (by decide) dX2_init_8 ?_
  refine hc_putF X (q := 40) (t := 39) (ci := 2) (j := 0) (by decide) rfl ⟨rfl, by decide, by decide, rfl, by decide⟩ hin_X2 (hf_c1 162 rfl rfl) rfl tyX2_ok nmX2 rfl rfl rfl rfl hnm rfl dX2_init_10 ?_
  refine hc_aload_n X dX2_init_13 rfl ?_
  refine hc_iconst X (-1) dX2_init_14 (by decide) ?_
  refine hc_putI X (t := 39) (ci := 2) (j := 1) (by decide) rfl ⟨rfl, by decide, by decide, rfl, by decide⟩ hin_X2 (hf_c1 164 rfl rfl) rfl tyX2_ok nmX2 rfl rfl rfl rfl dX2_init_15 ?_
  refine hc_aload_n X dX2_init_18 rfl ?_
  refine hc_iconst X 0 dX2_init_19 (by decide) ?_
  refine hc_putI X (t := 39) (ci := 2) (j := 2) (by decide) rfl ⟨rfl, by decide, by decide, rfl, by decide⟩ hin_X2 (hf_c1 166 rfl rfl) rfl tyX2_ok nmX2 rfl rfl rfl rfl dX2_init_20 ?_
  exact hc_vret X (N0 := 40) (mc := 1) rfl dX2_init_23
def hm_18 : hf_M := hf_sR (hm_17) 28 (3 : Int32).toNatClampNeg (some 39)
def hm_19 : hf_M := hf_sI (hf_sI (hf_sR (hm_18) 41 0 (some 42)) 41 1 (-1)) 41 2 0
set_option maxRecDepth 100000 in
set_option maxHeartbeats 4000000 in
theorem ci_X2_41 : hc_C yX2_init cX2_init 1 1 42 1 160 hm_18 hm_19 (fun g => [.ref (hf_a g 41)]) := by
  refine hc_met (by decide +kernel) rfl (by decide) (fun g p l e s m args below meth c X hnm => ?_)
  have X : hf_X g p s m args meth c cX2_init 1 RX2 none := X
  show hc_W g p l e (hc_R 1 1 160) s m args below meth c 1 (MQ below (va_Qv (fun _ : Unit => True) (fun _ t => hc_Pic g (42 + 1) hm_19 t) (hf_A g)) args s 1 160 (hf_A g)) 42 hm_18 0 0 0 [some (.ref (hf_a g 41))] []
  refine hc_aload_n X dX2_init_0 rfl ?_
  refine hc_objInit X (hf_c1 161 rfl rfl) (hf_c1 21 rfl rfl) (hf_c1 22 rfl rfl) (by decide) (by decide) dX2_init_1 ?_
  refine hc_aload_n X dX2_init_4 rfl ?_
  refine hc_sipush X 160 dX2_init_5 (by decide) ?_
  refine hc_newJ X (w := 160) rfl rfl (fun _ => rfl) (hf_c1 101 rfl rfl) (by decide) (by decide) (by decide) dX2_init_8 ?_
  refine hc_putF X (q := 42) (t := 41) (ci := 2) (j := 0) (by decide) rfl ⟨rfl, by decide, by decide, rfl, by decide⟩ hin_X2 (hf_c1 162 rfl rfl) rfl tyX2_ok nmX2 rfl rfl rfl rfl hnm rfl dX2_init_10 ?_
  refine hc_aload_n X dX2_init_13 rfl ?_
  refine hc_iconst X (-1) dX2_init_14 (by decide) ?_
  refine hc_putI X (t := 41) (ci := 2) (j := 1) (by decide) rfl ⟨rfl, by decide, by decide, rfl, by decide⟩ hin_X2 (hf_c1 164 rfl rfl) rfl tyX2_ok nmX2 rfl rfl rfl rfl dX2_init_15 ?_
  refine hc_aload_n X dX2_init_18 rfl ?_
  refine hc_iconst X 0 dX2_init_19 (by decide) ?_
  refine hc_putI X (t := 41) (ci := 2) (j := 2) (by decide) rfl ⟨rfl, by decide, by decide, rfl, by decide⟩ hin_X2 (hf_c1 166 rfl rfl) rfl tyX2_ok nmX2 rfl rfl rfl rfl dX2_init_20 ?_
  exact hc_vret X (N0 := 42) (mc := 1) rfl dX2_init_23
def hm_20 : hf_M := hf_sR (hm_19) 28 (4 : Int32).toNatClampNeg (some 41)
def hm_21 : hf_M := hf_sI (hf_sI (hf_sR (hm_20) 43 0 (some 44)) 43 1 (-1)) 43 2 0
set_option maxRecDepth 100000 in
set_option maxHeartbeats 4000000 in
theorem ci_X2_43 : hc_C yX2_init cX2_init 1 1 44 1 160 hm_20 hm_21 (fun g => [.ref (hf_a g 43)]) := by
  refine hc_met (by decide +kernel) rfl (by decide) (fun g p l e s m args below meth c X hnm => ?_)
  have X : hf_X g p s m args meth c cX2_init 1 RX2 none := X
  show hc_W g p l e (hc_R 1 1 160) s m args below meth c 1 (MQ below (va_Qv (fun _ : Unit => True) (fun _ t => hc_Pic g (44 + 1) hm_21 t) (hf_A g)) args s 1 160 (hf_A g)) 44 hm_20 0 0 0 [some (.ref (hf_a g 43))] []
  refine hc_aload_n X dX2_init_0 rfl ?_
  refine hc_objInit X (hf_c1 161 rfl rfl) (hf_c1 21 rfl rfl) (hf_c1 22 rfl rfl) (by decide) (by decide) dX2_init_1 ?_
  refine hc_aload_n X dX2_init_4 rfl ?_
  refine hc_sipush X 160 dX2_init_5 (by decide) ?_
  refine hc_newJ X (w := 160) rfl rfl (fun _ => rfl) (hf_c1 101 rfl rfl) (by decide) (by decide) (by decide) dX2_init_8 ?_
  refine hc_putF X (q := 44) (t := 43) (ci := 2) (j := 0) (by decide) rfl ⟨rfl, by decide, by decide, rfl, by decide⟩ hin_X2 (hf_c1 162 rfl rfl) rfl tyX2_ok nmX2 rfl rfl rfl rfl hnm rfl dX2_init_10 ?_
  refine hc_aload_n X dX2_init_13 rfl ?_
  refine hc_iconst X (-1) dX2_init_14 (by decide) ?_
  refine hc_putI X (t := 43) (ci := 2) (j := 1) (by decide) rfl ⟨rfl, by decide, by decide, rfl, by decide⟩ hin_X2 (hf_c1 164 rfl rfl) rfl tyX2_ok nmX2 rfl rfl rfl rfl dX2_init_15 ?_
  refine hc_aload_n X dX2_init_18 rfl ?_
  refine hc_iconst X 0 dX2_init_19 (by decide) ?_
  refine hc_putI X (t := 43) (ci := 2) (j := 2) (by decide) rfl ⟨rfl, by decide, by decide, rfl, by decide⟩ hin_X2 (hf_c1 166 rfl rfl) rfl tyX2_ok nmX2 rfl rfl rfl rfl dX2_init_20 ?_
  exact hc_vret X (N0 := 44) (mc := 1) rfl dX2_init_23
def hm_22 : hf_M := hf_sR (hm_21) 28 (5 : Int32).toNatClampNeg (some 43)
def hm_23 : hf_M := hf_sI (hf_sI (hf_sR (hm_22) 45 0 (some 46)) 45 1 (-1)) 45 2 0
set_option maxRecDepth 100000 in
set_option maxHeartbeats 4000000 in
theorem ci_X2_45 : hc_C yX2_init cX2_init 1 1 46 1 160 hm_22 hm_23 (fun g => [.ref (hf_a g 45)]) := by
  refine hc_met (by decide +kernel) rfl (by decide) (fun g p l e s m args below meth c X hnm => ?_)
  have X : hf_X g p s m args meth c cX2_init 1 RX2 none := X
  show hc_W g p l e (hc_R 1 1 160) s m args below meth c 1 (MQ below (va_Qv (fun _ : Unit => True) (fun _ t => hc_Pic g (46 + 1) hm_23 t) (hf_A g)) args s 1 160 (hf_A g)) 46 hm_22 0 0 0 [some (.ref (hf_a g 45))] []
  refine hc_aload_n X dX2_init_0 rfl ?_
  refine hc_objInit X (hf_c1 161 rfl rfl) (hf_c1 21 rfl rfl) (hf_c1 22 rfl rfl) (by decide) (by decide) dX2_init_1 ?_
  refine hc_aload_n X dX2_init_4 rfl ?_
  refine hc_sipush X 160 dX2_init_5 (by decide) ?_
  refine hc_newJ X (w := 160) rfl rfl (fun _ => rfl) (hf_c1 101 rfl rfl) (by decide) (by decide) (by decide) dX2_init_8 ?_
  refine hc_putF X (q := 46) (t := 45) (ci := 2) (j := 0) (by decide) rfl ⟨rfl, by decide, by decide, rfl, by decide⟩ hin_X2 (hf_c1 162 rfl rfl) rfl tyX2_ok nmX2 rfl rfl rfl rfl hnm rfl dX2_init_10 ?_
  refine hc_aload_n X dX2_init_13 rfl ?_
  refine hc_iconst X (-1) dX2_init_14 (by decide) ?_
  refine hc_putI X (t := 45) (ci := 2) (j := 1) (by decide) rfl ⟨rfl, by decide, by decide, rfl, by decide⟩ hin_X2 (hf_c1 164 rfl rfl) rfl tyX2_ok nmX2 rfl rfl rfl rfl dX2_init_15 ?_
  refine hc_aload_n X dX2_init_18 rfl ?_
  refine hc_iconst X 0 dX2_init_19 (by decide) ?_
  refine hc_putI X (t := 45) (ci := 2) (j := 2) (by decide) rfl ⟨rfl, by decide, by decide, rfl, by decide⟩ hin_X2 (hf_c1 166 rfl rfl) rfl tyX2_ok nmX2 rfl rfl rfl rfl dX2_init_20 ?_
  exact hc_vret X (N0 := 46) (mc := 1) rfl dX2_init_23
def hm_24 : hf_M := hf_sR (hm_23) 28 (6 : Int32).toNatClampNeg (some 45)
def hm_25 : hf_M := hf_sI (hf_sI (hf_sR (hm_24) 47 0 (some 48)) 47 1 (-1)) 47 2 0
set_option maxRecDepth 100000 in
set_option maxHeartbeats 4000000 in
theorem ci_X2_47 : hc_C yX2_init cX2_init 1 1 48 1 160 hm_24 hm_25 (fun g => [.ref (hf_a g 47)]) := by
  refine hc_met (by decide +kernel) rfl (by decide) (fun g p l e s m args below meth c X hnm => ?_)
  have X : hf_X g p s m args meth c cX2_init 1 RX2 none := X
  show hc_W g p l e (hc_R 1 1 160) s m args below meth c 1 (MQ below (va_Qv (fun _ : Unit => True) (fun _ t => hc_Pic g (48 + 1) hm_25 t) (hf_A g)) args s 1 160 (hf_A g)) 48 hm_24 0 0 0 [some (.ref (hf_a g 47))] []
  refine hc_aload_n X dX2_init_0 rfl ?_
  refine hc_objInit X (hf_c1 161 rfl rfl) (hf_c1 21 rfl rfl) (hf_c1 22 rfl rfl) (by decide) (by decide) dX2_init_1 ?_
  refine hc_aload_n X dX2_init_4 rfl ?_
  refine hc_sipush X 160 dX2_init_5 (by decide) ?_
  refine hc_newJ X (w := 160) rfl rfl (fun _ => rfl) (hf_c1 101 rfl rfl) (by decide) (by decide) (by decide) dX2_init_8 ?_
  refine hc_putF X (q := 48) (t := 47) (ci := 2) (j := 0) (by decide) rfl ⟨rfl, by decide, by decide, rfl, by decide⟩ hin_X2 (hf_c1 162 rfl rfl) rfl tyX2_ok nmX2 rfl rfl rfl rfl hnm rfl dX2_init_10 ?_
  refine hc_aload_n X dX2_init_13 rfl ?_
  refine hc_iconst X (-1) dX2_init_14 (by decide) ?_
  refine hc_putI X (t := 47) (ci := 2) (j := 1) (by decide) rfl ⟨rfl, by decide, by decide, rfl, by decide⟩ hin_X2 (hf_c1 164 rfl rfl) rfl tyX2_ok nmX2 rfl rfl rfl rfl dX2_init_15 ?_
  refine hc_aload_n X dX2_init_18 rfl ?_
  refine hc_iconst X 0 dX2_init_19 (by decide) ?_
  refine hc_putI X (t := 47) (ci := 2) (j := 2) (by decide) rfl ⟨rfl, by decide, by decide, rfl, by decide⟩ hin_X2 (hf_c1 166 rfl rfl) rfl tyX2_ok nmX2 rfl rfl rfl rfl dX2_init_20 ?_
  exact hc_vret X (N0 := 48) (mc := 1) rfl dX2_init_23
def hm_26 : hf_M := hf_sR (hm_25) 28 (7 : Int32).toNatClampNeg (some 47)
set_option maxRecDepth 100000 in
set_option maxHeartbeats 4000000 in
theorem ci_X4_0 : hc_C yX4_init cX4_init 2 2 1 48 2051 hm_0 hm_26 (fun g => [.ref (hf_a g 0)]) := by
  refine hc_met (by decide +kernel) rfl (by decide) (fun g p l e s m args below meth c X hnm => ?_)
  have X : hf_X g p s m args meth c cX4_init 2 RX4 none := X
  show hc_W g p l e (hc_R 2 48 2051) s m args below meth c 2 (MQ below (va_Qv (fun _ : Unit => True) (fun _ t => hc_Pic g (1 + 48) hm_26 t) (hf_A g)) args s 48 2051 (hf_A g)) 1 hm_0 0 0 0 [some (.ref (hf_a g 0)), none] []
  refine hc_aload_n X dX4_init_0 rfl ?_
  refine hc_objInit X (hf_c1 20 rfl rfl) (hf_c1 21 rfl rfl) (hf_c1 22 rfl rfl) (by decide) (by decide) dX4_init_1 ?_
  refine hc_aload_n X dX4_init_4 rfl ?_
  refine hc_new X (ci := 3) (k := 17) rfl ⟨by decide, rfl, rfl⟩ (hf_c1 23 rfl rfl) (hf_c1 24 rfl rfl) (hf_c1 2 rfl rfl) hin_X3 tyX3_ok hdf_X3 (fun _ => rfl) (fun _ => rfl) (fun _ => rfl) (by decide) (by decide) dX4_init_5 ?_
  refine hc_dup X dX4_init_8 rfl ?_
  refine hc_call X ci_X3_1 (Or.inr ⟨"HalfOfItFalse", by decide +kernel⟩) (hf_c1 26 rfl rfl) (hf_c1 2 rfl rfl) (hf_c1 27 rfl rfl) (by decide) rfl (by decide +kernel) rfl (by decide) (by decide) (Nat.le_of_ble_eq_true rfl) (by decide) (by decide) dX4_init_9 ?_
  refine hc_putF X (q := 1) (t := 0) (ci := 4) (j := 0) (by decide) rfl ⟨rfl, by decide, by decide, rfl, by decide⟩ hin_X4 (hf_c1 176 rfl rfl) rfl tyX4_ok nmX4 rfl rfl rfl rfl hnm rfl dX4_init_12 ?_
  refine hc_aload_n X dX4_init_15 rfl ?_
  refine hc_new X (ci := 3) (k := 17) rfl ⟨by decide, rfl, rfl⟩ (hf_c1 23 rfl rfl) (hf_c1 24 rfl rfl) (hf_c1 2 rfl rfl) hin_X3 tyX3_ok hdf_X3 (fun _ => rfl) (fun _ => rfl) (fun _ => rfl) (by decide) (by decide) dX4_init_16 ?_
  refine hc_dup X dX4_init_19 rfl ?_
  refine hc_call X ci_X3_10 (Or.inr ⟨"HalfOfItFalse", by decide +kernel⟩) (hf_c1 26 rfl rfl) (hf_c1 2 rfl rfl) (hf_c1 27 rfl rfl) (by decide) rfl (by decide +kernel) rfl (by decide) (by decide) (Nat.le_of_ble_eq_true rfl) (by decide) (by decide) dX4_init_20 ?_
  refine hc_putF X (q := 10) (t := 0) (ci := 4) (j := 1) (by decide) rfl ⟨rfl, by decide, by decide, rfl, by decide⟩ hin_X4 (hf_c1 177 rfl rfl) rfl tyX4_ok nmX4 rfl rfl rfl rfl hnm rfl dX4_init_23 ?_
  refine hc_aload_n X dX4_init_26 rfl ?_
  refine hc_new X (ci := 3) (k := 17) rfl ⟨by decide, rfl, rfl⟩ (hf_c1 23 rfl rfl) (hf_c1 24 rfl rfl) (hf_c1 2 rfl rfl) hin_X3 tyX3_ok hdf_X3 (fun _ => rfl) (fun _ => rfl) (fun _ => rfl) (by decide) (by decide) dX4_init_27 ?_
  refine hc_dup X dX4_init_30 rfl ?_
  refine hc_call X ci_X3_19 (Or.inr ⟨"HalfOfItFalse", by decide +kernel⟩) (hf_c1 26 rfl rfl) (hf_c1 2 rfl rfl) (hf_c1 27 rfl rfl) (by decide) rfl (by decide +kernel) rfl (by decide) (by decide) (Nat.le_of_ble_eq_true rfl) (by decide) (by decide) dX4_init_31 ?_
  refine hc_putF X (q := 19) (t := 0) (ci := 4) (j := 2) (by decide) rfl ⟨rfl, by decide, by decide, rfl, by decide⟩ hin_X4 (hf_c1 178 rfl rfl) rfl tyX4_ok nmX4 rfl rfl rfl rfl hnm rfl dX4_init_34 ?_
  refine hc_aload_n X dX4_init_37 rfl ?_
  refine hc_bipush X 8 dX4_init_38 (by decide) ?_
  refine hc_newS X rfl rfl (fun _ => rfl) (hf_c1 102 rfl rfl) rfl (by decide) (by decide) dX4_init_40 ?_
  refine hc_putF X (q := 28) (t := 0) (ci := 4) (j := 3) (by decide) rfl ⟨rfl, by decide, by decide, rfl, by decide⟩ hin_X4 (hf_c1 179 rfl rfl) rfl tyX4_ok nmX4 rfl rfl rfl rfl hnm rfl dX4_init_43 ?_
  refine hc_aload_n X dX4_init_46 rfl ?_
  refine hc_new X (ci := 1) (k := 7) rfl ⟨by decide, rfl, rfl⟩ (hf_c1 104 rfl rfl) (hf_c1 105 rfl rfl) (hf_c1 3 rfl rfl) hin_X1 tyX1_ok hdf_X1 (fun _ => rfl) (fun _ => rfl) (fun _ => rfl) (by decide) (by decide) dX4_init_47 ?_
  refine hc_dup X dX4_init_50 rfl ?_
  refine hc_call X ci_X1_29 (Or.inr ⟨"HalfOfItFalse", by decide +kernel⟩) (hf_c1 107 rfl rfl) (hf_c1 3 rfl rfl) (hf_c1 108 rfl rfl) (by decide) rfl (by decide +kernel) rfl (by decide) (by decide) (Nat.le_of_ble_eq_true rfl) (by decide) (by decide) dX4_init_51 ?_
  refine hc_putF X (q := 29) (t := 0) (ci := 4) (j := 4) (by decide) rfl ⟨rfl, by decide, by decide, rfl, by decide⟩ hin_X4 (hf_c1 180 rfl rfl) rfl tyX4_ok nmX4 rfl rfl rfl rfl hnm rfl dX4_init_54 ?_
  refine hc_aload_n X dX4_init_57 rfl ?_
  refine hc_new X (ci := 0) (k := 5) rfl ⟨by decide, rfl, rfl⟩ (hf_c1 133 rfl rfl) (hf_c1 134 rfl rfl) (hf_c1 4 rfl rfl) hin_X0 tyX0_ok hdf_X0 (fun _ => rfl) (fun _ => rfl) (fun _ => rfl) (by decide) (by decide) dX4_init_58 ?_
  refine hc_dup X dX4_init_61 rfl ?_
  refine hc_call X ci_X0_30 (Or.inr ⟨"HalfOfItFalse", by decide +kernel⟩) (hf_c1 136 rfl rfl) (hf_c1 4 rfl rfl) (hf_c1 137 rfl rfl) (by decide) rfl (by decide +kernel) rfl (by decide) (by decide) (Nat.le_of_ble_eq_true rfl) (by decide) (by decide) dX4_init_62 ?_
  refine hc_putF X (q := 30) (t := 0) (ci := 4) (j := 5) (by decide) rfl ⟨rfl, by decide, by decide, rfl, by decide⟩ hin_X4 (hf_c1 181 rfl rfl) rfl tyX4_ok nmX4 rfl rfl rfl rfl hnm rfl dX4_init_65 ?_
  refine hc_aload_n X dX4_init_68 rfl ?_
  refine hc_bipush X 8 dX4_init_69 (by decide) ?_
  refine hc_newI X (w := 8) rfl rfl (fun _ => rfl) (hf_c1 100 rfl rfl) (by decide) (by decide) (by decide) dX4_init_71 ?_
  refine hc_putF X (q := 32) (t := 0) (ci := 4) (j := 6) (by decide) rfl ⟨rfl, by decide, by decide, rfl, by decide⟩ hin_X4 (hf_c1 182 rfl rfl) rfl tyX4_ok nmX4 rfl rfl rfl rfl hnm rfl dX4_init_73 ?_
  refine hc_aload_n X dX4_init_76 rfl ?_
  refine hc_iconst X 0 dX4_init_77 (by decide) ?_
  refine hc_putI X (t := 0) (ci := 4) (j := 7) (by decide) rfl ⟨rfl, by decide, by decide, rfl, by decide⟩ hin_X4 (hf_c1 183 rfl rfl) rfl tyX4_ok nmX4 rfl rfl rfl rfl dX4_init_78 ?_
  refine hc_aload_n X dX4_init_81 rfl ?_
  refine hc_iconst X (-1) dX4_init_82 (by decide) ?_
  refine hc_putI X (t := 0) (ci := 4) (j := 8) (by decide) rfl ⟨rfl, by decide, by decide, rfl, by decide⟩ hin_X4 (hf_c1 184 rfl rfl) rfl tyX4_ok nmX4 rfl rfl rfl rfl dX4_init_83 ?_
  refine hc_iconst X 0 dX4_init_86 (by decide) ?_
  refine hc_istore_n X dX4_init_87 (by decide) rfl ?_
  refine hc_iload_n X dX4_init_88 rfl ?_
  refine hc_bipush X 8 dX4_init_89 (by decide) ?_
  refine hc_icmp_ge_F X 113 (by decide) dX4_init_91 rfl ?_
  refine hc_aload_n X dX4_init_94 rfl ?_
  refine hc_getR X (t := 0) (ci := 4) (j := 3) (q := 28) (by decide) rfl ⟨rfl, by decide, by decide, rfl, by decide⟩ rfl hin_X4 (hf_c1 179 rfl rfl) rfl dX4_init_95 ?_
  refine hc_iload_n X dX4_init_98 rfl ?_
  refine hc_new X (ci := 2) (k := 3) rfl ⟨by decide, rfl, rfl⟩ (hf_c1 102 rfl rfl) (hf_c1 157 rfl rfl) (hf_c1 5 rfl rfl) hin_X2 tyX2_ok hdf_X2 (fun _ => rfl) (fun _ => rfl) (fun _ => rfl) (by decide) (by decide) dX4_init_99 ?_
  refine hc_dup X dX4_init_102 rfl ?_
  refine hc_call X ci_X2_33 (Or.inr ⟨"HalfOfItFalse", by decide +kernel⟩) (hf_c1 159 rfl rfl) (hf_c1 5 rfl rfl) (hf_c1 160 rfl rfl) (by decide) rfl (by decide +kernel) rfl (by decide) (by decide) (Nat.le_of_ble_eq_true rfl) (by decide) (by decide) dX4_init_103 ?_
  refine hc_aast X (q := 28) (t := 33) (by decide) rfl (by decide) rfl (vp_in_nI (n := 0) (by decide) (by decide)) dX4_init_106 ?_
  refine hc_iinc X 1 dX4_init_107 rfl (by decide) (by decide) rfl ?_
  refine hc_goto X 88 dX4_init_110 rfl ?_
  refine hc_iload_n X dX4_init_88 rfl ?_
  refine hc_bipush X 8 dX4_init_89 (by decide) ?_
  refine hc_icmp_ge_F X 113 (by decide) dX4_init_91 rfl ?_
  refine hc_aload_n X dX4_init_94 rfl ?_
  refine hc_getR X (t := 0) (ci := 4) (j := 3) (q := 28) (by decide) rfl ⟨rfl, by decide, by decide, rfl, by decide⟩ rfl hin_X4 (hf_c1 179 rfl rfl) rfl dX4_init_95 ?_
  refine hc_iload_n X dX4_init_98 rfl ?_
  refine hc_new X (ci := 2) (k := 3) rfl ⟨by decide, rfl, rfl⟩ (hf_c1 102 rfl rfl) (hf_c1 157 rfl rfl) (hf_c1 5 rfl rfl) hin_X2 tyX2_ok hdf_X2 (fun _ => rfl) (fun _ => rfl) (fun _ => rfl) (by decide) (by decide) dX4_init_99 ?_
  refine hc_dup X dX4_init_102 rfl ?_
  refine hc_call X ci_X2_35 (Or.inr ⟨"HalfOfItFalse", by decide +kernel⟩) (hf_c1 159 rfl rfl) (hf_c1 5 rfl rfl) (hf_c1 160 rfl rfl) (by decide) rfl (by decide +kernel) rfl (by decide) (by decide) (Nat.le_of_ble_eq_true rfl) (by decide) (by decide) dX4_init_103 ?_
  refine hc_aast X (q := 28) (t := 35) (by decide) rfl (by decide) rfl (vp_in_nI (n := 1) (by decide) (by decide)) dX4_init_106 ?_
  refine hc_iinc X 2 dX4_init_107 rfl (by decide) (by decide) rfl ?_
  refine hc_goto X 88 dX4_init_110 rfl ?_
  refine hc_iload_n X dX4_init_88 rfl ?_
  refine hc_bipush X 8 dX4_init_89 (by decide) ?_
  refine hc_icmp_ge_F X 113 (by decide) dX4_init_91 rfl ?_
  refine hc_aload_n X dX4_init_94 rfl ?_
  refine hc_getR X (t := 0) (ci := 4) (j := 3) (q := 28) (by decide) rfl ⟨rfl, by decide, by decide, rfl, by decide⟩ rfl hin_X4 (hf_c1 179 rfl rfl) rfl dX4_init_95 ?_
  refine hc_iload_n X dX4_init_98 rfl ?_
  refine hc_new X (ci := 2) (k := 3) rfl ⟨by decide, rfl, rfl⟩ (hf_c1 102 rfl rfl) (hf_c1 157 rfl rfl) (hf_c1 5 rfl rfl) hin_X2 tyX2_ok hdf_X2 (fun _ => rfl) (fun _ => rfl) (fun _ => rfl) (by decide) (by decide) dX4_init_99 ?_
  refine hc_dup X dX4_init_102 rfl ?_
  refine hc_call X ci_X2_37 (Or.inr ⟨"HalfOfItFalse", by decide +kernel⟩) (hf_c1 159 rfl rfl) (hf_c1 5 rfl rfl) (hf_c1 160 rfl rfl) (by decide) rfl (by decide +kernel) rfl (by decide) (by decide) (Nat.le_of_ble_eq_true rfl) (by decide) (by decide) dX4_init_103 ?_
  refine hc_aast X (q := 28) (t := 37) (by decide) rfl (by decide) rfl (vp_in_nI (n := 2) (by decide) (by decide)) dX4_init_106 ?_
  refine hc_iinc X 3 dX4_init_107 rfl (by decide) (by decide) rfl ?_
  refine hc_goto X 88 dX4_init_110 rfl ?_
  refine hc_iload_n X dX4_init_88 rfl ?_
  refine hc_bipush X 8 dX4_init_89 (by decide) ?_
  refine hc_icmp_ge_F X 113 (by decide) dX4_init_91 rfl ?_
  refine hc_aload_n X dX4_init_94 rfl ?_
  refine hc_getR X (t := 0) (ci := 4) (j := 3) (q := 28) (by decide) rfl ⟨rfl, by decide, by decide, rfl, by decide⟩ rfl hin_X4 (hf_c1 179 rfl rfl) rfl dX4_init_95 ?_
  refine hc_iload_n X dX4_init_98 rfl ?_
  refine hc_new X (ci := 2) (k := 3) rfl ⟨by decide, rfl, rfl⟩ (hf_c1 102 rfl rfl) (hf_c1 157 rfl rfl) (hf_c1 5 rfl rfl) hin_X2 tyX2_ok hdf_X2 (fun _ => rfl) (fun _ => rfl) (fun _ => rfl) (by decide) (by decide) dX4_init_99 ?_
  refine hc_dup X dX4_init_102 rfl ?_
  refine hc_call X ci_X2_39 (Or.inr ⟨"HalfOfItFalse", by decide +kernel⟩) (hf_c1 159 rfl rfl) (hf_c1 5 rfl rfl) (hf_c1 160 rfl rfl) (by decide) rfl (by decide +kernel) rfl (by decide) (by decide) (Nat.le_of_ble_eq_true rfl) (by decide) (by decide) dX4_init_103 ?_
  refine hc_aast X (q := 28) (t := 39) (by decide) rfl (by decide) rfl (vp_in_nI (n := 3) (by decide) (by decide)) dX4_init_106 ?_
  refine hc_iinc X 4 dX4_init_107 rfl (by decide) (by decide) rfl ?_
  refine hc_goto X 88 dX4_init_110 rfl ?_
  refine hc_iload_n X dX4_init_88 rfl ?_
  refine hc_bipush X 8 dX4_init_89 (by decide) ?_
  refine hc_icmp_ge_F X 113 (by decide) dX4_init_91 rfl ?_
  refine hc_aload_n X dX4_init_94 rfl ?_
  refine hc_getR X (t := 0) (ci := 4) (j := 3) (q := 28) (by decide) rfl ⟨rfl, by decide, by decide, rfl, by decide⟩ rfl hin_X4 (hf_c1 179 rfl rfl) rfl dX4_init_95 ?_
  refine hc_iload_n X dX4_init_98 rfl ?_
  refine hc_new X (ci := 2) (k := 3) rfl ⟨by decide, rfl, rfl⟩ (hf_c1 102 rfl rfl) (hf_c1 157 rfl rfl) (hf_c1 5 rfl rfl) hin_X2 tyX2_ok hdf_X2 (fun _ => rfl) (fun _ => rfl) (fun _ => rfl) (by decide) (by decide) dX4_init_99 ?_
  refine hc_dup X dX4_init_102 rfl ?_
  refine hc_call X ci_X2_41 (Or.inr ⟨"HalfOfItFalse", by decide +kernel⟩) (hf_c1 159 rfl rfl) (hf_c1 5 rfl rfl) (hf_c1 160 rfl rfl) (by decide) rfl (by decide +kernel) rfl (by decide) (by decide) (Nat.le_of_ble_eq_true rfl) (by decide) (by decide) dX4_init_103 ?_
  refine hc_aast X (q := 28) (t := 41) (by decide) rfl (by decide) rfl (vp_in_nI (n := 4) (by decide) (by decide)) dX4_init_106 ?_
  refine hc_iinc X 5 dX4_init_107 rfl (by decide) (by decide) rfl ?_
  refine hc_goto X 88 dX4_init_110 rfl ?_
  refine hc_iload_n X dX4_init_88 rfl ?_
  refine hc_bipush X 8 dX4_init_89 (by decide) ?_
  refine hc_icmp_ge_F X 113 (by decide) dX4_init_91 rfl ?_
  refine hc_aload_n X dX4_init_94 rfl ?_
  refine hc_getR X (t := 0) (ci := 4) (j := 3) (q := 28) (by decide) rfl ⟨rfl, by decide, by decide, rfl, by decide⟩ rfl hin_X4 (hf_c1 179 rfl rfl) rfl dX4_init_95 ?_
  refine hc_iload_n X dX4_init_98 rfl ?_
  refine hc_new X (ci := 2) (k := 3) rfl ⟨by decide, rfl, rfl⟩ (hf_c1 102 rfl rfl) (hf_c1 157 rfl rfl) (hf_c1 5 rfl rfl) hin_X2 tyX2_ok hdf_X2 (fun _ => rfl) (fun _ => rfl) (fun _ => rfl) (by decide) (by decide) dX4_init_99 ?_
  refine hc_dup X dX4_init_102 rfl ?_
  refine hc_call X ci_X2_43 (Or.inr ⟨"HalfOfItFalse", by decide +kernel⟩) (hf_c1 159 rfl rfl) (hf_c1 5 rfl rfl) (hf_c1 160 rfl rfl) (by decide) rfl (by decide +kernel) rfl (by decide) (by decide) (Nat.le_of_ble_eq_true rfl) (by decide) (by decide) dX4_init_103 ?_
  refine hc_aast X (q := 28) (t := 43) (by decide) rfl (by decide) rfl (vp_in_nI (n := 5) (by decide) (by decide)) dX4_init_106 ?_
  refine hc_iinc X 6 dX4_init_107 rfl (by decide) (by decide) rfl ?_
  refine hc_goto X 88 dX4_init_110 rfl ?_
  refine hc_iload_n X dX4_init_88 rfl ?_
  refine hc_bipush X 8 dX4_init_89 (by decide) ?_
  refine hc_icmp_ge_F X 113 (by decide) dX4_init_91 rfl ?_
  refine hc_aload_n X dX4_init_94 rfl ?_
  refine hc_getR X (t := 0) (ci := 4) (j := 3) (q := 28) (by decide) rfl ⟨rfl, by decide, by decide, rfl, by decide⟩ rfl hin_X4 (hf_c1 179 rfl rfl) rfl dX4_init_95 ?_
  refine hc_iload_n X dX4_init_98 rfl ?_
  refine hc_new X (ci := 2) (k := 3) rfl ⟨by decide, rfl, rfl⟩ (hf_c1 102 rfl rfl) (hf_c1 157 rfl rfl) (hf_c1 5 rfl rfl) hin_X2 tyX2_ok hdf_X2 (fun _ => rfl) (fun _ => rfl) (fun _ => rfl) (by decide) (by decide) dX4_init_99 ?_
  refine hc_dup X dX4_init_102 rfl ?_
  refine hc_call X ci_X2_45 (Or.inr ⟨"HalfOfItFalse", by decide +kernel⟩) (hf_c1 159 rfl rfl) (hf_c1 5 rfl rfl) (hf_c1 160 rfl rfl) (by decide) rfl (by decide +kernel) rfl (by decide) (by decide) (Nat.le_of_ble_eq_true rfl) (by decide) (by decide) dX4_init_103 ?_
  refine hc_aast X (q := 28) (t := 45) (by decide) rfl (by decide) rfl (vp_in_nI (n := 6) (by decide) (by decide)) dX4_init_106 ?_
  refine hc_iinc X 7 dX4_init_107 rfl (by decide) (by decide) rfl ?_
  refine hc_goto X 88 dX4_init_110 rfl ?_
  refine hc_iload_n X dX4_init_88 rfl ?_
  refine hc_bipush X 8 dX4_init_89 (by decide) ?_
  refine hc_icmp_ge_F X 113 (by decide) dX4_init_91 rfl ?_
  refine hc_aload_n X dX4_init_94 rfl ?_
  refine hc_getR X (t := 0) (ci := 4) (j := 3) (q := 28) (by decide) rfl ⟨rfl, by decide, by decide, rfl, by decide⟩ rfl hin_X4 (hf_c1 179 rfl rfl) rfl dX4_init_95 ?_
  refine hc_iload_n X dX4_init_98 rfl ?_
  refine hc_new X (ci := 2) (k := 3) rfl ⟨by decide, rfl, rfl⟩ (hf_c1 102 rfl rfl) (hf_c1 157 rfl rfl) (hf_c1 5 rfl rfl) hin_X2 tyX2_ok hdf_X2 (fun _ => rfl) (fun _ => rfl) (fun _ => rfl) (by decide) (by decide) dX4_init_99 ?_
  refine hc_dup X dX4_init_102 rfl ?_
  refine hc_call X ci_X2_47 (Or.inr ⟨"HalfOfItFalse", by decide +kernel⟩) (hf_c1 159 rfl rfl) (hf_c1 5 rfl rfl) (hf_c1 160 rfl rfl) (by decide) rfl (by decide +kernel) rfl (by decide) (by decide) (Nat.le_of_ble_eq_true rfl) (by decide) (by decide) dX4_init_103 ?_
  refine hc_aast X (q := 28) (t := 47) (by decide) rfl (by decide) rfl (vp_in_nI (n := 7) (by decide) (by decide)) dX4_init_106 ?_
  refine hc_iinc X 8 dX4_init_107 rfl (by decide) (by decide) rfl ?_
  refine hc_goto X 88 dX4_init_110 rfl ?_
  refine hc_iload_n X dX4_init_88 rfl ?_
  refine hc_bipush X 8 dX4_init_89 (by decide) ?_
  refine hc_icmp_ge_T X 113 (by decide) dX4_init_91 rfl ?_
  exact hc_vret X (N0 := 1) (mc := 48) rfl dX4_init_113
def hm_27 : hf_M := hf_sR (hf_sR (hf_sR (hf_sR (hf_sR (hf_sR (hf_sI (hf_sI (hf_sI (hf_sI (hf_sI (hf_sI (hf_sI (hf_sI (hf_sI (hf_sI (hf_sI (hf_sI (hf_sI (hf_sI (hf_sI (hf_sI (hf_sI (hf_sI (hf_sI (hf_sI (hf_sI (hf_sI (hf_sI (hf_sI (hf_sI (hf_sI (hf_sI (hf_sI (hf_sI (hf_sR (hf_sR (hf_sR (hf_sR (hf_sR (hf_sR (hf_sR (hf_sR (hf_sR (hf_sR (hf_sR (hf_sR (hf_sR (hf_sL (hf_sI (hf_sI (hf_sI (hf_sI (hf_sI (hm_26) 49 3 4) 49 4 2) 49 6 1) 49 7 (-1)) 49 8 (-1)) 49 9 1) 49 10 (some 50)) 49 11 (some 51)) 49 12 (some 52)) 49 13 (some 53)) 49 14 (some 54)) 49 15 (some 55)) 49 16 (some 56)) 49 17 (some 57)) 49 18 (some 58)) 49 19 (some 59)) 49 20 (some 60)) 49 21 (some 61)) 49 22 (some 62)) 63 (0 : Int32).toNatClampNeg 102) 63 (1 : Int32).toNatClampNeg 97) 63 (2 : Int32).toNatClampNeg 99) 63 (3 : Int32).toNatClampNeg 116) 63 (4 : Int32).toNatClampNeg 32) 63 (5 : Int32).toNatClampNeg 0) 63 (6 : Int32).toNatClampNeg 109) 63 (7 : Int32).toNatClampNeg 97) 63 (8 : Int32).toNatClampNeg 110) 63 (9 : Int32).toNatClampNeg 32) 63 (10 : Int32).toNatClampNeg 0) 63 (11 : Int32).toNatClampNeg 108) 63 (12 : Int32).toNatClampNeg 97) 63 (13 : Int32).toNatClampNeg 119) 63 (14 : Int32).toNatClampNeg 32) 63 (15 : Int32).toNatClampNeg 0) 63 (16 : Int32).toNatClampNeg 115) 63 (17 : Int32).toNatClampNeg 97) 63 (18 : Int32).toNatClampNeg 121) 63 (19 : Int32).toNatClampNeg 115) 63 (20 : Int32).toNatClampNeg 32) 63 (21 : Int32).toNatClampNeg 0) 63 (22 : Int32).toNatClampNeg 107) 63 (23 : Int32).toNatClampNeg 110) 63 (24 : Int32).toNatClampNeg 111) 63 (25 : Int32).toNatClampNeg 119) 63 (26 : Int32).toNatClampNeg 110) 63 (27 : Int32).toNatClampNeg 32) 63 (28 : Int32).toNatClampNeg 0) 49 23 (some 63)) 49 24 (some 64)) 49 30 (some 65)) 49 31 (some 66)) 49 32 (some 67)) 49 35 (some 68)
set_option maxRecDepth 100000 in
set_option maxHeartbeats 4000000 in
theorem ci_X5_49 : hc_C yX5_init cX5_init 1 1 50 19 1948 hm_26 hm_27 (fun g => [.ref (hf_a g 49)]) := by
  refine hc_met (by decide +kernel) rfl (by decide) (fun g p l e s m args below meth c X hnm => ?_)
  have X : hf_X g p s m args meth c cX5_init 1 RX5 none := X
  show hc_W g p l e (hc_R 1 19 1948) s m args below meth c 1 (MQ below (va_Qv (fun _ : Unit => True) (fun _ t => hc_Pic g (50 + 19) hm_27 t) (hf_A g)) args s 19 1948 (hf_A g)) 50 hm_26 0 0 0 [some (.ref (hf_a g 49))] []
  refine hc_aload_n X dX5_init_0 rfl ?_
  refine hc_objInit X (hf_c4 58 rfl rfl) (hf_c1 21 rfl rfl) (hf_c1 22 rfl rfl) (by decide) (by decide) dX5_init_1 ?_
  refine hc_aload_n X dX5_init_4 rfl ?_
  refine hc_iconst X 4 dX5_init_5 (by decide) ?_
  refine hc_putI X (t := 49) (ci := 5) (j := 3) (by decide) rfl ⟨rfl, by decide, by decide, rfl, by decide⟩ hin_X5 (hf_c4 62 rfl rfl) rfl tyX5_ok nmX5 rfl rfl rfl rfl dX5_init_6 ?_
  refine hc_aload_n X dX5_init_9 rfl ?_
  refine hc_iconst X 2 dX5_init_10 (by decide) ?_
  refine hc_putI X (t := 49) (ci := 5) (j := 4) (by decide) rfl ⟨rfl, by decide, by decide, rfl, by decide⟩ hin_X5 (hf_c4 63 rfl rfl) rfl tyX5_ok nmX5 rfl rfl rfl rfl dX5_init_11 ?_
  refine hc_aload_n X dX5_init_14 rfl ?_
  refine hc_iconst X 1 dX5_init_15 (by decide) ?_
  refine hc_putI X (t := 49) (ci := 5) (j := 6) (by decide) rfl ⟨rfl, by decide, by decide, rfl, by decide⟩ hin_X5 (hf_c4 65 rfl rfl) rfl tyX5_ok nmX5 rfl rfl rfl rfl dX5_init_16 ?_
  refine hc_aload_n X dX5_init_19 rfl ?_
  refine hc_iconst X (-1) dX5_init_20 (by decide) ?_
  refine hc_putI X (t := 49) (ci := 5) (j := 7) (by decide) rfl ⟨rfl, by decide, by decide, rfl, by decide⟩ hin_X5 (hf_c4 66 rfl rfl) rfl tyX5_ok nmX5 rfl rfl rfl rfl dX5_init_21 ?_
  refine hc_aload_n X dX5_init_24 rfl ?_
  refine hc_iconst X (-1) dX5_init_25 (by decide) ?_
  refine hc_putI X (t := 49) (ci := 5) (j := 8) (by decide) rfl ⟨rfl, by decide, by decide, rfl, by decide⟩ hin_X5 (hf_c4 67 rfl rfl) rfl tyX5_ok nmX5 rfl rfl rfl rfl dX5_init_26 ?_
  refine hc_aload_n X dX5_init_29 rfl ?_
  refine hc_lconst X 1 dX5_init_30 rfl ?_
  refine hc_putL X (t := 49) (ci := 5) (j := 9) (by decide) rfl ⟨rfl, by decide, by decide, rfl, by decide⟩ hin_X5 (hf_c4 68 rfl rfl) rfl tyX5_ok nmX5 rfl rfl rfl rfl dX5_init_31 ?_
  refine hc_aload_n X dX5_init_34 rfl ?_
  refine hc_bipush X 8 dX5_init_35 (by decide) ?_
  refine hc_newI X (w := 8) rfl rfl (fun _ => rfl) (hf_c1 100 rfl rfl) (by decide) (by decide) (by decide) dX5_init_37 ?_
  refine hc_putF X (q := 50) (t := 49) (ci := 5) (j := 10) (by decide) rfl ⟨rfl, by decide, by decide, rfl, by decide⟩ hin_X5 (hf_c4 69 rfl rfl) rfl tyX5_ok nmX5 rfl rfl rfl rfl hnm rfl dX5_init_39 ?_
  refine hc_aload_n X dX5_init_42 rfl ?_
  refine hc_bipush X 6 dX5_init_43 (by decide) ?_
  refine hc_newI X (w := 6) rfl rfl (fun _ => rfl) (hf_c1 100 rfl rfl) (by decide) (by decide) (by decide) dX5_init_45 ?_
  refine hc_putF X (q := 51) (t := 49) (ci := 5) (j := 11) (by decide) rfl ⟨rfl, by decide, by decide, rfl, by decide⟩ hin_X5 (hf_c4 70 rfl rfl) rfl tyX5_ok nmX5 rfl rfl rfl rfl hnm rfl dX5_init_47 ?_
  refine hc_aload_n X dX5_init_50 rfl ?_
  refine hc_bipush X 6 dX5_init_51 (by decide) ?_
  refine hc_newI X (w := 6) rfl rfl (fun _ => rfl) (hf_c1 100 rfl rfl) (by decide) (by decide) (by decide) dX5_init_53 ?_
  refine hc_putF X (q := 52) (t := 49) (ci := 5) (j := 12) (by decide) rfl ⟨rfl, by decide, by decide, rfl, by decide⟩ hin_X5 (hf_c4 71 rfl rfl) rfl tyX5_ok nmX5 rfl rfl rfl rfl hnm rfl dX5_init_55 ?_
  refine hc_aload_n X dX5_init_58 rfl ?_
  refine hc_bipush X 6 dX5_init_59 (by decide) ?_
  refine hc_newI X (w := 6) rfl rfl (fun _ => rfl) (hf_c1 100 rfl rfl) (by decide) (by decide) (by decide) dX5_init_61 ?_
  refine hc_putF X (q := 53) (t := 49) (ci := 5) (j := 13) (by decide) rfl ⟨rfl, by decide, by decide, rfl, by decide⟩ hin_X5 (hf_c4 72 rfl rfl) rfl tyX5_ok nmX5 rfl rfl rfl rfl hnm rfl dX5_init_63 ?_
  refine hc_aload_n X dX5_init_66 rfl ?_
  refine hc_bipush X 52 dX5_init_67 (by decide) ?_
  refine hc_newI X (w := 52) rfl rfl (fun _ => rfl) (hf_c1 100 rfl rfl) (by decide) (by decide) (by decide) dX5_init_69 ?_
  refine hc_putF X (q := 54) (t := 49) (ci := 5) (j := 14) (by decide) rfl ⟨rfl, by decide, by decide, rfl, by decide⟩ hin_X5 (hf_c4 73 rfl rfl) rfl tyX5_ok nmX5 rfl rfl rfl rfl hnm rfl dX5_init_71 ?_
  refine hc_aload_n X dX5_init_74 rfl ?_
  refine hc_bipush X 52 dX5_init_75 (by decide) ?_
  refine hc_newI X (w := 52) rfl rfl (fun _ => rfl) (hf_c1 100 rfl rfl) (by decide) (by decide) (by decide) dX5_init_77 ?_
  refine hc_putF X (q := 55) (t := 49) (ci := 5) (j := 15) (by decide) rfl ⟨rfl, by decide, by decide, rfl, by decide⟩ hin_X5 (hf_c4 74 rfl rfl) rfl tyX5_ok nmX5 rfl rfl rfl rfl hnm rfl dX5_init_79 ?_
  refine hc_aload_n X dX5_init_82 rfl ?_
  refine hc_bipush X 52 dX5_init_83 (by decide) ?_
  refine hc_newI X (w := 52) rfl rfl (fun _ => rfl) (hf_c1 100 rfl rfl) (by decide) (by decide) (by decide) dX5_init_85 ?_
  refine hc_putF X (q := 56) (t := 49) (ci := 5) (j := 16) (by decide) rfl ⟨rfl, by decide, by decide, rfl, by decide⟩ hin_X5 (hf_c4 75 rfl rfl) rfl tyX5_ok nmX5 rfl rfl rfl rfl hnm rfl dX5_init_87 ?_
  refine hc_aload_n X dX5_init_90 rfl ?_
  refine hc_bipush X 8 dX5_init_91 (by decide) ?_
  refine hc_newI X (w := 8) rfl rfl (fun _ => rfl) (hf_c1 100 rfl rfl) (by decide) (by decide) (by decide) dX5_init_93 ?_
  refine hc_putF X (q := 57) (t := 49) (ci := 5) (j := 17) (by decide) rfl ⟨rfl, by decide, by decide, rfl, by decide⟩ hin_X5 (hf_c4 76 rfl rfl) rfl tyX5_ok nmX5 rfl rfl rfl rfl hnm rfl dX5_init_95 ?_
  refine hc_aload_n X dX5_init_98 rfl ?_
  refine hc_bipush X 8 dX5_init_99 (by decide) ?_
  refine hc_newI X (w := 8) rfl rfl (fun _ => rfl) (hf_c1 100 rfl rfl) (by decide) (by decide) (by decide) dX5_init_101 ?_
  refine hc_putF X (q := 58) (t := 49) (ci := 5) (j := 18) (by decide) rfl ⟨rfl, by decide, by decide, rfl, by decide⟩ hin_X5 (hf_c4 77 rfl rfl) rfl tyX5_ok nmX5 rfl rfl rfl rfl hnm rfl dX5_init_103 ?_
  refine hc_aload_n X dX5_init_106 rfl ?_
  refine hc_bipush X 8 dX5_init_107 (by decide) ?_
  refine hc_newI X (w := 8) rfl rfl (fun _ => rfl) (hf_c1 100 rfl rfl) (by decide) (by decide) (by decide) dX5_init_109 ?_
  refine hc_putF X (q := 59) (t := 49) (ci := 5) (j := 19) (by decide) rfl ⟨rfl, by decide, by decide, rfl, by decide⟩ hin_X5 (hf_c4 78 rfl rfl) rfl tyX5_ok nmX5 rfl rfl rfl rfl hnm rfl dX5_init_111 ?_
  refine hc_aload_n X dX5_init_114 rfl ?_
  refine hc_bipush X 8 dX5_init_115 (by decide) ?_
  refine hc_newI X (w := 8) rfl rfl (fun _ => rfl) (hf_c1 100 rfl rfl) (by decide) (by decide) (by decide) dX5_init_117 ?_
  refine hc_putF X (q := 60) (t := 49) (ci := 5) (j := 20) (by decide) rfl ⟨rfl, by decide, by decide, rfl, by decide⟩ hin_X5 (hf_c4 79 rfl rfl) rfl tyX5_ok nmX5 rfl rfl rfl rfl hnm rfl dX5_init_119 ?_
  refine hc_aload_n X dX5_init_122 rfl ?_
  refine hc_sipush X 1280 dX5_init_123 (by decide) ?_
  refine hc_newJ X (w := 1280) rfl rfl (fun _ => rfl) (hf_c1 101 rfl rfl) (by decide) (by decide) (by decide) dX5_init_126 ?_
  refine hc_putF X (q := 61) (t := 49) (ci := 5) (j := 21) (by decide) rfl ⟨rfl, by decide, by decide, rfl, by decide⟩ hin_X5 (hf_c4 80 rfl rfl) rfl tyX5_ok nmX5 rfl rfl rfl rfl hnm rfl dX5_init_128 ?_
  refine hc_aload_n X dX5_init_131 rfl ?_
  refine hc_sipush X 160 dX5_init_132 (by decide) ?_
  refine hc_newJ X (w := 160) rfl rfl (fun _ => rfl) (hf_c1 101 rfl rfl) (by decide) (by decide) (by decide) dX5_init_135 ?_
  refine hc_putF X (q := 62) (t := 49) (ci := 5) (j := 22) (by decide) rfl ⟨rfl, by decide, by decide, rfl, by decide⟩ hin_X5 (hf_c4 81 rfl rfl) rfl tyX5_ok nmX5 rfl rfl rfl rfl hnm rfl dX5_init_137 ?_
  refine hc_aload_n X dX5_init_140 rfl ?_
  refine hc_bipush X 29 dX5_init_141 (by decide) ?_
  refine hc_newI X (w := 29) rfl rfl (fun _ => rfl) (hf_c1 100 rfl rfl) (by decide) (by decide) (by decide) dX5_init_143 ?_
  refine hc_dup X dX5_init_145 rfl ?_
  refine hc_iconst X 0 dX5_init_146 (by decide) ?_
  refine hc_bipush X 102 dX5_init_147 (by decide) ?_
  refine hc_iast X (q := 63) (by decide) rfl (vp_in_nI (n := 0) (by decide) (by decide)) dX5_init_149 ?_
  refine hc_dup X dX5_init_150 rfl ?_
  refine hc_iconst X 1 dX5_init_151 (by decide) ?_
  refine hc_bipush X 97 dX5_init_152 (by decide) ?_
  refine hc_iast X (q := 63) (by decide) rfl (vp_in_nI (n := 1) (by decide) (by decide)) dX5_init_154 ?_
  refine hc_dup X dX5_init_155 rfl ?_
  refine hc_iconst X 2 dX5_init_156 (by decide) ?_
  refine hc_bipush X 99 dX5_init_157 (by decide) ?_
  refine hc_iast X (q := 63) (by decide) rfl (vp_in_nI (n := 2) (by decide) (by decide)) dX5_init_159 ?_
  refine hc_dup X dX5_init_160 rfl ?_
  refine hc_iconst X 3 dX5_init_161 (by decide) ?_
  refine hc_bipush X 116 dX5_init_162 (by decide) ?_
  refine hc_iast X (q := 63) (by decide) rfl (vp_in_nI (n := 3) (by decide) (by decide)) dX5_init_164 ?_
  refine hc_dup X dX5_init_165 rfl ?_
  refine hc_iconst X 4 dX5_init_166 (by decide) ?_
  refine hc_bipush X 32 dX5_init_167 (by decide) ?_
  refine hc_iast X (q := 63) (by decide) rfl (vp_in_nI (n := 4) (by decide) (by decide)) dX5_init_169 ?_
  refine hc_dup X dX5_init_170 rfl ?_
  refine hc_iconst X 5 dX5_init_171 (by decide) ?_
  refine hc_iconst X 0 dX5_init_172 (by decide) ?_
  refine hc_iast X (q := 63) (by decide) rfl (vp_in_nI (n := 5) (by decide) (by decide)) dX5_init_173 ?_
  refine hc_dup X dX5_init_174 rfl ?_
  refine hc_bipush X 6 dX5_init_175 (by decide) ?_
  refine hc_bipush X 109 dX5_init_177 (by decide) ?_
  refine hc_iast X (q := 63) (by decide) rfl (vp_in_nI (n := 6) (by decide) (by decide)) dX5_init_179 ?_
  refine hc_dup X dX5_init_180 rfl ?_
  refine hc_bipush X 7 dX5_init_181 (by decide) ?_
  refine hc_bipush X 97 dX5_init_183 (by decide) ?_
  refine hc_iast X (q := 63) (by decide) rfl (vp_in_nI (n := 7) (by decide) (by decide)) dX5_init_185 ?_
  refine hc_dup X dX5_init_186 rfl ?_
  refine hc_bipush X 8 dX5_init_187 (by decide) ?_
  refine hc_bipush X 110 dX5_init_189 (by decide) ?_
  refine hc_iast X (q := 63) (by decide) rfl (vp_in_nI (n := 8) (by decide) (by decide)) dX5_init_191 ?_
  refine hc_dup X dX5_init_192 rfl ?_
  refine hc_bipush X 9 dX5_init_193 (by decide) ?_
  refine hc_bipush X 32 dX5_init_195 (by decide) ?_
  refine hc_iast X (q := 63) (by decide) rfl (vp_in_nI (n := 9) (by decide) (by decide)) dX5_init_197 ?_
  refine hc_dup X dX5_init_198 rfl ?_
  refine hc_bipush X 10 dX5_init_199 (by decide) ?_
  refine hc_iconst X 0 dX5_init_201 (by decide) ?_
  refine hc_iast X (q := 63) (by decide) rfl (vp_in_nI (n := 10) (by decide) (by decide)) dX5_init_202 ?_
  refine hc_dup X dX5_init_203 rfl ?_
  refine hc_bipush X 11 dX5_init_204 (by decide) ?_
  refine hc_bipush X 108 dX5_init_206 (by decide) ?_
  refine hc_iast X (q := 63) (by decide) rfl (vp_in_nI (n := 11) (by decide) (by decide)) dX5_init_208 ?_
  refine hc_dup X dX5_init_209 rfl ?_
  refine hc_bipush X 12 dX5_init_210 (by decide) ?_
  refine hc_bipush X 97 dX5_init_212 (by decide) ?_
  refine hc_iast X (q := 63) (by decide) rfl (vp_in_nI (n := 12) (by decide) (by decide)) dX5_init_214 ?_
  refine hc_dup X dX5_init_215 rfl ?_
  refine hc_bipush X 13 dX5_init_216 (by decide) ?_
  refine hc_bipush X 119 dX5_init_218 (by decide) ?_
  refine hc_iast X (q := 63) (by decide) rfl (vp_in_nI (n := 13) (by decide) (by decide)) dX5_init_220 ?_
  refine hc_dup X dX5_init_221 rfl ?_
  refine hc_bipush X 14 dX5_init_222 (by decide) ?_
  refine hc_bipush X 32 dX5_init_224 (by decide) ?_
  refine hc_iast X (q := 63) (by decide) rfl (vp_in_nI (n := 14) (by decide) (by decide)) dX5_init_226 ?_
  refine hc_dup X dX5_init_227 rfl ?_
  refine hc_bipush X 15 dX5_init_228 (by decide) ?_
  refine hc_iconst X 0 dX5_init_230 (by decide) ?_
  refine hc_iast X (q := 63) (by decide) rfl (vp_in_nI (n := 15) (by decide) (by decide)) dX5_init_231 ?_
  refine hc_dup X dX5_init_232 rfl ?_
  refine hc_bipush X 16 dX5_init_233 (by decide) ?_
  refine hc_bipush X 115 dX5_init_235 (by decide) ?_
  refine hc_iast X (q := 63) (by decide) rfl (vp_in_nI (n := 16) (by decide) (by decide)) dX5_init_237 ?_
  refine hc_dup X dX5_init_238 rfl ?_
  refine hc_bipush X 17 dX5_init_239 (by decide) ?_
  refine hc_bipush X 97 dX5_init_241 (by decide) ?_
  refine hc_iast X (q := 63) (by decide) rfl (vp_in_nI (n := 17) (by decide) (by decide)) dX5_init_243 ?_
  refine hc_dup X dX5_init_244 rfl ?_
  refine hc_bipush X 18 dX5_init_245 (by decide) ?_
  refine hc_bipush X 121 dX5_init_247 (by decide) ?_
  refine hc_iast X (q := 63) (by decide) rfl (vp_in_nI (n := 18) (by decide) (by decide)) dX5_init_249 ?_
  refine hc_dup X dX5_init_250 rfl ?_
  refine hc_bipush X 19 dX5_init_251 (by decide) ?_
  refine hc_bipush X 115 dX5_init_253 (by decide) ?_
  refine hc_iast X (q := 63) (by decide) rfl (vp_in_nI (n := 19) (by decide) (by decide)) dX5_init_255 ?_
  refine hc_dup X dX5_init_256 rfl ?_
  refine hc_bipush X 20 dX5_init_257 (by decide) ?_
  refine hc_bipush X 32 dX5_init_259 (by decide) ?_
  refine hc_iast X (q := 63) (by decide) rfl (vp_in_nI (n := 20) (by decide) (by decide)) dX5_init_261 ?_
  refine hc_dup X dX5_init_262 rfl ?_
  refine hc_bipush X 21 dX5_init_263 (by decide) ?_
  refine hc_iconst X 0 dX5_init_265 (by decide) ?_
  refine hc_iast X (q := 63) (by decide) rfl (vp_in_nI (n := 21) (by decide) (by decide)) dX5_init_266 ?_
  refine hc_dup X dX5_init_267 rfl ?_
  refine hc_bipush X 22 dX5_init_268 (by decide) ?_
  refine hc_bipush X 107 dX5_init_270 (by decide) ?_
  refine hc_iast X (q := 63) (by decide) rfl (vp_in_nI (n := 22) (by decide) (by decide)) dX5_init_272 ?_
  refine hc_dup X dX5_init_273 rfl ?_
  refine hc_bipush X 23 dX5_init_274 (by decide) ?_
  refine hc_bipush X 110 dX5_init_276 (by decide) ?_
  refine hc_iast X (q := 63) (by decide) rfl (vp_in_nI (n := 23) (by decide) (by decide)) dX5_init_278 ?_
  refine hc_dup X dX5_init_279 rfl ?_
  refine hc_bipush X 24 dX5_init_280 (by decide) ?_
  refine hc_bipush X 111 dX5_init_282 (by decide) ?_
  refine hc_iast X (q := 63) (by decide) rfl (vp_in_nI (n := 24) (by decide) (by decide)) dX5_init_284 ?_
  refine hc_dup X dX5_init_285 rfl ?_
  refine hc_bipush X 25 dX5_init_286 (by decide) ?_
  refine hc_bipush X 119 dX5_init_288 (by decide) ?_
  refine hc_iast X (q := 63) (by decide) rfl (vp_in_nI (n := 25) (by decide) (by decide)) dX5_init_290 ?_
  refine hc_dup X dX5_init_291 rfl ?_
  refine hc_bipush X 26 dX5_init_292 (by decide) ?_
  refine hc_bipush X 110 dX5_init_294 (by decide) ?_
  refine hc_iast X (q := 63) (by decide) rfl (vp_in_nI (n := 26) (by decide) (by decide)) dX5_init_296 ?_
  refine hc_dup X dX5_init_297 rfl ?_
  refine hc_bipush X 27 dX5_init_298 (by decide) ?_
  refine hc_bipush X 32 dX5_init_300 (by decide) ?_
  refine hc_iast X (q := 63) (by decide) rfl (vp_in_nI (n := 27) (by decide) (by decide)) dX5_init_302 ?_
  refine hc_dup X dX5_init_303 rfl ?_
  refine hc_bipush X 28 dX5_init_304 (by decide) ?_
  refine hc_iconst X 0 dX5_init_306 (by decide) ?_
  refine hc_iast X (q := 63) (by decide) rfl (vp_in_nI (n := 28) (by decide) (by decide)) dX5_init_307 ?_
  refine hc_putF X (q := 63) (t := 49) (ci := 5) (j := 23) (by decide) rfl ⟨rfl, by decide, by decide, rfl, by decide⟩ hin_X5 (hf_c4 82 rfl rfl) rfl tyX5_ok nmX5 rfl rfl rfl rfl hnm rfl dX5_init_308 ?_
  refine hc_aload_n X dX5_init_311 rfl ?_
  refine hc_iconst X 3 dX5_init_312 (by decide) ?_
  refine hc_newI X (w := 3) rfl rfl (fun _ => rfl) (hf_c1 100 rfl rfl) (by decide) (by decide) (by decide) dX5_init_313 ?_
  refine hc_putF X (q := 64) (t := 49) (ci := 5) (j := 24) (by decide) rfl ⟨rfl, by decide, by decide, rfl, by decide⟩ hin_X5 (hf_c4 83 rfl rfl) rfl tyX5_ok nmX5 rfl rfl rfl rfl hnm rfl dX5_init_315 ?_
  refine hc_aload_n X dX5_init_318 rfl ?_
  refine hc_bipush X 120 dX5_init_319 (by decide) ?_
  refine hc_newI X (w := 120) rfl rfl (fun _ => rfl) (hf_c1 100 rfl rfl) (by decide) (by decide) (by decide) dX5_init_321 ?_
  refine hc_putF X (q := 65) (t := 49) (ci := 5) (j := 30) (by decide) rfl ⟨rfl, by decide, by decide, rfl, by decide⟩ hin_X5 (hf_c4 89 rfl rfl) rfl tyX5_ok nmX5 rfl rfl rfl rfl hnm rfl dX5_init_323 ?_
  refine hc_aload_n X dX5_init_326 rfl ?_
  refine hc_bipush X 120 dX5_init_327 (by decide) ?_
  refine hc_newI X (w := 120) rfl rfl (fun _ => rfl) (hf_c1 100 rfl rfl) (by decide) (by decide) (by decide) dX5_init_329 ?_
  refine hc_putF X (q := 66) (t := 49) (ci := 5) (j := 31) (by decide) rfl ⟨rfl, by decide, by decide, rfl, by decide⟩ hin_X5 (hf_c4 90 rfl rfl) rfl tyX5_ok nmX5 rfl rfl rfl rfl hnm rfl dX5_init_331 ?_
  refine hc_aload_n X dX5_init_334 rfl ?_
  refine hc_iconst X 2 dX5_init_335 (by decide) ?_
  refine hc_newJ X (w := 2) rfl rfl (fun _ => rfl) (hf_c1 101 rfl rfl) (by decide) (by decide) (by decide) dX5_init_336 ?_
  refine hc_putF X (q := 67) (t := 49) (ci := 5) (j := 32) (by decide) rfl ⟨rfl, by decide, by decide, rfl, by decide⟩ hin_X5 (hf_c4 91 rfl rfl) rfl tyX5_ok nmX5 rfl rfl rfl rfl hnm rfl dX5_init_338 ?_
  refine hc_aload_n X dX5_init_341 rfl ?_
  refine hc_bipush X 20 dX5_init_342 (by decide) ?_
  refine hc_newI X (w := 20) rfl rfl (fun _ => rfl) (hf_c1 100 rfl rfl) (by decide) (by decide) (by decide) dX5_init_344 ?_
  refine hc_putF X (q := 68) (t := 49) (ci := 5) (j := 35) (by decide) rfl ⟨rfl, by decide, by decide, rfl, by decide⟩ hin_X5 (hf_c4 94 rfl rfl) rfl tyX5_ok nmX5 rfl rfl rfl rfl hnm rfl dX5_init_346 ?_
  exact hc_vret X (N0 := 50) (mc := 19) rfl dX5_init_349
/-- the memory behind both constructors -/
abbrev hm_end : hf_M := hm_27
