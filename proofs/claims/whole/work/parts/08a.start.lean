theorem hz_c1 {w : Cond} (i : Nat) (h : tables_1_1[i]? = some w) : w ∈ lw_tbl := List.mem_append_right _ (show w ∈ tables_1 from List.mem_append_left _ (List.mem_of_getElem? h))
theorem hz_c2 {w : Cond} (i : Nat) (h : tables_1_2[i]? = some w) : w ∈ lw_tbl := List.mem_append_right _ (show w ∈ tables_1 from List.mem_append_right _ (List.mem_append_left _ (List.mem_of_getElem? h)))
theorem hz_c3 {w : Cond} (i : Nat) (h : tables_1_3[i]? = some w) : w ∈ lw_tbl := List.mem_append_right _ (show w ∈ tables_1 from List.mem_append_right _ (List.mem_append_right _ (List.mem_append_left _ (List.mem_of_getElem? h))))
theorem hz_c4 {w : Cond} (i : Nat) (h : tables_1_4[i]? = some w) : w ∈ lw_tbl := List.mem_append_right _ (show w ∈ tables_1 from List.mem_append_right _ (List.mem_append_right _ (List.mem_append_right _ (List.mem_append_left _ (List.mem_of_getElem? h)))))
theorem hz_c5 {w : Cond} (i : Nat) (h : tables_1_5[i]? = some w) : w ∈ lw_tbl := List.mem_append_right _ (show w ∈ tables_1 from List.mem_append_right _ (List.mem_append_right _ (List.mem_append_right _ (List.mem_append_right _ (List.mem_append_left _ (List.mem_of_getElem? h))))))
theorem hz_c6 {w : Cond} (i : Nat) (h : tables_1_6[i]? = some w) : w ∈ lw_tbl := List.mem_append_right _ (show w ∈ tables_1 from List.mem_append_right _ (List.mem_append_right _ (List.mem_append_right _ (List.mem_append_right _ (List.mem_append_right _ (List.mem_of_getElem? h))))))
set_option maxRecDepth 100000 in
set_option maxHeartbeats 4000000 in
/-- what the start gives: the classes, the rows' classes, the tables, the texts -/
theorem hz_start {s : State} {b : Nat} (hts : ∀ w ∈ lw_tbl, w.before #[Value.ref b] s = true) (hgv : (Jvm.Cond.and given_1 narrow_1).before #[Value.ref b] s = true) : ∃ g : hf_G, hf_s0 g = s.heap.size ∧ (∀ k, hf_a g k = hf_s0 g + k) ∧ va_K (hf_D g) vwCl (hf_ty g) s ∧ hf_S g s s.heap := by
  have hT : ∀ w ∈ hf_T, w.before #[Value.ref b] s = true := fun w h => hts w (List.mem_filter.mp h).1
  have hs := flat_of_before _ hgv
  obtain ⟨c0, i0, hK0⟩ := u_known (C := RX0) (T := TX0) (N := 5) (n := 5) hT hin_X0 (hts _ (hz_c1 134 rfl))
  obtain ⟨c1, i1, hK1⟩ := u_known (C := RX1) (T := TX1) (N := 7) (n := 7) hT hin_X1 (hts _ (hz_c1 105 rfl))
  obtain ⟨c2, i2, hK2⟩ := u_known (C := RX2) (T := TX2) (N := 3) (n := 3) hT hin_X2 (hts _ (hz_c1 157 rfl))
  obtain ⟨c3, i3, hK3⟩ := u_known (C := RX3) (T := TX3) (N := 17) (n := 17) hT hin_X3 (hts _ (hz_c1 24 rfl))
  obtain ⟨c4, i4, hK4⟩ := u_known (C := RX4) (T := TX4) (N := 9) (n := 9) hT hin_X4 (hts _ (hz_c1 16 rfl))
  obtain ⟨c5, i5, hK5⟩ := u_known (C := RX5) (T := TX5) (N := 38) (n := 38) hT hin_X5 (hts _ (hz_c4 54 rfl))
  obtain ⟨dC, dI, hKc⟩ : ∃ (dC : Nat → ClassId) (dI : Nat → Nat → Nat), ∀ (k : Nat) (q : vw_C), vwCl[k]? = some q → u_Kn s q.1 q.2.1 q.2.2 (dC k) (dI k) := by
    refine ⟨fun k => if k = 0 then c0 else if k = 1 then c1 else if k = 2 then c2 else if k = 3 then c3 else if k = 4 then c4 else c5, fun k => if k = 0 then i0 else if k = 1 then i1 else if k = 2 then i2 else if k = 3 then i3 else if k = 4 then i4 else i5, ?_⟩
    intro k q hq
    match k, hq with
    | 0, hq => cases hq; exact hK0
    | 1, hq => cases hq; exact hK1
    | 2, hq => cases hq; exact hK2
    | 3, hq => cases hq; exact hK3
    | 4, hq => cases hq; exact hK4
    | 5, hq => cases hq; exact hK5
    | k + 6, hq => simp [vwCl] at hq
  obtain ⟨cI, kI, pI, hI1, hI2, hI3⟩ := Cond.arrayClass_spec (hts (.arrayClass .int) (hz_c1 100 rfl))
  obtain ⟨cJ, kJ, pJ, hJ1, hJ2, hJ3⟩ := Cond.arrayClass_spec (hts (.arrayClass .long) (hz_c1 101 rfl))
  have hov := hts (.arrayOver (.object RX2)) (hz_c1 103 rfl)
  obtain ⟨pS, cS, kS, hS1, hS2, hS3, hS4, hS5⟩ := Cond.arrayOver_spec hov
  have hA : ∀ a : Nat, a < s.heap.size → ¬ ((∃ k, k < 69 ∧ a = s.heap.size + k) ∨ s.heap.size ≤ a) := by
    rintro a h (⟨k, _, rfl⟩ | h2) <;> omega
  generalize hAe : (fun a : Nat => (∃ k, k < 69 ∧ a = s.heap.size + k) ∨ s.heap.size ≤ a) = A0 at *
  have hA' : ∀ a : Nat, a < s.heap.size → ¬ A0 a := by rw [← hAe]; exact hA
  obtain ⟨tA, htA, hTA⟩ := va_Tof (tm := (Term.static "HalfOfItFalse" "ABOVE" "[I")) (ty := .int) (N := 7) (f := fun j => .int (hf_AB j)) (A := A0) (by decide) (hs (Cond.arrayOf (Term.static "HalfOfItFalse" "ABOVE" "[I") .int) (by decide +kernel)) (va_eqt (hs (Cond.eq (.length (Term.static "HalfOfItFalse" "ABOVE" "[I")) (.int 7)) (by decide +kernel))) (fun j hj => by
    match j, hj with
    | 0, _ => exact va_eqt (hs (Cond.eq (.elem (Term.static "HalfOfItFalse" "ABOVE" "[I") (.int (0 : Int32))) (.int (hf_AB 0))) (by decide +kernel))
    | 1, _ => exact va_eqt (hs (Cond.eq (.elem (Term.static "HalfOfItFalse" "ABOVE" "[I") (.int (1 : Int32))) (.int (hf_AB 1))) (by decide +kernel))
    | 2, _ => exact va_eqt (hs (Cond.eq (.elem (Term.static "HalfOfItFalse" "ABOVE" "[I") (.int (2 : Int32))) (.int (hf_AB 2))) (by decide +kernel))
    | 3, _ => exact va_eqt (hs (Cond.eq (.elem (Term.static "HalfOfItFalse" "ABOVE" "[I") (.int (3 : Int32))) (.int (hf_AB 3))) (by decide +kernel))
    | 4, _ => exact va_eqt (hs (Cond.eq (.elem (Term.static "HalfOfItFalse" "ABOVE" "[I") (.int (4 : Int32))) (.int (hf_AB 4))) (by decide +kernel))
    | 5, _ => exact va_eqt (hs (Cond.eq (.elem (Term.static "HalfOfItFalse" "ABOVE" "[I") (.int (5 : Int32))) (.int (hf_AB 5))) (by decide +kernel))
    | 6, _ => exact va_eqt (hs (Cond.eq (.elem (Term.static "HalfOfItFalse" "ABOVE" "[I") (.int (6 : Int32))) (.int (hf_AB 6))) (by decide +kernel))
    | j + 7, hj => omega) hA'
  have hZA := va_Zof (A := A0) (hts (Cond.laysStatic "HalfOfItFalse" "ABOVE" "[I") (hz_c2 52 rfl)) (hts (Cond.initialized "HalfOfItFalse") (hz_c1 1 rfl)) htA hA'
  obtain ⟨tS, htS, hTS⟩ := va_Tof (tm := (Term.static "HalfOfItFalse" "SO" "[J")) (ty := .long) (N := 6) (f := fun j => .long (hf_SO j)) (A := A0) (by decide) (hs (Cond.arrayOf (Term.static "HalfOfItFalse" "SO" "[J") .long) (by decide +kernel)) (va_eqt (hs (Cond.eq (.length (Term.static "HalfOfItFalse" "SO" "[J")) (.int 6)) (by decide +kernel))) (fun j hj => by
    match j, hj with
    | 0, _ => exact va_eqtl (hs (Cond.eq (.elem (Term.static "HalfOfItFalse" "SO" "[J") (.int (0 : Int32))) (.long (hf_SO 0))) (by decide +kernel))
    | 1, _ => exact va_eqtl (hs (Cond.eq (.elem (Term.static "HalfOfItFalse" "SO" "[J") (.int (1 : Int32))) (.long (hf_SO 1))) (by decide +kernel))
    | 2, _ => exact va_eqtl (hs (Cond.eq (.elem (Term.static "HalfOfItFalse" "SO" "[J") (.int (2 : Int32))) (.long (hf_SO 2))) (by decide +kernel))
    | 3, _ => exact va_eqtl (hs (Cond.eq (.elem (Term.static "HalfOfItFalse" "SO" "[J") (.int (3 : Int32))) (.long (hf_SO 3))) (by decide +kernel))
    | 4, _ => exact va_eqtl (hs (Cond.eq (.elem (Term.static "HalfOfItFalse" "SO" "[J") (.int (4 : Int32))) (.long (hf_SO 4))) (by decide +kernel))
    | 5, _ => exact va_eqtl (hs (Cond.eq (.elem (Term.static "HalfOfItFalse" "SO" "[J") (.int (5 : Int32))) (.long (hf_SO 5))) (by decide +kernel))
    | j + 6, hj => omega) hA'
  have hZS := va_Zof (A := A0) (hts (Cond.laysStatic "HalfOfItFalse" "SO" "[J") (hz_c2 143 rfl)) (hts (Cond.initialized "HalfOfItFalse") (hz_c1 1 rfl)) htS hA'
  obtain ⟨tB, htB, hTB⟩ := va_Tof (tm := (Term.static "HalfOfItFalse$Acts" "BODIES" "[I")) (ty := .int) (N := 21) (f := fun j => .int (hf_BO j)) (A := A0) (by decide) (hs (Cond.arrayOf (Term.static "HalfOfItFalse$Acts" "BODIES" "[I") .int) (by decide +kernel)) (va_eqt (hs (Cond.eq (.length (Term.static "HalfOfItFalse$Acts" "BODIES" "[I")) (.int 21)) (by decide +kernel))) (fun j hj => by
    match j, hj with
    | 0, _ => exact va_eqt (hs (Cond.eq (.elem (Term.static "HalfOfItFalse$Acts" "BODIES" "[I") (.int (0 : Int32))) (.int (hf_BO 0))) (by decide +kernel))
    | 1, _ => exact va_eqt (hs (Cond.eq (.elem (Term.static "HalfOfItFalse$Acts" "BODIES" "[I") (.int (1 : Int32))) (.int (hf_BO 1))) (by decide +kernel))
    | 2, _ => exact va_eqt (hs (Cond.eq (.elem (Term.static "HalfOfItFalse$Acts" "BODIES" "[I") (.int (2 : Int32))) (.int (hf_BO 2))) (by decide +kernel))
    | 3, _ => exact va_eqt (hs (Cond.eq (.elem (Term.static "HalfOfItFalse$Acts" "BODIES" "[I") (.int (3 : Int32))) (.int (hf_BO 3))) (by decide +kernel))
    | 4, _ => exact va_eqt (hs (Cond.eq (.elem (Term.static "HalfOfItFalse$Acts" "BODIES" "[I") (.int (4 : Int32))) (.int (hf_BO 4))) (by decide +kernel))
    | 5, _ => exact va_eqt (hs (Cond.eq (.elem (Term.static "HalfOfItFalse$Acts" "BODIES" "[I") (.int (5 : Int32))) (.int (hf_BO 5))) (by decide +kernel))
    | 6, _ => exact va_eqt (hs (Cond.eq (.elem (Term.static "HalfOfItFalse$Acts" "BODIES" "[I") (.int (6 : Int32))) (.int (hf_BO 6))) (by decide +kernel))
    | 7, _ => exact va_eqt (hs (Cond.eq (.elem (Term.static "HalfOfItFalse$Acts" "BODIES" "[I") (.int (7 : Int32))) (.int (hf_BO 7))) (by decide +kernel))
    | 8, _ => exact va_eqt (hs (Cond.eq (.elem (Term.static "HalfOfItFalse$Acts" "BODIES" "[I") (.int (8 : Int32))) (.int (hf_BO 8))) (by decide +kernel))
    | 9, _ => exact va_eqt (hs (Cond.eq (.elem (Term.static "HalfOfItFalse$Acts" "BODIES" "[I") (.int (9 : Int32))) (.int (hf_BO 9))) (by decide +kernel))
    | 10, _ => exact va_eqt (hs (Cond.eq (.elem (Term.static "HalfOfItFalse$Acts" "BODIES" "[I") (.int (10 : Int32))) (.int (hf_BO 10))) (by decide +kernel))
    | 11, _ => exact va_eqt (hs (Cond.eq (.elem (Term.static "HalfOfItFalse$Acts" "BODIES" "[I") (.int (11 : Int32))) (.int (hf_BO 11))) (by decide +kernel))
    | 12, _ => exact va_eqt (hs (Cond.eq (.elem (Term.static "HalfOfItFalse$Acts" "BODIES" "[I") (.int (12 : Int32))) (.int (hf_BO 12))) (by decide +kernel))
    | 13, _ => exact va_eqt (hs (Cond.eq (.elem (Term.static "HalfOfItFalse$Acts" "BODIES" "[I") (.int (13 : Int32))) (.int (hf_BO 13))) (by decide +kernel))
    | 14, _ => exact va_eqt (hs (Cond.eq (.elem (Term.static "HalfOfItFalse$Acts" "BODIES" "[I") (.int (14 : Int32))) (.int (hf_BO 14))) (by decide +kernel))
    | 15, _ => exact va_eqt (hs (Cond.eq (.elem (Term.static "HalfOfItFalse$Acts" "BODIES" "[I") (.int (15 : Int32))) (.int (hf_BO 15))) (by decide +kernel))
    | 16, _ => exact va_eqt (hs (Cond.eq (.elem (Term.static "HalfOfItFalse$Acts" "BODIES" "[I") (.int (16 : Int32))) (.int (hf_BO 16))) (by decide +kernel))
    | 17, _ => exact va_eqt (hs (Cond.eq (.elem (Term.static "HalfOfItFalse$Acts" "BODIES" "[I") (.int (17 : Int32))) (.int (hf_BO 17))) (by decide +kernel))
    | 18, _ => exact va_eqt (hs (Cond.eq (.elem (Term.static "HalfOfItFalse$Acts" "BODIES" "[I") (.int (18 : Int32))) (.int (hf_BO 18))) (by decide +kernel))
    | 19, _ => exact va_eqt (hs (Cond.eq (.elem (Term.static "HalfOfItFalse$Acts" "BODIES" "[I") (.int (19 : Int32))) (.int (hf_BO 19))) (by decide +kernel))
    | 20, _ => exact va_eqt (hs (Cond.eq (.elem (Term.static "HalfOfItFalse$Acts" "BODIES" "[I") (.int (20 : Int32))) (.int (hf_BO 20))) (by decide +kernel))
    | j + 21, hj => omega) hA'
  have hZB := va_Zof (A := A0) (hts (Cond.laysStatic "HalfOfItFalse$Acts" "BODIES" "[I") (hz_c4 28 rfl)) (hts (Cond.initialized "HalfOfItFalse$Acts") (hz_c1 4 rfl)) htB hA'
  have hCS := va_Zof (A := A0) (hts (Cond.laysStatic "java/lang/String" "COMPACT_STRINGS" "Z") (hz_c2 220 rfl)) (hts (Cond.initialized "java/lang/String") (hz_c1 10 rfl)) (va_eqi (hs (Cond.eq (.static "java/lang/String" "COMPACT_STRINGS" "Z") (.int 1)) (by decide +kernel))) hA'
  have hFo := va_Zqof (A := A0) (hts (Cond.laysStatic "jdk/internal/util/Preconditions" "SIOOBE_FORMATTER" "Ljava/util/function/BiFunction;") (hz_c2 236 rfl)) (hts (Cond.initialized "jdk/internal/util/Preconditions") (hz_c1 12 rfl)) (hs (Cond.isRef (.static "jdk/internal/util/Preconditions" "SIOOBE_FORMATTER" "Ljava/util/function/BiFunction;")) (by decide +kernel)) hA'
  obtain ⟨adK, adV, hVS, hVe⟩ := vk_Sof (args := #[Value.ref b]) (s := s) (N := 5) (tm := fun i => Term.string RX1 (hf_wx.getD i 0)) (len := hf_wl) (byt := hf_wc) (A := A0)
    (fun i hi => by have := hf_wl_6 i hi; omega)
    (fun i hi => by
      match i, hi with
      | 0, _ => exact hs (Cond.exactly (Term.string RX1 87) "java/lang/String") (by decide +kernel)
      | 1, _ => exact hs (Cond.exactly (Term.string RX1 106) "java/lang/String") (by decide +kernel)
      | 2, _ => exact hs (Cond.exactly (Term.string RX1 115) "java/lang/String") (by decide +kernel)
      | 3, _ => exact hs (Cond.exactly (Term.string RX1 126) "java/lang/String") (by decide +kernel)
      | 4, _ => exact hs (Cond.exactly (Term.string RX1 145) "java/lang/String") (by decide +kernel)
      | i + 5, hi => exact absurd hi (by omega))
    (fun i hi => by
      match i, hi with
      | 0, _ => exact hs (Cond.eq (.field (Term.string RX1 87) "java/lang/String" "coder" "B") (.int 0)) (by decide +kernel)
      | 1, _ => exact hs (Cond.eq (.field (Term.string RX1 106) "java/lang/String" "coder" "B") (.int 0)) (by decide +kernel)
      | 2, _ => exact hs (Cond.eq (.field (Term.string RX1 115) "java/lang/String" "coder" "B") (.int 0)) (by decide +kernel)
      | 3, _ => exact hs (Cond.eq (.field (Term.string RX1 126) "java/lang/String" "coder" "B") (.int 0)) (by decide +kernel)
      | 4, _ => exact hs (Cond.eq (.field (Term.string RX1 145) "java/lang/String" "coder" "B") (.int 0)) (by decide +kernel)
      | i + 5, hi => exact absurd hi (by omega))
    (fun i hi => by
      match i, hi with
      | 0, _ => exact hs (Cond.arrayOf (Term.field (Term.string RX1 87) "java/lang/String" "value" "[B") .byte) (by decide +kernel)
      | 1, _ => exact hs (Cond.arrayOf (Term.field (Term.string RX1 106) "java/lang/String" "value" "[B") .byte) (by decide +kernel)
      | 2, _ => exact hs (Cond.arrayOf (Term.field (Term.string RX1 115) "java/lang/String" "value" "[B") .byte) (by decide +kernel)
      | 3, _ => exact hs (Cond.arrayOf (Term.field (Term.string RX1 126) "java/lang/String" "value" "[B") .byte) (by decide +kernel)
      | 4, _ => exact hs (Cond.arrayOf (Term.field (Term.string RX1 145) "java/lang/String" "value" "[B") .byte) (by decide +kernel)
      | i + 5, hi => exact absurd hi (by omega))
    (fun i hi => by
      match i, hi with
      | 0, _ => exact hs (Cond.eq (.length (Term.field (Term.string RX1 87) "java/lang/String" "value" "[B")) (.int 4)) (by decide +kernel)
      | 1, _ => exact hs (Cond.eq (.length (Term.field (Term.string RX1 106) "java/lang/String" "value" "[B")) (.int 3)) (by decide +kernel)
      | 2, _ => exact hs (Cond.eq (.length (Term.field (Term.string RX1 115) "java/lang/String" "value" "[B")) (.int 3)) (by decide +kernel)
      | 3, _ => exact hs (Cond.eq (.length (Term.field (Term.string RX1 126) "java/lang/String" "value" "[B")) (.int 4)) (by decide +kernel)
      | 4, _ => exact hs (Cond.eq (.length (Term.field (Term.string RX1 145) "java/lang/String" "value" "[B")) (.int 5)) (by decide +kernel)
      | i + 5, hi => exact absurd hi (by omega))
    (fun i hi j hj => by
      match i, hi with
      | 0, _ => match j, hj with
        | 0, _ => exact hs (Cond.eq (.elem (Term.field (Term.string RX1 87) "java/lang/String" "value" "[B") (.int 0)) (.int 102)) (by decide +kernel)
        | 1, _ => exact hs (Cond.eq (.elem (Term.field (Term.string RX1 87) "java/lang/String" "value" "[B") (.int 1)) (.int 97)) (by decide +kernel)
        | 2, _ => exact hs (Cond.eq (.elem (Term.field (Term.string RX1 87) "java/lang/String" "value" "[B") (.int 2)) (.int 99)) (by decide +kernel)
        | 3, _ => exact hs (Cond.eq (.elem (Term.field (Term.string RX1 87) "java/lang/String" "value" "[B") (.int 3)) (.int 116)) (by decide +kernel)
        | j + 4, hj => exact absurd hj (by show ¬ j + 4 < 4; omega)
      | 1, _ => match j, hj with
        | 0, _ => exact hs (Cond.eq (.elem (Term.field (Term.string RX1 106) "java/lang/String" "value" "[B") (.int 0)) (.int 109)) (by decide +kernel)
        | 1, _ => exact hs (Cond.eq (.elem (Term.field (Term.string RX1 106) "java/lang/String" "value" "[B") (.int 1)) (.int 97)) (by decide +kernel)
        | 2, _ => exact hs (Cond.eq (.elem (Term.field (Term.string RX1 106) "java/lang/String" "value" "[B") (.int 2)) (.int 110)) (by decide +kernel)
        | j + 3, hj => exact absurd hj (by show ¬ j + 3 < 3; omega)
      | 2, _ => match j, hj with
        | 0, _ => exact hs (Cond.eq (.elem (Term.field (Term.string RX1 115) "java/lang/String" "value" "[B") (.int 0)) (.int 108)) (by decide +kernel)
        | 1, _ => exact hs (Cond.eq (.elem (Term.field (Term.string RX1 115) "java/lang/String" "value" "[B") (.int 1)) (.int 97)) (by decide +kernel)
        | 2, _ => exact hs (Cond.eq (.elem (Term.field (Term.string RX1 115) "java/lang/String" "value" "[B") (.int 2)) (.int 119)) (by decide +kernel)
        | j + 3, hj => exact absurd hj (by show ¬ j + 3 < 3; omega)
      | 3, _ => match j, hj with
        | 0, _ => exact hs (Cond.eq (.elem (Term.field (Term.string RX1 126) "java/lang/String" "value" "[B") (.int 0)) (.int 115)) (by decide +kernel)
        | 1, _ => exact hs (Cond.eq (.elem (Term.field (Term.string RX1 126) "java/lang/String" "value" "[B") (.int 1)) (.int 97)) (by decide +kernel)
        | 2, _ => exact hs (Cond.eq (.elem (Term.field (Term.string RX1 126) "java/lang/String" "value" "[B") (.int 2)) (.int 121)) (by decide +kernel)
        | 3, _ => exact hs (Cond.eq (.elem (Term.field (Term.string RX1 126) "java/lang/String" "value" "[B") (.int 3)) (.int 115)) (by decide +kernel)
        | j + 4, hj => exact absurd hj (by show ¬ j + 4 < 4; omega)
      | 4, _ => match j, hj with
        | 0, _ => exact hs (Cond.eq (.elem (Term.field (Term.string RX1 145) "java/lang/String" "value" "[B") (.int 0)) (.int 107)) (by decide +kernel)
        | 1, _ => exact hs (Cond.eq (.elem (Term.field (Term.string RX1 145) "java/lang/String" "value" "[B") (.int 1)) (.int 110)) (by decide +kernel)
        | 2, _ => exact hs (Cond.eq (.elem (Term.field (Term.string RX1 145) "java/lang/String" "value" "[B") (.int 2)) (.int 111)) (by decide +kernel)
        | 3, _ => exact hs (Cond.eq (.elem (Term.field (Term.string RX1 145) "java/lang/String" "value" "[B") (.int 3)) (.int 119)) (by decide +kernel)
        | 4, _ => exact hs (Cond.eq (.elem (Term.field (Term.string RX1 145) "java/lang/String" "value" "[B") (.int 4)) (.int 110)) (by decide +kernel)
        | j + 5, hj => exact absurd hj (by show ¬ j + 5 < 5; omega)
      | i + 5, hi => exact absurd hi (by omega))
    (fun i j hi hj hij => by
      match i, hi with
      | 0, _ => match j, hj with
        | 0, _ => exact absurd rfl hij
        | 1, _ => exact Or.inl (hs (Cond.not (Cond.eq (Term.string RX1 87) (Term.string RX1 106))) (by decide +kernel))
        | 2, _ => exact Or.inl (hs (Cond.not (Cond.eq (Term.string RX1 87) (Term.string RX1 115))) (by decide +kernel))
        | 3, _ => exact Or.inl (hs (Cond.not (Cond.eq (Term.string RX1 87) (Term.string RX1 126))) (by decide +kernel))
        | 4, _ => exact Or.inl (hs (Cond.not (Cond.eq (Term.string RX1 87) (Term.string RX1 145))) (by decide +kernel))
        | j + 5, hj => exact absurd hj (by omega)
      | 1, _ => match j, hj with
        | 0, _ => exact Or.inr (hs (Cond.not (Cond.eq (Term.string RX1 87) (Term.string RX1 106))) (by decide +kernel))
        | 1, _ => exact absurd rfl hij
        | 2, _ => exact Or.inl (hs (Cond.not (Cond.eq (Term.string RX1 106) (Term.string RX1 115))) (by decide +kernel))
        | 3, _ => exact Or.inl (hs (Cond.not (Cond.eq (Term.string RX1 106) (Term.string RX1 126))) (by decide +kernel))
        | 4, _ => exact Or.inl (hs (Cond.not (Cond.eq (Term.string RX1 106) (Term.string RX1 145))) (by decide +kernel))
        | j + 5, hj => exact absurd hj (by omega)
      | 2, _ => match j, hj with
        | 0, _ => exact Or.inr (hs (Cond.not (Cond.eq (Term.string RX1 87) (Term.string RX1 115))) (by decide +kernel))
        | 1, _ => exact Or.inr (hs (Cond.not (Cond.eq (Term.string RX1 106) (Term.string RX1 115))) (by decide +kernel))
        | 2, _ => exact absurd rfl hij
        | 3, _ => exact Or.inl (hs (Cond.not (Cond.eq (Term.string RX1 115) (Term.string RX1 126))) (by decide +kernel))
        | 4, _ => exact Or.inl (hs (Cond.not (Cond.eq (Term.string RX1 115) (Term.string RX1 145))) (by decide +kernel))
        | j + 5, hj => exact absurd hj (by omega)
      | 3, _ => match j, hj with
        | 0, _ => exact Or.inr (hs (Cond.not (Cond.eq (Term.string RX1 87) (Term.string RX1 126))) (by decide +kernel))
        | 1, _ => exact Or.inr (hs (Cond.not (Cond.eq (Term.string RX1 106) (Term.string RX1 126))) (by decide +kernel))
        | 2, _ => exact Or.inr (hs (Cond.not (Cond.eq (Term.string RX1 115) (Term.string RX1 126))) (by decide +kernel))
        | 3, _ => exact absurd rfl hij
        | 4, _ => exact Or.inl (hs (Cond.not (Cond.eq (Term.string RX1 126) (Term.string RX1 145))) (by decide +kernel))
        | j + 5, hj => exact absurd hj (by omega)
      | 4, _ => match j, hj with
        | 0, _ => exact Or.inr (hs (Cond.not (Cond.eq (Term.string RX1 87) (Term.string RX1 145))) (by decide +kernel))
        | 1, _ => exact Or.inr (hs (Cond.not (Cond.eq (Term.string RX1 106) (Term.string RX1 145))) (by decide +kernel))
        | 2, _ => exact Or.inr (hs (Cond.not (Cond.eq (Term.string RX1 115) (Term.string RX1 145))) (by decide +kernel))
        | 3, _ => exact Or.inr (hs (Cond.not (Cond.eq (Term.string RX1 126) (Term.string RX1 145))) (by decide +kernel))
        | 4, _ => exact absurd rfl hij
        | j + 5, hj => exact absurd hj (by omega)
      | i + 5, hi => exact absurd hi (by omega)) hA'
  have hVR : ∀ i, i < 5 → vk_R RX1 (hf_wx.getD i 0) (hf_wt.getD i "") (adK i) s := fun i hi => by
    refine vk_R.of (A := #[Value.ref b]) ?_ (hVe i hi)
    match i, hi with
    | 0, _ => exact hts (Cond.stringRef RX1 87 "fact") (hz_c2 206 rfl)
    | 1, _ => exact hts (Cond.stringRef RX1 106 "man") (hz_c3 40 rfl)
    | 2, _ => exact hts (Cond.stringRef RX1 115 "law") (hz_c3 46 rfl)
    | 3, _ => exact hts (Cond.stringRef RX1 126 "says") (hz_c3 51 rfl)
    | 4, _ => exact hts (Cond.stringRef RX1 145 "known") (hz_c3 61 rfl)
    | i + 5, hi => exact absurd hi (by omega)
  have hNF : ∀ q ∈ hf_NF, va_Nw (.fieldLinkNest q.1 q.2.1 q.2.2.1 q.2.2.2.1 q.2.2.2.2.1 q.2.2.2.2.2) s := by
    exact (List.forall_mem_cons.mpr ⟨va_Nw.of rfl (hts _ (hz_c1 30 rfl)), (List.forall_mem_cons.mpr ⟨va_Nw.of rfl (hts _ (hz_c1 32 rfl)), (List.forall_mem_cons.mpr ⟨va_Nw.of rfl (hts _ (hz_c1 34 rfl)), (List.forall_mem_cons.mpr ⟨va_Nw.of rfl (hts _ (hz_c1 36 rfl)), (List.forall_mem_cons.mpr ⟨va_Nw.of rfl (hts _ (hz_c1 40 rfl)), (List.forall_mem_cons.mpr ⟨va_Nw.of rfl (hts _ (hz_c1 43 rfl)), (List.forall_mem_cons.mpr ⟨va_Nw.of rfl (hts _ (hz_c1 44 rfl)), (List.forall_mem_cons.mpr ⟨va_Nw.of rfl (hts _ (hz_c1 46 rfl)), (List.forall_mem_cons.mpr ⟨va_Nw.of rfl (hts _ (hz_c1 47 rfl)), (List.forall_mem_cons.mpr ⟨va_Nw.of rfl (hts _ (hz_c1 49 rfl)), (List.forall_mem_cons.mpr ⟨va_Nw.of rfl (hts _ (hz_c1 50 rfl)), (List.forall_mem_cons.mpr ⟨va_Nw.of rfl (hts _ (hz_c1 52 rfl)), (List.forall_mem_cons.mpr ⟨va_Nw.of rfl (hts _ (hz_c1 54 rfl)), (List.forall_mem_cons.mpr ⟨va_Nw.of rfl (hts _ (hz_c1 55 rfl)), (List.forall_mem_cons.mpr ⟨va_Nw.of rfl (hts _ (hz_c1 57 rfl)), (List.forall_mem_cons.mpr ⟨va_Nw.of rfl (hts _ (hz_c1 58 rfl)), (List.forall_mem_cons.mpr ⟨va_Nw.of rfl (hts _ (hz_c1 60 rfl)), (List.forall_mem_cons.mpr ⟨va_Nw.of rfl (hts _ (hz_c1 62 rfl)), (List.forall_mem_cons.mpr ⟨va_Nw.of rfl (hts _ (hz_c1 64 rfl)), (List.forall_mem_cons.mpr ⟨va_Nw.of rfl (hts _ (hz_c1 115 rfl)), (List.forall_mem_cons.mpr ⟨va_Nw.of rfl (hts _ (hz_c1 140 rfl)), (List.forall_mem_cons.mpr ⟨va_Nw.of rfl (hts _ (hz_c1 142 rfl)), (List.forall_mem_cons.mpr ⟨va_Nw.of rfl (hts _ (hz_c1 163 rfl)), (List.forall_mem_cons.mpr ⟨va_Nw.of rfl (hts _ (hz_c1 165 rfl)), (List.forall_mem_cons.mpr ⟨va_Nw.of rfl (hts _ (hz_c1 167 rfl)), (List.forall_mem_cons.mpr ⟨va_Nw.of rfl (hts _ (hz_c1 168 rfl)), (List.forall_mem_cons.mpr ⟨va_Nw.of rfl (hts _ (hz_c4 25 rfl)), (fun _ h => absurd h List.not_mem_nil)⟩)⟩)⟩)⟩)⟩)⟩)⟩)⟩)⟩)⟩)⟩)⟩)⟩)⟩)⟩)⟩)⟩)⟩)⟩)⟩)⟩)⟩)⟩)⟩)⟩)⟩)⟩)
  have hNM : ∀ q ∈ hf_NM, va_Nw (.methodLinkNest q.1 q.2.1 q.2.2.1 q.2.2.2) s := by
    exact (List.forall_mem_cons.mpr ⟨va_Nw.of rfl (hts _ (hz_c1 25 rfl)), (List.forall_mem_cons.mpr ⟨va_Nw.of rfl (hts _ (hz_c1 106 rfl)), (List.forall_mem_cons.mpr ⟨va_Nw.of rfl (hts _ (hz_c1 135 rfl)), (List.forall_mem_cons.mpr ⟨va_Nw.of rfl (hts _ (hz_c1 158 rfl)), (List.forall_mem_cons.mpr ⟨va_Nw.of rfl (hts _ (hz_c2 139 rfl)), (List.forall_mem_cons.mpr ⟨va_Nw.of rfl (hts _ (hz_c3 62 rfl)), (List.forall_mem_cons.mpr ⟨va_Nw.of rfl (hts _ (hz_c4 26 rfl)), (fun _ h => absurd h List.not_mem_nil)⟩)⟩)⟩)⟩)⟩)⟩)⟩)
  refine ⟨((dC, dI), (fun k => s.heap.size + k), (cI, cJ, cS), s.heap.size, (tA, tS, tB), adK, adV), rfl, fun _ => rfl, ⟨hKc, ?_⟩, ?_⟩
  · intro k q hq
    match k, hq with
    | 0, hq => cases hq; exact ⟨fun n z => ⟨fun k h => (by cases h), kI, hI2, pI, hI3⟩, hI1⟩
    | 1, hq => cases hq; exact ⟨fun n z => ⟨fun k h => (by cases h), kJ, hJ2, pJ, hJ3⟩, hJ1⟩
    | 2, hq => cases hq; exact ⟨fun n z => ⟨fun k h => (by cases h), kS, hS3, pS, hS4⟩, kS, pS, hS3, hS4, hS1, hS5⟩
    | k + 3, hq => simp [hf_ty] at hq
  · have hAg : hf_A (((dC, dI), (fun k => s.heap.size + k), (cI, cJ, cS), s.heap.size, (tA, tS, tB), adK, adV) : hf_G) = A0 := hAe
    unfold hf_S
    rw [hAg]
    exact ⟨⟨hZA, hTA⟩, ⟨hZS, hTS⟩, ⟨hZB, hTB⟩, ⟨hCS, hVS, hVR, hFo, va_AO.of hov⟩, hNF, hNM⟩
