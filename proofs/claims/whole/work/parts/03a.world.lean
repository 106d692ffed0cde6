/-! the world of 69 cells: numbers of int fields and arrays, of long ones, and references by the cells' numbers -/
abbrev hf_M : Type := (Nat → Nat → Int32) × (Nat → Nat → Int64) × (Nat → Nat → Option Nat)
def hf_u {α : Type} (f : Nat → Nat → α) (k j : Nat) (v : α) : Nat → Nat → α := fun a b => if a = k ∧ b = j then v else f a b
def hf_sI (M : hf_M) (k j : Nat) (v : Int32) : hf_M := (hf_u M.1 k j v, M.2.1, M.2.2)
def hf_sL (M : hf_M) (k j : Nat) (v : Int64) : hf_M := (M.1, hf_u M.2.1 k j v, M.2.2)
def hf_sR (M : hf_M) (k j : Nat) (v : Option Nat) : hf_M := (M.1, M.2.1, hf_u M.2.2 k j v)
/-- the shape of a cell: 0 to 5 an object of that class, 6 ints, 7 longs, 8 shelves -/
def hf_shp (k : Nat) : Nat := ([4, 3, 6, 6, 6, 6, 6, 6, 6, 7, 3, 6, 6, 6, 6, 6, 6, 6, 7, 3, 6, 6, 6, 6, 6, 6, 6, 7, 8, 1, 0, 6, 6, 2, 7, 2, 7, 2, 7, 2, 7, 2, 7, 2, 7, 2, 7, 2, 7, 5, 6, 6, 6, 6, 6, 6, 6, 6, 6, 6, 6, 7, 7, 6, 6, 6, 6, 7, 6] : List Nat).getD k 9
def hf_len (k : Nat) : Nat := ([0, 0, 6, 6, 6, 6, 48, 48, 48, 48, 0, 6, 6, 6, 6, 48, 48, 48, 48, 0, 6, 6, 6, 6, 48, 48, 48, 48, 8, 0, 0, 20, 8, 0, 160, 0, 160, 0, 160, 0, 160, 0, 160, 0, 160, 0, 160, 0, 160, 0, 8, 6, 6, 6, 52, 52, 52, 8, 8, 8, 8, 1280, 160, 29, 3, 120, 120, 2, 20] : List Nat).getD k 0
def hf_nf (c : Nat) : Nat := ([5, 7, 3, 17, 9, 38] : List Nat).getD c 0
/-- a field's type: 0 an int (or boolean), 1 a long, 2 a reference -/
def hf_fty (c j : Nat) : Nat := (([[2, 0, 0, 0, 0], [2, 2, 0, 0, 0, 0, 0], [2, 0, 0], [2, 2, 2, 2, 2, 2, 2, 2, 0, 0, 0, 1, 0, 0, 0, 0, 0], [2, 2, 2, 2, 2, 2, 2, 0, 0], [0, 0, 0, 0, 0, 0, 0, 0, 0, 1, 2, 2, 2, 2, 2, 2, 2, 2, 2, 2, 2, 2, 2, 2, 2, 0, 0, 0, 0, 0, 2, 2, 2, 0, 0, 2, 0, 0]] : List (List Nat)).getD c []).getD j 9
/-- the shape that a reference of a cell of a shape speaks of -/
def hf_wnt (c j : Nat) : Nat := (([[6], [2, 3], [7], [6, 6, 6, 6, 6, 6, 6, 7], [3, 3, 3, 8, 1, 0, 6], [9, 9, 9, 9, 9, 9, 9, 9, 9, 9, 6, 6, 6, 6, 6, 6, 6, 6, 6, 6, 6, 7, 7, 6, 6, 9, 9, 9, 9, 9, 6, 6, 7, 9, 9, 6], [], [], [2, 2, 2, 2, 2, 2, 2, 2]] : List (List Nat)).getD c []).getD j 9
/-- what a start fixes: the classes, the cells' addresses, the classes of the rows, the heap's size, the addresses of the tables and of the texts -/
abbrev hf_G : Type := va_G × (Nat → Nat) × (ClassId × ClassId × ClassId) × Nat × (Nat × Nat × Nat) × (Nat → Nat) × (Nat → Nat)
abbrev hf_D (g : hf_G) : va_G := g.1
abbrev hf_a (g : hf_G) : Nat → Nat := g.2.1
abbrev hf_cI (g : hf_G) : ClassId := g.2.2.1.1
abbrev hf_cJ (g : hf_G) : ClassId := g.2.2.1.2.1
abbrev hf_cS (g : hf_G) : ClassId := g.2.2.1.2.2
abbrev hf_s0 (g : hf_G) : Nat := g.2.2.2.1
abbrev hf_tA (g : hf_G) : Nat := g.2.2.2.2.1.1
abbrev hf_tS (g : hf_G) : Nat := g.2.2.2.2.1.2.1
abbrev hf_tB (g : hf_G) : Nat := g.2.2.2.2.1.2.2
abbrev hf_aK (g : hf_G) : Nat → Nat := g.2.2.2.2.2.1
abbrev hf_aV (g : hf_G) : Nat → Nat := g.2.2.2.2.2.2
def hf_ty (g : hf_G) : List (ClassId × FieldType) := [(hf_cI g, .int), (hf_cJ g, .long), (hf_cS g, .object RX2)]
def hf_fv (g : hf_G) (M : hf_M) (k c j : Nat) : Value := if hf_fty c j = 0 then .int (M.1 k j) else if hf_fty c j = 1 then .long (M.2.1 k j) else va_rf ((M.2.2 k j).map (hf_a g))
def hf_fs (g : hf_G) (M : hf_M) (k c : Nat) : List Value := (List.range (hf_nf c)).map (hf_fv g M k c)
def hf_c (g : hf_G) (M : hf_M) (k : Nat) : va_E :=
  if hf_shp k = 6 then .inl (hf_cI g, hf_len k, .inl (M.1 k)) else if hf_shp k = 7 then .inl (hf_cJ g, hf_len k, .inr (.inl (M.2.1 k)))
  else if hf_shp k = 8 then .inl (hf_cS g, hf_len k, .inr (.inr (.inr (.inr (fun i => (M.2.2 k i).map (hf_a g)))))) else .inr (hf_shp k, hf_fs g M k (hf_shp k))
def hf_w (g : hf_G) (M : hf_M) : va_W := (List.range 69).map (fun k => (hf_a g k, hf_c g M k))
def hf_A (g : hf_G) : Nat → Prop := fun q => (∃ k, k < 69 ∧ q = hf_a g k) ∨ hf_s0 g ≤ q
def hf_RT (M : hf_M) : Prop := ∀ k j t, M.2.2 k j = some t → t < 69 ∧ hf_shp t = hf_wnt (hf_shp k) j
def hf_AB (j : Nat) : Int32 := ([-1, 0, 0, 1, 0, 4, 0] : List Int32).getD j 0
def hf_SO (j : Nat) : Int64 := ([-6148914691236517206, -3689348814741910324, -1085102592571150096, -71777214294589696, -281470681808896, -4294967296] : List Int64).getD j 0
def hf_BO (j : Nat) : Int32 := ([10, 11, 12, 20, 0, 0, 0, 40, 0, 30, 0, 31, 0, 50, 0, 0, 60, 0, 70, 0, 71] : List Int32).getD j 0
/-- the five words of a text: their lengths and letters -/
def hf_wl : List Nat := [4, 3, 3, 4, 5]
def hf_wc : List (List Int32) := [[102, 97, 99, 116], [109, 97, 110], [108, 97, 119], [115, 97, 121, 115], [107, 110, 111, 119, 110]]
def hf_wx : List Nat := [87, 106, 115, 126, 145]
def hf_wt : List String := ["fact", "man", "law", "says", "known"]
/-- links to private members of a nest mate -/
def hf_NF : List (String × Nat × String × String × String × String) := [(RX4, 161, RX3, "harms", "[I", "HalfOfItFalse"), (RX4, 121, RX3, "kinds", "[I", "HalfOfItFalse"), (RX4, 155, RX3, "marks", "[I", "HalfOfItFalse"), (RX4, 127, RX3, "counts", "[I", "HalfOfItFalse"), (RX4, 187, RX3, "words", "[I", "HalfOfItFalse"), (RX1, 89, RX3, "facts", "I", "HalfOfItFalse"), (RX4, 133, RX3, "facts", "I", "HalfOfItFalse"), (RX1, 108, RX3, "speakers", "I", "HalfOfItFalse"), (RX4, 140, RX3, "speakers", "I", "HalfOfItFalse"), (RX1, 117, RX3, "sayings", "I", "HalfOfItFalse"), (RX4, 146, RX3, "sayings", "I", "HalfOfItFalse"), (RX4, 198, RX3, "left", "J", "HalfOfItFalse"), (RX1, 120, RX3, "perDay", "I", "HalfOfItFalse"), (RX4, 149, RX3, "perDay", "I", "HalfOfItFalse"), (RX1, 123, RX3, "trueOnes", "I", "HalfOfItFalse"), (RX4, 152, RX3, "trueOnes", "I", "HalfOfItFalse"), (RX4, 288, RX3, "days", "I", "HalfOfItFalse"), (RX4, 297, RX3, "seed", "I", "HalfOfItFalse"), (RX4, 294, RX3, "drawn", "I", "HalfOfItFalse"), (RX4, 210, RX1, "items", "I", "HalfOfItFalse"), (RX4, 313, RX0, "bodies", "[I", "HalfOfItFalse"), (RX4, 310, RX0, "ran", "I", "HalfOfItFalse"), (RX4, 110, RX2, "elements", "[J", "HalfOfItFalse"), (RX4, 103, RX2, "held", "I", "HalfOfItFalse"), (RX1, 39, RX2, "size", "I", "HalfOfItFalse"), (RX4, 261, RX2, "size", "I", "HalfOfItFalse"), (RX0, 47, RX4, "ABOVE", "[I", "HalfOfItFalse")]
def hf_NM : List (String × Nat × MethodName × String) := [(RX4, 9, yX3_init, "HalfOfItFalse"), (RX4, 30, yX1_init, "HalfOfItFalse"), (RX4, 37, yX0_init, "HalfOfItFalse"), (RX4, 54, yX2_init, "HalfOfItFalse"), (RX3, 72, yX4_truthOf, "HalfOfItFalse"), (RX1, 147, yX4_truthOf, "HalfOfItFalse"), (RX0, 36, yX4_isKind, "HalfOfItFalse")]
def hf_S (g : hf_G) (U : State) (H : Heap) : Prop :=
  (va_Z RX4 "ABOVE" "[I" (.ref (hf_tA g)) (hf_A g) U H ∧ va_T .int (hf_tA g) 7 (fun j => .int (hf_AB j)) (hf_A g) U H) ∧
  (va_Z RX4 "SO" "[J" (.ref (hf_tS g)) (hf_A g) U H ∧ va_T .long (hf_tS g) 6 (fun j => .long (hf_SO j)) (hf_A g) U H) ∧
  (va_Z RX0 "BODIES" "[I" (.ref (hf_tB g)) (hf_A g) U H ∧ va_T .int (hf_tB g) 21 (fun j => .int (hf_BO j)) (hf_A g) U H) ∧
  (va_Z "java/lang/String" "COMPACT_STRINGS" "Z" (.int 1) (hf_A g) U H ∧ vk_S 5 hf_wl hf_wc (hf_aK g) (hf_aV g) (hf_A g) U H ∧ (∀ i, i < 5 → vk_R RX1 (hf_wx.getD i 0) (hf_wt.getD i "") (hf_aK g i) U) ∧ va_Zq "jdk/internal/util/Preconditions" "SIOOBE_FORMATTER" "Ljava/util/function/BiFunction;" (hf_A g) U H ∧ va_AO RX2 U) ∧
  (∀ q ∈ hf_NF, va_Nw (.fieldLinkNest q.1 q.2.1 q.2.2.1 q.2.2.2.1 q.2.2.2.2.1 q.2.2.2.2.2) U) ∧ (∀ q ∈ hf_NM, va_Nw (.methodLinkNest q.1 q.2.1 q.2.2.1 q.2.2.2) U)
theorem hf_w_at (g : hf_G) (M : hf_M) {k : Nat} (h : k < 69) : (hf_w g M)[k]? = some (hf_a g k, hf_c g M k) := by
  simp [hf_w, List.getElem?_range h]
theorem hf_w_len (g : hf_G) (M : hf_M) : (hf_w g M).length = 69 := by simp [hf_w]
theorem hf_w_in {g : hf_G} {M : hf_M} {k : Nat} {q : Nat × va_E} (h : (hf_w g M)[k]? = some q) : k < 69 ∧ q = (hf_a g k, hf_c g M k) := by
  have hk : k < 69 := by
    have := (List.getElem?_eq_some_iff.mp h).1
    rwa [hf_w_len] at this
  rw [hf_w_at g M hk] at h
  exact ⟨hk, (Option.some.inj h).symm⟩
theorem hf_w_set (g : hf_G) (M M' : hf_M) {k : Nat} (h : k < 69) (hne : ∀ j, j ≠ k → hf_c g M' j = hf_c g M j) : (hf_w g M).set k (hf_a g k, hf_c g M' k) = hf_w g M' := by
  apply List.ext_getElem?
  intro j
  by_cases hj : j < 69
  · rw [hf_w_at g M' hj]
    by_cases hjk : j = k
    · subst hjk
      rw [List.getElem?_set_self (by rw [hf_w_len]; exact h)]
    · rw [List.getElem?_set_ne (Ne.symm hjk), hf_w_at g M hj, hne j hjk]
  · rw [List.getElem?_eq_none (by rw [List.length_set, hf_w_len]; omega), List.getElem?_eq_none (by rw [hf_w_len]; omega)]
theorem hf_D_any {g : hf_G} {M M' : hf_M} {A : Nat → Prop} (h : va_D A (hf_w g M)) : va_D A (hf_w g M') := by
  refine ⟨fun i j p q hi hj e => ?_, fun k q hk => ?_⟩
  · obtain ⟨h1, rfl⟩ := hf_w_in hi
    obtain ⟨h2, rfl⟩ := hf_w_in hj
    exact h.1 i j _ _ (hf_w_at g M h1) (hf_w_at g M h2) e
  · obtain ⟨h1, rfl⟩ := hf_w_in hk
    exact h.2 k (hf_a g k, hf_c g M k) (hf_w_at g M h1)
theorem hf_c_eq (g : hf_G) {M M' : hf_M} {k : Nat} (h1 : M'.1 k = M.1 k) (h2 : M'.2.1 k = M.2.1 k) (h3 : M'.2.2 k = M.2.2 k) : hf_c g M' k = hf_c g M k := by
  have e : hf_fv g M' k (hf_shp k) = hf_fv g M k (hf_shp k) := by
    funext j
    simp only [hf_fv, h1, h2, h3]
  simp only [hf_c, hf_fs, h1, h2, h3, e]
theorem hf_u_row {α : Type} (f : Nat → Nat → α) (k j : Nat) (v : α) {a : Nat} (h : a ≠ k) : hf_u f k j v a = f a := by
  funext b
  simp [hf_u, h]
theorem hf_u_own {α : Type} (f : Nat → Nat → α) (k j : Nat) (v : α) (b : Nat) : hf_u f k j v k b = if b = j then v else f k b := by
  simp [hf_u]
theorem hf_cI_ne (g : hf_G) (M : hf_M) (k j : Nat) (v : Int32) : ∀ i, i ≠ k → hf_c g (hf_sI M k j v) i = hf_c g M i := fun i h => hf_c_eq g (hf_u_row _ _ _ _ h) rfl rfl
theorem hf_cL_ne (g : hf_G) (M : hf_M) (k j : Nat) (v : Int64) : ∀ i, i ≠ k → hf_c g (hf_sL M k j v) i = hf_c g M i := fun i h => hf_c_eq g rfl (hf_u_row _ _ _ _ h) rfl
theorem hf_cR_ne (g : hf_G) (M : hf_M) (k j : Nat) (v : Option Nat) : ∀ i, i ≠ k → hf_c g (hf_sR M k j v) i = hf_c g M i := fun i h => hf_c_eq g rfl rfl (hf_u_row _ _ _ _ h)
theorem hf_c6 (g : hf_G) (M : hf_M) {k : Nat} (h : hf_shp k = 6) : hf_c g M k = .inl (hf_cI g, hf_len k, .inl (M.1 k)) := by simp [hf_c, h]
theorem hf_c7 (g : hf_G) (M : hf_M) {k : Nat} (h : hf_shp k = 7) : hf_c g M k = .inl (hf_cJ g, hf_len k, .inr (.inl (M.2.1 k))) := by simp [hf_c, h]
theorem hf_c8 (g : hf_G) (M : hf_M) {k : Nat} (h : hf_shp k = 8) : hf_c g M k = .inl (hf_cS g, hf_len k, .inr (.inr (.inr (.inr (fun i => (M.2.2 k i).map (hf_a g)))))) := by simp [hf_c, h]
theorem hf_cO (g : hf_G) (M : hf_M) {k c : Nat} (h : hf_shp k = c) (hc : c < 6) : hf_c g M k = .inr (c, hf_fs g M k c) := by
  subst h
  simp [hf_c, show hf_shp k ≠ 6 by omega, show hf_shp k ≠ 7 by omega, show hf_shp k ≠ 8 by omega]
theorem hf_fs_at (g : hf_G) (M : hf_M) (k : Nat) {c j : Nat} (h : j < hf_nf c) : (hf_fs g M k c)[j]? = some (hf_fv g M k c j) := by
  simp [hf_fs, List.getElem?_range h]
theorem hf_fs_len (g : hf_G) (M : hf_M) (k c : Nat) : (hf_fs g M k c).length = hf_nf c := by simp [hf_fs]
theorem hf_fs_set (g : hf_G) (M M' : hf_M) (k c : Nat) {j : Nat} (h : j < hf_nf c) (hne : ∀ i, i ≠ j → hf_fv g M' k c i = hf_fv g M k c i) : (hf_fs g M k c).set j (hf_fv g M' k c j) = hf_fs g M' k c := by
  apply List.ext_getElem?
  intro i
  by_cases hi : i < hf_nf c
  · rw [hf_fs_at g M' k hi]
    by_cases hij : i = j
    · subst hij
      rw [List.getElem?_set_self (by rw [hf_fs_len]; exact h)]
    · rw [List.getElem?_set_ne (Ne.symm hij), hf_fs_at g M k hi, hne i hij]
  · rw [List.getElem?_eq_none (by rw [List.length_set, hf_fs_len]; omega), List.getElem?_eq_none (by rw [hf_fs_len]; omega)]
theorem hf_fsI (g : hf_G) (M : hf_M) (k : Nat) {c j : Nat} (v : Int32) (h : j < hf_nf c) (hf : hf_fty c j = 0) : (hf_fs g M k c).set j (.int v) = hf_fs g (hf_sI M k j v) k c := by
  have e : hf_fv g (hf_sI M k j v) k c j = .int v := by simp [hf_fv, hf, hf_sI, hf_u]
  rw [← hf_fs_set g M (hf_sI M k j v) k c h (fun i hi => by simp [hf_fv, hf_sI, hf_u, hi]), e]
theorem hf_fsL (g : hf_G) (M : hf_M) (k : Nat) {c j : Nat} (v : Int64) (h : j < hf_nf c) (hf : hf_fty c j = 1) : (hf_fs g M k c).set j (.long v) = hf_fs g (hf_sL M k j v) k c := by
  have e : hf_fv g (hf_sL M k j v) k c j = .long v := by simp [hf_fv, hf, hf_sL, hf_u]
  rw [← hf_fs_set g M (hf_sL M k j v) k c h (fun i hi => by simp [hf_fv, hf_sL, hf_u, hi]), e]
theorem hf_fsR (g : hf_G) (M : hf_M) (k : Nat) {c j : Nat} (v : Option Nat) (h : j < hf_nf c) (hf : hf_fty c j = 2) : (hf_fs g M k c).set j (va_rf (v.map (hf_a g))) = hf_fs g (hf_sR M k j v) k c := by
  have e : hf_fv g (hf_sR M k j v) k c j = va_rf (v.map (hf_a g)) := by simp [hf_fv, hf, hf_sR, hf_u]
  rw [← hf_fs_set g M (hf_sR M k j v) k c h (fun i hi => by simp [hf_fv, hf_sR, hf_u, hi]), e]
theorem hf_A_old {g : hf_G} {k : Nat} (h : k < 69) : hf_A g (hf_a g k) := Or.inl ⟨k, h, rfl⟩
