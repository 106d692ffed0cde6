/-! the calculus: from a place of a method, with locals L, stack st and the world M, the machine comes to what sh says -/
def hf_T : List Cond := lw_tbl.filter goodWord
def hf_R (d : Nat) : Room := { frames := d, cells := 0, slots := 0, locals := 48 * d }
def hf_P (g : hf_G) (M : hf_M) (s : State) (H : Heap) (locs : List Loc) : Prop := va_P (hf_D g) vwCl (hf_w g M) H ∧ va_D (hf_A g) (hf_w g M) ∧ va_S (hf_A g) s.heap H locs ∧ hf_RT M
def hf_L (ls : Array Slot) (n : Nat) (L : List (Option Value)) : Prop := ls.size = n ∧ lv_wf ls ∧ ∀ (i : Nat) (v : Value), L[i]? = some (some v) → ls[i]? = some (.val v)
def hf_X (g : hf_G) (p : Program) (s : State) (m : MethodId) (args : Array Value) (meth : Method) (c : Code) (cc : ByteArray) (n : Nat) (own : String) (ret : Option FieldType) : Prop :=
  p.tables.exec = Jvm.exec ∧ c.code = cc ∧ c.maxLocals = n ∧ s.vm.findClass own = some m.cls ∧ (∀ w ∈ hf_T, w.before args s = true) ∧ meth.sig.returnType = ret ∧ meth.locks = false ∧ va_K (hf_D g) vwCl (hf_ty g) s ∧ hf_S g s s.heap ∧ hf_s0 g ≤ s.heap.size
def hf_W {α : Type} (g : hf_G) (p : Program) (l : Launch) (e : Env) (d : Nat) (s : State) (m : MethodId) (args : Array Value) (below : List Frame) (meth : Method) (c : Code) (n : Nat) (Qf : α → hf_M → State → Prop) (M : hf_M) (pc : Nat) (L : List (Option Value)) (st : List Value) (sh : Option (α × hf_M)) : Prop :=
  ∀ (r : α) (M' : hf_M), sh = some (r, M') → ∀ (H : Heap) (locs : List Loc) (ls : Array Slot), hf_P g M s H locs → hf_L ls n L → W p l e (hf_R d) s m args below meth c H locs 0 0 (Qf r M') (F0 m pc ls st)
/-- reads that may be out of a row -/
def hf_in (i : Int32) (n : Nat) : Prop := ¬ (i < 0 ∨ n ≤ i.toNatClampNeg)
def hf_ix {β : Type} (i : Int32) (n : Nat) (k : Nat → Option β) : Option β := if i < 0 ∨ n ≤ i.toNatClampNeg then none else k i.toNatClampNeg
def hf_rf {β : Type} (r : Option Nat) (k : Nat → Option β) : Option β := match r with | none => none | some t => k t
/-- a divisor that isn't 0 -/
def hf_nz {β : Type} (y : Int32) (k : Option β) : Option β := if y = 0 then none else k
def hf_ldI {β : Type} (M : hf_M) (q : Nat) (i : Int32) (k : Int32 → Option β) : Option β := hf_ix i (hf_len q) (fun z => k (M.1 q z))
def hf_ldL {β : Type} (M : hf_M) (q : Nat) (i : Int32) (k : Int64 → Option β) : Option β := hf_ix i (hf_len q) (fun z => k (M.2.1 q z))
def hf_ldR {β : Type} (M : hf_M) (q : Nat) (i : Int32) (k : Nat → Option β) : Option β := hf_ix i (hf_len q) (fun z => hf_rf (M.2.2 q z) k)
def hf_stI {β : Type} (M : hf_M) (q : Nat) (i v : Int32) (k : hf_M → Option β) : Option β := hf_ix i (hf_len q) (fun z => k (hf_sI M q z v))
def hf_stL {β : Type} (M : hf_M) (q : Nat) (i : Int32) (v : Int64) (k : hf_M → Option β) : Option β := hf_ix i (hf_len q) (fun z => k (hf_sL M q z v))
def hf_ldAB {β : Type} (i : Int32) (k : Int32 → Option β) : Option β := hf_ix i 7 (fun z => k (hf_AB z))
def hf_ldSO {β : Type} (i : Int32) (k : Int64 → Option β) : Option β := hf_ix i 6 (fun z => k (hf_SO z))
def hf_ldBO {β : Type} (i : Int32) (k : Int32 → Option β) : Option β := hf_ix i 21 (fun z => k (hf_BO z))
def hf_pt {β : Type} (M : hf_M) (k : hf_M → Option β) : Option β := k M
def hf_bd {α β : Type} (c : Option (α × hf_M)) (k : α → hf_M → Option β) : Option β := match c with | none => none | some q => k q.1 q.2
theorem hf_mem {w : Cond} (h : w ∈ lw_tbl) (hg : goodWord w = true) : w ∈ hf_T := List.mem_filter.mpr ⟨h, hg⟩
theorem hf_good {w : Cond} (h : w ∈ hf_T) : w ∈ hf_T ∧ ((w.onTables && w.keeps) = true ∨ ∃ ty, w = .arrayClass ty) := ⟨h, good_of_word (List.mem_filter.mp h).2⟩
theorem hf_t1 {w : Cond} (h : w ∈ tables_1) (hg : goodWord w = true) : w ∈ hf_T := hf_mem (List.mem_append_right _ h) hg
theorem hf_c1 {w : Cond} (i : Nat) (h : tables_1_1[i]? = some w) (hg : goodWord w = true) : w ∈ hf_T := hf_t1 (List.mem_append_left _ (List.mem_of_getElem? h)) hg
theorem hf_c2 {w : Cond} (i : Nat) (h : tables_1_2[i]? = some w) (hg : goodWord w = true) : w ∈ hf_T := hf_t1 (List.mem_append_right _ (List.mem_append_left _ (List.mem_of_getElem? h))) hg
theorem hf_c3 {w : Cond} (i : Nat) (h : tables_1_3[i]? = some w) (hg : goodWord w = true) : w ∈ hf_T := hf_t1 (List.mem_append_right _ (List.mem_append_right _ (List.mem_append_left _ (List.mem_of_getElem? h)))) hg
theorem hf_c4 {w : Cond} (i : Nat) (h : tables_1_4[i]? = some w) (hg : goodWord w = true) : w ∈ hf_T := hf_t1 (List.mem_append_right _ (List.mem_append_right _ (List.mem_append_right _ (List.mem_append_left _ (List.mem_of_getElem? h))))) hg
theorem hf_c5 {w : Cond} (i : Nat) (h : tables_1_5[i]? = some w) (hg : goodWord w = true) : w ∈ hf_T := hf_t1 (List.mem_append_right _ (List.mem_append_right _ (List.mem_append_right _ (List.mem_append_right _ (List.mem_append_left _ (List.mem_of_getElem? h)))))) hg
theorem hf_c6x {w : Cond} (i : Nat) (h : tables_1_6[i]? = some w) (hg : goodWord w = true) : w ∈ hf_T := hf_t1 (List.mem_append_right _ (List.mem_append_right _ (List.mem_append_right _ (List.mem_append_right _ (List.mem_append_right _ (List.mem_of_getElem? h)))))) hg
theorem hf_cp {q : MethodName × Nat} (h : q ∈ lw_privs) : Cond.selects q.1.cls q.1 q.1 ∈ hf_T := hf_mem (List.mem_append_left _ (List.mem_map.mpr ⟨q, h, rfl⟩)) rfl
/-- locals -/
def hf_ok1 (L : List (Option Value)) (i : Nat) : Bool := match i with | 0 => true | j + 1 => match L[j]? with | some (some v) => v.category == 1 | _ => true
def hf_lv : List (Option Value) → Nat → List (Nat × Value)
  | [], _ => []
  | none :: L, i => hf_lv L (i + 1)
  | some v :: L, i => (i, v) :: hf_lv L (i + 1)
theorem hf_lv_mem : ∀ (L : List (Option Value)) (i j : Nat) (v : Value), (j, v) ∈ hf_lv L i ↔ i ≤ j ∧ L[j - i]? = some (some v)
  | [], i, j, v => by simp [hf_lv]
  | none :: L, i, j, v => by
    rw [hf_lv, hf_lv_mem L (i + 1) j v]
    constructor
    · rintro ⟨h1, h2⟩
      refine ⟨by omega, ?_⟩
      rw [show j - i = (j - (i + 1)) + 1 by omega, List.getElem?_cons_succ]
      exact h2
    · rintro ⟨h1, h2⟩
      have hne : j ≠ i := fun e => by subst e; simp at h2
      refine ⟨by omega, ?_⟩
      rw [show j - i = (j - (i + 1)) + 1 by omega, List.getElem?_cons_succ] at h2
      exact h2
  | some w :: L, i, j, v => by
    rw [hf_lv, List.mem_cons, hf_lv_mem L (i + 1) j v]
    constructor
    · rintro (h | ⟨h1, h2⟩)
      · cases h
        simp
      · refine ⟨by omega, ?_⟩
        rw [show j - i = (j - (i + 1)) + 1 by omega, List.getElem?_cons_succ]
        exact h2
    · rintro ⟨h1, h2⟩
      by_cases hne : j = i
      · subst hne
        simp at h2
        subst h2
        exact Or.inl rfl
      · refine Or.inr ⟨by omega, ?_⟩
        rw [show j - i = (j - (i + 1)) + 1 by omega, List.getElem?_cons_succ] at h2
        exact h2
theorem hf_lv_has {ls : Array Slot} {n : Nat} {L : List (Option Value)} (h : hf_L ls n L) : lv_has ls n (hf_lv L 0) :=
  ⟨h.1, h.2.1, fun q hq => h.2.2 q.1 q.2 (by have := (hf_lv_mem L 0 q.1 q.2).mp hq; simpa using this.2)⟩
theorem hf_L_of1 {ls : Array Slot} {n : Nat} {L : List (Option Value)} {i : Nat} {v : Value} (hk : hf_ok1 L i = true) (h : lv_has ls n ((i, v) :: (hf_lv L 0).filter (fun q => !(q.1 == i) && !(q.1 + 1 == i && q.2.category == 2)))) : hf_L ls n (L.set i (some v)) := by
  refine ⟨h.1, h.2.1, fun j w hj => ?_⟩
  by_cases hji : j = i
  · subst hji
    have hlt : j < L.length := by
      have := (List.getElem?_eq_some_iff.mp hj).1
      rwa [List.length_set] at this
    rw [List.getElem?_set_self hlt] at hj
    cases hj
    exact h.2.2 _ List.mem_cons_self
  · rw [List.getElem?_set_ne (Ne.symm hji)] at hj
    refine h.2.2 (j, w) (List.mem_cons_of_mem _ (List.mem_filter.mpr ⟨(hf_lv_mem L 0 j w).mpr ⟨Nat.zero_le _, by simpa using hj⟩, ?_⟩))
    have h2 : ¬ (j + 1 = i ∧ w.category = 2) := by
      rintro ⟨e, h2⟩
      subst e
      simp [hf_ok1, hj, h2] at hk
    simp only [hji, beq_iff_eq, Bool.and_eq_true, Bool.not_eq_true', beq_eq_false_iff_ne, ne_eq, not_false_eq_true, true_and, Bool.and_eq_false_iff]
    exact Decidable.not_and_iff_or_not.mp h2
theorem hf_L_of2 {ls : Array Slot} {n : Nat} {L : List (Option Value)} {i : Nat} {v : Value} (hk : hf_ok1 L i = true) (h : lv_has ls n ((i, v) :: (hf_lv L 0).filter (fun q => !(q.1 == i) && (!(q.1 == i + 1) && !(q.1 + 1 == i && q.2.category == 2))))) : hf_L ls n ((L.set i (some v)).set (i + 1) none) := by
  refine ⟨h.1, h.2.1, fun j w hj => ?_⟩
  by_cases hj1 : j = i + 1
  · subst hj1
    by_cases hlt : i + 1 < L.length
    · rw [List.getElem?_set_self (by rw [List.length_set]; exact hlt)] at hj
      cases hj
    · rw [List.getElem?_eq_none (by rw [List.length_set, List.length_set]; omega)] at hj
      cases hj
  · rw [List.getElem?_set_ne (Ne.symm hj1)] at hj
    by_cases hji : j = i
    · subst hji
      have hlt : j < L.length := by
        have := (List.getElem?_eq_some_iff.mp hj).1
        rwa [List.length_set] at this
      rw [List.getElem?_set_self hlt] at hj
      cases hj
      exact h.2.2 _ List.mem_cons_self
    · rw [List.getElem?_set_ne (Ne.symm hji)] at hj
      refine h.2.2 (j, w) (List.mem_cons_of_mem _ (List.mem_filter.mpr ⟨(hf_lv_mem L 0 j w).mpr ⟨Nat.zero_le _, by simpa using hj⟩, ?_⟩))
      have h2 : ¬ (j + 1 = i ∧ w.category = 2) := by
        rintro ⟨e, h2⟩
        subst e
        simp [hf_ok1, hj, h2] at hk
      simp only [hji, hj1, beq_iff_eq, Bool.and_eq_true, Bool.not_eq_true', beq_eq_false_iff_ne, ne_eq, not_false_eq_true, true_and, Bool.and_eq_false_iff]
      exact Decidable.not_and_iff_or_not.mp h2
section HF
variable {α β : Type} {g : hf_G} {p : Program} {l : Launch} {e : Env} {d : Nat} {s : State} {m : MethodId} {args : Array Value} {below : List Frame} {meth : Method} {c : Code} {n : Nat} {Qf : α → hf_M → State → Prop} {M : hf_M} {pc : Nat} {L : List (Option Value)} {st : List Value} {sh : Option (α × hf_M)} {cc : ByteArray} {own : String} {ret : Option FieldType}

theorem hr_iadd (X : hf_X g p s m args meth c cc n own ret) {x y : Int32} (hd : decode cc pc = .ok (.iadd, 1))  (k : hf_W g p l e d s m args below meth c n Qf M (pc + 1) L (.int (x + y) :: st) sh) : hf_W g p l e d s m args below meth c n Qf M (pc) L (.int y :: .int x :: st) sh := fun r M' e H locs ls hP hL => lv_iadd X.1 X.2.1 hd (k r M' e H locs ls hP hL)
theorem hr_isub (X : hf_X g p s m args meth c cc n own ret) {x y : Int32} (hd : decode cc pc = .ok (.isub, 1))  (k : hf_W g p l e d s m args below meth c n Qf M (pc + 1) L (.int (x - y) :: st) sh) : hf_W g p l e d s m args below meth c n Qf M (pc) L (.int y :: .int x :: st) sh := fun r M' e H locs ls hP hL => lv_isub X.1 X.2.1 hd (k r M' e H locs ls hP hL)
theorem hr_imul (X : hf_X g p s m args meth c cc n own ret) {x y : Int32} (hd : decode cc pc = .ok (.imul, 1))  (k : hf_W g p l e d s m args below meth c n Qf M (pc + 1) L (.int (x * y) :: st) sh) : hf_W g p l e d s m args below meth c n Qf M (pc) L (.int y :: .int x :: st) sh := fun r M' e H locs ls hP hL => lv_imul X.1 X.2.1 hd (k r M' e H locs ls hP hL)
theorem hr_iand (X : hf_X g p s m args meth c cc n own ret) {x y : Int32} (hd : decode cc pc = .ok (.iand, 1))  (k : hf_W g p l e d s m args below meth c n Qf M (pc + 1) L (.int (x &&& y) :: st) sh) : hf_W g p l e d s m args below meth c n Qf M (pc) L (.int y :: .int x :: st) sh := fun r M' e H locs ls hP hL => lv_iand X.1 X.2.1 hd (k r M' e H locs ls hP hL)
theorem hr_ior (X : hf_X g p s m args meth c cc n own ret) {x y : Int32} (hd : decode cc pc = .ok (.ior, 1))  (k : hf_W g p l e d s m args below meth c n Qf M (pc + 1) L (.int (x ||| y) :: st) sh) : hf_W g p l e d s m args below meth c n Qf M (pc) L (.int y :: .int x :: st) sh := fun r M' e H locs ls hP hL => lv_ior X.1 X.2.1 hd (k r M' e H locs ls hP hL)
theorem hr_ixor (X : hf_X g p s m args meth c cc n own ret) {x y : Int32} (hd : decode cc pc = .ok (.ixor, 1))  (k : hf_W g p l e d s m args below meth c n Qf M (pc + 1) L (.int (x ^^^ y) :: st) sh) : hf_W g p l e d s m args below meth c n Qf M (pc) L (.int y :: .int x :: st) sh := fun r M' e H locs ls hP hL => lv_ixor X.1 X.2.1 hd (k r M' e H locs ls hP hL)
theorem hr_ladd (X : hf_X g p s m args meth c cc n own ret) {x y : Int64} (hd : decode cc pc = .ok (.ladd, 1))  (k : hf_W g p l e d s m args below meth c n Qf M (pc + 1) L (.long (x + y) :: st) sh) : hf_W g p l e d s m args below meth c n Qf M (pc) L (.long y :: .long x :: st) sh := fun r M' e H locs ls hP hL => lv_ladd X.1 X.2.1 hd (k r M' e H locs ls hP hL)
theorem hr_lsub (X : hf_X g p s m args meth c cc n own ret) {x y : Int64} (hd : decode cc pc = .ok (.lsub, 1))  (k : hf_W g p l e d s m args below meth c n Qf M (pc + 1) L (.long (x - y) :: st) sh) : hf_W g p l e d s m args below meth c n Qf M (pc) L (.long y :: .long x :: st) sh := fun r M' e H locs ls hP hL => lv_lsub X.1 X.2.1 hd (k r M' e H locs ls hP hL)
theorem hr_land (X : hf_X g p s m args meth c cc n own ret) {x y : Int64} (hd : decode cc pc = .ok (.land, 1))  (k : hf_W g p l e d s m args below meth c n Qf M (pc + 1) L (.long (x &&& y) :: st) sh) : hf_W g p l e d s m args below meth c n Qf M (pc) L (.long y :: .long x :: st) sh := fun r M' e H locs ls hP hL => lv_land X.1 X.2.1 hd (k r M' e H locs ls hP hL)
theorem hr_lor (X : hf_X g p s m args meth c cc n own ret) {x y : Int64} (hd : decode cc pc = .ok (.lor, 1))  (k : hf_W g p l e d s m args below meth c n Qf M (pc + 1) L (.long (x ||| y) :: st) sh) : hf_W g p l e d s m args below meth c n Qf M (pc) L (.long y :: .long x :: st) sh := fun r M' e H locs ls hP hL => lv_lor X.1 X.2.1 hd (k r M' e H locs ls hP hL)
theorem hr_lxor (X : hf_X g p s m args meth c cc n own ret) {x y : Int64} (hd : decode cc pc = .ok (.lxor, 1))  (k : hf_W g p l e d s m args below meth c n Qf M (pc + 1) L (.long (x ^^^ y) :: st) sh) : hf_W g p l e d s m args below meth c n Qf M (pc) L (.long y :: .long x :: st) sh := fun r M' e H locs ls hP hL => lv_lxor X.1 X.2.1 hd (k r M' e H locs ls hP hL)
-- shifts as the rows have them
def hn_ishl (x y : Int32) : Int32 := x <<< (y &&& 31)
def hn_ishr (x y : Int32) : Int32 := x >>> (y &&& 31)
def hn_iushr (x y : Int32) : Int32 := (x.toUInt32 >>> (y.toUInt32 &&& Int32.toUInt32 31)).toInt32
def hn_lushr (x : Int64) (y : Int32) : Int64 := (x.toUInt64 >>> (y.toInt64.toUInt64 &&& Int64.toUInt64 63)).toInt64
def hn_lshl (x : Int64) (y : Int32) : Int64 := x <<< (y.toInt64 &&& 63)
def hn_lshr (x : Int64) (y : Int32) : Int64 := x >>> (y.toInt64 &&& 63)
def hn_irem (x y : Int32) : Int32 := x - x / y * y
def hn_i2b (x : Int32) : Int32 := x.toInt8.toInt32
def hn_i2s (x : Int32) : Int32 := x.toInt16.toInt32
def hn_max (x y : Int32) : Int32 := if x < y then y else x
def hn_min (x y : Int32) : Int32 := if y < x then y else x
theorem hr_ishl (X : hf_X g p s m args meth c cc n own ret) {x y : Int32} (hd : decode cc pc = .ok (.ishl, 1))  (k : hf_W g p l e d s m args below meth c n Qf M (pc + 1) L (.int (hn_ishl x y) :: st) sh) : hf_W g p l e d s m args below meth c n Qf M (pc) L (.int y :: .int x :: st) sh := fun r M' e H locs ls hP hL => lv_ishl X.1 X.2.1 hd (k r M' e H locs ls hP hL)
theorem hr_ishr (X : hf_X g p s m args meth c cc n own ret) {x y : Int32} (hd : decode cc pc = .ok (.ishr, 1))  (k : hf_W g p l e d s m args below meth c n Qf M (pc + 1) L (.int (hn_ishr x y) :: st) sh) : hf_W g p l e d s m args below meth c n Qf M (pc) L (.int y :: .int x :: st) sh := fun r M' e H locs ls hP hL => lv_ishr X.1 X.2.1 hd (k r M' e H locs ls hP hL)
theorem hr_iushr (X : hf_X g p s m args meth c cc n own ret) {x y : Int32} (hd : decode cc pc = .ok (.iushr, 1))  (k : hf_W g p l e d s m args below meth c n Qf M (pc + 1) L (.int (hn_iushr x y) :: st) sh) : hf_W g p l e d s m args below meth c n Qf M (pc) L (.int y :: .int x :: st) sh := fun r M' e H locs ls hP hL => lv_iushr X.1 X.2.1 hd rfl (k r M' e H locs ls hP hL)
theorem hr_lushr (X : hf_X g p s m args meth c cc n own ret) {x : Int64} {y : Int32} (hd : decode cc pc = .ok (.lushr, 1))  (k : hf_W g p l e d s m args below meth c n Qf M (pc + 1) L (.long (hn_lushr x y) :: st) sh) : hf_W g p l e d s m args below meth c n Qf M (pc) L (.int y :: .long x :: st) sh := fun r M' e H locs ls hP hL => lv_lushr X.1 X.2.1 hd rfl (k r M' e H locs ls hP hL)
theorem hr_lshl (X : hf_X g p s m args meth c cc n own ret) {x : Int64} {y : Int32} (hd : decode cc pc = .ok (.lshl, 1))  (k : hf_W g p l e d s m args below meth c n Qf M (pc + 1) L (.long (hn_lshl x y) :: st) sh) : hf_W g p l e d s m args below meth c n Qf M (pc) L (.int y :: .long x :: st) sh := fun r M' e H locs ls hP hL => lv_lshl X.1 X.2.1 hd rfl (k r M' e H locs ls hP hL)
theorem hr_lshr (X : hf_X g p s m args meth c cc n own ret) {x : Int64} {y : Int32} (hd : decode cc pc = .ok (.lshr, 1))  (k : hf_W g p l e d s m args below meth c n Qf M (pc + 1) L (.long (hn_lshr x y) :: st) sh) : hf_W g p l e d s m args below meth c n Qf M (pc) L (.int y :: .long x :: st) sh := fun r M' e H locs ls hP hL => lv_lshr X.1 X.2.1 hd rfl (k r M' e H locs ls hP hL)
theorem hr_ineg (X : hf_X g p s m args meth c cc n own ret) {x : Int32} (hd : decode cc pc = .ok (.ineg, 1))  (k : hf_W g p l e d s m args below meth c n Qf M (pc + 1) L (.int (-x) :: st) sh) : hf_W g p l e d s m args below meth c n Qf M (pc) L (.int x :: st) sh := fun r M' e H locs ls hP hL => lv_ineg X.1 X.2.1 hd (k r M' e H locs ls hP hL)
theorem hr_lcmp (X : hf_X g p s m args meth c cc n own ret) {x y : Int64} (hd : decode cc pc = .ok (.lcmp, 1))  (k : hf_W g p l e d s m args below meth c n Qf M (pc + 1) L (.int (lg_cmp x y) :: st) sh) : hf_W g p l e d s m args below meth c n Qf M (pc) L (.long y :: .long x :: st) sh := fun r M' e H locs ls hP hL => W.lcmp X.1 X.2.1 hd (k r M' e H locs ls hP hL)
theorem hr_i2l (X : hf_X g p s m args meth c cc n own ret) {x : Int32} (hd : decode cc pc = .ok (.i2l, 1))  (k : hf_W g p l e d s m args below meth c n Qf M (pc + 1) L (.long x.toInt64 :: st) sh) : hf_W g p l e d s m args below meth c n Qf M (pc) L (.int x :: st) sh := fun r M' e H locs ls hP hL => lv_i2l X.1 X.2.1 hd rfl (k r M' e H locs ls hP hL)
theorem hr_l2i (X : hf_X g p s m args meth c cc n own ret) {x : Int64} (hd : decode cc pc = .ok (.l2i, 1))  (k : hf_W g p l e d s m args below meth c n Qf M (pc + 1) L (.int x.toInt32 :: st) sh) : hf_W g p l e d s m args below meth c n Qf M (pc) L (.long x :: st) sh := fun r M' e H locs ls hP hL => lv_l2i X.1 X.2.1 hd rfl (k r M' e H locs ls hP hL)
theorem hr_i2b (X : hf_X g p s m args meth c cc n own ret) {x : Int32} (hd : decode cc pc = .ok (.i2b, 1))  (k : hf_W g p l e d s m args below meth c n Qf M (pc + 1) L (.int (hn_i2b x) :: st) sh) : hf_W g p l e d s m args below meth c n Qf M (pc) L (.int x :: st) sh := fun r M' e H locs ls hP hL => lv_i2b X.1 X.2.1 hd rfl (k r M' e H locs ls hP hL)
theorem hr_i2s (X : hf_X g p s m args meth c cc n own ret) {x : Int32} (hd : decode cc pc = .ok (.i2s, 1))  (k : hf_W g p l e d s m args below meth c n Qf M (pc + 1) L (.int (hn_i2s x) :: st) sh) : hf_W g p l e d s m args below meth c n Qf M (pc) L (.int x :: st) sh := fun r M' e H locs ls hP hL => lv_i2s X.1 X.2.1 hd rfl (k r M' e H locs ls hP hL)
theorem hr_dup (X : hf_X g p s m args meth c cc n own ret) {va : Value} (hd : decode cc pc = .ok (.dup, 1)) (hva : va.category = 1) (k : hf_W g p l e d s m args below meth c n Qf M (pc + 1) L (va :: va :: st) sh) : hf_W g p l e d s m args below meth c n Qf M (pc) L (va :: st) sh := fun r M' e H locs ls hP hL => lv_dup X.1 X.2.1 hd hva (k r M' e H locs ls hP hL)
theorem hr_pop (X : hf_X g p s m args meth c cc n own ret) {va : Value} (hd : decode cc pc = .ok (.pop, 1)) (hva : va.category = 1) (k : hf_W g p l e d s m args below meth c n Qf M (pc + 1) L (st) sh) : hf_W g p l e d s m args below meth c n Qf M (pc) L (va :: st) sh := fun r M' e H locs ls hP hL => lv_pop X.1 X.2.1 hd hva (k r M' e H locs ls hP hL)
theorem hr_dup_x1 (X : hf_X g p s m args meth c cc n own ret) {va vb : Value} (hd : decode cc pc = .ok (.dup_x1, 1)) (hva : va.category = 1) (hvb : vb.category = 1) (k : hf_W g p l e d s m args below meth c n Qf M (pc + 1) L (va :: vb :: va :: st) sh) : hf_W g p l e d s m args below meth c n Qf M (pc) L (va :: vb :: st) sh := fun r M' e H locs ls hP hL => lv_dup_x1 X.1 X.2.1 hd hva hvb (k r M' e H locs ls hP hL)
theorem hr_dup2 (X : hf_X g p s m args meth c cc n own ret) {va vb : Value} (hd : decode cc pc = .ok (.dup2, 1)) (hva : va.category = 1) (hvb : vb.category = 1) (k : hf_W g p l e d s m args below meth c n Qf M (pc + 1) L (va :: vb :: va :: vb :: st) sh) : hf_W g p l e d s m args below meth c n Qf M (pc) L (va :: vb :: st) sh := fun r M' e H locs ls hP hL => lv_dup2_11 X.1 X.2.1 hd hva hvb (k r M' e H locs ls hP hL)
theorem hr_iconst (X : hf_X g p s m args meth c cc n own ret) {z : Int} (v : Int32) (hd : decode cc pc = .ok (.iconst z, 1)) (hv : Int32.ofInt z = v) (k : hf_W g p l e d s m args below meth c n Qf M (pc + 1) L (.int v :: st) sh) : hf_W g p l e d s m args below meth c n Qf M (pc) L (st) sh := fun r M' e H locs ls hP hL => lv_iconst X.1 X.2.1 hd hv (k r M' e H locs ls hP hL)
theorem hr_bipush (X : hf_X g p s m args meth c cc n own ret) {z : Int} (v : Int32) (hd : decode cc pc = .ok (.bipush z, 2)) (hv : (Int8.ofInt z).toInt32 = v) (k : hf_W g p l e d s m args below meth c n Qf M (pc + 2) L (.int v :: st) sh) : hf_W g p l e d s m args below meth c n Qf M (pc) L (st) sh := fun r M' e H locs ls hP hL => lv_bipush X.1 X.2.1 hd hv (k r M' e H locs ls hP hL)
theorem hr_sipush (X : hf_X g p s m args meth c cc n own ret) {z : Int} (v : Int32) (hd : decode cc pc = .ok (.sipush z, 3)) (hv : (Int16.ofInt z).toInt32 = v) (k : hf_W g p l e d s m args below meth c n Qf M (pc + 3) L (.int v :: st) sh) : hf_W g p l e d s m args below meth c n Qf M (pc) L (st) sh := fun r M' e H locs ls hP hL => lv_sipush X.1 X.2.1 hd hv (k r M' e H locs ls hP hL)
theorem hr_lconst (X : hf_X g p s m args meth c cc n own ret) {z : Fin 2} (v : Int64) (hd : decode cc pc = .ok (.lconst z, 1)) (hv : Int64.ofNat (z : Nat) = v) (k : hf_W g p l e d s m args below meth c n Qf M (pc + 1) L (.long v :: st) sh) : hf_W g p l e d s m args below meth c n Qf M (pc) L (st) sh := fun r M' e H locs ls hP hL => lv_lconst X.1 X.2.1 hd hv (k r M' e H locs ls hP hL)
theorem hr_ldc (X : hf_X g p s m args meth c cc n own ret) {z : Nat} {v : Int32} (hd : decode cc pc = .ok (.ldc z, 2)) (hw : Cond.constant own z v ∈ hf_T) (k : hf_W g p l e d s m args below meth c n Qf M (pc + 2) L (.int v :: st) sh) : hf_W g p l e d s m args below meth c n Qf M (pc) L (st) sh := fun r M' e H locs ls hP hL => lv_ldc X.1 X.2.1 X.2.2.2.1 (X.2.2.2.2.1 _ hw) hd (k r M' e H locs ls hP hL)
theorem hr_ldc_w (X : hf_X g p s m args meth c cc n own ret) {z : Nat} {v : Int32} (hd : decode cc pc = .ok (.ldc_w z, 3)) (hw : Cond.constant own z v ∈ hf_T) (k : hf_W g p l e d s m args below meth c n Qf M (pc + 3) L (.int v :: st) sh) : hf_W g p l e d s m args below meth c n Qf M (pc) L (st) sh := fun r M' e H locs ls hP hL => lv_ldcw X.1 X.2.1 X.2.2.2.1 (X.2.2.2.2.1 _ hw) hd (k r M' e H locs ls hP hL)
theorem hr_ldc2 (X : hf_X g p s m args meth c cc n own ret) {z : Nat} {v : Int64} (hd : decode cc pc = .ok (.ldc2_w z, 3)) (hw : Cond.constantLong own z v ∈ hf_T) (k : hf_W g p l e d s m args below meth c n Qf M (pc + 3) L (.long v :: st) sh) : hf_W g p l e d s m args below meth c n Qf M (pc) L (st) sh := fun r M' e H locs ls hP hL => lv_ldc2 X.1 X.2.1 X.2.2.2.1 (X.2.2.2.2.1 _ hw) hd (k r M' e H locs ls hP hL)
theorem hr_iload (X : hf_X g p s m args meth c cc n own ret) {z : Nat} {x : Int32} (hd : decode cc pc = .ok (.iload z, 2)) (hl : L[(z : Nat)]? = some (some (.int x))) (k : hf_W g p l e d s m args below meth c n Qf M (pc + 2) L (.int x :: st) sh) : hf_W g p l e d s m args below meth c n Qf M (pc) L (st) sh := fun r M' e H locs ls hP hL => lv_iload X.1 X.2.1 hd (hL.2.2 _ _ hl) (k r M' e H locs ls hP hL)
theorem hr_iload_n (X : hf_X g p s m args meth c cc n own ret) {z : Fin 4} {x : Int32} (hd : decode cc pc = .ok (.iload_n z, 1)) (hl : L[(z : Nat)]? = some (some (.int x))) (k : hf_W g p l e d s m args below meth c n Qf M (pc + 1) L (.int x :: st) sh) : hf_W g p l e d s m args below meth c n Qf M (pc) L (st) sh := fun r M' e H locs ls hP hL => lv_iload_n X.1 X.2.1 hd rfl (hL.2.2 _ _ hl) (k r M' e H locs ls hP hL)
theorem hr_lload (X : hf_X g p s m args meth c cc n own ret) {z : Nat} {x : Int64} (hd : decode cc pc = .ok (.lload z, 2)) (hl : L[(z : Nat)]? = some (some (.long x))) (k : hf_W g p l e d s m args below meth c n Qf M (pc + 2) L (.long x :: st) sh) : hf_W g p l e d s m args below meth c n Qf M (pc) L (st) sh := fun r M' e H locs ls hP hL => lv_lload X.1 X.2.1 hd (hL.2.2 _ _ hl) (k r M' e H locs ls hP hL)
theorem hr_lload_n (X : hf_X g p s m args meth c cc n own ret) {z : Fin 4} {x : Int64} (hd : decode cc pc = .ok (.lload_n z, 1)) (hl : L[(z : Nat)]? = some (some (.long x))) (k : hf_W g p l e d s m args below meth c n Qf M (pc + 1) L (.long x :: st) sh) : hf_W g p l e d s m args below meth c n Qf M (pc) L (st) sh := fun r M' e H locs ls hP hL => lv_lload_n X.1 X.2.1 hd rfl (hL.2.2 _ _ hl) (k r M' e H locs ls hP hL)
theorem hr_aload (X : hf_X g p s m args meth c cc n own ret) {z : Nat} {x : Nat} (hd : decode cc pc = .ok (.aload z, 2)) (hl : L[(z : Nat)]? = some (some (.ref x))) (k : hf_W g p l e d s m args below meth c n Qf M (pc + 2) L (.ref x :: st) sh) : hf_W g p l e d s m args below meth c n Qf M (pc) L (st) sh := fun r M' e H locs ls hP hL => lv_aload X.1 X.2.1 hd (hL.2.2 _ _ hl) (k r M' e H locs ls hP hL)
theorem hr_aload_n (X : hf_X g p s m args meth c cc n own ret) {z : Fin 4} {x : Nat} (hd : decode cc pc = .ok (.aload_n z, 1)) (hl : L[(z : Nat)]? = some (some (.ref x))) (k : hf_W g p l e d s m args below meth c n Qf M (pc + 1) L (.ref x :: st) sh) : hf_W g p l e d s m args below meth c n Qf M (pc) L (st) sh := fun r M' e H locs ls hP hL => lv_aload_n X.1 X.2.1 hd rfl (hL.2.2 _ _ hl) (k r M' e H locs ls hP hL)
theorem hr_istore (X : hf_X g p s m args meth c cc n own ret) {z : Nat} {x : Int32} (hd : decode cc pc = .ok (.istore z, 2)) (hn : (z : Nat) < n) (hk : hf_ok1 L (z : Nat) = true) (k : hf_W g p l e d s m args below meth c n Qf M (pc + 2) (L.set (z : Nat) (some (.int x))) (st) sh) : hf_W g p l e d s m args below meth c n Qf M (pc) L (.int x :: st) sh := fun r M' e H locs ls hP hL => lv_istore X.1 X.2.1 hd (hf_lv_has hL) hn rfl (fun ls' hl => k r M' e H locs ls' hP (hf_L_of1 hk hl))
theorem hr_istore_n (X : hf_X g p s m args meth c cc n own ret) {z : Fin 4} {x : Int32} (hd : decode cc pc = .ok (.istore_n z, 1)) (hn : (z : Nat) < n) (hk : hf_ok1 L (z : Nat) = true) (k : hf_W g p l e d s m args below meth c n Qf M (pc + 1) (L.set (z : Nat) (some (.int x))) (st) sh) : hf_W g p l e d s m args below meth c n Qf M (pc) L (.int x :: st) sh := fun r M' e H locs ls hP hL => lv_istore_n X.1 X.2.1 hd rfl (hf_lv_has hL) hn rfl (fun ls' hl => k r M' e H locs ls' hP (hf_L_of1 hk hl))
theorem hr_lstore (X : hf_X g p s m args meth c cc n own ret) {z : Nat} {x : Int64} (hd : decode cc pc = .ok (.lstore z, 2)) (hn : (z : Nat) + 1 < n) (hk : hf_ok1 L (z : Nat) = true) (k : hf_W g p l e d s m args below meth c n Qf M (pc + 2) ((L.set (z : Nat) (some (.long x))).set ((z : Nat) + 1) none) (st) sh) : hf_W g p l e d s m args below meth c n Qf M (pc) L (.long x :: st) sh := fun r M' e H locs ls hP hL => lv_lstore X.1 X.2.1 hd (hf_lv_has hL) hn rfl (fun ls' hl => k r M' e H locs ls' hP (hf_L_of2 hk hl))
theorem hr_lstore_n (X : hf_X g p s m args meth c cc n own ret) {z : Fin 4} {x : Int64} (hd : decode cc pc = .ok (.lstore_n z, 1)) (hn : (z : Nat) + 1 < n) (hk : hf_ok1 L (z : Nat) = true) (k : hf_W g p l e d s m args below meth c n Qf M (pc + 1) ((L.set (z : Nat) (some (.long x))).set ((z : Nat) + 1) none) (st) sh) : hf_W g p l e d s m args below meth c n Qf M (pc) L (.long x :: st) sh := fun r M' e H locs ls hP hL => lv_lstore_n X.1 X.2.1 hd rfl (hf_lv_has hL) hn rfl (fun ls' hl => k r M' e H locs ls' hP (hf_L_of2 hk hl))
theorem hr_astore (X : hf_X g p s m args meth c cc n own ret) {z : Nat} {x : Nat} (hd : decode cc pc = .ok (.astore z, 2)) (hn : (z : Nat) < n) (hk : hf_ok1 L (z : Nat) = true) (k : hf_W g p l e d s m args below meth c n Qf M (pc + 2) (L.set (z : Nat) (some (.ref x))) (st) sh) : hf_W g p l e d s m args below meth c n Qf M (pc) L (.ref x :: st) sh := fun r M' e H locs ls hP hL => lv_astore X.1 X.2.1 hd (hf_lv_has hL) hn rfl (fun ls' hl => k r M' e H locs ls' hP (hf_L_of1 hk hl))
theorem hr_astore_n (X : hf_X g p s m args meth c cc n own ret) {z : Fin 4} {x : Nat} (hd : decode cc pc = .ok (.astore_n z, 1)) (hn : (z : Nat) < n) (hk : hf_ok1 L (z : Nat) = true) (k : hf_W g p l e d s m args below meth c n Qf M (pc + 1) (L.set (z : Nat) (some (.ref x))) (st) sh) : hf_W g p l e d s m args below meth c n Qf M (pc) L (.ref x :: st) sh := fun r M' e H locs ls hP hL => lv_astore_n X.1 X.2.1 hd rfl (hf_lv_has hL) hn rfl (fun ls' hl => k r M' e H locs ls' hP (hf_L_of1 hk hl))
theorem hf_idx {L : List (Option Value)} {i : Nat} {v : Value} (h : L[i]? = some (some v)) : ∃ k : Nat, (hf_lv L 0)[k]? = some (i, v) := List.getElem?_of_mem ((hf_lv_mem L 0 i v).mpr ⟨Nat.zero_le _, by simpa using h⟩)
theorem hr_iinc (X : hf_X g p s m args meth c cc n own ret) {z : Nat} {w : Int} {x : Int32} (v : Int32) (hd : decode cc pc = .ok (.iinc z w, 3)) (hl : L[z]? = some (some (.int x))) (hv : x + Int32.ofInt w = v) (hn : z < n) (hk : hf_ok1 L z = true) (k : hf_W g p l e d s m args below meth c n Qf M (pc + 3) (L.set z (some (.int v))) (st) sh) : hf_W g p l e d s m args below meth c n Qf M (pc) L (st) sh := by
  intro r M' e H locs ls hP hL
  obtain ⟨q, hq⟩ := hf_idx hl
  exact lv_iinc X.1 X.2.1 hd (hf_lv_has hL) hq hv hn rfl (fun ls' hl => k r M' e H locs ls' hP (hf_L_of1 hk hl))
theorem hr_if_eq (X : hf_X g p s m args meth c cc n own ret) {x : Int32} {off : Int} (tgt : Nat) {sa sb : Option (α × hf_M)} (hd : decode cc pc = .ok (.ifCond .eq off, 3)) (ht : (pc : Int) + off = (tgt : Int)) (kt : hf_W g p l e d s m args below meth c n Qf M (tgt) L (st) sa) (kf : hf_W g p l e d s m args below meth c n Qf M (pc + 3) L (st) sb) : hf_W g p l e d s m args below meth c n Qf M (pc) L (.int x :: st) (if x = 0 then sa else sb) := by
  intro r M' e H locs ls hP hL
  exact lv_if_eq X.1 X.2.1 hd ht (fun c => kt r M' (by rw [if_pos c] at e; exact e) H locs ls hP hL) (fun c => kf r M' (by rw [if_neg c] at e; exact e) H locs ls hP hL)
theorem hr_icmp_eq (X : hf_X g p s m args meth c cc n own ret) {x y : Int32} {off : Int} (tgt : Nat) {sa sb : Option (α × hf_M)} (hd : decode cc pc = .ok (.if_icmp .eq off, 3)) (ht : (pc : Int) + off = (tgt : Int)) (kt : hf_W g p l e d s m args below meth c n Qf M (tgt) L (st) sa) (kf : hf_W g p l e d s m args below meth c n Qf M (pc + 3) L (st) sb) : hf_W g p l e d s m args below meth c n Qf M (pc) L (.int y :: .int x :: st) (if x = y then sa else sb) := by
  intro r M' e H locs ls hP hL
  exact lv_icmp_eq X.1 X.2.1 hd ht (fun c => kt r M' (by rw [if_pos c] at e; exact e) H locs ls hP hL) (fun c => kf r M' (by rw [if_neg c] at e; exact e) H locs ls hP hL)
theorem hr_if_ne (X : hf_X g p s m args meth c cc n own ret) {x : Int32} {off : Int} (tgt : Nat) {sa sb : Option (α × hf_M)} (hd : decode cc pc = .ok (.ifCond .ne off, 3)) (ht : (pc : Int) + off = (tgt : Int)) (kt : hf_W g p l e d s m args below meth c n Qf M (tgt) L (st) sb) (kf : hf_W g p l e d s m args below meth c n Qf M (pc + 3) L (st) sa) : hf_W g p l e d s m args below meth c n Qf M (pc) L (.int x :: st) (if x = 0 then sa else sb) := by
  intro r M' e H locs ls hP hL
  exact lv_if_ne X.1 X.2.1 hd ht (fun c => kt r M' (by rw [if_neg c] at e; exact e) H locs ls hP hL) (fun c => kf r M' (by rw [if_pos c] at e; exact e) H locs ls hP hL)
theorem hr_icmp_ne (X : hf_X g p s m args meth c cc n own ret) {x y : Int32} {off : Int} (tgt : Nat) {sa sb : Option (α × hf_M)} (hd : decode cc pc = .ok (.if_icmp .ne off, 3)) (ht : (pc : Int) + off = (tgt : Int)) (kt : hf_W g p l e d s m args below meth c n Qf M (tgt) L (st) sb) (kf : hf_W g p l e d s m args below meth c n Qf M (pc + 3) L (st) sa) : hf_W g p l e d s m args below meth c n Qf M (pc) L (.int y :: .int x :: st) (if x = y then sa else sb) := by
  intro r M' e H locs ls hP hL
  exact lv_icmp_ne X.1 X.2.1 hd ht (fun c => kt r M' (by rw [if_neg c] at e; exact e) H locs ls hP hL) (fun c => kf r M' (by rw [if_pos c] at e; exact e) H locs ls hP hL)
theorem hr_if_lt (X : hf_X g p s m args meth c cc n own ret) {x : Int32} {off : Int} (tgt : Nat) {sa sb : Option (α × hf_M)} (hd : decode cc pc = .ok (.ifCond .lt off, 3)) (ht : (pc : Int) + off = (tgt : Int)) (kt : hf_W g p l e d s m args below meth c n Qf M (tgt) L (st) sa) (kf : hf_W g p l e d s m args below meth c n Qf M (pc + 3) L (st) sb) : hf_W g p l e d s m args below meth c n Qf M (pc) L (.int x :: st) (if x < 0 then sa else sb) := by
  intro r M' e H locs ls hP hL
  exact lv_if_lt X.1 X.2.1 hd ht (fun c => kt r M' (by rw [if_pos c] at e; exact e) H locs ls hP hL) (fun c => kf r M' (by rw [if_neg c] at e; exact e) H locs ls hP hL)
theorem hr_icmp_lt (X : hf_X g p s m args meth c cc n own ret) {x y : Int32} {off : Int} (tgt : Nat) {sa sb : Option (α × hf_M)} (hd : decode cc pc = .ok (.if_icmp .lt off, 3)) (ht : (pc : Int) + off = (tgt : Int)) (kt : hf_W g p l e d s m args below meth c n Qf M (tgt) L (st) sa) (kf : hf_W g p l e d s m args below meth c n Qf M (pc + 3) L (st) sb) : hf_W g p l e d s m args below meth c n Qf M (pc) L (.int y :: .int x :: st) (if x < y then sa else sb) := by
  intro r M' e H locs ls hP hL
  exact lv_icmp_lt X.1 X.2.1 hd ht (fun c => kt r M' (by rw [if_pos c] at e; exact e) H locs ls hP hL) (fun c => kf r M' (by rw [if_neg c] at e; exact e) H locs ls hP hL)
theorem hr_if_ge (X : hf_X g p s m args meth c cc n own ret) {x : Int32} {off : Int} (tgt : Nat) {sa sb : Option (α × hf_M)} (hd : decode cc pc = .ok (.ifCond .ge off, 3)) (ht : (pc : Int) + off = (tgt : Int)) (kt : hf_W g p l e d s m args below meth c n Qf M (tgt) L (st) sa) (kf : hf_W g p l e d s m args below meth c n Qf M (pc + 3) L (st) sb) : hf_W g p l e d s m args below meth c n Qf M (pc) L (.int x :: st) (if 0 ≤ x then sa else sb) := by
  intro r M' e H locs ls hP hL
  exact lv_if_ge X.1 X.2.1 hd ht (fun c => kt r M' (by rw [if_pos c] at e; exact e) H locs ls hP hL) (fun c => kf r M' (by rw [if_neg c] at e; exact e) H locs ls hP hL)
theorem hr_icmp_ge (X : hf_X g p s m args meth c cc n own ret) {x y : Int32} {off : Int} (tgt : Nat) {sa sb : Option (α × hf_M)} (hd : decode cc pc = .ok (.if_icmp .ge off, 3)) (ht : (pc : Int) + off = (tgt : Int)) (kt : hf_W g p l e d s m args below meth c n Qf M (tgt) L (st) sa) (kf : hf_W g p l e d s m args below meth c n Qf M (pc + 3) L (st) sb) : hf_W g p l e d s m args below meth c n Qf M (pc) L (.int y :: .int x :: st) (if y ≤ x then sa else sb) := by
  intro r M' e H locs ls hP hL
  exact lv_icmp_ge X.1 X.2.1 hd ht (fun c => kt r M' (by rw [if_pos c] at e; exact e) H locs ls hP hL) (fun c => kf r M' (by rw [if_neg c] at e; exact e) H locs ls hP hL)
theorem hr_if_gt (X : hf_X g p s m args meth c cc n own ret) {x : Int32} {off : Int} (tgt : Nat) {sa sb : Option (α × hf_M)} (hd : decode cc pc = .ok (.ifCond .gt off, 3)) (ht : (pc : Int) + off = (tgt : Int)) (kt : hf_W g p l e d s m args below meth c n Qf M (tgt) L (st) sa) (kf : hf_W g p l e d s m args below meth c n Qf M (pc + 3) L (st) sb) : hf_W g p l e d s m args below meth c n Qf M (pc) L (.int x :: st) (if 0 < x then sa else sb) := by
  intro r M' e H locs ls hP hL
  exact lv_if_gt X.1 X.2.1 hd ht (fun c => kt r M' (by rw [if_pos c] at e; exact e) H locs ls hP hL) (fun c => kf r M' (by rw [if_neg c] at e; exact e) H locs ls hP hL)
theorem hr_icmp_gt (X : hf_X g p s m args meth c cc n own ret) {x y : Int32} {off : Int} (tgt : Nat) {sa sb : Option (α × hf_M)} (hd : decode cc pc = .ok (.if_icmp .gt off, 3)) (ht : (pc : Int) + off = (tgt : Int)) (kt : hf_W g p l e d s m args below meth c n Qf M (tgt) L (st) sa) (kf : hf_W g p l e d s m args below meth c n Qf M (pc + 3) L (st) sb) : hf_W g p l e d s m args below meth c n Qf M (pc) L (.int y :: .int x :: st) (if y < x then sa else sb) := by
  intro r M' e H locs ls hP hL
  exact lv_icmp_gt X.1 X.2.1 hd ht (fun c => kt r M' (by rw [if_pos c] at e; exact e) H locs ls hP hL) (fun c => kf r M' (by rw [if_neg c] at e; exact e) H locs ls hP hL)
theorem hr_if_le (X : hf_X g p s m args meth c cc n own ret) {x : Int32} {off : Int} (tgt : Nat) {sa sb : Option (α × hf_M)} (hd : decode cc pc = .ok (.ifCond .le off, 3)) (ht : (pc : Int) + off = (tgt : Int)) (kt : hf_W g p l e d s m args below meth c n Qf M (tgt) L (st) sa) (kf : hf_W g p l e d s m args below meth c n Qf M (pc + 3) L (st) sb) : hf_W g p l e d s m args below meth c n Qf M (pc) L (.int x :: st) (if x ≤ 0 then sa else sb) := by
  intro r M' e H locs ls hP hL
  exact lv_if_le X.1 X.2.1 hd ht (fun c => kt r M' (by rw [if_pos c] at e; exact e) H locs ls hP hL) (fun c => kf r M' (by rw [if_neg c] at e; exact e) H locs ls hP hL)
theorem hr_icmp_le (X : hf_X g p s m args meth c cc n own ret) {x y : Int32} {off : Int} (tgt : Nat) {sa sb : Option (α × hf_M)} (hd : decode cc pc = .ok (.if_icmp .le off, 3)) (ht : (pc : Int) + off = (tgt : Int)) (kt : hf_W g p l e d s m args below meth c n Qf M (tgt) L (st) sa) (kf : hf_W g p l e d s m args below meth c n Qf M (pc + 3) L (st) sb) : hf_W g p l e d s m args below meth c n Qf M (pc) L (.int y :: .int x :: st) (if x ≤ y then sa else sb) := by
  intro r M' e H locs ls hP hL
  exact lv_icmp_le X.1 X.2.1 hd ht (fun c => kt r M' (by rw [if_pos c] at e; exact e) H locs ls hP hL) (fun c => kf r M' (by rw [if_neg c] at e; exact e) H locs ls hP hL)
theorem hr_goto (X : hf_X g p s m args meth c cc n own ret) {off : Int} (tgt : Nat) (hd : decode cc pc = .ok (.goto off, 3)) (ht : (pc : Int) + off = (tgt : Int)) (k : hf_W g p l e d s m args below meth c n Qf M (tgt) L (st) sh) : hf_W g p l e d s m args below meth c n Qf M (pc) L (st) sh := fun r M' e H locs ls hP hL => lv_goto X.1 X.2.1 hd ht (k r M' e H locs ls hP hL)
theorem hr_case {x : Int32} (v : Int32) {sa sb : Option (α × hf_M)} (ka : x = v → hf_W g p l e d s m args below meth c n Qf M (pc) L ((.int v :: st)) sa) (kb : ¬ x = v → hf_W g p l e d s m args below meth c n Qf M (pc) L ((.int x :: st)) sb) : hf_W g p l e d s m args below meth c n Qf M (pc) L ((.int x :: st)) (if x = v then sa else sb) := by
  by_cases h : x = v
  · rw [if_pos h]
    have := ka h
    rw [← h] at this
    exact this
  · rw [if_neg h]
    exact kb h
theorem hr_tabIn (X : hf_X g p s m args meth c cc n own ret) {dflt lo hi : Int} {offs : Array Int} {len : Nat} {x : Int32} {off : Int} (tgt : Nat) (hd : decode cc pc = .ok (.tableswitch dflt lo hi offs, len)) (h1 : ¬ x.toInt < lo) (h2 : ¬ hi < x.toInt) (ho : offs[(x.toInt - lo).toNat]? = some off) (ht : (pc : Int) + off = (tgt : Int)) (k : hf_W g p l e d s m args below meth c n Qf M (tgt) L (st) sh) : hf_W g p l e d s m args below meth c n Qf M (pc) L ((.int x :: st)) sh := fun r M' e H locs ls hP hL => lv_tableIn X.1 X.2.1 hd h1 h2 ho ht (k r M' e H locs ls hP hL)
theorem hr_tabOut (X : hf_X g p s m args meth c cc n own ret) {dflt lo hi : Int} {offs : Array Int} {len : Nat} {x : Int32} (tgt : Nat) (hd : decode cc pc = .ok (.tableswitch dflt lo hi offs, len)) (h : x.toInt < lo ∨ hi < x.toInt) (ht : (pc : Int) + dflt = (tgt : Int)) (k : hf_W g p l e d s m args below meth c n Qf M (tgt) L (st) sh) : hf_W g p l e d s m args below meth c n Qf M (pc) L ((.int x :: st)) sh := fun r M' e H locs ls hP hL => lv_tableOut X.1 X.2.1 hd h ht (k r M' e H locs ls hP hL)
theorem hr_lookup (X : hf_X g p s m args meth c cc n own ret) {dflt : Int} {ps : Array (Int × Int)} {len : Nat} {x : Int32} {off : Int} (tgt : Nat) (hd : decode cc pc = .ok (.lookupswitch dflt ps, len)) (hp : (ps.toList.zip (ps.toList.drop 1)).all (fun (a, next) => a.1 < next.1) = true) (ho : Op.lookupswitch.offset ps.toList dflt x.toInt = off) (ht : (pc : Int) + off = (tgt : Int)) (k : hf_W g p l e d s m args below meth c n Qf M (tgt) L (st) sh) : hf_W g p l e d s m args below meth c n Qf M (pc) L ((.int x :: st)) sh := fun r M' e H locs ls hP hL => lv_lookup X.1 X.2.1 hd hp ho ht (k r M' e H locs ls hP hL)
theorem hf_neT {x : Int32} (k : Int) (h : ¬ x = Int32.ofInt k) (hk : (Int32.ofInt k).toInt = k) : x.toInt ≠ k := fun q => h (Int32.toInt_inj.mp (by rw [hk]; exact q))
theorem hf_br {P : Prop} {i1 i2 : Decidable P} {sa sb : Option (α × hf_M)} : @ite _ P i1 sa sb = @ite _ P i2 sa sb := by congr
theorem hr_idiv (X : hf_X g p s m args meth c cc n own ret) {x y : Int32} (hd : decode cc pc = .ok (.idiv, 1)) (hne : ¬ y = 0) (k : hf_W g p l e d s m args below meth c n Qf M (pc + 1) L ((.int (x / y) :: st)) sh) : hf_W g p l e d s m args below meth c n Qf M (pc) L ((.int y :: .int x :: st)) sh := fun r M' e H locs ls hP hL => lv_idiv X.1 X.2.1 hd hne (k r M' e H locs ls hP hL)
theorem hr_idivC (X : hf_X g p s m args meth c cc n own ret) {x y : Int32} (hd : decode cc pc = .ok (.idiv, 1)) (k : hf_W g p l e d s m args below meth c n Qf M (pc + 1) L ((.int (x / y) :: st)) sh) : hf_W g p l e d s m args below meth c n Qf M (pc) L ((.int y :: .int x :: st)) (hf_nz y sh) := by
  intro r M' e H locs ls hP hL
  unfold hf_nz at e
  by_cases h : y = 0
  · rw [if_pos h] at e; cases e
  · rw [if_neg h] at e
    exact lv_idiv X.1 X.2.1 hd h (k r M' e H locs ls hP hL)
theorem hr_irem (X : hf_X g p s m args meth c cc n own ret) {x y : Int32} (hd : decode cc pc = .ok (.irem, 1)) (hne : ¬ y = 0) (k : hf_W g p l e d s m args below meth c n Qf M (pc + 1) L ((.int (hn_irem x y) :: st)) sh) : hf_W g p l e d s m args below meth c n Qf M (pc) L ((.int y :: .int x :: st)) sh := fun r M' e H locs ls hP hL => lv_irem X.1 X.2.1 hd hne (k r M' e H locs ls hP hL)
theorem hr_iremC (X : hf_X g p s m args meth c cc n own ret) {x y : Int32} (hd : decode cc pc = .ok (.irem, 1)) (k : hf_W g p l e d s m args below meth c n Qf M (pc + 1) L ((.int (hn_irem x y) :: st)) sh) : hf_W g p l e d s m args below meth c n Qf M (pc) L ((.int y :: .int x :: st)) (hf_nz y sh) := by
  intro r M' e H locs ls hP hL
  unfold hf_nz at e
  by_cases h : y = 0
  · rw [if_pos h] at e; cases e
  · rw [if_neg h] at e
    exact lv_irem X.1 X.2.1 hd h (k r M' e H locs ls hP hL)
end HF
