/-! the calculus: from a place of a method, with locals L, stack st and the world M, the machine comes to what sh says -/
def hf_T : List Cond := lw_tbl.filter goodWord
def hf_R (d : Nat) : Room := { frames := d, cells := 0, slots := 0, locals := 48 * d }
def hf_P (g : hf_G) (M : hf_M) (s : State) (H : Heap) (locs : List Loc) : Prop := va_P (hf_D g) vwCl (hf_w g M) H ∧ va_D (hf_A g) (hf_w g M) ∧ va_S (hf_A g) s.heap H locs ∧ hf_RT M
def hf_L (ls : Array Slot) (n : Nat) (L : List (Option Value)) : Prop := ls.size = n ∧ lv_wf ls ∧ ∀ (i : Nat) (v : Value), L[i]? = some (some v) → ls[i]? = some (.val v)
def hf_X (g : hf_G) (p : Program) (s : State) (m : MethodId) (args : Array Value) (meth : Method) (c : Code) (cc : ByteArray) (n : Nat) (own : String) (ret : Option FieldType) : Prop :=
  p.tables.exec = Jvm.exec ∧ c.code = cc ∧ c.maxLocals = n ∧ s.vm.findClass own = some m.cls ∧ (∀ w ∈ hf_T, w.before args s = true) ∧ meth.sig.returnType = ret ∧ meth.locks = false ∧ va_K (hf_D g) vwCl (hf_ty g) s ∧ hf_S g s s.heap ∧ hf_s0 g ≤ s.heap.size
def hf_W {α : Type} (g : hf_G) (p : Program) (l : Launch) (e : Env) (d : Nat) (s : State) (m : MethodId) (args : Array Value) (below : List Frame) (meth : Method) (c : Code) (n : Nat) (Qf : α → hf_M → State → Prop) (M : hf_M) (pc : Nat) (L : List (Option Value)) (st : List Value) (sh : Option (α × hf_M)) : Prop :=
  ∀ (r : α) (M' : hf_M), sh = some (r, M') → ∀ (H : Heap) (locs : List Loc) (ls : Array Slot), hf_P g M s H locs → hf_L ls n L → W p l e (hf_R d) s m args below meth c H locs 0 0 (Qf r M') (F0 m pc ls st)
/-- reads that may be out of a row -/
def hf_in (i : Int32) (n : Nat) : Prop := ¬ (i < 0 ∨ n ≤ i.toNatClampNeg)
def hf_ix {β : Type} (i : Int32) (n : Nat) (k : Nat → Option β) : Option β := if i < 0 ∨ n ≤ i.toNatClampNeg then none else k i.toNatClampNeg
def hf_rf {β : Type} (r : Option Nat) (k : Nat → Option β) : Option β := match r with | none => none | some t => k t
/-- a divisor that isn't 0 -/
def hf_nz {β : Type} (y : Int32) (k : Option β) : Option β := if y = 0 then none else k
def hf_ldI {β : Type} (M : hf_M) (q : Nat) (i : Int32) (k : Int32 → Option β) : Option β := hf_ix i (hf_len q) (fun z => k (M.1 q z))
def hf_ldL {β : Type} (M : hf_M) (q : Nat) (i : Int32) (k : Int64 → Option β) : Option β := hf_ix i (hf_len q) (fun z => k (M.2.1 q z))
def hf_ldR {β : Type} (M : hf_M) (q : Nat) (i : Int32) (k : Nat → Option β) : Option β := hf_ix i (hf_len q) (fun z => hf_rf (M.2.2 q z) k)
def hf_stI {β : Type} (M : hf_M) (q : Nat) (i v : Int32) (k : hf_M → Option β) : Option β := hf_ix i (hf_len q) (fun z => k (hf_sI M q z v))
def hf_stL {β : Type} (M : hf_M) (q : Nat) (i : Int32) (v : Int64) (k : hf_M → Option β) : Option β := hf_ix i (hf_len q) (fun z => k (hf_sL M q z v))
def hf_ldAB {β : Type} (i : Int32) (k : Int32 → Option β) : Option β := hf_ix i 7 (fun z => k (hf_AB z))
def hf_ldSO {β : Type} (i : Int32) (k : Int64 → Option β) : Option β := hf_ix i 6 (fun z => k (hf_SO z))
def hf_ldBO {β : Type} (i : Int32) (k : Int32 → Option β) : Option β := hf_ix i 21 (fun z => k (hf_BO z))
def hf_bd {α β : Type} (c : Option (α × hf_M)) (k : α → hf_M → Option β) : Option β := match c with | none => none | some q => k q.1 q.2
theorem hf_mem {w : Cond} (h : w ∈ lw_tbl) (hg : goodWord w = true) : w ∈ hf_T := List.mem_filter.mpr ⟨h, hg⟩
theorem hf_good {w : Cond} (h : w ∈ hf_T) : w ∈ hf_T ∧ ((w.onTables && w.keeps) = true ∨ ∃ ty, w = .arrayClass ty) := ⟨h, good_of_word (List.mem_filter.mp h).2⟩
theorem hf_t1 {w : Cond} (h : w ∈ tables_1) (hg : goodWord w = true) : w ∈ hf_T := hf_mem (List.mem_append_right _ h) hg
theorem hf_c1 {w : Cond} (i : Nat) (h : tables_1_1[i]? = some w) (hg : goodWord w = true) : w ∈ hf_T := hf_t1 (List.mem_append_left _ (List.mem_of_getElem? h)) hg
theorem hf_c2 {w : Cond} (i : Nat) (h : tables_1_2[i]? = some w) (hg : goodWord w = true) : w ∈ hf_T := hf_t1 (List.mem_append_right _ (List.mem_append_left _ (List.mem_of_getElem? h))) hg
theorem hf_c3 {w : Cond} (i : Nat) (h : tables_1_3[i]? = some w) (hg : goodWord w = true) : w ∈ hf_T := hf_t1 (List.mem_append_right _ (List.mem_append_right _ (List.mem_append_left _ (List.mem_of_getElem? h)))) hg
theorem hf_c4 {w : Cond} (i : Nat) (h : tables_1_4[i]? = some w) (hg : goodWord w = true) : w ∈ hf_T := hf_t1 (List.mem_append_right _ (List.mem_append_right _ (List.mem_append_right _ (List.mem_append_left _ (List.mem_of_getElem? h))))) hg
theorem hf_c5 {w : Cond} (i : Nat) (h : tables_1_5[i]? = some w) (hg : goodWord w = true) : w ∈ hf_T := hf_t1 (List.mem_append_right _ (List.mem_append_right _ (List.mem_append_right _ (List.mem_append_right _ (List.mem_append_left _ (List.mem_of_getElem? h)))))) hg
theorem hf_c6x {w : Cond} (i : Nat) (h : tables_1_6[i]? = some w) (hg : goodWord w = true) : w ∈ hf_T := hf_t1 (List.mem_append_right _ (List.mem_append_right _ (List.mem_append_right _ (List.mem_append_right _ (List.mem_append_right _ (List.mem_of_getElem? h)))))) hg
theorem hf_cp {q : MethodName × Nat} (h : q ∈ lw_privs) : Cond.selects q.1.cls q.1 q.1 ∈ hf_T := hf_mem (List.mem_append_left _ (List.mem_map.mpr ⟨q, h, rfl⟩)) rfl
/-- locals -/
def hf_ok1 (L : List (Option Value)) (i : Nat) : Bool := match i with | 0 => true | j + 1 => match L[j]? with | some (some v) => v.category == 1 | _ => true
def hf_lv : List (Option Value) → Nat → List (Nat × Value)
  | [], _ => []
  | none :: L, i => hf_lv L (i + 1)
  | some v :: L, i => (i, v) :: hf_lv L (i + 1)
theorem hf_lv_mem : ∀ (L : List (Option Value)) (i j : Nat) (v : Value), (j, v) ∈ hf_lv L i ↔ i ≤ j ∧ L[j - i]? = some (some v)
  | [], i, j, v => by simp [hf_lv]
  | none :: L, i, j, v => by
    rw [hf_lv, hf_lv_mem L (i + 1) j v]
    constructor
    · rintro ⟨h1, h2⟩
      refine ⟨by omega, ?_⟩
      rw [show j - i = (j - (i + 1)) + 1 by omega, List.getElem?_cons_succ]
      exact h2
    · rintro ⟨h1, h2⟩
      have hne : j ≠ i := fun e => by subst e; simp at h2
      refine ⟨by omega, ?_⟩
      rw [show j - i = (j - (i + 1)) + 1 by omega, List.getElem?_cons_succ] at h2
      exact h2
  | some w :: L, i, j, v => by
    rw [hf_lv, List.mem_cons, hf_lv_mem L (i + 1) j v]
    constructor
    · rintro (h | ⟨h1, h2⟩)
      · cases h
        simp
      · refine ⟨by omega, ?_⟩
        rw [show j - i = (j - (i + 1)) + 1 by omega, List.getElem?_cons_succ]
        exact h2
    · rintro ⟨h1, h2⟩
      by_cases hne : j = i
      · subst hne
        simp at h2
        subst h2
        exact Or.inl rfl
      · refine Or.inr ⟨by omega, ?_⟩
        rw [show j - i = (j - (i + 1)) + 1 by omega, List.getElem?_cons_succ] at h2
        exact h2
theorem hf_lv_has {ls : Array Slot} {n : Nat} {L : List (Option Value)} (h : hf_L ls n L) : lv_has ls n (hf_lv L 0) :=
  ⟨h.1, h.2.1, fun q hq => h.2.2 q.1 q.2 (by have := (hf_lv_mem L 0 q.1 q.2).mp hq; simpa using this.2)⟩
theorem hf_L_of1 {ls : Array Slot} {n : Nat} {L : List (Option Value)} {i : Nat} {v : Value} (hk : hf_ok1 L i = true) (h : lv_has ls n ((i, v) :: (hf_lv L 0).filter (fun q => !(q.1 == i) && !(q.1 + 1 == i && q.2.category == 2)))) : hf_L ls n (L.set i (some v)) := by
  refine ⟨h.1, h.2.1, fun j w hj => ?_⟩
  by_cases hji : j = i
  · subst hji
    have hlt : j < L.length := by
      have := (List.getElem?_eq_some_iff.mp hj).1
      rwa [List.length_set] at this
    rw [List.getElem?_set_self hlt] at hj
    cases hj
    exact h.2.2 _ List.mem_cons_self
  · rw [List.getElem?_set_ne (Ne.symm hji)] at hj
    refine h.2.2 (j, w) (List.mem_cons_of_mem _ (List.mem_filter.mpr ⟨(hf_lv_mem L 0 j w).mpr ⟨Nat.zero_le _, by simpa using hj⟩, ?_⟩))
    have h2 : ¬ (j + 1 = i ∧ w.category = 2) := by
      rintro ⟨e, h2⟩
      subst e
      simp [hf_ok1, hj, h2] at hk
    simp only [hji, beq_iff_eq, Bool.and_eq_true, Bool.not_eq_true', beq_eq_false_iff_ne, ne_eq, not_false_eq_true, true_and, Bool.and_eq_false_iff]
    exact Decidable.not_and_iff_or_not.mp h2
theorem hf_L_of2 {ls : Array Slot} {n : Nat} {L : List (Option Value)} {i : Nat} {v : Value} (hk : hf_ok1 L i = true) (h : lv_has ls n ((i, v) :: (hf_lv L 0).filter (fun q => !(q.1 == i) && (!(q.1 == i + 1) && !(q.1 + 1 == i && q.2.category == 2))))) : hf_L ls n ((L.set i (some v)).set (i + 1) none) := by
  refine ⟨h.1, h.2.1, fun j w hj => ?_⟩
  by_cases hj1 : j = i + 1
  · subst hj1
    by_cases hlt : i + 1 < L.length
    · rw [List.getElem?_set_self (by rw [List.length_set]; exact hlt)] at hj
      cases hj
    · rw [List.getElem?_eq_none (by rw [List.length_set, List.length_set]; omega)] at hj
      cases hj
  · rw [List.getElem?_set_ne (Ne.symm hj1)] at hj
    by_cases hji : j = i
    · subst hji
      have hlt : j < L.length := by
        have := (List.getElem?_eq_some_iff.mp hj).1
        rwa [List.length_set] at this
      rw [List.getElem?_set_self hlt] at hj
      cases hj
      exact h.2.2 _ List.mem_cons_self
    · rw [List.getElem?_set_ne (Ne.symm hji)] at hj
      refine h.2.2 (j, w) (List.mem_cons_of_mem _ (List.mem_filter.mpr ⟨(hf_lv_mem L 0 j w).mpr ⟨Nat.zero_le _, by simpa using hj⟩, ?_⟩))
      have h2 : ¬ (j + 1 = i ∧ w.category = 2) := by
        rintro ⟨e, h2⟩
        subst e
        simp [hf_ok1, hj, h2] at hk
      simp only [hji, hj1, beq_iff_eq, Bool.and_eq_true, Bool.not_eq_true', beq_eq_false_iff_ne, ne_eq, not_false_eq_true, true_and, Bool.and_eq_false_iff]
      exact Decidable.not_and_iff_or_not.mp h2
section HF
variable {α β : Type} {g : hf_G} {p : Program} {l : Launch} {e : Env} {d : Nat} {s : State} {m : MethodId} {args : Array Value} {below : List Frame} {meth : Method} {c : Code} {n : Nat} {Qf : α → hf_M → State → Prop} {M : hf_M} {pc : Nat} {L : List (Option Value)} {st : List Value} {sh : Option (α × hf_M)} {cc : ByteArray} {own : String} {ret : Option FieldType}

theorem hr_iadd (X : hf_X g p s m args meth c cc n own ret) {x y : Int32} (hd : decode cc pc = .ok (.iadd, 1))  (k : hf_W g p l e d s m args below meth c n Qf M (pc + 1) L (.int (x + y) :: st) sh) : hf_W g p l e d s m args below meth c n Qf M (pc) L (.int y :: .int x :: st) sh := fun r M' e H locs ls hP hL => lv_iadd X.1 X.2.1 hd (k r M' e H locs ls hP hL)
theorem hr_isub (X : hf_X g p s m args meth c cc n own ret) {x y : Int32} (hd : decode cc pc = .ok (.isub, 1))  (k : hf_W g p l e d s m args below meth c n Qf M (pc + 1) L (.int (x - y) :: st) sh) : hf_W g p l e d s m args below meth c n Qf M (pc) L (.int y :: .int x :: st) sh := fun r M' e H locs ls hP hL => lv_isub X.1 X.2.1 hd (k r M' e H locs ls hP hL)
theorem hr_imul (X : hf_X g p s m args meth c cc n own ret) {x y : Int32} (hd : decode cc pc = .ok (.imul, 1))  (k : hf_W g p l e d s m args below meth c n Qf M (pc + 1) L (.int (x * y) :: st) sh) : hf_W g p l e d s m args below meth c n Qf M (pc) L (.int y :: .int x :: st) sh := fun r M' e H locs ls hP hL => lv_imul X.1 X.2.1 hd (k r M' e H locs ls hP hL)
theorem hr_iand (X : hf_X g p s m args meth c cc n own ret) {x y : Int32} (hd : decode cc pc = .ok (.iand, 1))  (k : hf_W g p l e d s m args below meth c n Qf M (pc + 1) L (.int (x &&& y) :: st) sh) : hf_W g p l e d s m args below meth c n Qf M (pc) L (.int y :: .int x :: st) sh := fun r M' e H locs ls hP hL => lv_iand X.1 X.2.1 hd (k r M' e H locs ls hP hL)
theorem hr_ior (X : hf_X g p s m args meth c cc n own ret) {x y : Int32} (hd : decode cc pc = .ok (.ior, 1))  (k : hf_W g p l e d s m args below meth c n Qf M (pc + 1) L (.int (x ||| y) :: st) sh) : hf_W g p l e d s m args below meth c n Qf M (pc) L (.int y :: .int x :: st) sh := fun r M' e H locs ls hP hL => lv_ior X.1 X.2.1 hd (k r M' e H locs ls hP hL)
theorem hr_ixor (X : hf_X g p s m args meth c cc n own ret) {x y : Int32} (hd : decode cc pc = .ok (.ixor, 1))  (k : hf_W g p l e d s m args below meth c n Qf M (pc + 1) L (.int (x ^^^ y) :: st) sh) : hf_W g p l e d s m args below meth c n Qf M (pc) L (.int y :: .int x :: st) sh := fun r M' e H locs ls hP hL => lv_ixor X.1 X.2.1 hd (k r M' e H locs ls hP hL)
theorem hr_ladd (X : hf_X g p s m args meth c cc n own ret) {x y : Int64} (hd : decode cc pc = .ok (.ladd, 1))  (k : hf_W g p l e d s m args below meth c n Qf M (pc + 1) L (.long (x + y) :: st) sh) : hf_W g p l e d s m args below meth c n Qf M (pc) L (.long y :: .long x :: st) sh := fun r M' e H locs ls hP hL => lv_ladd X.1 X.2.1 hd (k r M' e H locs ls hP hL)
theorem hr_lsub (X : hf_X g p s m args meth c cc n own ret) {x y : Int64} (hd : decode cc pc = .ok (.lsub, 1))  (k : hf_W g p l e d s m args below meth c n Qf M (pc + 1) L (.long (x - y) :: st) sh) : hf_W g p l e d s m args below meth c n Qf M (pc) L (.long y :: .long x :: st) sh := fun r M' e H locs ls hP hL => lv_lsub X.1 X.2.1 hd (k r M' e H locs ls hP hL)
theorem hr_land (X : hf_X g p s m args meth c cc n own ret) {x y : Int64} (hd : decode cc pc = .ok (.land, 1))  (k : hf_W g p l e d s m args below meth c n Qf M (pc + 1) L (.long (x &&& y) :: st) sh) : hf_W g p l e d s m args below meth c n Qf M (pc) L (.long y :: .long x :: st) sh := fun r M' e H locs ls hP hL => lv_land X.1 X.2.1 hd (k r M' e H locs ls hP hL)
theorem hr_lor (X : hf_X g p s m args meth c cc n own ret) {x y : Int64} (hd : decode cc pc = .ok (.lor, 1))  (k : hf_W g p l e d s m args below meth c n Qf M (pc + 1) L (.long (x ||| y) :: st) sh) : hf_W g p l e d s m args below meth c n Qf M (pc) L (.long y :: .long x :: st) sh := fun r M' e H locs ls hP hL => lv_lor X.1 X.2.1 hd (k r M' e H locs ls hP hL)
theorem hr_lxor (X : hf_X g p s m args meth c cc n own ret) {x y : Int64} (hd : decode cc pc = .ok (.lxor, 1))  (k : hf_W g p l e d s m args below meth c n Qf M (pc + 1) L (.long (x ^^^ y) :: st) sh) : hf_W g p l e d s m args below meth c n Qf M (pc) L (.long y :: .long x :: st) sh := fun r M' e H locs ls hP hL => lv_lxor X.1 X.2.1 hd (k r M' e H locs ls hP hL)
-- shifts as the rows have them
def hn_ishl (x y : Int32) : Int32 := x <<< (y &&& 31)
def hn_ishr (x y : Int32) : Int32 := x >>> (y &&& 31)
def hn_iushr (x y : Int32) : Int32 := (x.toUInt32 >>> (y.toUInt32 &&& Int32.toUInt32 31)).toInt32
def hn_lushr (x : Int64) (y : Int32) : Int64 := (x.toUInt64 >>> (y.toInt64.toUInt64 &&& Int64.toUInt64 63)).toInt64
def hn_lshl (x : Int64) (y : Int32) : Int64 := x <<< (y.toInt64 &&& 63)
def hn_lshr (x : Int64) (y : Int32) : Int64 := x >>> (y.toInt64 &&& 63)
def hn_irem (x y : Int32) : Int32 := x - x / y * y
def hn_i2b (x : Int32) : Int32 := x.toInt8.toInt32
def hn_i2s (x : Int32) : Int32 := x.toInt16.toInt32
def hn_max (x y : Int32) : Int32 := if x < y then y else x
def hn_min (x y : Int32) : Int32 := if y < x then y else x
theorem hr_ishl (X : hf_X g p s m args meth c cc n own ret) {x y : Int32} (hd : decode cc pc = .ok (.ishl, 1))  (k : hf_W g p l e d s m args below meth c n Qf M (pc + 1) L (.int (hn_ishl x y) :: st) sh) : hf_W g p l e d s m args below meth c n Qf M (pc) L (.int y :: .int x :: st) sh := fun r M' e H locs ls hP hL => lv_ishl X.1 X.2.1 hd (k r M' e H locs ls hP hL)
theorem hr_ishr (X : hf_X g p s m args meth c cc n own ret) {x y : Int32} (hd : decode cc pc = .ok (.ishr, 1))  (k : hf_W g p l e d s m args below meth c n Qf M (pc + 1) L (.int (hn_ishr x y) :: st) sh) : hf_W g p l e d s m args below meth c n Qf M (pc) L (.int y :: .int x :: st) sh := fun r M' e H locs ls hP hL => lv_ishr X.1 X.2.1 hd (k r M' e H locs ls hP hL)
theorem hr_iushr (X : hf_X g p s m args meth c cc n own ret) {x y : Int32} (hd : decode cc pc = .ok (.iushr, 1))  (k : hf_W g p l e d s m args below meth c n Qf M (pc + 1) L (.int (hn_iushr x y) :: st) sh) : hf_W g p l e d s m args below meth c n Qf M (pc) L (.int y :: .int x :: st) sh := fun r M' e H locs ls hP hL => lv_iushr X.1 X.2.1 hd rfl (k r M' e H locs ls hP hL)
theorem hr_lushr (X : hf_X g p s m args meth c cc n own ret) {x : Int64} {y : Int32} (hd : decode cc pc = .ok (.lushr, 1))  (k : hf_W g p l e d s m args below meth c n Qf M (pc + 1) L (.long (hn_lushr x y) :: st) sh) : hf_W g p l e d s m args below meth c n Qf M (pc) L (.int y :: .long x :: st) sh := fun r M' e H locs ls hP hL => lv_lushr X.1 X.2.1 hd rfl (k r M' e H locs ls hP hL)
theorem hr_lshl (X : hf_X g p s m args meth c cc n own ret) {x : Int64} {y : Int32} (hd : decode cc pc = .ok (.lshl, 1))  (k : hf_W g p l e d s m args below meth c n Qf M (pc + 1) L (.long (hn_lshl x y) :: st) sh) : hf_W g p l e d s m args below meth c n Qf M (pc) L (.int y :: .long x :: st) sh := fun r M' e H locs ls hP hL => lv_lshl X.1 X.2.1 hd rfl (k r M' e H locs ls hP hL)
theorem hr_lshr (X : hf_X g p s m args meth c cc n own ret) {x : Int64} {y : Int32} (hd : decode cc pc = .ok (.lshr, 1))  (k : hf_W g p l e d s m args below meth c n Qf M (pc + 1) L (.long (hn_lshr x y) :: st) sh) : hf_W g p l e d s m args below meth c n Qf M (pc) L (.int y :: .long x :: st) sh := fun r M' e H locs ls hP hL => lv_lshr X.1 X.2.1 hd rfl (k r M' e H locs ls hP hL)
theorem hr_ineg (X : hf_X g p s m args meth c cc n own ret) {x : Int32} (hd : decode cc pc = .ok (.ineg, 1))  (k : hf_W g p l e d s m args below meth c n Qf M (pc + 1) L (.int (-x) :: st) sh) : hf_W g p l e d s m args below meth c n Qf M (pc) L (.int x :: st) sh := fun r M' e H locs ls hP hL => lv_ineg X.1 X.2.1 hd (k r M' e H locs ls hP hL)
theorem hr_lcmp (X : hf_X g p s m args meth c cc n own ret) {x y : Int64} (hd : decode cc pc = .ok (.lcmp, 1))  (k : hf_W g p l e d s m args below meth c n Qf M (pc + 1) L (.int (lg_cmp x y) :: st) sh) : hf_W g p l e d s m args below meth c n Qf M (pc) L (.long y :: .long x :: st) sh := fun r M' e H locs ls hP hL => W.lcmp X.1 X.2.1 hd (k r M' e H locs ls hP hL)
theorem hr_i2l (X : hf_X g p s m args meth c cc n own ret) {x : Int32} (hd : decode cc pc = .ok (.i2l, 1))  (k : hf_W g p l e d s m args below meth c n Qf M (pc + 1) L (.long x.toInt64 :: st) sh) : hf_W g p l e d s m args below meth c n Qf M (pc) L (.int x :: st) sh := fun r M' e H locs ls hP hL => lv_i2l X.1 X.2.1 hd rfl (k r M' e H locs ls hP hL)
theorem hr_l2i (X : hf_X g p s m args meth c cc n own ret) {x : Int64} (hd : decode cc pc = .ok (.l2i, 1))  (k : hf_W g p l e d s m args below meth c n Qf M (pc + 1) L (.int x.toInt32 :: st) sh) : hf_W g p l e d s m args below meth c n Qf M (pc) L (.long x :: st) sh := fun r M' e H locs ls hP hL => lv_l2i X.1 X.2.1 hd rfl (k r M' e H locs ls hP hL)
theorem hr_i2b (X : hf_X g p s m args meth c cc n own ret) {x : Int32} (hd : decode cc pc = .ok (.i2b, 1))  (k : hf_W g p l e d s m args below meth c n Qf M (pc + 1) L (.int (hn_i2b x) :: st) sh) : hf_W g p l e d s m args below meth c n Qf M (pc) L (.int x :: st) sh := fun r M' e H locs ls hP hL => lv_i2b X.1 X.2.1 hd rfl (k r M' e H locs ls hP hL)
theorem hr_i2s (X : hf_X g p s m args meth c cc n own ret) {x : Int32} (hd : decode cc pc = .ok (.i2s, 1))  (k : hf_W g p l e d s m args below meth c n Qf M (pc + 1) L (.int (hn_i2s x) :: st) sh) : hf_W g p l e d s m args below meth c n Qf M (pc) L (.int x :: st) sh := fun r M' e H locs ls hP hL => lv_i2s X.1 X.2.1 hd rfl (k r M' e H locs ls hP hL)
theorem hr_dup (X : hf_X g p s m args meth c cc n own ret) {va : Value} (hd : decode cc pc = .ok (.dup, 1)) (hva : va.category = 1) (k : hf_W g p l e d s m args below meth c n Qf M (pc + 1) L (va :: va :: st) sh) : hf_W g p l e d s m args below meth c n Qf M (pc) L (va :: st) sh := fun r M' e H locs ls hP hL => lv_dup X.1 X.2.1 hd hva (k r M' e H locs ls hP hL)
theorem hr_pop (X : hf_X g p s m args meth c cc n own ret) {va : Value} (hd : decode cc pc = .ok (.pop, 1)) (hva : va.category = 1) (k : hf_W g p l e d s m args below meth c n Qf M (pc + 1) L (st) sh) : hf_W g p l e d s m args below meth c n Qf M (pc) L (va :: st) sh := fun r M' e H locs ls hP hL => lv_pop X.1 X.2.1 hd hva (k r M' e H locs ls hP hL)
theorem hr_dup_x1 (X : hf_X g p s m args meth c cc n own ret) {va vb : Value} (hd : decode cc pc = .ok (.dup_x1, 1)) (hva : va.category = 1) (hvb : vb.category = 1) (k : hf_W g p l e d s m args below meth c n Qf M (pc + 1) L (va :: vb :: va :: st) sh) : hf_W g p l e d s m args below meth c n Qf M (pc) L (va :: vb :: st) sh := fun r M' e H locs ls hP hL => lv_dup_x1 X.1 X.2.1 hd hva hvb (k r M' e H locs ls hP hL)
theorem hr_dup2 (X : hf_X g p s m args meth c cc n own ret) {va vb : Value} (hd : decode cc pc = .ok (.dup2, 1)) (hva : va.category = 1) (hvb : vb.category = 1) (k : hf_W g p l e d s m args below meth c n Qf M (pc + 1) L (va :: vb :: va :: vb :: st) sh) : hf_W g p l e d s m args below meth c n Qf M (pc) L (va :: vb :: st) sh := fun r M' e H locs ls hP hL => lv_dup2_11 X.1 X.2.1 hd hva hvb (k r M' e H locs ls hP hL)
theorem hr_iconst (X : hf_X g p s m args meth c cc n own ret) {z : Int} (v : Int32) (hd : decode cc pc = .ok (.iconst z, 1)) (hv : Int32.ofInt z = v) (k : hf_W g p l e d s m args below meth c n Qf M (pc + 1) L (.int v :: st) sh) : hf_W g p l e d s m args below meth c n Qf M (pc) L (st) sh := fun r M' e H locs ls hP hL => lv_iconst X.1 X.2.1 hd hv (k r M' e H locs ls hP hL)
theorem hr_bipush (X : hf_X g p s m args meth c cc n own ret) {z : Int} (v : Int32) (hd : decode cc pc = .ok (.bipush z, 2)) (hv : (Int8.ofInt z).toInt32 = v) (k : hf_W g p l e d s m args below meth c n Qf M (pc + 2) L (.int v :: st) sh) : hf_W g p l e d s m args below meth c n Qf M (pc) L (st) sh := fun r M' e H locs ls hP hL => lv_bipush X.1 X.2.1 hd hv (k r M' e H locs ls hP hL)
theorem hr_sipush (X : hf_X g p s m args meth c cc n own ret) {z : Int} (v : Int32) (hd : decode cc pc = .ok (.sipush z, 3)) (hv : (Int16.ofInt z).toInt32 = v) (k : hf_W g p l e d s m args below meth c n Qf M (pc + 3) L (.int v :: st) sh) : hf_W g p l e d s m args below meth c n Qf M (pc) L (st) sh := fun r M' e H locs ls hP hL => lv_sipush X.1 X.2.1 hd hv (k r M' e H locs ls hP hL)
theorem hr_lconst (X : hf_X g p s m args meth c cc n own ret) {z : Fin 2} (v : Int64) (hd : decode cc pc = .ok (.lconst z, 1)) (hv : Int64.ofNat (z : Nat) = v) (k : hf_W g p l e d s m args below meth c n Qf M (pc + 1) L (.long v :: st) sh) : hf_W g p l e d s m args below meth c n Qf M (pc) L (st) sh := fun r M' e H locs ls hP hL => lv_lconst X.1 X.2.1 hd hv (k r M' e H locs ls hP hL)
theorem hr_ldc (X : hf_X g p s m args meth c cc n own ret) {z : Nat} {v : Int32} (hd : decode cc pc = .ok (.ldc z, 2)) (hw : Cond.constant own z v ∈ hf_T) (k : hf_W g p l e d s m args below meth c n Qf M (pc + 2) L (.int v :: st) sh) : hf_W g p l e d s m args below meth c n Qf M (pc) L (st) sh := fun r M' e H locs ls hP hL => lv_ldc X.1 X.2.1 X.2.2.2.1 (X.2.2.2.2.1 _ hw) hd (k r M' e H locs ls hP hL)
theorem hr_ldc_w (X : hf_X g p s m args meth c cc n own ret) {z : Nat} {v : Int32} (hd : decode cc pc = .ok (.ldc_w z, 3)) (hw : Cond.constant own z v ∈ hf_T) (k : hf_W g p l e d s m args below meth c n Qf M (pc + 3) L (.int v :: st) sh) : hf_W g p l e d s m args below meth c n Qf M (pc) L (st) sh := fun r M' e H locs ls hP hL => lv_ldcw X.1 X.2.1 X.2.2.2.1 (X.2.2.2.2.1 _ hw) hd (k r M' e H locs ls hP hL)
theorem hr_ldc2 (X : hf_X g p s m args meth c cc n own ret) {z : Nat} {v : Int64} (hd : decode cc pc = .ok (.ldc2_w z, 3)) (hw : Cond.constantLong own z v ∈ hf_T) (k : hf_W g p l e d s m args below meth c n Qf M (pc + 3) L (.long v :: st) sh) : hf_W g p l e d s m args below meth c n Qf M (pc) L (st) sh := fun r M' e H locs ls hP hL => lv_ldc2 X.1 X.2.1 X.2.2.2.1 (X.2.2.2.2.1 _ hw) hd (k r M' e H locs ls hP hL)
theorem hr_iload (X : hf_X g p s m args meth c cc n own ret) {z : Nat} {x : Int32} (hd : decode cc pc = .ok (.iload z, 2)) (hl : L[(z : Nat)]? = some (some (.int x))) (k : hf_W g p l e d s m args below meth c n Qf M (pc + 2) L (.int x :: st) sh) : hf_W g p l e d s m args below meth c n Qf M (pc) L (st) sh := fun r M' e H locs ls hP hL => lv_iload X.1 X.2.1 hd (hL.2.2 _ _ hl) (k r M' e H locs ls hP hL)
theorem hr_iload_n (X : hf_X g p s m args meth c cc n own ret) {z : Fin 4} {x : Int32} (hd : decode cc pc = .ok (.iload_n z, 1)) (hl : L[(z : Nat)]? = some (some (.int x))) (k : hf_W g p l e d s m args below meth c n Qf M (pc + 1) L (.int x :: st) sh) : hf_W g p l e d s m args below meth c n Qf M (pc) L (st) sh := fun r M' e H locs ls hP hL => lv_iload_n X.1 X.2.1 hd rfl (hL.2.2 _ _ hl) (k r M' e H locs ls hP hL)
theorem hr_lload (X : hf_X g p s m args meth c cc n own ret) {z : Nat} {x : Int64} (hd : decode cc pc = .ok (.lload z, 2)) (hl : L[(z : Nat)]? = some (some (.long x))) (k : hf_W g p l e d s m args below meth c n Qf M (pc + 2) L (.long x :: st) sh) : hf_W g p l e d s m args below meth c n Qf M (pc) L (st) sh := fun r M' e H locs ls hP hL => lv_lload X.1 X.2.1 hd (hL.2.2 _ _ hl) (k r M' e H locs ls hP hL)
theorem hr_lload_n (X : hf_X g p s m args meth c cc n own ret) {z : Fin 4} {x : Int64} (hd : decode cc pc = .ok (.lload_n z, 1)) (hl : L[(z : Nat)]? = some (some (.long x))) (k : hf_W g p l e d s m args below meth c n Qf M (pc + 1) L (.long x :: st) sh) : hf_W g p l e d s m args below meth c n Qf M (pc) L (st) sh := fun r M' e H locs ls hP hL => lv_lload_n X.1 X.2.1 hd rfl (hL.2.2 _ _ hl) (k r M' e H locs ls hP hL)
theorem hr_aload (X : hf_X g p s m args meth c cc n own ret) {z : Nat} {x : Nat} (hd : decode cc pc = .ok (.aload z, 2)) (hl : L[(z : Nat)]? = some (some (.ref x))) (k : hf_W g p l e d s m args below meth c n Qf M (pc + 2) L (.ref x :: st) sh) : hf_W g p l e d s m args below meth c n Qf M (pc) L (st) sh := fun r M' e H locs ls hP hL => lv_aload X.1 X.2.1 hd (hL.2.2 _ _ hl) (k r M' e H locs ls hP hL)
theorem hr_aload_n (X : hf_X g p s m args meth c cc n own ret) {z : Fin 4} {x : Nat} (hd : decode cc pc = .ok (.aload_n z, 1)) (hl : L[(z : Nat)]? = some (some (.ref x))) (k : hf_W g p l e d s m args below meth c n Qf M (pc + 1) L (.ref x :: st) sh) : hf_W g p l e d s m args below meth c n Qf M (pc) L (st) sh := fun r M' e H locs ls hP hL => lv_aload_n X.1 X.2.1 hd rfl (hL.2.2 _ _ hl) (k r M' e H locs ls hP hL)
theorem hr_istore (X : hf_X g p s m args meth c cc n own ret) {z : Nat} {x : Int32} (hd : decode cc pc = .ok (.istore z, 2)) (hn : (z : Nat) < n) (hk : hf_ok1 L (z : Nat) = true) (k : hf_W g p l e d s m args below meth c n Qf M (pc + 2) (L.set (z : Nat) (some (.int x))) (st) sh) : hf_W g p l e d s m args below meth c n Qf M (pc) L (.int x :: st) sh := fun r M' e H locs ls hP hL => lv_istore X.1 X.2.1 hd (hf_lv_has hL) hn rfl (fun ls' hl => k r M' e H locs ls' hP (hf_L_of1 hk hl))
theorem hr_istore_n (X : hf_X g p s m args meth c cc n own ret) {z : Fin 4} {x : Int32} (hd : decode cc pc = .ok (.istore_n z, 1)) (hn : (z : Nat) < n) (hk : hf_ok1 L (z : Nat) = true) (k : hf_W g p l e d s m args below meth c n Qf M (pc + 1) (L.set (z : Nat) (some (.int x))) (st) sh) : hf_W g p l e d s m args below meth c n Qf M (pc) L (.int x :: st) sh := fun r M' e H locs ls hP hL => lv_istore_n X.1 X.2.1 hd rfl (hf_lv_has hL) hn rfl (fun ls' hl => k r M' e H locs ls' hP (hf_L_of1 hk hl))
theorem hr_lstore (X : hf_X g p s m args meth c cc n own ret) {z : Nat} {x : Int64} (hd : decode cc pc = .ok (.lstore z, 2)) (hn : (z : Nat) + 1 < n) (hk : hf_ok1 L (z : Nat) = true) (k : hf_W g p l e d s m args below meth c n Qf M (pc + 2) ((L.set (z : Nat) (some (.long x))).set ((z : Nat) + 1) none) (st) sh) : hf_W g p l e d s m args below meth c n Qf M (pc) L (.long x :: st) sh := fun r M' e H locs ls hP hL => lv_lstore X.1 X.2.1 hd (hf_lv_has hL) hn rfl (fun ls' hl => k r M' e H locs ls' hP (hf_L_of2 hk hl))
theorem hr_lstore_n (X : hf_X g p s m args meth c cc n own ret) {z : Fin 4} {x : Int64} (hd : decode cc pc = .ok (.lstore_n z, 1)) (hn : (z : Nat) + 1 < n) (hk : hf_ok1 L (z : Nat) = true) (k : hf_W g p l e d s m args below meth c n Qf M (pc + 1) ((L.set (z : Nat) (some (.long x))).set ((z : Nat) + 1) none) (st) sh) : hf_W g p l e d s m args below meth c n Qf M (pc) L (.long x :: st) sh := fun r M' e H locs ls hP hL => lv_lstore_n X.1 X.2.1 hd rfl (hf_lv_has hL) hn rfl (fun ls' hl => k r M' e H locs ls' hP (hf_L_of2 hk hl))
theorem hr_astore (X : hf_X g p s m args meth c cc n own ret) {z : Nat} {x : Nat} (hd : decode cc pc = .ok (.astore z, 2)) (hn : (z : Nat) < n) (hk : hf_ok1 L (z : Nat) = true) (k : hf_W g p l e d s m args below meth c n Qf M (pc + 2) (L.set (z : Nat) (some (.ref x))) (st) sh) : hf_W g p l e d s m args below meth c n Qf M (pc) L (.ref x :: st) sh := fun r M' e H locs ls hP hL => lv_astore X.1 X.2.1 hd (hf_lv_has hL) hn rfl (fun ls' hl => k r M' e H locs ls' hP (hf_L_of1 hk hl))
theorem hr_astore_n (X : hf_X g p s m args meth c cc n own ret) {z : Fin 4} {x : Nat} (hd : decode cc pc = .ok (.astore_n z, 1)) (hn : (z : Nat) < n) (hk : hf_ok1 L (z : Nat) = true) (k : hf_W g p l e d s m args below meth c n Qf M (pc + 1) (L.set (z : Nat) (some (.ref x))) (st) sh) : hf_W g p l e d s m args below meth c n Qf M (pc) L (.ref x :: st) sh := fun r M' e H locs ls hP hL => lv_astore_n X.1 X.2.1 hd rfl (hf_lv_has hL) hn rfl (fun ls' hl => k r M' e H locs ls' hP (hf_L_of1 hk hl))
theorem hf_idx {L : List (Option Value)} {i : Nat} {v : Value} (h : L[i]? = some (some v)) : ∃ k : Nat, (hf_lv L 0)[k]? = some (i, v) := List.getElem?_of_mem ((hf_lv_mem L 0 i v).mpr ⟨Nat.zero_le _, by simpa using h⟩)
theorem hr_iinc (X : hf_X g p s m args meth c cc n own ret) {z : Nat} {w : Int} {x : Int32} (v : Int32) (hd : decode cc pc = .ok (.iinc z w, 3)) (hl : L[z]? = some (some (.int x))) (hv : x + Int32.ofInt w = v) (hn : z < n) (hk : hf_ok1 L z = true) (k : hf_W g p l e d s m args below meth c n Qf M (pc + 3) (L.set z (some (.int v))) (st) sh) : hf_W g p l e d s m args below meth c n Qf M (pc) L (st) sh := by
  intro r M' e H locs ls hP hL
  obtain ⟨q, hq⟩ := hf_idx hl
  exact lv_iinc X.1 X.2.1 hd (hf_lv_has hL) hq hv hn rfl (fun ls' hl => k r M' e H locs ls' hP (hf_L_of1 hk hl))
theorem hr_if_eq (X : hf_X g p s m args meth c cc n own ret) {x : Int32} {off : Int} (tgt : Nat) {sa sb : Option (α × hf_M)} (hd : decode cc pc = .ok (.ifCond .eq off, 3)) (ht : (pc : Int) + off = (tgt : Int)) (kt : hf_W g p l e d s m args below meth c n Qf M (tgt) L (st) sa) (kf : hf_W g p l e d s m args below meth c n Qf M (pc + 3) L (st) sb) : hf_W g p l e d s m args below meth c n Qf M (pc) L (.int x :: st) (if x = 0 then sa else sb) := by
  intro r M' e H locs ls hP hL
  exact lv_if_eq X.1 X.2.1 hd ht (fun c => kt r M' (by rw [if_pos c] at e; exact e) H locs ls hP hL) (fun c => kf r M' (by rw [if_neg c] at e; exact e) H locs ls hP hL)
theorem hr_icmp_eq (X : hf_X g p s m args meth c cc n own ret) {x y : Int32} {off : Int} (tgt : Nat) {sa sb : Option (α × hf_M)} (hd : decode cc pc = .ok (.if_icmp .eq off, 3)) (ht : (pc : Int) + off = (tgt : Int)) (kt : hf_W g p l e d s m args below meth c n Qf M (tgt) L (st) sa) (kf : hf_W g p l e d s m args below meth c n Qf M (pc + 3) L (st) sb) : hf_W g p l e d s m args below meth c n Qf M (pc) L (.int y :: .int x :: st) (if x = y then sa else sb) := by
  intro r M' e H locs ls hP hL
  exact lv_icmp_eq X.1 X.2.1 hd ht (fun c => kt r M' (by rw [if_pos c] at e; exact e) H locs ls hP hL) (fun c => kf r M' (by rw [if_neg c] at e; exact e) H locs ls hP hL)
theorem hr_if_ne (X : hf_X g p s m args meth c cc n own ret) {x : Int32} {off : Int} (tgt : Nat) {sa sb : Option (α × hf_M)} (hd : decode cc pc = .ok (.ifCond .ne off, 3)) (ht : (pc : Int) + off = (tgt : Int)) (kt : hf_W g p l e d s m args below meth c n Qf M (tgt) L (st) sb) (kf : hf_W g p l e d s m args below meth c n Qf M (pc + 3) L (st) sa) : hf_W g p l e d s m args below meth c n Qf M (pc) L (.int x :: st) (if x = 0 then sa else sb) := by
  intro r M' e H locs ls hP hL
  exact lv_if_ne X.1 X.2.1 hd ht (fun c => kt r M' (by rw [if_neg c] at e; exact e) H locs ls hP hL) (fun c => kf r M' (by rw [if_pos c] at e; exact e) H locs ls hP hL)
theorem hr_icmp_ne (X : hf_X g p s m args meth c cc n own ret) {x y : Int32} {off : Int} (tgt : Nat) {sa sb : Option (α × hf_M)} (hd : decode cc pc = .ok (.if_icmp .ne off, 3)) (ht : (pc : Int) + off = (tgt : Int)) (kt : hf_W g p l e d s m args below meth c n Qf M (tgt) L (st) sb) (kf : hf_W g p l e d s m args below meth c n Qf M (pc + 3) L (st) sa) : hf_W g p l e d s m args below meth c n Qf M (pc) L (.int y :: .int x :: st) (if x = y then sa else sb) := by
  intro r M' e H locs ls hP hL
  exact lv_icmp_ne X.1 X.2.1 hd ht (fun c => kt r M' (by rw [if_neg c] at e; exact e) H locs ls hP hL) (fun c => kf r M' (by rw [if_pos c] at e; exact e) H locs ls hP hL)
theorem hr_if_lt (X : hf_X g p s m args meth c cc n own ret) {x : Int32} {off : Int} (tgt : Nat) {sa sb : Option (α × hf_M)} (hd : decode cc pc = .ok (.ifCond .lt off, 3)) (ht : (pc : Int) + off = (tgt : Int)) (kt : hf_W g p l e d s m args below meth c n Qf M (tgt) L (st) sa) (kf : hf_W g p l e d s m args below meth c n Qf M (pc + 3) L (st) sb) : hf_W g p l e d s m args below meth c n Qf M (pc) L (.int x :: st) (if x < 0 then sa else sb) := by
  intro r M' e H locs ls hP hL
  exact lv_if_lt X.1 X.2.1 hd ht (fun c => kt r M' (by rw [if_pos c] at e; exact e) H locs ls hP hL) (fun c => kf r M' (by rw [if_neg c] at e; exact e) H locs ls hP hL)
theorem hr_icmp_lt (X : hf_X g p s m args meth c cc n own ret) {x y : Int32} {off : Int} (tgt : Nat) {sa sb : Option (α × hf_M)} (hd : decode cc pc = .ok (.if_icmp .lt off, 3)) (ht : (pc : Int) + off = (tgt : Int)) (kt : hf_W g p l e d s m args below meth c n Qf M (tgt) L (st) sa) (kf : hf_W g p l e d s m args below meth c n Qf M (pc + 3) L (st) sb) : hf_W g p l e d s m args below meth c n Qf M (pc) L (.int y :: .int x :: st) (if x < y then sa else sb) := by
  intro r M' e H locs ls hP hL
  exact lv_icmp_lt X.1 X.2.1 hd ht (fun c => kt r M' (by rw [if_pos c] at e; exact e) H locs ls hP hL) (fun c => kf r M' (by rw [if_neg c] at e; exact e) H locs ls hP hL)
theorem hr_if_ge (X : hf_X g p s m args meth c cc n own ret) {x : Int32} {off : Int} (tgt : Nat) {sa sb : Option (α × hf_M)} (hd : decode cc pc = .ok (.ifCond .ge off, 3)) (ht : (pc : Int) + off = (tgt : Int)) (kt : hf_W g p l e d s m args below meth c n Qf M (tgt) L (st) sa) (kf : hf_W g p l e d s m args below meth c n Qf M (pc + 3) L (st) sb) : hf_W g p l e d s m args below meth c n Qf M (pc) L (.int x :: st) (if 0 ≤ x then sa else sb) := by
  intro r M' e H locs ls hP hL
  exact lv_if_ge X.1 X.2.1 hd ht (fun c => kt r M' (by rw [if_pos c] at e; exact e) H locs ls hP hL) (fun c => kf r M' (by rw [if_neg c] at e; exact e) H locs ls hP hL)
theorem hr_icmp_ge (X : hf_X g p s m args meth c cc n own ret) {x y : Int32} {off : Int} (tgt : Nat) {sa sb : Option (α × hf_M)} (hd : decode cc pc = .ok (.if_icmp .ge off, 3)) (ht : (pc : Int) + off = (tgt : Int)) (kt : hf_W g p l e d s m args below meth c n Qf M (tgt) L (st) sa) (kf : hf_W g p l e d s m args below meth c n Qf M (pc + 3) L (st) sb) : hf_W g p l e d s m args below meth c n Qf M (pc) L (.int y :: .int x :: st) (if y ≤ x then sa else sb) := by
  intro r M' e H locs ls hP hL
  exact lv_icmp_ge X.1 X.2.1 hd ht (fun c => kt r M' (by rw [if_pos c] at e; exact e) H locs ls hP hL) (fun c => kf r M' (by rw [if_neg c] at e; exact e) H locs ls hP hL)
theorem hr_if_gt (X : hf_X g p s m args meth c cc n own ret) {x : Int32} {off : Int} (tgt : Nat) {sa sb : Option (α × hf_M)} (hd : decode cc pc = .ok (.ifCond .gt off, 3)) (ht : (pc : Int) + off = (tgt : Int)) (kt : hf_W g p l e d s m args below meth c n Qf M (tgt) L (st) sa) (kf : hf_W g p l e d s m args below meth c n Qf M (pc + 3) L (st) sb) : hf_W g p l e d s m args below meth c n Qf M (pc) L (.int x :: st) (if 0 < x then sa else sb) := by
  intro r M' e H locs ls hP hL
  exact lv_if_gt X.1 X.2.1 hd ht (fun c => kt r M' (by rw [if_pos c] at e; exact e) H locs ls hP hL) (fun c => kf r M' (by rw [if_neg c] at e; exact e) H locs ls hP hL)
theorem hr_icmp_gt (X : hf_X g p s m args meth c cc n own ret) {x y : Int32} {off : Int} (tgt : Nat) {sa sb : Option (α × hf_M)} (hd : decode cc pc = .ok (.if_icmp .gt off, 3)) (ht : (pc : Int) + off = (tgt : Int)) (kt : hf_W g p l e d s m args below meth c n Qf M (tgt) L (st) sa) (kf : hf_W g p l e d s m args below meth c n Qf M (pc + 3) L (st) sb) : hf_W g p l e d s m args below meth c n Qf M (pc) L (.int y :: .int x :: st) (if y < x then sa else sb) := by
  intro r M' e H locs ls hP hL
  exact lv_icmp_gt X.1 X.2.1 hd ht (fun c => kt r M' (by rw [if_pos c] at e; exact e) H locs ls hP hL) (fun c => kf r M' (by rw [if_neg c] at e; exact e) H locs ls hP hL)
theorem hr_if_le (X : hf_X g p s m args meth c cc n own ret) {x : Int32} {off : Int} (tgt : Nat) {sa sb : Option (α × hf_M)} (hd : decode cc pc = .ok (.ifCond .le off, 3)) (ht : (pc : Int) + off = (tgt : Int)) (kt : hf_W g p l e d s m args below meth c n Qf M (tgt) L (st) sa) (kf : hf_W g p l e d s m args below meth c n Qf M (pc + 3) L (st) sb) : hf_W g p l e d s m args below meth c n Qf M (pc) L (.int x :: st) (if x ≤ 0 then sa else sb) := by
  intro r M' e H locs ls hP hL
  exact lv_if_le X.1 X.2.1 hd ht (fun c => kt r M' (by rw [if_pos c] at e; exact e) H locs ls hP hL) (fun c => kf r M' (by rw [if_neg c] at e; exact e) H locs ls hP hL)
theorem hr_icmp_le (X : hf_X g p s m args meth c cc n own ret) {x y : Int32} {off : Int} (tgt : Nat) {sa sb : Option (α × hf_M)} (hd : decode cc pc = .ok (.if_icmp .le off, 3)) (ht : (pc : Int) + off = (tgt : Int)) (kt : hf_W g p l e d s m args below meth c n Qf M (tgt) L (st) sa) (kf : hf_W g p l e d s m args below meth c n Qf M (pc + 3) L (st) sb) : hf_W g p l e d s m args below meth c n Qf M (pc) L (.int y :: .int x :: st) (if x ≤ y then sa else sb) := by
  intro r M' e H locs ls hP hL
  exact lv_icmp_le X.1 X.2.1 hd ht (fun c => kt r M' (by rw [if_pos c] at e; exact e) H locs ls hP hL) (fun c => kf r M' (by rw [if_neg c] at e; exact e) H locs ls hP hL)
theorem hr_goto (X : hf_X g p s m args meth c cc n own ret) {off : Int} (tgt : Nat) (hd : decode cc pc = .ok (.goto off, 3)) (ht : (pc : Int) + off = (tgt : Int)) (k : hf_W g p l e d s m args below meth c n Qf M (tgt) L (st) sh) : hf_W g p l e d s m args below meth c n Qf M (pc) L (st) sh := fun r M' e H locs ls hP hL => lv_goto X.1 X.2.1 hd ht (k r M' e H locs ls hP hL)
theorem hr_case {x : Int32} (v : Int32) {sa sb : Option (α × hf_M)} (ka : x = v → hf_W g p l e d s m args below meth c n Qf M (pc) L ((.int v :: st)) sa) (kb : ¬ x = v → hf_W g p l e d s m args below meth c n Qf M (pc) L ((.int x :: st)) sb) : hf_W g p l e d s m args below meth c n Qf M (pc) L ((.int x :: st)) (if x = v then sa else sb) := by
  by_cases h : x = v
  · rw [if_pos h]
    have := ka h
    rw [← h] at this
    exact this
  · rw [if_neg h]
    exact kb h
theorem hr_tabIn (X : hf_X g p s m args meth c cc n own ret) {dflt lo hi : Int} {offs : Array Int} {len : Nat} {x : Int32} {off : Int} (tgt : Nat) (hd : decode cc pc = .ok (.tableswitch dflt lo hi offs, len)) (h1 : ¬ x.toInt < lo) (h2 : ¬ hi < x.toInt) (ho : offs[(x.toInt - lo).toNat]? = some off) (ht : (pc : Int) + off = (tgt : Int)) (k : hf_W g p l e d s m args below meth c n Qf M (tgt) L (st) sh) : hf_W g p l e d s m args below meth c n Qf M (pc) L ((.int x :: st)) sh := fun r M' e H locs ls hP hL => lv_tableIn X.1 X.2.1 hd h1 h2 ho ht (k r M' e H locs ls hP hL)
theorem hr_tabOut (X : hf_X g p s m args meth c cc n own ret) {dflt lo hi : Int} {offs : Array Int} {len : Nat} {x : Int32} (tgt : Nat) (hd : decode cc pc = .ok (.tableswitch dflt lo hi offs, len)) (h : x.toInt < lo ∨ hi < x.toInt) (ht : (pc : Int) + dflt = (tgt : Int)) (k : hf_W g p l e d s m args below meth c n Qf M (tgt) L (st) sh) : hf_W g p l e d s m args below meth c n Qf M (pc) L ((.int x :: st)) sh := fun r M' e H locs ls hP hL => lv_tableOut X.1 X.2.1 hd h ht (k r M' e H locs ls hP hL)
theorem hr_lookup (X : hf_X g p s m args meth c cc n own ret) {dflt : Int} {ps : Array (Int × Int)} {len : Nat} {x : Int32} {off : Int} (tgt : Nat) (hd : decode cc pc = .ok (.lookupswitch dflt ps, len)) (hp : (ps.toList.zip (ps.toList.drop 1)).all (fun (a, next) => a.1 < next.1) = true) (ho : Op.lookupswitch.offset ps.toList dflt x.toInt = off) (ht : (pc : Int) + off = (tgt : Int)) (k : hf_W g p l e d s m args below meth c n Qf M (tgt) L (st) sh) : hf_W g p l e d s m args below meth c n Qf M (pc) L ((.int x :: st)) sh := fun r M' e H locs ls hP hL => lv_lookup X.1 X.2.1 hd hp ho ht (k r M' e H locs ls hP hL)
theorem hf_neT {x : Int32} (k : Int) (h : ¬ x = Int32.ofInt k) (hk : (Int32.ofInt k).toInt = k) : x.toInt ≠ k := fun q => h (Int32.toInt_inj.mp (by rw [hk]; exact q))
theorem hf_br {P : Prop} {i1 i2 : Decidable P} {sa sb : Option (α × hf_M)} : @ite _ P i1 sa sb = @ite _ P i2 sa sb := by congr
theorem hr_idiv (X : hf_X g p s m args meth c cc n own ret) {x y : Int32} (hd : decode cc pc = .ok (.idiv, 1)) (hne : ¬ y = 0) (k : hf_W g p l e d s m args below meth c n Qf M (pc + 1) L ((.int (x / y) :: st)) sh) : hf_W g p l e d s m args below meth c n Qf M (pc) L ((.int y :: .int x :: st)) sh := fun r M' e H locs ls hP hL => lv_idiv X.1 X.2.1 hd hne (k r M' e H locs ls hP hL)
theorem hr_idivC (X : hf_X g p s m args meth c cc n own ret) {x y : Int32} (hd : decode cc pc = .ok (.idiv, 1)) (k : hf_W g p l e d s m args below meth c n Qf M (pc + 1) L ((.int (x / y) :: st)) sh) : hf_W g p l e d s m args below meth c n Qf M (pc) L ((.int y :: .int x :: st)) (hf_nz y sh) := by
  intro r M' e H locs ls hP hL
  unfold hf_nz at e
  by_cases h : y = 0
  · rw [if_pos h] at e; cases e
  · rw [if_neg h] at e
    exact lv_idiv X.1 X.2.1 hd h (k r M' e H locs ls hP hL)
theorem hr_irem (X : hf_X g p s m args meth c cc n own ret) {x y : Int32} (hd : decode cc pc = .ok (.irem, 1)) (hne : ¬ y = 0) (k : hf_W g p l e d s m args below meth c n Qf M (pc + 1) L ((.int (hn_irem x y) :: st)) sh) : hf_W g p l e d s m args below meth c n Qf M (pc) L ((.int y :: .int x :: st)) sh := fun r M' e H locs ls hP hL => lv_irem X.1 X.2.1 hd hne (k r M' e H locs ls hP hL)
theorem hr_iremC (X : hf_X g p s m args meth c cc n own ret) {x y : Int32} (hd : decode cc pc = .ok (.irem, 1)) (k : hf_W g p l e d s m args below meth c n Qf M (pc + 1) L ((.int (hn_irem x y) :: st)) sh) : hf_W g p l e d s m args below meth c n Qf M (pc) L ((.int y :: .int x :: st)) (hf_nz y sh) := by
  intro r M' e H locs ls hP hL
  unfold hf_nz at e
  by_cases h : y = 0
  · rw [if_pos h] at e; cases e
  · rw [if_neg h] at e
    exact lv_irem X.1 X.2.1 hd h (k r M' e H locs ls hP hL)
def hf_FL (own : String) (z : Nat) (C n d : String) : Prop := Cond.fieldLink own z C n d ∈ hf_T ∨ ∃ host, (own, z, C, n, d, host) ∈ hf_NF
theorem hf_get {R : Room} {H : Heap} {locs : List Loc} {cells slots : Nat} {Q : State → Prop} {ls : Array Slot} {rest : List Value} {a : Nat} {tys : List (ClassId × FieldType)} {ws : va_W} (hexec : p.tables.exec = Jvm.exec) (hb : c.code = cc) {ref C : String} {T : u_T} {N ci index : Nat} (hts : ∀ w ∈ hf_T, w.before args s = true) (hin : ∀ w ∈ u_ws C T N, w ∈ hf_T) (hown : s.vm.findClass own = some m.cls) (hK : va_K (hf_D g) vwCl tys s) (hS : hf_S g s s.heap) (hP : va_P (hf_D g) vwCl ws H) (q0 : Nat) {fs : List Value} (he : ws[q0]? = some (a, .inr (ci, fs))) (hc : vwCl[ci]? = some (C, T, N)) (k : Nat) (hk : k < N) (hlink : hf_FL own index ref (T k).2.1 (T k).2.2.1) (hsame : ∀ x, s.fieldFound? (T k).1 (T k).2.1 (T k).2.2.1 = some x → s.fieldFound? ref (T k).2.1 (T k).2.2.1 = some x) {v : Value} (hv : fs[k]? = some v) (hdg : decode cc pc = .ok (.getfield index, 3))
    (kk : W p l e R s m args below meth c H locs cells slots Q (F0 m (pc + 3) ls (v :: rest))) : W p l e R s m args below meth c H locs cells slots Q (F0 m pc ls (.ref a :: rest)) := by
  rcases hlink with hw | ⟨host, hw⟩
  · exact va_get hexec hb hts hin hown hK hP q0 he hc k hk (hts _ hw) hsame hv hdg kk
  · exact va_getN hexec hb hts hin hown hK hP q0 he hc k hk (va_Nw.use rfl (hS.2.2.2.2.1 _ hw)) hsame hv hdg kk
theorem hf_put {R : Room} {H H0 : Heap} {locs : List Loc} {cells slots : Nat} {Q : State → Prop} {ls : Array Slot} {rest : List Value} {a : Nat} {tys : List (ClassId × FieldType)} {ws : va_W} {A : Nat → Prop} (hexec : p.tables.exec = Jvm.exec) (hb : c.code = cc) {ref C : String} {T : u_T} {N ci index : Nat} (hts : ∀ w ∈ hf_T, w.before args s = true) (hin : ∀ w ∈ u_ws C T N, w ∈ hf_T) (ty0 : Nat → FieldType) (hty : ∀ k, k < N → parseFieldDescriptor (T k).2.2.1 = some (ty0 k)) (hnm : ∀ a, a < N → ∀ b, b < N → a ≠ b → (T a).2.1 ≠ (T b).2.1) (hown : s.vm.findClass own = some m.cls) (hK : va_K (hf_D g) vwCl tys s) (hS : hf_S g s s.heap) (hP : va_P (hf_D g) vwCl ws H) (hD : va_D A ws) (hS0 : va_S A H0 H locs) (q0 : Nat) {fs : List Value} (he : ws[q0]? = some (a, .inr (ci, fs))) (hc : vwCl[ci]? = some (C, T, N)) (k : Nat) (hk : k < N) (hlink : hf_FL own index ref (T k).2.1 (T k).2.2.1) (hsame : ∀ x, s.fieldFound? (T k).1 (T k).2.1 (T k).2.2.1 = some x → s.fieldFound? ref (T k).2.1 (T k).2.2.1 = some x) (hfin : (T k).2.2.2 = false) {ty : FieldType} {v : Value} (hd : parseFieldDescriptor (T k).2.2.1 = some ty) (hn : narrow ty v = v) (hfit : fits ty v = true) (hl : k < fs.length)
    (hdg : decode cc pc = .ok (.putfield index, 3)) (kk : ∀ (H1 : Heap) (locs1 : List Loc), va_P (hf_D g) vwCl (ws.set q0 (a, .inr (ci, fs.set k v))) H1 → va_D A (ws.set q0 (a, .inr (ci, fs.set k v))) → va_S A H0 H1 locs1 → W p l e R s m args below meth c H1 locs1 cells slots Q (F0 m (pc + 3) ls rest)) : W p l e R s m args below meth c H locs cells slots Q (F0 m pc ls (v :: .ref a :: rest)) := by
  rcases hlink with hw | ⟨host, hw⟩
  · exact va_put hexec hb hts hin ty0 hty hnm hown hK hP hD hS0 q0 he hc k hk (hts _ hw) hsame hfin hd hn hfit hl hdg kk
  · exact va_putN hexec hb hts hin ty0 hty hnm hown hK hP hD hS0 q0 he hc k hk (va_Nw.use rfl (hS.2.2.2.2.1 _ hw)) hsame hfin hd hn hfit hl hdg kk
theorem hr_getI (X : hf_X g p s m args meth c cc n own ret) {t ci j z N : Nat} {C : String} {T : u_T} (ht : t < 69) (hs : hf_shp t = ci) (hf : hf_fty ci j = 0 ∧ j < hf_nf ci ∧ ci < 6 ∧ vwCl[ci]? = some (C, T, N) ∧ j < N) (hin : ∀ w ∈ u_ws C T N, w ∈ hf_T) (hw : hf_FL own z C (T j).2.1 (T j).2.2.1) (hC : (T j).1 = C) (hd : decode cc pc = .ok (.getfield z, 3)) (k : hf_W g p l e d s m args below meth c n Qf M (pc + 3) L ((.int (M.1 t j) :: st)) sh) : hf_W g p l e d s m args below meth c n Qf M (pc) L ((.ref (hf_a g t) :: st)) sh := by
  intro r M' e H locs ls hP hL
  obtain ⟨hx, hb, hml, hown, hts, hr, hlk, hK, hS, h0⟩ := X
  have he := hf_w_at g M ht
  rw [hf_cO g M hs hf.2.2.1] at he
  refine hf_get hx hb hts hin hown hK hS hP.1 t he hf.2.2.2.1 j hf.2.2.2.2 hw (fun x h => by rw [hC] at h; exact h) (hf_fs_at g M t hf.2.1) hd ?_
  rw [hf_fv, if_pos hf.1]
  exact k r M' e H locs ls hP hL
theorem hr_getL (X : hf_X g p s m args meth c cc n own ret) {t ci j z N : Nat} {C : String} {T : u_T} (ht : t < 69) (hs : hf_shp t = ci) (hf : hf_fty ci j = 1 ∧ j < hf_nf ci ∧ ci < 6 ∧ vwCl[ci]? = some (C, T, N) ∧ j < N) (hin : ∀ w ∈ u_ws C T N, w ∈ hf_T) (hw : hf_FL own z C (T j).2.1 (T j).2.2.1) (hC : (T j).1 = C) (hd : decode cc pc = .ok (.getfield z, 3)) (k : hf_W g p l e d s m args below meth c n Qf M (pc + 3) L ((.long (M.2.1 t j) :: st)) sh) : hf_W g p l e d s m args below meth c n Qf M (pc) L ((.ref (hf_a g t) :: st)) sh := by
  intro r M' e H locs ls hP hL
  obtain ⟨hx, hb, hml, hown, hts, hr, hlk, hK, hS, h0⟩ := X
  have he := hf_w_at g M ht
  rw [hf_cO g M hs hf.2.2.1] at he
  refine hf_get hx hb hts hin hown hK hS hP.1 t he hf.2.2.2.1 j hf.2.2.2.2 hw (fun x h => by rw [hC] at h; exact h) (hf_fs_at g M t hf.2.1) hd ?_
  rw [hf_fv, if_neg (by rw [hf.1]; decide), if_pos hf.1]
  exact k r M' e H locs ls hP hL
theorem hr_getR (X : hf_X g p s m args meth c cc n own ret) {t ci j z N : Nat} {C : String} {T : u_T} {kk : Nat → Option (α × hf_M)} (sw : Nat) (ht : t < 69) (hs : hf_shp t = ci) (hf : hf_fty ci j = 2 ∧ j < hf_nf ci ∧ ci < 6 ∧ vwCl[ci]? = some (C, T, N) ∧ j < N) (hsw : hf_wnt ci j = sw) (hin : ∀ w ∈ u_ws C T N, w ∈ hf_T) (hw : hf_FL own z C (T j).2.1 (T j).2.2.1) (hC : (T j).1 = C) (hd : decode cc pc = .ok (.getfield z, 3)) (k : ∀ q : Nat, q < 69 → hf_shp q = sw → hf_W g p l e d s m args below meth c n Qf M (pc + 3) L ((.ref (hf_a g q) :: st)) (kk q)) : hf_W g p l e d s m args below meth c n Qf M (pc) L ((.ref (hf_a g t) :: st)) (hf_rf (M.2.2 t j) kk) := by
  intro r M' e H locs ls hP hL
  obtain ⟨hx, hb, hml, hown, hts, hr, hlk, hK, hS, h0⟩ := X
  have he := hf_w_at g M ht
  rw [hf_cO g M hs hf.2.2.1] at he
  refine hf_get hx hb hts hin hown hK hS hP.1 t he hf.2.2.2.1 j hf.2.2.2.2 hw (fun x h => by rw [hC] at h; exact h) (hf_fs_at g M t hf.2.1) hd ?_
  rw [hf_fv, if_neg (by rw [hf.1]; decide), if_neg (by rw [hf.1]; decide)]
  unfold hf_rf at e
  cases hq : M.2.2 t j with
  | none => rw [hq] at e; cases e
  | some q =>
    rw [hq] at e
    have h2 := hP.2.2.2 t j q hq
    exact k q h2.1 (by rw [h2.2, hs]; exact hsw) r M' e H locs ls hP hL
theorem hf_RT_I {M : hf_M} (h : hf_RT M) (k j : Nat) (v : Int32) : hf_RT (hf_sI M k j v) := h
theorem hf_RT_L {M : hf_M} (h : hf_RT M) (k j : Nat) (v : Int64) : hf_RT (hf_sL M k j v) := h
theorem hf_RT_R {M : hf_M} (h : hf_RT M) (k j : Nat) (v : Nat) (hv : v < 69 ∧ hf_shp v = hf_wnt (hf_shp k) j) : hf_RT (hf_sR M k j (some v)) := by
  intro a b t ht
  simp only [hf_sR, hf_u] at ht
  by_cases c : a = k ∧ b = j
  · rw [if_pos c] at ht
    cases ht
    rw [c.1, c.2]
    exact hv
  · rw [if_neg c] at ht
    exact h a b t ht
theorem hr_putI (X : hf_X g p s m args meth c cc n own ret) {t ci j z N : Nat} {C : String} {T : u_T} {v : Int32} {ty0 : Nat → FieldType} {ty : FieldType} (ht : t < 69) (hs : hf_shp t = ci) (hf : hf_fty ci j = 0 ∧ j < hf_nf ci ∧ ci < 6 ∧ vwCl[ci]? = some (C, T, N) ∧ j < N) (hin : ∀ w ∈ u_ws C T N, w ∈ hf_T) (hw : hf_FL own z C (T j).2.1 (T j).2.2.1) (hC : (T j).1 = C) (hty : ∀ k, k < N → parseFieldDescriptor (T k).2.2.1 = some (ty0 k)) (hnm : ∀ a, a < N → ∀ b, b < N → a ≠ b → (T a).2.1 ≠ (T b).2.1) (hfin : (T j).2.2.2 = false) (hdd : ty0 j = ty) (hn : narrow ty (.int v) = .int v) (hfit : fits ty (.int v) = true) (hd : decode cc pc = .ok (.putfield z, 3)) (k : hf_W g p l e d s m args below meth c n Qf (hf_sI M t j v) (pc + 3) L (st) sh) : hf_W g p l e d s m args below meth c n Qf M (pc) L ((.int v :: .ref (hf_a g t) :: st)) sh := by
  intro r M' e H locs ls hP hL
  obtain ⟨hx, hb, hml, hown, hts, hr, hlk, hK, hS, h0⟩ := X
  have he := hf_w_at g M ht
  rw [hf_cO g M hs hf.2.2.1] at he
  refine hf_put hx hb hts hin ty0 hty hnm hown hK hS hP.1 hP.2.1 hP.2.2.1 t he hf.2.2.2.1 j hf.2.2.2.2 hw (fun x h => by rw [hC] at h; exact h) hfin (by rw [hty j hf.2.2.2.2, hdd]) hn hfit (by rw [hf_fs_len]; exact hf.2.1) hd (fun H1 locs1 hP1 hD1 hS1 => ?_)
  have e1 : (hf_w g M).set t (hf_a g t, .inr (ci, (hf_fs g M t ci).set j (.int v))) = hf_w g (hf_sI M t j v) := by
    rw [hf_fsI g M t v hf.2.1 hf.1, ← hf_cO g (hf_sI M t j v) hs hf.2.2.1]
    exact hf_w_set g M _ ht (hf_cI_ne g M t j v)
  rw [e1] at hP1 hD1
  exact k r M' e H1 locs1 ls ⟨hP1, hD1, hS1, hf_RT_I hP.2.2.2 t j v⟩ hL
theorem hr_putL (X : hf_X g p s m args meth c cc n own ret) {t ci j z N : Nat} {C : String} {T : u_T} {v : Int64} {ty0 : Nat → FieldType} (ht : t < 69) (hs : hf_shp t = ci) (hf : hf_fty ci j = 1 ∧ j < hf_nf ci ∧ ci < 6 ∧ vwCl[ci]? = some (C, T, N) ∧ j < N) (hin : ∀ w ∈ u_ws C T N, w ∈ hf_T) (hw : hf_FL own z C (T j).2.1 (T j).2.2.1) (hC : (T j).1 = C) (hty : ∀ k, k < N → parseFieldDescriptor (T k).2.2.1 = some (ty0 k)) (hnm : ∀ a, a < N → ∀ b, b < N → a ≠ b → (T a).2.1 ≠ (T b).2.1) (hfin : (T j).2.2.2 = false) (hdd : ty0 j = .long) (hd : decode cc pc = .ok (.putfield z, 3)) (k : hf_W g p l e d s m args below meth c n Qf (hf_sL M t j v) (pc + 3) L (st) sh) : hf_W g p l e d s m args below meth c n Qf M (pc) L ((.long v :: .ref (hf_a g t) :: st)) sh := by
  intro r M' e H locs ls hP hL
  obtain ⟨hx, hb, hml, hown, hts, hr, hlk, hK, hS, h0⟩ := X
  have he := hf_w_at g M ht
  rw [hf_cO g M hs hf.2.2.1] at he
  refine hf_put hx hb hts hin ty0 hty hnm hown hK hS hP.1 hP.2.1 hP.2.2.1 t he hf.2.2.2.1 j hf.2.2.2.2 hw (fun x h => by rw [hC] at h; exact h) hfin (by rw [hty j hf.2.2.2.2, hdd]) rfl rfl (by rw [hf_fs_len]; exact hf.2.1) hd (fun H1 locs1 hP1 hD1 hS1 => ?_)
  have e1 : (hf_w g M).set t (hf_a g t, .inr (ci, (hf_fs g M t ci).set j (.long v))) = hf_w g (hf_sL M t j v) := by
    rw [hf_fsL g M t v hf.2.1 hf.1, ← hf_cO g (hf_sL M t j v) hs hf.2.2.1]
    exact hf_w_set g M _ ht (hf_cL_ne g M t j v)
  rw [e1] at hP1 hD1
  exact k r M' e H1 locs1 ls ⟨hP1, hD1, hS1, hf_RT_L hP.2.2.2 t j v⟩ hL
theorem hr_putR (X : hf_X g p s m args meth c cc n own ret) {t ci j z N q : Nat} {C : String} {T : u_T} {ty0 : Nat → FieldType} {ty : FieldType} (ht : t < 69) (hs : hf_shp t = ci) (hf : hf_fty ci j = 2 ∧ j < hf_nf ci ∧ ci < 6 ∧ vwCl[ci]? = some (C, T, N) ∧ j < N) (hq : q < 69) (hqs : hf_shp q = hf_wnt ci j) (hin : ∀ w ∈ u_ws C T N, w ∈ hf_T) (hw : hf_FL own z C (T j).2.1 (T j).2.2.1) (hC : (T j).1 = C) (hty : ∀ k, k < N → parseFieldDescriptor (T k).2.2.1 = some (ty0 k)) (hnm : ∀ a, a < N → ∀ b, b < N → a ≠ b → (T a).2.1 ≠ (T b).2.1) (hfin : (T j).2.2.2 = false) (hdd : ty0 j = ty) (hn : narrow ty (.ref (hf_a g q)) = .ref (hf_a g q)) (hfit : fits ty (.ref (hf_a g q)) = true) (hd : decode cc pc = .ok (.putfield z, 3)) (k : hf_W g p l e d s m args below meth c n Qf (hf_sR M t j (some q)) (pc + 3) L (st) sh) : hf_W g p l e d s m args below meth c n Qf M (pc) L ((.ref (hf_a g q) :: .ref (hf_a g t) :: st)) sh := by
  intro r M' e H locs ls hP hL
  obtain ⟨hx, hb, hml, hown, hts, hr, hlk, hK, hS, h0⟩ := X
  have he := hf_w_at g M ht
  rw [hf_cO g M hs hf.2.2.1] at he
  refine hf_put hx hb hts hin ty0 hty hnm hown hK hS hP.1 hP.2.1 hP.2.2.1 t he hf.2.2.2.1 j hf.2.2.2.2 hw (fun x h => by rw [hC] at h; exact h) hfin (by rw [hty j hf.2.2.2.2, hdd]) hn hfit (by rw [hf_fs_len]; exact hf.2.1) hd (fun H1 locs1 hP1 hD1 hS1 => ?_)
  have e1 : (hf_w g M).set t (hf_a g t, .inr (ci, (hf_fs g M t ci).set j (.ref (hf_a g q)))) = hf_w g (hf_sR M t j (some q)) := by
    rw [show Value.ref (hf_a g q) = va_rf ((some q).map (hf_a g)) from rfl, hf_fsR g M t (some q) hf.2.1 hf.1, ← hf_cO g (hf_sR M t j (some q)) hs hf.2.2.1]
    exact hf_w_set g M _ ht (hf_cR_ne g M t j (some q))
  rw [e1] at hP1 hD1
  exact k r M' e H1 locs1 ls ⟨hP1, hD1, hS1, hf_RT_R hP.2.2.2 t j q ⟨hq, by rw [hs]; exact hqs⟩⟩ hL
theorem hr_iald (X : hf_X g p s m args meth c cc n own ret) {q : Nat} {i : Int32} {kk : Int32 → Option (α × hf_M)} (hq : q < 69) (hs : hf_shp q = 6) (hd : decode cc pc = .ok (.iaload, 1)) (k : ∀ v, v = M.1 q i.toNatClampNeg → hf_in i (hf_len q) → hf_W g p l e d s m args below meth c n Qf M (pc + 1) L ((.int v :: st)) (kk v)) : hf_W g p l e d s m args below meth c n Qf M (pc) L ((.int i :: .ref (hf_a g q) :: st)) (hf_ldI M q i kk) := by
  intro r M' e H locs ls hP hL
  obtain ⟨hx, hb, hml, hown, hts, hr, hlk, hK, hS, h0⟩ := X
  have he := hf_w_at g M hq
  rw [hf_c6 g M hs] at he
  unfold hf_ldI hf_ix at e
  by_cases hin : i < 0 ∨ hf_len q ≤ i.toNatClampNeg
  · rw [if_pos hin] at e; cases e
  · rw [if_neg hin] at e
    exact va_iald hx hb hK hP.1 q 0 he rfl hin hd (k _ rfl hin r M' e H locs ls hP hL)
theorem hr_iast (X : hf_X g p s m args meth c cc n own ret) {q : Nat} {i : Int32} {v : Int32} {kk : hf_M → Option (α × hf_M)} (hq : q < 69) (hs : hf_shp q = 6) (hd : decode cc pc = .ok (.iastore, 1)) (k : hf_in i (hf_len q) → hf_W g p l e d s m args below meth c n Qf (hf_sI M q i.toNatClampNeg v) (pc + 1) L (st) (kk (hf_sI M q i.toNatClampNeg v))) : hf_W g p l e d s m args below meth c n Qf M (pc) L ((.int v :: .int i :: .ref (hf_a g q) :: st)) (hf_stI M q i v kk) := by
  intro r M' e H locs ls hP hL
  obtain ⟨hx, hb, hml, hown, hts, hr, hlk, hK, hS, h0⟩ := X
  have he := hf_w_at g M hq
  rw [hf_c6 g M hs] at he
  unfold hf_stI hf_ix at e
  by_cases hin : i < 0 ∨ hf_len q ≤ i.toNatClampNeg
  · rw [if_pos hin] at e; cases e
  · rw [if_neg hin] at e
    refine va_iast hx hb hK hP.1 hP.2.1 hP.2.2.1 q 0 he rfl hin hd (fun H1 locs1 hP1 hD1 hS1 => ?_)
    have e1 : (hf_w g M).set q (hf_a g q, .inl (hf_cI g, hf_len q, .inl (upd (M.1 q) i.toNatClampNeg v))) = hf_w g (hf_sI M q i.toNatClampNeg v) := by
      have ef : (hf_sI M q i.toNatClampNeg v).1 q = upd (M.1 q) i.toNatClampNeg v := by
        funext b
        simp [hf_sI, hf_u, upd]
      rw [← hf_w_set g M (hf_sI M q i.toNatClampNeg v) hq (hf_cI_ne g M q _ v), hf_c6 g _ hs, ef]
    rw [e1] at hP1 hD1
    exact k hin r M' e H1 locs1 ls ⟨hP1, hD1, hS1, hf_RT_I hP.2.2.2 q _ v⟩ hL
theorem hr_lald (X : hf_X g p s m args meth c cc n own ret) {q : Nat} {i : Int32} {kk : Int64 → Option (α × hf_M)} (hq : q < 69) (hs : hf_shp q = 7) (hd : decode cc pc = .ok (.laload, 1)) (k : ∀ v, v = M.2.1 q i.toNatClampNeg → hf_in i (hf_len q) → hf_W g p l e d s m args below meth c n Qf M (pc + 1) L ((.long v :: st)) (kk v)) : hf_W g p l e d s m args below meth c n Qf M (pc) L ((.int i :: .ref (hf_a g q) :: st)) (hf_ldL M q i kk) := by
  intro r M' e H locs ls hP hL
  obtain ⟨hx, hb, hml, hown, hts, hr, hlk, hK, hS, h0⟩ := X
  have he := hf_w_at g M hq
  rw [hf_c7 g M hs] at he
  unfold hf_ldL hf_ix at e
  by_cases hin : i < 0 ∨ hf_len q ≤ i.toNatClampNeg
  · rw [if_pos hin] at e; cases e
  · rw [if_neg hin] at e
    exact va_lald hx hb hK hP.1 q 1 he rfl hin hd (k _ rfl hin r M' e H locs ls hP hL)
theorem hr_last (X : hf_X g p s m args meth c cc n own ret) {q : Nat} {i : Int32} {v : Int64} {kk : hf_M → Option (α × hf_M)} (hq : q < 69) (hs : hf_shp q = 7) (hd : decode cc pc = .ok (.lastore, 1)) (k : hf_in i (hf_len q) → hf_W g p l e d s m args below meth c n Qf (hf_sL M q i.toNatClampNeg v) (pc + 1) L (st) (kk (hf_sL M q i.toNatClampNeg v))) : hf_W g p l e d s m args below meth c n Qf M (pc) L ((.long v :: .int i :: .ref (hf_a g q) :: st)) (hf_stL M q i v kk) := by
  intro r M' e H locs ls hP hL
  obtain ⟨hx, hb, hml, hown, hts, hr, hlk, hK, hS, h0⟩ := X
  have he := hf_w_at g M hq
  rw [hf_c7 g M hs] at he
  unfold hf_stL hf_ix at e
  by_cases hin : i < 0 ∨ hf_len q ≤ i.toNatClampNeg
  · rw [if_pos hin] at e; cases e
  · rw [if_neg hin] at e
    refine va_last hx hb hK hP.1 hP.2.1 hP.2.2.1 q 1 he rfl hin hd (fun H1 locs1 hP1 hD1 hS1 => ?_)
    have e1 : (hf_w g M).set q (hf_a g q, .inl (hf_cJ g, hf_len q, .inr (.inl (vp_updL (M.2.1 q) i.toNatClampNeg v)))) = hf_w g (hf_sL M q i.toNatClampNeg v) := by
      have ef : (hf_sL M q i.toNatClampNeg v).2.1 q = vp_updL (M.2.1 q) i.toNatClampNeg v := by
        funext b
        simp [hf_sL, hf_u, vp_updL]
      rw [← hf_w_set g M (hf_sL M q i.toNatClampNeg v) hq (hf_cL_ne g M q _ v), hf_c7 g _ hs, ef]
    rw [e1] at hP1 hD1
    exact k hin r M' e H1 locs1 ls ⟨hP1, hD1, hS1, hf_RT_L hP.2.2.2 q _ v⟩ hL
theorem hr_aald (X : hf_X g p s m args meth c cc n own ret) {q : Nat} {i : Int32} {kk : Nat → Option (α × hf_M)} (hq : q < 69) (hs : hf_shp q = 8) (hl : hf_len q = 8) (hd : decode cc pc = .ok (.aaload, 1)) (k : ∀ t, t < 69 → hf_shp t = 2 → hf_W g p l e d s m args below meth c n Qf M (pc + 1) L ((.ref (hf_a g t) :: st)) (kk t)) : hf_W g p l e d s m args below meth c n Qf M (pc) L ((.int i :: .ref (hf_a g q) :: st)) (hf_ldR M q i kk) := by
  intro r M' e H locs ls hP hL
  obtain ⟨hx, hb, hml, hown, hts, hr, hlk, hK, hS, h0⟩ := X
  have he := hf_w_at g M hq
  rw [hf_c8 g M hs] at he
  unfold hf_ldR hf_ix at e
  by_cases hin : i < 0 ∨ hf_len q ≤ i.toNatClampNeg
  · rw [if_pos hin] at e; cases e
  · rw [if_neg hin] at e
    refine va_aldq hx hb hK hP.1 q 2 he rfl hin hd ?_
    unfold hf_rf at e
    dsimp only at e
    cases hz : M.2.2 q i.toNatClampNeg with
    | none => rw [hz] at e; cases e
    | some t =>
      rw [hz] at e
      have h2 := hP.2.2.2 q _ t hz
      have h3 : hf_shp t = 2 := by
        rw [h2.2, hs]
        have hlt : i.toNatClampNeg < 8 := by
          rw [hl] at hin
          exact Nat.not_le.mp fun w => hin (Or.inr w)
        revert hlt
        generalize i.toNatClampNeg = w
        intro hlt
        exact (show ∀ w, w < 8 → hf_wnt 8 w = 2 by decide) w hlt
      exact k t h2.1 h3 r M' e H locs ls hP hL
theorem hr_alenI (X : hf_X g p s m args meth c cc n own ret) {q : Nat} (v : Int32) (hq : q < 69) (hs : hf_shp q = 6) (hv : Int32.ofNat (hf_len q) = v) (hd : decode cc pc = .ok (.arraylength, 1)) (k : hf_W g p l e d s m args below meth c n Qf M (pc + 1) L ((.int v :: st)) sh) : hf_W g p l e d s m args below meth c n Qf M (pc) L ((.ref (hf_a g q) :: st)) sh := by
  intro r M' e H locs ls hP hL
  obtain ⟨hx, hb, hml, hown, hts, hr, hlk, hK, hS, h0⟩ := X
  have he := hf_w_at g M hq
  rw [hf_c6 g M hs] at he
  exact va_alen hx hb hK hP.1 q 0 he (ty := .int) rfl hv hd (k r M' e H locs ls hP hL)
theorem hr_gsAB (X : hf_X g p s m args meth c cc n own ret) {z : Nat} (hw : hf_FL own z RX4 "ABOVE" "[I") (hd : decode cc pc = .ok (.getstatic z, 3)) (k : hf_W g p l e d s m args below meth c n Qf M (pc + 3) L ((.ref (hf_tA g) :: st)) sh) : hf_W g p l e d s m args below meth c n Qf M (pc) L (st) sh := by
  intro r M' e H locs ls hP hL
  obtain ⟨hx, hb, hml, hown, hts, hr, hlk, hK, hS, h0⟩ := X
  rcases hw with hw | ⟨host, hw⟩
  · exact va_gets hx hb hS.1.1 hP.2.2.1 hown (hts _ hw) (fun x h => h) hd (k r M' e H locs ls hP hL)
  · exact va_getsN hx hb hS.1.1 hP.2.2.1 hown (va_Nw.use rfl (hS.2.2.2.2.1 _ hw)) (fun x h => h) hd (k r M' e H locs ls hP hL)
theorem hr_ldAB (X : hf_X g p s m args meth c cc n own ret) {i : Int32} {kk : Int32 → Option (α × hf_M)} (hd : decode cc pc = .ok (.iaload, 1)) (k : ∀ v, v = hf_AB i.toNatClampNeg → hf_in i 7 → hf_W g p l e d s m args below meth c n Qf M (pc + 1) L ((.int v :: st)) (kk v)) : hf_W g p l e d s m args below meth c n Qf M (pc) L ((.int i :: .ref (hf_tA g) :: st)) (hf_ldAB i kk) := by
  intro r M' e H locs ls hP hL
  obtain ⟨hx, hb, hml, hown, hts, hr, hlk, hK, hS, h0⟩ := X
  unfold hf_ldAB hf_ix at e
  by_cases hin : i < 0 ∨ 7 ≤ i.toNatClampNeg
  · rw [if_pos hin] at e; cases e
  · rw [if_neg hin] at e
    exact va_ti hx hb hS.1.2 hP.2.2.1 hin rfl hd (k _ rfl hin r M' e H locs ls hP hL)
theorem hr_gsSO (X : hf_X g p s m args meth c cc n own ret) {z : Nat} (hw : hf_FL own z RX4 "SO" "[J") (hd : decode cc pc = .ok (.getstatic z, 3)) (k : hf_W g p l e d s m args below meth c n Qf M (pc + 3) L ((.ref (hf_tS g) :: st)) sh) : hf_W g p l e d s m args below meth c n Qf M (pc) L (st) sh := by
  intro r M' e H locs ls hP hL
  obtain ⟨hx, hb, hml, hown, hts, hr, hlk, hK, hS, h0⟩ := X
  rcases hw with hw | ⟨host, hw⟩
  · exact va_gets hx hb hS.2.1.1 hP.2.2.1 hown (hts _ hw) (fun x h => h) hd (k r M' e H locs ls hP hL)
  · exact va_getsN hx hb hS.2.1.1 hP.2.2.1 hown (va_Nw.use rfl (hS.2.2.2.2.1 _ hw)) (fun x h => h) hd (k r M' e H locs ls hP hL)
theorem hr_ldSO (X : hf_X g p s m args meth c cc n own ret) {i : Int32} {kk : Int64 → Option (α × hf_M)} (hd : decode cc pc = .ok (.laload, 1)) (k : ∀ v, v = hf_SO i.toNatClampNeg → hf_in i 6 → hf_W g p l e d s m args below meth c n Qf M (pc + 1) L ((.long v :: st)) (kk v)) : hf_W g p l e d s m args below meth c n Qf M (pc) L ((.int i :: .ref (hf_tS g) :: st)) (hf_ldSO i kk) := by
  intro r M' e H locs ls hP hL
  obtain ⟨hx, hb, hml, hown, hts, hr, hlk, hK, hS, h0⟩ := X
  unfold hf_ldSO hf_ix at e
  by_cases hin : i < 0 ∨ 6 ≤ i.toNatClampNeg
  · rw [if_pos hin] at e; cases e
  · rw [if_neg hin] at e
    exact va_tl hx hb hS.2.1.2 hP.2.2.1 hin rfl hd (k _ rfl hin r M' e H locs ls hP hL)
theorem hr_gsBO (X : hf_X g p s m args meth c cc n own ret) {z : Nat} (hw : hf_FL own z RX0 "BODIES" "[I") (hd : decode cc pc = .ok (.getstatic z, 3)) (k : hf_W g p l e d s m args below meth c n Qf M (pc + 3) L ((.ref (hf_tB g) :: st)) sh) : hf_W g p l e d s m args below meth c n Qf M (pc) L (st) sh := by
  intro r M' e H locs ls hP hL
  obtain ⟨hx, hb, hml, hown, hts, hr, hlk, hK, hS, h0⟩ := X
  rcases hw with hw | ⟨host, hw⟩
  · exact va_gets hx hb hS.2.2.1.1 hP.2.2.1 hown (hts _ hw) (fun x h => h) hd (k r M' e H locs ls hP hL)
  · exact va_getsN hx hb hS.2.2.1.1 hP.2.2.1 hown (va_Nw.use rfl (hS.2.2.2.2.1 _ hw)) (fun x h => h) hd (k r M' e H locs ls hP hL)
theorem hr_ldBO (X : hf_X g p s m args meth c cc n own ret) {i : Int32} {kk : Int32 → Option (α × hf_M)} (hd : decode cc pc = .ok (.iaload, 1)) (k : ∀ v, v = hf_BO i.toNatClampNeg → hf_in i 21 → hf_W g p l e d s m args below meth c n Qf M (pc + 1) L ((.int v :: st)) (kk v)) : hf_W g p l e d s m args below meth c n Qf M (pc) L ((.int i :: .ref (hf_tB g) :: st)) (hf_ldBO i kk) := by
  intro r M' e H locs ls hP hL
  obtain ⟨hx, hb, hml, hown, hts, hr, hlk, hK, hS, h0⟩ := X
  unfold hf_ldBO hf_ix at e
  by_cases hin : i < 0 ∨ 21 ≤ i.toNatClampNeg
  · rw [if_pos hin] at e; cases e
  · rw [if_neg hin] at e
    exact va_ti hx hb hS.2.2.1.2 hP.2.2.1 hin rfl hd (k _ rfl hin r M' e H locs ls hP hL)
theorem hr_glAB (X : hf_X g p s m args meth c cc n own ret) (v : Int32) (hv : v = 7) (hd : decode cc pc = .ok (.arraylength, 1)) (k : hf_W g p l e d s m args below meth c n Qf M (pc + 1) L ((.int v :: st)) sh) : hf_W g p l e d s m args below meth c n Qf M (pc) L ((.ref (hf_tA g) :: st)) sh := by
  intro r M' e H locs ls hP hL
  obtain ⟨hx, hb, hml, hown, hts, hr, hlk, hK, hS, h0⟩ := X
  exact va_tlen hx hb hS.1.2 hP.2.2.1 (by rw [hv]; rfl) hd (k r M' e H locs ls hP hL)
theorem hr_mmax (X : hf_X g p s m args meth c cc n own ret) {z : Nat} {x y : Int32} (h1 : Cond.methodLink own z Lib.Math.max.name ∈ hf_T) (h2 : Cond.static Lib.Math.max.name ∈ hf_T) (h3 : Cond.initialized "java/lang/Math" ∈ hf_T) (h4 : Cond.code Lib.Math.max.name Lib.Math.max.code 2 (some .int) ∈ hf_T) (hdd : 1 ≤ d) (hst : (st.map fun v => v.category).sum ≤ 8) (hd : decode cc pc = .ok (.invokestatic z, 3)) (k : hf_W g p l e d s m args below meth c n Qf M (pc + 3) L ((.int (hn_max x y) :: st)) sh) : hf_W g p l e d s m args below meth c n Qf M (pc) L ((.int y :: .int x :: st)) sh := by
  intro r M' e H locs ls hP hL
  obtain ⟨hx, hb, hml, hown, hts, hr, hlk, hK, hS, h0⟩ := X
  exact va_mmax hx hb (by rw [hml, hL.1]) hown (hts _ h1) (hts _ h2) (hts _ h3) (hts _ h4) hdd (by show _ ≤ 48 * d; omega) (Nat.zero_le _) (Nat.zero_le _) hd (k r M' e H locs ls hP hL)
theorem hr_mmin (X : hf_X g p s m args meth c cc n own ret) {z : Nat} {x y : Int32} (h1 : Cond.methodLink own z Lib.Math.min.name ∈ hf_T) (h2 : Cond.static Lib.Math.min.name ∈ hf_T) (h3 : Cond.initialized "java/lang/Math" ∈ hf_T) (h4 : Cond.code Lib.Math.min.name Lib.Math.min.code 2 (some .int) ∈ hf_T) (hdd : 1 ≤ d) (hst : (st.map fun v => v.category).sum ≤ 8) (hd : decode cc pc = .ok (.invokestatic z, 3)) (k : hf_W g p l e d s m args below meth c n Qf M (pc + 3) L ((.int (hn_min x y) :: st)) sh) : hf_W g p l e d s m args below meth c n Qf M (pc) L ((.int y :: .int x :: st)) sh := by
  intro r M' e H locs ls hP hL
  obtain ⟨hx, hb, hml, hown, hts, hr, hlk, hK, hS, h0⟩ := X
  exact va_mmin hx hb (by rw [hml, hL.1]) hown (hts _ h1) (hts _ h2) (hts _ h3) (hts _ h4) hdd (by show _ ≤ 48 * d; omega) (Nat.zero_le _) (Nat.zero_le _) hd (k r M' e H locs ls hP hL)
end HF
theorem hf_S_at {g : hf_G} {s t : State} {H : Heap} {locs : List Loc} (h : hf_S g s s.heap) (hS : va_S (hf_A g) s.heap H locs) (hW : s.WarmedH t.vm) (ht : t.heap = H) : hf_S g t t.heap := by
  have hk : ∀ a : Nat, a < s.heap.size → ¬ hf_A g a → t.heap[a]? = s.heap[a]? := fun a h1 h2 => by rw [ht]; exact hS.2.1 a h1 h2
  have hv := hW.alike
  exact ⟨⟨(va_Z.moved hv h.1.1).kept hk, (va_T.moved hv h.1.2).kept hk⟩, ⟨(va_Z.moved hv h.2.1.1).kept hk, (va_T.moved hv h.2.1.2).kept hk⟩, ⟨(va_Z.moved hv h.2.2.1.1).kept hk, (va_T.moved hv h.2.2.1.2).kept hk⟩,
    ⟨(va_Z.moved hv h.2.2.2.1.1).kept hk, (vk_S.moved hv h.2.2.2.1.2.1).kept hk, fun i hi => vk_R.warm hW (h.2.2.2.1.2.2 i hi)⟩, fun q hq => va_Nw.warmF hW (h.2.2.2.2.1 q hq), fun q hq => va_Nw.warmM hW (h.2.2.2.2.2 q hq)⟩
def hf_Pic (g : hf_G) (M : hf_M) (U : State) : Prop := hf_s0 g ≤ U.heap.size ∧ va_P (hf_D g) vwCl (hf_w g M) U.heap ∧ va_D (hf_A g) (hf_w g M) ∧ va_K (hf_D g) vwCl (hf_ty g) U ∧ hf_RT M ∧ hf_S g U U.heap
theorem hf_Pic_at {g : hf_G} {M : hf_M} {s t : State} {H : Heap} {locs : List Loc} (hK : va_K (hf_D g) vwCl (hf_ty g) s) (hS : hf_S g s s.heap) (h0 : hf_s0 g ≤ s.heap.size) (hP : hf_P g M s H locs) (ht : t.heap = H) (hW : s.WarmedH t.vm) : hf_Pic g M t :=
  ⟨by rw [ht]; exact Nat.le_trans h0 hP.2.2.1.1, by rw [ht]; exact hP.1, hP.2.1, va_K.moved hW.alike hK, hP.2.2.2, hf_S_at hS hP.2.2.1 hW ht⟩
theorem hf_S_blind {g : hf_G} {U : State} {f : JFrame} {mk : MethodId} {a : Array Value} (h : hf_S g U U.heap) : hf_S g (U.calling f mk a) (U.calling f mk a).heap := by
  have hv := Vm.Alike.refl U.vm
  exact ⟨⟨va_Z.moved (U := U.calling f mk a) hv h.1.1, va_T.moved (U := U.calling f mk a) hv h.1.2⟩, ⟨va_Z.moved (U := U.calling f mk a) hv h.2.1.1, va_T.moved (U := U.calling f mk a) hv h.2.1.2⟩, ⟨va_Z.moved (U := U.calling f mk a) hv h.2.2.1.1, va_T.moved (U := U.calling f mk a) hv h.2.2.1.2⟩,
    ⟨va_Z.moved (U := U.calling f mk a) hv h.2.2.2.1.1, vk_S.moved (U := U.calling f mk a) hv h.2.2.2.1.2.1, fun i hi => vk_R.same (U := U.calling f mk a) rfl (h.2.2.2.1.2.2 i hi)⟩, fun q hq => va_Nw.same (U := U.calling f mk a) rfl rfl (h.2.2.2.2.1 q hq), fun q hq => va_Nw.same (U := U.calling f mk a) rfl rfl (h.2.2.2.2.2 q hq)⟩
theorem hf_blind (g : hf_G) (M : hf_M) (av : List Value) : FrameBlind (va_Pc av (hf_Pic g M)) := fun a U f mk h =>
  ⟨h.1, h.2.1, h.2.2.1, h.2.2.2.1, va_K.moved (u := U) (U := U.calling f mk a) (Vm.Alike.refl U.vm) h.2.2.2.2.1, h.2.2.2.2.2.1, hf_S_blind h.2.2.2.2.2.2⟩
/-- the contracts: of a method that gives an int (or a boolean), a long, nothing -/
def hf_CI (y : MethodName) (cd : ByteArray) (maxL : Nat) (ret : Option FieldType) (d : Nat) (av : hf_G → List Value) (M : hf_M) (sh : Option (Int32 × hf_M)) : Prop :=
  ∀ (l : Launch) (g : hf_G) (r : Int32) (M' : hf_M), sh = some (r, M') → Met l y (.code y cd maxL ret :: hf_T) (hf_R d) (va_Pc (av g) (hf_Pic g M)) (va_Qi (fun x (_ : Unit) => x = r) (fun _ t => hf_Pic g M' t) (hf_A g)) 0 0 (hf_A g)
def hf_CJ (y : MethodName) (cd : ByteArray) (maxL : Nat) (ret : Option FieldType) (d : Nat) (av : hf_G → List Value) (M : hf_M) (sh : Option (Int64 × hf_M)) : Prop :=
  ∀ (l : Launch) (g : hf_G) (r : Int64) (M' : hf_M), sh = some (r, M') → Met l y (.code y cd maxL ret :: hf_T) (hf_R d) (va_Pc (av g) (hf_Pic g M)) (va_Ql (fun x (_ : Unit) => x = r) (fun _ t => hf_Pic g M' t) (hf_A g)) 0 0 (hf_A g)
def hf_CV (y : MethodName) (cd : ByteArray) (maxL : Nat) (ret : Option FieldType) (d : Nat) (av : hf_G → List Value) (M : hf_M) (sh : Option (Unit × hf_M)) : Prop :=
  ∀ (l : Launch) (g : hf_G) (r : Unit) (M' : hf_M), sh = some (r, M') → Met l y (.code y cd maxL ret :: hf_T) (hf_R d) (va_Pc (av g) (hf_Pic g M)) (va_Qv (fun (_ : Unit) => True) (fun _ t => hf_Pic g M' t) (hf_A g)) 0 0 (hf_A g)
def hf_QI (g : hf_G) (below : List Frame) (args : Array Value) (s : State) : Int32 → hf_M → State → Prop := fun r M' => MQ below (va_Qi (fun x (_ : Unit) => x = r) (fun _ t => hf_Pic g M' t) (hf_A g)) args s 0 0 (hf_A g)
def hf_QJ (g : hf_G) (below : List Frame) (args : Array Value) (s : State) : Int64 → hf_M → State → Prop := fun r M' => MQ below (va_Ql (fun x (_ : Unit) => x = r) (fun _ t => hf_Pic g M' t) (hf_A g)) args s 0 0 (hf_A g)
def hf_QV (g : hf_G) (below : List Frame) (args : Array Value) (s : State) : Unit → hf_M → State → Prop := fun _ M' => MQ below (va_Qv (fun (_ : Unit) => True) (fun _ t => hf_Pic g M' t) (hf_A g)) args s 0 0 (hf_A g)
/-- a link of a call -/
def hf_kv (own : String) (z : Nat) (y : MethodName) (cd : ByteArray) (maxL : Nat) (ret : Option FieldType) (C : String) (k : Nat) : Prop :=
  (GoodIn hf_T (wsV own z C y (.code y cd maxL ret :: hf_T)) ∧ maxL ≤ 29) ∧ (y.cls = C ∧ y.cls ≠ "java/lang/invoke/MethodHandle" ∧ y.cls ≠ "java/lang/invoke/VarHandle" ∧ (parseMethodDescriptor y.desc).map (fun d => d.parameters.length) = some k)
def hf_ks (own : String) (z : Nat) (y : MethodName) (cd : ByteArray) (maxL : Nat) (ret : Option FieldType) (k : Nat) : Prop :=
  ((Cond.methodLink own z y ∈ hf_T ∨ ∃ host, (own, z, y, host) ∈ hf_NM) ∧ Cond.static y ∈ hf_T ∧ Cond.initialized y.cls ∈ hf_T ∧ Cond.code y cd maxL ret ∈ hf_T ∧ maxL ≤ 29) ∧ (y.cls ≠ "java/lang/invoke/MethodHandle" ∧ y.cls ≠ "java/lang/invoke/VarHandle" ∧ (parseMethodDescriptor y.desc).map (fun d => d.parameters.length) = some k)
theorem hf_kv_of {own : String} {z : Nat} {y : MethodName} {cd : ByteArray} {maxL : Nat} {ret : Option FieldType} {C : String} {k : Nat} (h1 : Cond.methodLink own z y ∈ hf_T) (h2 : Cond.instanceMethod y ∈ hf_T) (h3 : Cond.selects C y y ∈ hf_T) (h4 : Cond.initialized C ∈ hf_T) (h5 : Cond.code y cd maxL ret ∈ hf_T) (hm : maxL ≤ 29)
    (hd : y.cls = C ∧ y.cls ≠ "java/lang/invoke/MethodHandle" ∧ y.cls ≠ "java/lang/invoke/VarHandle" ∧ (parseMethodDescriptor y.desc).map (fun d => d.parameters.length) = some k) : hf_kv own z y cd maxL ret C k := by
  refine ⟨⟨fun w hw => ?_, hm⟩, hd⟩
  simp only [wsV, List.mem_append, List.mem_cons, List.not_mem_nil, or_false] at hw
  rcases hw with (rfl | rfl | rfl | rfl) | rfl | hw
  · exact hf_good h1
  · exact hf_good h2
  · exact hf_good h3
  · exact hf_good h4
  · exact hf_good h5
  · exact hf_good hw
/-- locals at a method's entry -/
def hf_L0 (vs : List Value) (n : Nat) : List (Option Value) := let q := vs.flatMap (fun v => if v.category = 2 then [some v, none] else [some v]); q ++ List.replicate (n - q.length) none
theorem hf_L0_in : ∀ (vs : List Value) (n i j : Nat) (v : Value), (vs.flatMap (fun v => if v.category = 2 then [some v, none] else [some v]) ++ List.replicate n none)[j]? = some (some v) → (i + j, v) ∈ lv_args i vs
  | [], n, i, j, v, h => by
    simp [List.getElem?_replicate] at h
  | w :: vs, n, i, j, v, h => by
    rw [List.flatMap_cons] at h
    rcases lv_cat w with hc | hc
    · rw [if_neg (by omega)] at h
      unfold lv_args
      cases j with
      | zero => simp at h; subst h; simp
      | succ j =>
        simp only [List.cons_append, List.nil_append, List.getElem?_cons_succ] at h
        have := hf_L0_in vs n (i + 1) j v h
        rw [show i + (j + 1) = i + 1 + j by omega]
        simp [hc]
        exact Or.inr this
    · rw [if_pos hc] at h
      unfold lv_args
      cases j with
      | zero => simp at h; subst h; simp
      | succ j =>
        cases j with
        | zero => simp at h
        | succ j =>
          simp only [List.cons_append, List.nil_append, List.getElem?_cons_succ] at h
          have := hf_L0_in vs n (i + 2) j v h
          rw [show i + (j + 1 + 1) = i + 2 + j by omega]
          simp [hc]
          exact Or.inr this

theorem hf_metI {y : MethodName} {cd : ByteArray} {maxL : Nat} {ret : Option FieldType} {d : Nat} {av : hf_G → List Value} {M : hf_M} {sh : Option (Int32 × hf_M)} (hy : plainName y.cls = true) (hml : ∀ g, (lg_sl (av g)).length ≤ maxL)
    (body : ∀ (g : hf_G) (p : Program) (l : Launch) (e : Env) (s : State) (m : MethodId) (args : Array Value) (below : List Frame) (meth : Method) (c : Code), hf_X g p s m args meth c cd maxL y.cls ret → hf_W g p l e d s m args below meth c maxL (hf_QI g below args s) M 0 (hf_L0 (av g) maxL) [] sh) : hf_CI y cd maxL ret d av M sh := by
  intro l g r M' hsh
  refine Met.ofW (cc := cd) (maxL := maxL) (ret := ret) hy rfl ?_
  intro p e s m args below meth c s₁ B hmx hv
  obtain ⟨ha, h0, hP, hD, hK, hRT, hS⟩ := hv
  have hts := atoms_spec (ws := Cond.code y cd maxL ret :: hf_T) B.pre
  have X : hf_X g p s m args meth c cd maxL y.cls ret := ⟨B.exec, B.bytes, hmx, findClass_of_methodNamed B.named, fun w hw => hts w (List.mem_cons_of_mem _ hw), B.returns, B.notSynchronized, hK, hS, h0⟩
  have hl := lv_entry (av g) (n := maxL) (hml g)
  rw [ha, lg_entry_eq, ← ha]
  have hl2 : hf_L ((lg_sl (av g) ++ List.replicate (maxL - (lg_sl (av g)).length) Slot.unset).toArray) maxL (hf_L0 (av g) maxL) := ⟨hl.1, hl.2.1, fun i v h => hl.2.2 (i, v) (by have := hf_L0_in (av g) _ 0 i v h; simpa using this)⟩
  exact body g p l e s m args below meth c X r M' hsh s.heap [] _ ⟨hP, hD, va_S.rf, hRT⟩ hl2
theorem hf_metJ {y : MethodName} {cd : ByteArray} {maxL : Nat} {ret : Option FieldType} {d : Nat} {av : hf_G → List Value} {M : hf_M} {sh : Option (Int64 × hf_M)} (hy : plainName y.cls = true) (hml : ∀ g, (lg_sl (av g)).length ≤ maxL)
    (body : ∀ (g : hf_G) (p : Program) (l : Launch) (e : Env) (s : State) (m : MethodId) (args : Array Value) (below : List Frame) (meth : Method) (c : Code), hf_X g p s m args meth c cd maxL y.cls ret → hf_W g p l e d s m args below meth c maxL (hf_QJ g below args s) M 0 (hf_L0 (av g) maxL) [] sh) : hf_CJ y cd maxL ret d av M sh := by
  intro l g r M' hsh
  refine Met.ofW (cc := cd) (maxL := maxL) (ret := ret) hy rfl ?_
  intro p e s m args below meth c s₁ B hmx hv
  obtain ⟨ha, h0, hP, hD, hK, hRT, hS⟩ := hv
  have hts := atoms_spec (ws := Cond.code y cd maxL ret :: hf_T) B.pre
  have X : hf_X g p s m args meth c cd maxL y.cls ret := ⟨B.exec, B.bytes, hmx, findClass_of_methodNamed B.named, fun w hw => hts w (List.mem_cons_of_mem _ hw), B.returns, B.notSynchronized, hK, hS, h0⟩
  have hl := lv_entry (av g) (n := maxL) (hml g)
  rw [ha, lg_entry_eq, ← ha]
  have hl2 : hf_L ((lg_sl (av g) ++ List.replicate (maxL - (lg_sl (av g)).length) Slot.unset).toArray) maxL (hf_L0 (av g) maxL) := ⟨hl.1, hl.2.1, fun i v h => hl.2.2 (i, v) (by have := hf_L0_in (av g) _ 0 i v h; simpa using this)⟩
  exact body g p l e s m args below meth c X r M' hsh s.heap [] _ ⟨hP, hD, va_S.rf, hRT⟩ hl2
theorem hf_metV {y : MethodName} {cd : ByteArray} {maxL : Nat} {ret : Option FieldType} {d : Nat} {av : hf_G → List Value} {M : hf_M} {sh : Option (Unit × hf_M)} (hy : plainName y.cls = true) (hml : ∀ g, (lg_sl (av g)).length ≤ maxL)
    (body : ∀ (g : hf_G) (p : Program) (l : Launch) (e : Env) (s : State) (m : MethodId) (args : Array Value) (below : List Frame) (meth : Method) (c : Code), hf_X g p s m args meth c cd maxL y.cls ret → hf_W g p l e d s m args below meth c maxL (hf_QV g below args s) M 0 (hf_L0 (av g) maxL) [] sh) : hf_CV y cd maxL ret d av M sh := by
  intro l g r M' hsh
  refine Met.ofW (cc := cd) (maxL := maxL) (ret := ret) hy rfl ?_
  intro p e s m args below meth c s₁ B hmx hv
  obtain ⟨ha, h0, hP, hD, hK, hRT, hS⟩ := hv
  have hts := atoms_spec (ws := Cond.code y cd maxL ret :: hf_T) B.pre
  have X : hf_X g p s m args meth c cd maxL y.cls ret := ⟨B.exec, B.bytes, hmx, findClass_of_methodNamed B.named, fun w hw => hts w (List.mem_cons_of_mem _ hw), B.returns, B.notSynchronized, hK, hS, h0⟩
  have hl := lv_entry (av g) (n := maxL) (hml g)
  rw [ha, lg_entry_eq, ← ha]
  have hl2 : hf_L ((lg_sl (av g) ++ List.replicate (maxL - (lg_sl (av g)).length) Slot.unset).toArray) maxL (hf_L0 (av g) maxL) := ⟨hl.1, hl.2.1, fun i v h => hl.2.2 (i, v) (by have := hf_L0_in (av g) _ 0 i v h; simpa using this)⟩
  exact body g p l e s m args below meth c X r M' hsh s.heap [] _ ⟨hP, hD, va_S.rf, hRT⟩ hl2
section HG
variable {α β : Type} {g : hf_G} {p : Program} {l : Launch} {ev : Env} {d : Nat} {s : State} {m : MethodId} {args : Array Value} {below : List Frame} {meth : Method} {c : Code} {n : Nat} {Qf : α → hf_M → State → Prop} {M : hf_M} {pc : Nat} {L : List (Option Value)} {st : List Value} {sh : Option (α × hf_M)} {cc : ByteArray} {own : String} {ret : Option FieldType}
theorem hr_iret (X : hf_X g p s m args meth c cc n own (some .int)) {v : Int32} (hd : decode cc pc = .ok (.ireturn, 1)) : hf_W g p l ev d s m args below meth c n (hf_QI g below args s) M pc L [.int v] (some (v, M)) := by
  intro r M' e H locs ls hP hL
  cases e
  obtain ⟨hx, hb, hml, hown, hts, hr, hlk, hK, hS, h0⟩ := X
  exact W.iret hx hb hr (fun t ht hW => ⟨⟨v, (), rfl, rfl, hf_Pic_at hK hS h0 hP ht hW⟩, hP.2.2.1.F ht⟩) hP.2.2.1.2.2 hd hlk
theorem hr_lret (X : hf_X g p s m args meth c cc n own (some .long)) {v : Int64} (hd : decode cc pc = .ok (.lreturn, 1)) : hf_W g p l ev d s m args below meth c n (hf_QJ g below args s) M pc L [.long v] (some (v, M)) := by
  intro r M' e H locs ls hP hL
  cases e
  obtain ⟨hx, hb, hml, hown, hts, hr, hlk, hK, hS, h0⟩ := X
  exact W.lret hx hb hr (fun t ht hW => ⟨⟨v, (), rfl, rfl, hf_Pic_at hK hS h0 hP ht hW⟩, hP.2.2.1.F ht⟩) hP.2.2.1.2.2 hd hlk
theorem hr_vret (X : hf_X g p s m args meth c cc n own none) (hd : decode cc pc = .ok (.return_, 1)) : hf_W g p l ev d s m args below meth c n (hf_QV g below args s) M pc L [] (some ((), M)) := by
  intro r M' e H locs ls hP hL
  cases e
  obtain ⟨hx, hb, hml, hown, hts, hr, hlk, hK, hS, h0⟩ := X
  exact W.vret hx hb hr (fun t ht hW => ⟨⟨(), rfl, trivial, hf_Pic_at hK hS h0 hP ht hW⟩, hP.2.2.1.F ht⟩) hP.2.2.1.2.2 hd hlk
/-- a boolean's end: 0 or 1 -/
def hf_bz {β : Type} (v : Int32) (k : Option β) : Option β := if v = 0 ∨ v = 1 then k else none
theorem hr_zret (X : hf_X g p s m args meth c cc n own (some .boolean)) {v : Int32} (hd : decode cc pc = .ok (.ireturn, 1)) : hf_W g p l ev d s m args below meth c n (hf_QI g below args s) M pc L [.int v] (hf_bz v (some (v, M))) := by
  intro r M' e H locs ls hP hL
  unfold hf_bz at e
  by_cases hv : v = 0 ∨ v = 1
  · rw [if_pos hv] at e
    cases e
    obtain ⟨hx, hb, hml, hown, hts, hr, hlk, hK, hS, h0⟩ := X
    exact W.zret hx hb hr (by rcases hv with rfl | rfl <;> rfl) (fun t ht hW => ⟨⟨v, (), rfl, rfl, hf_Pic_at hK hS h0 hP ht hW⟩, hP.2.2.1.F ht⟩) hP.2.2.1.2.2 hd hlk
  · rw [if_neg hv] at e
    cases e
theorem hr_zretC (X : hf_X g p s m args meth c cc n own (some .boolean)) {v : Int32} (hv : v = 0 ∨ v = 1) (hd : decode cc pc = .ok (.ireturn, 1)) : hf_W g p l ev d s m args below meth c n (hf_QI g below args s) M pc L [.int v] (some (v, M)) := by
  intro r M' e H locs ls hP hL
  cases e
  obtain ⟨hx, hb, hml, hown, hts, hr, hlk, hK, hS, h0⟩ := X
  exact W.zret hx hb hr (by rcases hv with rfl | rfl <;> rfl) (fun t ht hW => ⟨⟨v, (), rfl, rfl, hf_Pic_at hK hS h0 hP ht hW⟩, hP.2.2.1.F ht⟩) hP.2.2.1.2.2 hd hlk
theorem hr_cvI (X : hf_X g p s m args meth c cc n own ret) {z d' maxL' k t ci N : Nat} {y : MethodName} {cd : ByteArray} {ret' : Option FieldType} {C : String} {T : u_T} {av : hf_G → List Value} {sh' : Option (Int32 × hf_M)} {kk : Int32 → hf_M → Option (α × hf_M)} (As rest : List Value) (hM : hf_CI y cd maxL' ret' d' av M sh') (hl : hf_kv own z y cd maxL' ret' C k) (hav : av g = .ref (hf_a g t) :: As) (hst : st = As.reverse ++ .ref (hf_a g t) :: rest) (hk : As.length = k)
    (ht : t < 69) (hs : hf_shp t = ci) (hci : ci < 6 ∧ vwCl[ci]? = some (C, T, N)) (hd' : d' + 1 ≤ d) (hrest : (rest.map fun v => v.category).sum ≤ 8) (hd : decode cc pc = .ok (.invokevirtual z, 3))
    (kc : ∀ (r : Int32) (M1 : hf_M), sh' = some (r, M1) → hf_W g p l ev d s m args below meth c n Qf M1 (pc + 3) L (.int r :: rest) (kk r M1)) : hf_W g p l ev d s m args below meth c n Qf M (pc) L (st) (hf_bd sh' kk) := by
  intro r M' e H locs ls hP hL
  unfold hf_bd at e
  cases hsh : sh' with
  | none => rw [hsh] at e; cases e
  | some q =>
    obtain ⟨r0, M1⟩ := q
    rw [hsh] at e
    dsimp only at e
    subst hst
    have X' := X
    obtain ⟨hx, hb, hml, hown, hts, hr, hlk, hK, hS, h0⟩ := X
    have he := hf_w_at g M ht
    rw [hf_cO g M hs hci.1] at he
    have hm := hM l g r0 M1 hsh
    rw [hav] at hm
    refine va_calli (va_runV (As := As) (rest := rest) ⟨hx, hb, hml, hown, hts⟩ hm (cwV k hts hl.1.1 rfl rfl rfl hl.2 ⟨hd', by show 8 + (maxL' + 11) + 48 * d' ≤ 48 * d; have := hl.1.2; omega⟩) ⟨hf_blind g M _, va_recv hK hP.1 (ci := ci) (q0 := t) hci.2 he, fun U hU hW => ⟨rfl, hf_Pic_at hK hS h0 hP hU hW⟩⟩ rfl hk hL.1 rfl (lv_room hrest) hd ⟨Nat.le_refl 0, Nat.le_refl 0⟩) hP.2.2.1 (fun q _ h => h) (fun q h => h) (fun r1 u t H1 locs1 ht1 hvm hr1 hB hz1 hk1 hS1 => ?_)
    subst hr1
    have hP1 := hB.2.1
    rw [ht1] at hP1
    exact kc _ M1 hsh r M' e H1 locs1 ls ⟨hP1, hB.2.2.1, hS1, hB.2.2.2.2.1⟩ hL
theorem hr_csI (X : hf_X g p s m args meth c cc n own ret) {z d' maxL' k : Nat} {y : MethodName} {cd : ByteArray} {ret' : Option FieldType} {av : hf_G → List Value} {sh' : Option (Int32 × hf_M)} {kk : Int32 → hf_M → Option (α × hf_M)} (As rest : List Value) (hM : hf_CI y cd maxL' ret' d' av M sh') (hl : hf_ks own z y cd maxL' ret' k) (hav : av g = As) (hst : st = As.reverse ++ rest) (hk : As.length = k)
    (hd' : d' + 1 ≤ d) (hrest : (rest.map fun v => v.category).sum ≤ 8) (hd : decode cc pc = .ok (.invokestatic z, 3))
    (kc : ∀ (r : Int32) (M1 : hf_M), sh' = some (r, M1) → hf_W g p l ev d s m args below meth c n Qf M1 (pc + 3) L (.int r :: rest) (kk r M1)) : hf_W g p l ev d s m args below meth c n Qf M (pc) L (st) (hf_bd sh' kk) := by
  intro r M' e H locs ls hP hL
  unfold hf_bd at e
  cases hsh : sh' with
  | none => rw [hsh] at e; cases e
  | some q =>
    obtain ⟨r0, M1⟩ := q
    rw [hsh] at e
    dsimp only at e
    subst hst
    have X' := X
    obtain ⟨hx, hb, hml, hown, hts, hr, hlk, hK, hS, h0⟩ := X
    have hm := hM l g r0 M1 hsh
    rw [hav] at hm
    have hG : GoodIn hf_T (Cond.code y cd maxL' ret' :: hf_T) := fun w hw => by
      rcases List.mem_cons.mp hw with rfl | hw
      · exact hf_good hl.1.2.2.2.1
      · exact hf_good hw
    have hrm : (hf_R d').frames + 1 ≤ (hf_R d).frames ∧ 8 + (maxL' + 11) + (hf_R d').locals ≤ (hf_R d).locals := ⟨hd', by show 8 + (maxL' + 11) + 48 * d' ≤ 48 * d; have := hl.1.2.2.2.2; omega⟩
    have hrun : va_Run p l ev (hf_R d) s m args below meth c H locs 0 0 0 0 (F0 m pc ls (As.reverse ++ rest)) rest (va_Qi (fun x (_ : Unit) => x = r0) (fun _ t => hf_Pic g M1 t) (hf_A g) As.toArray) (hf_A g) := by
      rcases hl.1.1 with hw | ⟨host, hw⟩
      · exact va_runS (As := As) (rest := rest) ⟨hx, hb, hml, hown, hts⟩ hm ⟨callB_of k hts hG rfl rfl rfl (hts _ hl.1.2.2.1) (hts _ hw) hl.2 hrm, hts _ hl.1.2.1⟩ ⟨hf_blind g M _, fun U hU hW => ⟨rfl, hf_Pic_at hK hS h0 hP hU hW⟩⟩ rfl hk hL.1 rfl (lv_room hrest) hd ⟨Nat.le_refl 0, Nat.le_refl 0⟩
      · exact va_runSN (As := As) (rest := rest) ⟨hx, hb, hml, hown, hts⟩ hm ⟨va_cnB k hts hG rfl rfl rfl (hS.2.2.2.2.2 _ hw) (hts _ hl.1.2.2.1) hl.2 hrm, hts _ hl.1.2.1, trivial⟩ ⟨hf_blind g M _, fun U hU hW => ⟨rfl, hf_Pic_at hK hS h0 hP hU hW⟩⟩ rfl hk hL.1 rfl (lv_room hrest) hd ⟨Nat.le_refl 0, Nat.le_refl 0⟩
    refine va_calli hrun hP.2.2.1 (fun q _ h => h) (fun q h => h) (fun r1 u t H1 locs1 ht1 hvm hr1 hB hz1 hk1 hS1 => ?_)
    subst hr1
    have hP1 := hB.2.1
    rw [ht1] at hP1
    exact kc _ M1 hsh r M' e H1 locs1 ls ⟨hP1, hB.2.2.1, hS1, hB.2.2.2.2.1⟩ hL
theorem hr_cvJ (X : hf_X g p s m args meth c cc n own ret) {z d' maxL' k t ci N : Nat} {y : MethodName} {cd : ByteArray} {ret' : Option FieldType} {C : String} {T : u_T} {av : hf_G → List Value} {sh' : Option (Int64 × hf_M)} {kk : Int64 → hf_M → Option (α × hf_M)} (As rest : List Value) (hM : hf_CJ y cd maxL' ret' d' av M sh') (hl : hf_kv own z y cd maxL' ret' C k) (hav : av g = .ref (hf_a g t) :: As) (hst : st = As.reverse ++ .ref (hf_a g t) :: rest) (hk : As.length = k)
    (ht : t < 69) (hs : hf_shp t = ci) (hci : ci < 6 ∧ vwCl[ci]? = some (C, T, N)) (hd' : d' + 1 ≤ d) (hrest : (rest.map fun v => v.category).sum ≤ 8) (hd : decode cc pc = .ok (.invokevirtual z, 3))
    (kc : ∀ (r : Int64) (M1 : hf_M), sh' = some (r, M1) → hf_W g p l ev d s m args below meth c n Qf M1 (pc + 3) L (.long r :: rest) (kk r M1)) : hf_W g p l ev d s m args below meth c n Qf M (pc) L (st) (hf_bd sh' kk) := by
  intro r M' e H locs ls hP hL
  unfold hf_bd at e
  cases hsh : sh' with
  | none => rw [hsh] at e; cases e
  | some q =>
    obtain ⟨r0, M1⟩ := q
    rw [hsh] at e
    dsimp only at e
    subst hst
    have X' := X
    obtain ⟨hx, hb, hml, hown, hts, hr, hlk, hK, hS, h0⟩ := X
    have he := hf_w_at g M ht
    rw [hf_cO g M hs hci.1] at he
    have hm := hM l g r0 M1 hsh
    rw [hav] at hm
    refine va_calll (va_runV (As := As) (rest := rest) ⟨hx, hb, hml, hown, hts⟩ hm (cwV k hts hl.1.1 rfl rfl rfl hl.2 ⟨hd', by show 8 + (maxL' + 11) + 48 * d' ≤ 48 * d; have := hl.1.2; omega⟩) ⟨hf_blind g M _, va_recv hK hP.1 (ci := ci) (q0 := t) hci.2 he, fun U hU hW => ⟨rfl, hf_Pic_at hK hS h0 hP hU hW⟩⟩ rfl hk hL.1 rfl (lv_room hrest) hd ⟨Nat.le_refl 0, Nat.le_refl 0⟩) hP.2.2.1 (fun q _ h => h) (fun q h => h) (fun r1 u t H1 locs1 ht1 hvm hr1 hB hz1 hk1 hS1 => ?_)
    subst hr1
    have hP1 := hB.2.1
    rw [ht1] at hP1
    exact kc _ M1 hsh r M' e H1 locs1 ls ⟨hP1, hB.2.2.1, hS1, hB.2.2.2.2.1⟩ hL
theorem hr_csJ (X : hf_X g p s m args meth c cc n own ret) {z d' maxL' k : Nat} {y : MethodName} {cd : ByteArray} {ret' : Option FieldType} {av : hf_G → List Value} {sh' : Option (Int64 × hf_M)} {kk : Int64 → hf_M → Option (α × hf_M)} (As rest : List Value) (hM : hf_CJ y cd maxL' ret' d' av M sh') (hl : hf_ks own z y cd maxL' ret' k) (hav : av g = As) (hst : st = As.reverse ++ rest) (hk : As.length = k)
    (hd' : d' + 1 ≤ d) (hrest : (rest.map fun v => v.category).sum ≤ 8) (hd : decode cc pc = .ok (.invokestatic z, 3))
    (kc : ∀ (r : Int64) (M1 : hf_M), sh' = some (r, M1) → hf_W g p l ev d s m args below meth c n Qf M1 (pc + 3) L (.long r :: rest) (kk r M1)) : hf_W g p l ev d s m args below meth c n Qf M (pc) L (st) (hf_bd sh' kk) := by
  intro r M' e H locs ls hP hL
  unfold hf_bd at e
  cases hsh : sh' with
  | none => rw [hsh] at e; cases e
  | some q =>
    obtain ⟨r0, M1⟩ := q
    rw [hsh] at e
    dsimp only at e
    subst hst
    have X' := X
    obtain ⟨hx, hb, hml, hown, hts, hr, hlk, hK, hS, h0⟩ := X
    have hm := hM l g r0 M1 hsh
    rw [hav] at hm
    have hG : GoodIn hf_T (Cond.code y cd maxL' ret' :: hf_T) := fun w hw => by
      rcases List.mem_cons.mp hw with rfl | hw
      · exact hf_good hl.1.2.2.2.1
      · exact hf_good hw
    have hrm : (hf_R d').frames + 1 ≤ (hf_R d).frames ∧ 8 + (maxL' + 11) + (hf_R d').locals ≤ (hf_R d).locals := ⟨hd', by show 8 + (maxL' + 11) + 48 * d' ≤ 48 * d; have := hl.1.2.2.2.2; omega⟩
    have hrun : va_Run p l ev (hf_R d) s m args below meth c H locs 0 0 0 0 (F0 m pc ls (As.reverse ++ rest)) rest (va_Ql (fun x (_ : Unit) => x = r0) (fun _ t => hf_Pic g M1 t) (hf_A g) As.toArray) (hf_A g) := by
      rcases hl.1.1 with hw | ⟨host, hw⟩
      · exact va_runS (As := As) (rest := rest) ⟨hx, hb, hml, hown, hts⟩ hm ⟨callB_of k hts hG rfl rfl rfl (hts _ hl.1.2.2.1) (hts _ hw) hl.2 hrm, hts _ hl.1.2.1⟩ ⟨hf_blind g M _, fun U hU hW => ⟨rfl, hf_Pic_at hK hS h0 hP hU hW⟩⟩ rfl hk hL.1 rfl (lv_room hrest) hd ⟨Nat.le_refl 0, Nat.le_refl 0⟩
      · exact va_runSN (As := As) (rest := rest) ⟨hx, hb, hml, hown, hts⟩ hm ⟨va_cnB k hts hG rfl rfl rfl (hS.2.2.2.2.2 _ hw) (hts _ hl.1.2.2.1) hl.2 hrm, hts _ hl.1.2.1, trivial⟩ ⟨hf_blind g M _, fun U hU hW => ⟨rfl, hf_Pic_at hK hS h0 hP hU hW⟩⟩ rfl hk hL.1 rfl (lv_room hrest) hd ⟨Nat.le_refl 0, Nat.le_refl 0⟩
    refine va_calll hrun hP.2.2.1 (fun q _ h => h) (fun q h => h) (fun r1 u t H1 locs1 ht1 hvm hr1 hB hz1 hk1 hS1 => ?_)
    subst hr1
    have hP1 := hB.2.1
    rw [ht1] at hP1
    exact kc _ M1 hsh r M' e H1 locs1 ls ⟨hP1, hB.2.2.1, hS1, hB.2.2.2.2.1⟩ hL
theorem hr_cvV (X : hf_X g p s m args meth c cc n own ret) {z d' maxL' k t ci N : Nat} {y : MethodName} {cd : ByteArray} {ret' : Option FieldType} {C : String} {T : u_T} {av : hf_G → List Value} {sh' : Option (Unit × hf_M)} {kk : Unit → hf_M → Option (α × hf_M)} (As rest : List Value) (hM : hf_CV y cd maxL' ret' d' av M sh') (hl : hf_kv own z y cd maxL' ret' C k) (hav : av g = .ref (hf_a g t) :: As) (hst : st = As.reverse ++ .ref (hf_a g t) :: rest) (hk : As.length = k)
    (ht : t < 69) (hs : hf_shp t = ci) (hci : ci < 6 ∧ vwCl[ci]? = some (C, T, N)) (hd' : d' + 1 ≤ d) (hrest : (rest.map fun v => v.category).sum ≤ 8) (hd : decode cc pc = .ok (.invokevirtual z, 3))
    (kc : ∀ (r : Unit) (M1 : hf_M), sh' = some (r, M1) → hf_W g p l ev d s m args below meth c n Qf M1 (pc + 3) L (rest) (kk r M1)) : hf_W g p l ev d s m args below meth c n Qf M (pc) L (st) (hf_bd sh' kk) := by
  intro r M' e H locs ls hP hL
  unfold hf_bd at e
  cases hsh : sh' with
  | none => rw [hsh] at e; cases e
  | some q =>
    obtain ⟨r0, M1⟩ := q
    rw [hsh] at e
    dsimp only at e
    subst hst
    have X' := X
    obtain ⟨hx, hb, hml, hown, hts, hr, hlk, hK, hS, h0⟩ := X
    have he := hf_w_at g M ht
    rw [hf_cO g M hs hci.1] at he
    have hm := hM l g r0 M1 hsh
    rw [hav] at hm
    refine va_callv (va_runV (As := As) (rest := rest) ⟨hx, hb, hml, hown, hts⟩ hm (cwV k hts hl.1.1 rfl rfl rfl hl.2 ⟨hd', by show 8 + (maxL' + 11) + 48 * d' ≤ 48 * d; have := hl.1.2; omega⟩) ⟨hf_blind g M _, va_recv hK hP.1 (ci := ci) (q0 := t) hci.2 he, fun U hU hW => ⟨rfl, hf_Pic_at hK hS h0 hP hU hW⟩⟩ rfl hk hL.1 rfl (lv_room hrest) hd ⟨Nat.le_refl 0, Nat.le_refl 0⟩) hP.2.2.1 (fun q _ h => h) (fun q h => h) (fun u t H1 locs1 ht1 hvm _ hB hz1 hk1 hS1 => ?_)
    cases r0
    have hP1 := hB.2.1
    rw [ht1] at hP1
    exact kc _ M1 hsh r M' e H1 locs1 ls ⟨hP1, hB.2.2.1, hS1, hB.2.2.2.2.1⟩ hL
theorem hr_csV (X : hf_X g p s m args meth c cc n own ret) {z d' maxL' k : Nat} {y : MethodName} {cd : ByteArray} {ret' : Option FieldType} {av : hf_G → List Value} {sh' : Option (Unit × hf_M)} {kk : Unit → hf_M → Option (α × hf_M)} (As rest : List Value) (hM : hf_CV y cd maxL' ret' d' av M sh') (hl : hf_ks own z y cd maxL' ret' k) (hav : av g = As) (hst : st = As.reverse ++ rest) (hk : As.length = k)
    (hd' : d' + 1 ≤ d) (hrest : (rest.map fun v => v.category).sum ≤ 8) (hd : decode cc pc = .ok (.invokestatic z, 3))
    (kc : ∀ (r : Unit) (M1 : hf_M), sh' = some (r, M1) → hf_W g p l ev d s m args below meth c n Qf M1 (pc + 3) L (rest) (kk r M1)) : hf_W g p l ev d s m args below meth c n Qf M (pc) L (st) (hf_bd sh' kk) := by
  intro r M' e H locs ls hP hL
  unfold hf_bd at e
  cases hsh : sh' with
  | none => rw [hsh] at e; cases e
  | some q =>
    obtain ⟨r0, M1⟩ := q
    rw [hsh] at e
    dsimp only at e
    subst hst
    have X' := X
    obtain ⟨hx, hb, hml, hown, hts, hr, hlk, hK, hS, h0⟩ := X
    have hm := hM l g r0 M1 hsh
    rw [hav] at hm
    have hG : GoodIn hf_T (Cond.code y cd maxL' ret' :: hf_T) := fun w hw => by
      rcases List.mem_cons.mp hw with rfl | hw
      · exact hf_good hl.1.2.2.2.1
      · exact hf_good hw
    have hrm : (hf_R d').frames + 1 ≤ (hf_R d).frames ∧ 8 + (maxL' + 11) + (hf_R d').locals ≤ (hf_R d).locals := ⟨hd', by show 8 + (maxL' + 11) + 48 * d' ≤ 48 * d; have := hl.1.2.2.2.2; omega⟩
    have hrun : va_Run p l ev (hf_R d) s m args below meth c H locs 0 0 0 0 (F0 m pc ls (As.reverse ++ rest)) rest (va_Qv (fun (_ : Unit) => True) (fun _ t => hf_Pic g M1 t) (hf_A g) As.toArray) (hf_A g) := by
      rcases hl.1.1 with hw | ⟨host, hw⟩
      · exact va_runS (As := As) (rest := rest) ⟨hx, hb, hml, hown, hts⟩ hm ⟨callB_of k hts hG rfl rfl rfl (hts _ hl.1.2.2.1) (hts _ hw) hl.2 hrm, hts _ hl.1.2.1⟩ ⟨hf_blind g M _, fun U hU hW => ⟨rfl, hf_Pic_at hK hS h0 hP hU hW⟩⟩ rfl hk hL.1 rfl (lv_room hrest) hd ⟨Nat.le_refl 0, Nat.le_refl 0⟩
      · exact va_runSN (As := As) (rest := rest) ⟨hx, hb, hml, hown, hts⟩ hm ⟨va_cnB k hts hG rfl rfl rfl (hS.2.2.2.2.2 _ hw) (hts _ hl.1.2.2.1) hl.2 hrm, hts _ hl.1.2.1, trivial⟩ ⟨hf_blind g M _, fun U hU hW => ⟨rfl, hf_Pic_at hK hS h0 hP hU hW⟩⟩ rfl hk hL.1 rfl (lv_room hrest) hd ⟨Nat.le_refl 0, Nat.le_refl 0⟩
    refine va_callv hrun hP.2.2.1 (fun q _ h => h) (fun q h => h) (fun u t H1 locs1 ht1 hvm _ hB hz1 hk1 hS1 => ?_)
    cases r0
    have hP1 := hB.2.1
    rw [ht1] at hP1
    exact kc _ M1 hsh r M' e H1 locs1 ls ⟨hP1, hB.2.2.1, hS1, hB.2.2.2.2.1⟩ hL
end HG
