theorem hf_S_at {g : hf_G} {s t : State} {H : Heap} {locs : List Loc} (h : hf_S g s s.heap) (hS : va_S (hf_A g) s.heap H locs) (hW : s.WarmedH t.vm) (ht : t.heap = H) : hf_S g t t.heap := by
  have hk : ∀ a : Nat, a < s.heap.size → ¬ hf_A g a → t.heap[a]? = s.heap[a]? := fun a h1 h2 => by rw [ht]; exact hS.2.1 a h1 h2
  have hv := hW.alike
  exact ⟨⟨(va_Z.moved hv h.1.1).kept hk, (va_T.moved hv h.1.2).kept hk⟩, ⟨(va_Z.moved hv h.2.1.1).kept hk, (va_T.moved hv h.2.1.2).kept hk⟩, ⟨(va_Z.moved hv h.2.2.1.1).kept hk, (va_T.moved hv h.2.2.1.2).kept hk⟩,
    ⟨(va_Z.moved hv h.2.2.2.1.1).kept hk, (vk_S.moved hv h.2.2.2.1.2.1).kept hk, fun i hi => vk_R.warm hW (h.2.2.2.1.2.2.1 i hi), (va_Zq.moved hv h.2.2.2.1.2.2.2.1).kept hk, va_AO.moved hv h.2.2.2.1.2.2.2.2⟩, fun q hq => va_Nw.warmF hW (h.2.2.2.2.1 q hq), fun q hq => va_Nw.warmM hW (h.2.2.2.2.2 q hq)⟩
def hf_Pic (g : hf_G) (M : hf_M) (U : State) : Prop := hf_s0 g ≤ U.heap.size ∧ va_P (hf_D g) vwCl (hf_w g M) U.heap ∧ va_D (hf_A g) (hf_w g M) ∧ va_K (hf_D g) vwCl (hf_ty g) U ∧ hf_RT M ∧ hf_S g U U.heap
theorem hf_Pic_at {g : hf_G} {M : hf_M} {s t : State} {H : Heap} {locs : List Loc} (hK : va_K (hf_D g) vwCl (hf_ty g) s) (hS : hf_S g s s.heap) (h0 : hf_s0 g ≤ s.heap.size) (hP : hf_P g M s H locs) (ht : t.heap = H) (hW : s.WarmedH t.vm) : hf_Pic g M t :=
  ⟨by rw [ht]; exact Nat.le_trans h0 hP.2.2.1.1, by rw [ht]; exact hP.1, hP.2.1, va_K.moved hW.alike hK, hP.2.2.2, hf_S_at hS hP.2.2.1 hW ht⟩
theorem hf_S_blind {g : hf_G} {U : State} {f : JFrame} {mk : MethodId} {a : Array Value} (h : hf_S g U U.heap) : hf_S g (U.calling f mk a) (U.calling f mk a).heap := by
  have hv := Vm.Alike.refl U.vm
  exact ⟨⟨va_Z.moved (U := U.calling f mk a) hv h.1.1, va_T.moved (U := U.calling f mk a) hv h.1.2⟩, ⟨va_Z.moved (U := U.calling f mk a) hv h.2.1.1, va_T.moved (U := U.calling f mk a) hv h.2.1.2⟩, ⟨va_Z.moved (U := U.calling f mk a) hv h.2.2.1.1, va_T.moved (U := U.calling f mk a) hv h.2.2.1.2⟩,
    ⟨va_Z.moved (U := U.calling f mk a) hv h.2.2.2.1.1, vk_S.moved (U := U.calling f mk a) hv h.2.2.2.1.2.1, fun i hi => vk_R.same (U := U.calling f mk a) rfl (h.2.2.2.1.2.2.1 i hi), va_Zq.moved (U := U.calling f mk a) hv h.2.2.2.1.2.2.2.1, va_AO.moved (U := U.calling f mk a) hv h.2.2.2.1.2.2.2.2⟩, fun q hq => va_Nw.same (U := U.calling f mk a) rfl rfl (h.2.2.2.2.1 q hq), fun q hq => va_Nw.same (U := U.calling f mk a) rfl rfl (h.2.2.2.2.2 q hq)⟩
theorem hf_blind (g : hf_G) (M : hf_M) (av : List Value) : FrameBlind (va_Pc av (hf_Pic g M)) := fun a U f mk h =>
  ⟨h.1, h.2.1, h.2.2.1, h.2.2.2.1, va_K.moved (u := U) (U := U.calling f mk a) (Vm.Alike.refl U.vm) h.2.2.2.2.1, h.2.2.2.2.2.1, hf_S_blind h.2.2.2.2.2.2⟩
/-- the contracts: of a method that gives an int (or a boolean), a long, nothing -/
def hf_CI (y : MethodName) (cd : ByteArray) (maxL : Nat) (ret : Option FieldType) (d : Nat) (av : hf_G → List Value) (M : hf_M) (sh : Option (Int32 × hf_M)) : Prop :=
  ∀ (l : Launch) (g : hf_G) (r : Int32) (M' : hf_M), sh = some (r, M') → Met l y (.code y cd maxL ret :: hf_T) (hf_R d) (va_Pc (av g) (hf_Pic g M)) (va_Qi (fun x (_ : Unit) => x = r) (fun _ t => hf_Pic g M' t) (hf_A g)) 0 0 (hf_A g)
def hf_CJ (y : MethodName) (cd : ByteArray) (maxL : Nat) (ret : Option FieldType) (d : Nat) (av : hf_G → List Value) (M : hf_M) (sh : Option (Int64 × hf_M)) : Prop :=
  ∀ (l : Launch) (g : hf_G) (r : Int64) (M' : hf_M), sh = some (r, M') → Met l y (.code y cd maxL ret :: hf_T) (hf_R d) (va_Pc (av g) (hf_Pic g M)) (va_Ql (fun x (_ : Unit) => x = r) (fun _ t => hf_Pic g M' t) (hf_A g)) 0 0 (hf_A g)
def hf_CV (y : MethodName) (cd : ByteArray) (maxL : Nat) (ret : Option FieldType) (d : Nat) (av : hf_G → List Value) (M : hf_M) (sh : Option (Unit × hf_M)) : Prop :=
  ∀ (l : Launch) (g : hf_G) (r : Unit) (M' : hf_M), sh = some (r, M') → Met l y (.code y cd maxL ret :: hf_T) (hf_R d) (va_Pc (av g) (hf_Pic g M)) (va_Qv (fun (_ : Unit) => True) (fun _ t => hf_Pic g M' t) (hf_A g)) 0 0 (hf_A g)
def hf_QI (g : hf_G) (below : List Frame) (args : Array Value) (s : State) : Int32 → hf_M → State → Prop := fun r M' => MQ below (va_Qi (fun x (_ : Unit) => x = r) (fun _ t => hf_Pic g M' t) (hf_A g)) args s 0 0 (hf_A g)
def hf_QJ (g : hf_G) (below : List Frame) (args : Array Value) (s : State) : Int64 → hf_M → State → Prop := fun r M' => MQ below (va_Ql (fun x (_ : Unit) => x = r) (fun _ t => hf_Pic g M' t) (hf_A g)) args s 0 0 (hf_A g)
def hf_QV (g : hf_G) (below : List Frame) (args : Array Value) (s : State) : Unit → hf_M → State → Prop := fun _ M' => MQ below (va_Qv (fun (_ : Unit) => True) (fun _ t => hf_Pic g M' t) (hf_A g)) args s 0 0 (hf_A g)
/-- a link of a call -/
def hf_kv (own : String) (z : Nat) (y : MethodName) (cd : ByteArray) (maxL : Nat) (ret : Option FieldType) (C : String) (k : Nat) : Prop :=
  (GoodIn hf_T (wsV own z C y (.code y cd maxL ret :: hf_T)) ∧ maxL ≤ 29) ∧ (y.cls = C ∧ y.cls ≠ "java/lang/invoke/MethodHandle" ∧ y.cls ≠ "java/lang/invoke/VarHandle" ∧ (parseMethodDescriptor y.desc).map (fun d => d.parameters.length) = some k)
def hf_ks (own : String) (z : Nat) (y : MethodName) (cd : ByteArray) (maxL : Nat) (ret : Option FieldType) (k : Nat) : Prop :=
  ((Cond.methodLink own z y ∈ hf_T ∨ ∃ host, (own, z, y, host) ∈ hf_NM) ∧ Cond.static y ∈ hf_T ∧ Cond.initialized y.cls ∈ hf_T ∧ Cond.code y cd maxL ret ∈ hf_T ∧ maxL ≤ 29) ∧ (y.cls ≠ "java/lang/invoke/MethodHandle" ∧ y.cls ≠ "java/lang/invoke/VarHandle" ∧ (parseMethodDescriptor y.desc).map (fun d => d.parameters.length) = some k)
theorem hf_kv_of {own : String} {z : Nat} {y : MethodName} {cd : ByteArray} {maxL : Nat} {ret : Option FieldType} {C : String} {k : Nat} (h1 : Cond.methodLink own z y ∈ hf_T) (h2 : Cond.instanceMethod y ∈ hf_T) (h3 : Cond.selects C y y ∈ hf_T) (h4 : Cond.initialized C ∈ hf_T) (h5 : Cond.code y cd maxL ret ∈ hf_T) (hm : maxL ≤ 29)
    (hd : y.cls = C ∧ y.cls ≠ "java/lang/invoke/MethodHandle" ∧ y.cls ≠ "java/lang/invoke/VarHandle" ∧ (parseMethodDescriptor y.desc).map (fun d => d.parameters.length) = some k) : hf_kv own z y cd maxL ret C k := by
  refine ⟨⟨fun w hw => ?_, hm⟩, hd⟩
  simp only [wsV, List.mem_append, List.mem_cons, List.not_mem_nil, or_false] at hw
  rcases hw with (rfl | rfl | rfl | rfl) | rfl | hw
  · exact hf_good h1
  · exact hf_good h2
  · exact hf_good h3
  · exact hf_good h4
  · exact hf_good h5
  · exact hf_good hw
/-- locals at a method's entry -/
def hf_L0 (vs : List Value) (n : Nat) : List (Option Value) := let q := vs.flatMap (fun v => if v.category = 2 then [some v, none] else [some v]); q ++ List.replicate (n - q.length) none
theorem hf_L0_in : ∀ (vs : List Value) (n i j : Nat) (v : Value), (vs.flatMap (fun v => if v.category = 2 then [some v, none] else [some v]) ++ List.replicate n none)[j]? = some (some v) → (i + j, v) ∈ lv_args i vs
  | [], n, i, j, v, h => by
    simp [List.getElem?_replicate] at h
  | w :: vs, n, i, j, v, h => by
    rw [List.flatMap_cons] at h
    rcases lv_cat w with hc | hc
    · rw [if_neg (by omega)] at h
      unfold lv_args
      cases j with
      | zero => simp at h; subst h; simp
      | succ j =>
        simp only [List.cons_append, List.nil_append, List.getElem?_cons_succ] at h
        have := hf_L0_in vs n (i + 1) j v h
        rw [show i + (j + 1) = i + 1 + j by omega]
        simp [hc]
        exact Or.inr this
    · rw [if_pos hc] at h
      unfold lv_args
      cases j with
      | zero => simp at h; subst h; simp
      | succ j =>
        cases j with
        | zero => simp at h
        | succ j =>
          simp only [List.cons_append, List.nil_append, List.getElem?_cons_succ] at h
          have := hf_L0_in vs n (i + 2) j v h
          rw [show i + (j + 1 + 1) = i + 2 + j by omega]
          simp [hc]
          exact Or.inr this

theorem hf_metI {y : MethodName} {cd : ByteArray} {maxL : Nat} {ret : Option FieldType} {d : Nat} {av : hf_G → List Value} {M : hf_M} {sh : Option (Int32 × hf_M)} (hy : plainName y.cls = true) (hml : ∀ g, (lg_sl (av g)).length ≤ maxL)
    (body : ∀ (g : hf_G) (p : Program) (l : Launch) (e : Env) (s : State) (m : MethodId) (args : Array Value) (below : List Frame) (meth : Method) (c : Code), hf_X g p s m args meth c cd maxL y.cls ret → hf_W g p l e d s m args below meth c maxL (hf_QI g below args s) M 0 (hf_L0 (av g) maxL) [] sh) : hf_CI y cd maxL ret d av M sh := by
  intro l g r M' hsh
  refine Met.ofW (cc := cd) (maxL := maxL) (ret := ret) hy rfl ?_
  intro p e s m args below meth c s₁ B hmx hv
  obtain ⟨ha, h0, hP, hD, hK, hRT, hS⟩ := hv
  have hts := atoms_spec (ws := Cond.code y cd maxL ret :: hf_T) B.pre
  have X : hf_X g p s m args meth c cd maxL y.cls ret := ⟨B.exec, B.bytes, hmx, findClass_of_methodNamed B.named, fun w hw => hts w (List.mem_cons_of_mem _ hw), B.returns, B.notSynchronized, hK, hS, h0⟩
  have hl := lv_entry (av g) (n := maxL) (hml g)
  rw [ha, lg_entry_eq, ← ha]
  have hl2 : hf_L ((lg_sl (av g) ++ List.replicate (maxL - (lg_sl (av g)).length) Slot.unset).toArray) maxL (hf_L0 (av g) maxL) := ⟨hl.1, hl.2.1, fun i v h => hl.2.2 (i, v) (by have := hf_L0_in (av g) _ 0 i v h; simpa using this)⟩
  exact body g p l e s m args below meth c X r M' hsh s.heap [] _ ⟨hP, hD, va_S.rf, hRT⟩ hl2
theorem hf_metJ {y : MethodName} {cd : ByteArray} {maxL : Nat} {ret : Option FieldType} {d : Nat} {av : hf_G → List Value} {M : hf_M} {sh : Option (Int64 × hf_M)} (hy : plainName y.cls = true) (hml : ∀ g, (lg_sl (av g)).length ≤ maxL)
    (body : ∀ (g : hf_G) (p : Program) (l : Launch) (e : Env) (s : State) (m : MethodId) (args : Array Value) (below : List Frame) (meth : Method) (c : Code), hf_X g p s m args meth c cd maxL y.cls ret → hf_W g p l e d s m args below meth c maxL (hf_QJ g below args s) M 0 (hf_L0 (av g) maxL) [] sh) : hf_CJ y cd maxL ret d av M sh := by
  intro l g r M' hsh
  refine Met.ofW (cc := cd) (maxL := maxL) (ret := ret) hy rfl ?_
  intro p e s m args below meth c s₁ B hmx hv
  obtain ⟨ha, h0, hP, hD, hK, hRT, hS⟩ := hv
  have hts := atoms_spec (ws := Cond.code y cd maxL ret :: hf_T) B.pre
  have X : hf_X g p s m args meth c cd maxL y.cls ret := ⟨B.exec, B.bytes, hmx, findClass_of_methodNamed B.named, fun w hw => hts w (List.mem_cons_of_mem _ hw), B.returns, B.notSynchronized, hK, hS, h0⟩
  have hl := lv_entry (av g) (n := maxL) (hml g)
  rw [ha, lg_entry_eq, ← ha]
  have hl2 : hf_L ((lg_sl (av g) ++ List.replicate (maxL - (lg_sl (av g)).length) Slot.unset).toArray) maxL (hf_L0 (av g) maxL) := ⟨hl.1, hl.2.1, fun i v h => hl.2.2 (i, v) (by have := hf_L0_in (av g) _ 0 i v h; simpa using this)⟩
  exact body g p l e s m args below meth c X r M' hsh s.heap [] _ ⟨hP, hD, va_S.rf, hRT⟩ hl2
theorem hf_metV {y : MethodName} {cd : ByteArray} {maxL : Nat} {ret : Option FieldType} {d : Nat} {av : hf_G → List Value} {M : hf_M} {sh : Option (Unit × hf_M)} (hy : plainName y.cls = true) (hml : ∀ g, (lg_sl (av g)).length ≤ maxL)
    (body : ∀ (g : hf_G) (p : Program) (l : Launch) (e : Env) (s : State) (m : MethodId) (args : Array Value) (below : List Frame) (meth : Method) (c : Code), hf_X g p s m args meth c cd maxL y.cls ret → hf_W g p l e d s m args below meth c maxL (hf_QV g below args s) M 0 (hf_L0 (av g) maxL) [] sh) : hf_CV y cd maxL ret d av M sh := by
  intro l g r M' hsh
  refine Met.ofW (cc := cd) (maxL := maxL) (ret := ret) hy rfl ?_
  intro p e s m args below meth c s₁ B hmx hv
  obtain ⟨ha, h0, hP, hD, hK, hRT, hS⟩ := hv
  have hts := atoms_spec (ws := Cond.code y cd maxL ret :: hf_T) B.pre
  have X : hf_X g p s m args meth c cd maxL y.cls ret := ⟨B.exec, B.bytes, hmx, findClass_of_methodNamed B.named, fun w hw => hts w (List.mem_cons_of_mem _ hw), B.returns, B.notSynchronized, hK, hS, h0⟩
  have hl := lv_entry (av g) (n := maxL) (hml g)
  rw [ha, lg_entry_eq, ← ha]
  have hl2 : hf_L ((lg_sl (av g) ++ List.replicate (maxL - (lg_sl (av g)).length) Slot.unset).toArray) maxL (hf_L0 (av g) maxL) := ⟨hl.1, hl.2.1, fun i v h => hl.2.2 (i, v) (by have := hf_L0_in (av g) _ 0 i v h; simpa using this)⟩
  exact body g p l e s m args below meth c X r M' hsh s.heap [] _ ⟨hP, hD, va_S.rf, hRT⟩ hl2
section HG
variable {α β : Type} {g : hf_G} {p : Program} {l : Launch} {ev : Env} {d : Nat} {s : State} {m : MethodId} {args : Array Value} {below : List Frame} {meth : Method} {c : Code} {n : Nat} {Qf : α → hf_M → State → Prop} {M : hf_M} {pc : Nat} {L : List (Option Value)} {st : List Value} {sh : Option (α × hf_M)} {cc : ByteArray} {own : String} {ret : Option FieldType}
theorem hr_iret (X : hf_X g p s m args meth c cc n own (some .int)) {v : Int32} (hd : decode cc pc = .ok (.ireturn, 1)) : hf_W g p l ev d s m args below meth c n (hf_QI g below args s) M pc L [.int v] (some (v, M)) := by
  intro r M' e H locs ls hP hL
  cases e
  obtain ⟨hx, hb, hml, hown, hts, hr, hlk, hK, hS, h0⟩ := X
  exact W.iret hx hb hr (fun t ht hW => ⟨⟨v, (), rfl, rfl, hf_Pic_at hK hS h0 hP ht hW⟩, hP.2.2.1.F ht⟩) hP.2.2.1.2.2 hd hlk
theorem hr_lret (X : hf_X g p s m args meth c cc n own (some .long)) {v : Int64} (hd : decode cc pc = .ok (.lreturn, 1)) : hf_W g p l ev d s m args below meth c n (hf_QJ g below args s) M pc L [.long v] (some (v, M)) := by
  intro r M' e H locs ls hP hL
  cases e
  obtain ⟨hx, hb, hml, hown, hts, hr, hlk, hK, hS, h0⟩ := X
  exact W.lret hx hb hr (fun t ht hW => ⟨⟨v, (), rfl, rfl, hf_Pic_at hK hS h0 hP ht hW⟩, hP.2.2.1.F ht⟩) hP.2.2.1.2.2 hd hlk
theorem hr_vret (X : hf_X g p s m args meth c cc n own none) (hd : decode cc pc = .ok (.return_, 1)) : hf_W g p l ev d s m args below meth c n (hf_QV g below args s) M pc L [] (some ((), M)) := by
  intro r M' e H locs ls hP hL
  cases e
  obtain ⟨hx, hb, hml, hown, hts, hr, hlk, hK, hS, h0⟩ := X
  exact W.vret hx hb hr (fun t ht hW => ⟨⟨(), rfl, trivial, hf_Pic_at hK hS h0 hP ht hW⟩, hP.2.2.1.F ht⟩) hP.2.2.1.2.2 hd hlk
/-- a boolean's end: 0 or 1 -/
def hf_bz {β : Type} (v : Int32) (k : Option β) : Option β := if v = 0 ∨ v = 1 then k else none
theorem hr_zret (X : hf_X g p s m args meth c cc n own (some .boolean)) {v : Int32} (hd : decode cc pc = .ok (.ireturn, 1)) : hf_W g p l ev d s m args below meth c n (hf_QI g below args s) M pc L [.int v] (hf_bz v (some (v, M))) := by
  intro r M' e H locs ls hP hL
  unfold hf_bz at e
  by_cases hv : v = 0 ∨ v = 1
  · rw [if_pos hv] at e
    cases e
    obtain ⟨hx, hb, hml, hown, hts, hr, hlk, hK, hS, h0⟩ := X
    exact W.zret hx hb hr (by rcases hv with rfl | rfl <;> rfl) (fun t ht hW => ⟨⟨v, (), rfl, rfl, hf_Pic_at hK hS h0 hP ht hW⟩, hP.2.2.1.F ht⟩) hP.2.2.1.2.2 hd hlk
  · rw [if_neg hv] at e
    cases e
theorem hr_zretC (X : hf_X g p s m args meth c cc n own (some .boolean)) {v : Int32} (hv : v = 0 ∨ v = 1) (hd : decode cc pc = .ok (.ireturn, 1)) : hf_W g p l ev d s m args below meth c n (hf_QI g below args s) M pc L [.int v] (some (v, M)) := by
  intro r M' e H locs ls hP hL
  cases e
  obtain ⟨hx, hb, hml, hown, hts, hr, hlk, hK, hS, h0⟩ := X
  exact W.zret hx hb hr (by rcases hv with rfl | rfl <;> rfl) (fun t ht hW => ⟨⟨v, (), rfl, rfl, hf_Pic_at hK hS h0 hP ht hW⟩, hP.2.2.1.F ht⟩) hP.2.2.1.2.2 hd hlk
theorem hr_cvI (X : hf_X g p s m args meth c cc n own ret) {z d' maxL' k t ci N : Nat} {y : MethodName} {cd : ByteArray} {ret' : Option FieldType} {C : String} {T : u_T} {av : hf_G → List Value} {sh' : Option (Int32 × hf_M)} {kk : Int32 → hf_M → Option (α × hf_M)} (As rest : List Value) (hM : hf_CI y cd maxL' ret' d' av M sh') (hl : hf_kv own z y cd maxL' ret' C k) (hav : av g = .ref (hf_a g t) :: As) (hst : st = As.reverse ++ .ref (hf_a g t) :: rest) (hk : As.length = k)
    (ht : t < 69) (hs : hf_shp t = ci) (hci : ci < 6 ∧ vwCl[ci]? = some (C, T, N)) (hd' : d' + 1 ≤ d) (hrest : (rest.map fun v => v.category).sum ≤ 8) (hd : decode cc pc = .ok (.invokevirtual z, 3))
    (kc : ∀ (r : Int32) (M1 : hf_M), sh' = some (r, M1) → hf_W g p l ev d s m args below meth c n Qf M1 (pc + 3) L (.int r :: rest) (kk r M1)) : hf_W g p l ev d s m args below meth c n Qf M (pc) L (st) (hf_bd sh' kk) := by
  intro r M' e H locs ls hP hL
  unfold hf_bd at e
  cases hsh : sh' with
  | none => rw [hsh] at e; cases e
  | some q =>
    obtain ⟨r0, M1⟩ := q
    rw [hsh] at e
    dsimp only at e
    subst hst
    have X' := X
    obtain ⟨hx, hb, hml, hown, hts, hr, hlk, hK, hS, h0⟩ := X
    have he := hf_w_at g M ht
    rw [hf_cO g M hs hci.1] at he
    have hm := hM l g r0 M1 hsh
    rw [hav] at hm
    refine va_calli (va_runV (As := As) (rest := rest) ⟨hx, hb, hml, hown, hts⟩ hm (cwV k hts hl.1.1 rfl rfl rfl hl.2 ⟨hd', by show 8 + (maxL' + 11) + 48 * d' ≤ 48 * d; have := hl.1.2; omega⟩) ⟨hf_blind g M _, va_recv hK hP.1 (ci := ci) (q0 := t) hci.2 he, fun U hU hW => ⟨rfl, hf_Pic_at hK hS h0 hP hU hW⟩⟩ rfl hk hL.1 rfl (lv_room hrest) hd ⟨Nat.le_refl 0, Nat.le_refl 0⟩) hP.2.2.1 (fun q _ h => h) (fun q h => h) (fun r1 u t H1 locs1 ht1 hvm hr1 hB hz1 hk1 hS1 => ?_)
    subst hr1
    have hP1 := hB.2.1
    rw [ht1] at hP1
    exact kc _ M1 hsh r M' e H1 locs1 ls ⟨hP1, hB.2.2.1, hS1, hB.2.2.2.2.1⟩ hL
theorem hr_csI (X : hf_X g p s m args meth c cc n own ret) {z d' maxL' k : Nat} {y : MethodName} {cd : ByteArray} {ret' : Option FieldType} {av : hf_G → List Value} {sh' : Option (Int32 × hf_M)} {kk : Int32 → hf_M → Option (α × hf_M)} (As rest : List Value) (hM : hf_CI y cd maxL' ret' d' av M sh') (hl : hf_ks own z y cd maxL' ret' k) (hav : av g = As) (hst : st = As.reverse ++ rest) (hk : As.length = k)
    (hd' : d' + 1 ≤ d) (hrest : (rest.map fun v => v.category).sum ≤ 8) (hd : decode cc pc = .ok (.invokestatic z, 3))
    (kc : ∀ (r : Int32) (M1 : hf_M), sh' = some (r, M1) → hf_W g p l ev d s m args below meth c n Qf M1 (pc + 3) L (.int r :: rest) (kk r M1)) : hf_W g p l ev d s m args below meth c n Qf M (pc) L (st) (hf_bd sh' kk) := by
  intro r M' e H locs ls hP hL
  unfold hf_bd at e
  cases hsh : sh' with
  | none => rw [hsh] at e; cases e
  | some q =>
    obtain ⟨r0, M1⟩ := q
    rw [hsh] at e
    dsimp only at e
    subst hst
    have X' := X
    obtain ⟨hx, hb, hml, hown, hts, hr, hlk, hK, hS, h0⟩ := X
    have hm := hM l g r0 M1 hsh
    rw [hav] at hm
    have hG : GoodIn hf_T (Cond.code y cd maxL' ret' :: hf_T) := fun w hw => by
      rcases List.mem_cons.mp hw with rfl | hw
      · exact hf_good hl.1.2.2.2.1
      · exact hf_good hw
    have hrm : (hf_R d').frames + 1 ≤ (hf_R d).frames ∧ 8 + (maxL' + 11) + (hf_R d').locals ≤ (hf_R d).locals := ⟨hd', by show 8 + (maxL' + 11) + 48 * d' ≤ 48 * d; have := hl.1.2.2.2.2; omega⟩
    have hrun : va_Run p l ev (hf_R d) s m args below meth c H locs 0 0 0 0 (F0 m pc ls (As.reverse ++ rest)) rest (va_Qi (fun x (_ : Unit) => x = r0) (fun _ t => hf_Pic g M1 t) (hf_A g) As.toArray) (hf_A g) := by
      rcases hl.1.1 with hw | ⟨host, hw⟩
      · exact va_runS (As := As) (rest := rest) ⟨hx, hb, hml, hown, hts⟩ hm ⟨callB_of k hts hG rfl rfl rfl (hts _ hl.1.2.2.1) (hts _ hw) hl.2 hrm, hts _ hl.1.2.1⟩ ⟨hf_blind g M _, fun U hU hW => ⟨rfl, hf_Pic_at hK hS h0 hP hU hW⟩⟩ rfl hk hL.1 rfl (lv_room hrest) hd ⟨Nat.le_refl 0, Nat.le_refl 0⟩
      · exact va_runSN (As := As) (rest := rest) ⟨hx, hb, hml, hown, hts⟩ hm ⟨va_cnB k hts hG rfl rfl rfl (hS.2.2.2.2.2 _ hw) (hts _ hl.1.2.2.1) hl.2 hrm, hts _ hl.1.2.1, trivial⟩ ⟨hf_blind g M _, fun U hU hW => ⟨rfl, hf_Pic_at hK hS h0 hP hU hW⟩⟩ rfl hk hL.1 rfl (lv_room hrest) hd ⟨Nat.le_refl 0, Nat.le_refl 0⟩
    refine va_calli hrun hP.2.2.1 (fun q _ h => h) (fun q h => h) (fun r1 u t H1 locs1 ht1 hvm hr1 hB hz1 hk1 hS1 => ?_)
    subst hr1
    have hP1 := hB.2.1
    rw [ht1] at hP1
    exact kc _ M1 hsh r M' e H1 locs1 ls ⟨hP1, hB.2.2.1, hS1, hB.2.2.2.2.1⟩ hL
theorem hr_cvJ (X : hf_X g p s m args meth c cc n own ret) {z d' maxL' k t ci N : Nat} {y : MethodName} {cd : ByteArray} {ret' : Option FieldType} {C : String} {T : u_T} {av : hf_G → List Value} {sh' : Option (Int64 × hf_M)} {kk : Int64 → hf_M → Option (α × hf_M)} (As rest : List Value) (hM : hf_CJ y cd maxL' ret' d' av M sh') (hl : hf_kv own z y cd maxL' ret' C k) (hav : av g = .ref (hf_a g t) :: As) (hst : st = As.reverse ++ .ref (hf_a g t) :: rest) (hk : As.length = k)
    (ht : t < 69) (hs : hf_shp t = ci) (hci : ci < 6 ∧ vwCl[ci]? = some (C, T, N)) (hd' : d' + 1 ≤ d) (hrest : (rest.map fun v => v.category).sum ≤ 8) (hd : decode cc pc = .ok (.invokevirtual z, 3))
    (kc : ∀ (r : Int64) (M1 : hf_M), sh' = some (r, M1) → hf_W g p l ev d s m args below meth c n Qf M1 (pc + 3) L (.long r :: rest) (kk r M1)) : hf_W g p l ev d s m args below meth c n Qf M (pc) L (st) (hf_bd sh' kk) := by
  intro r M' e H locs ls hP hL
  unfold hf_bd at e
  cases hsh : sh' with
  | none => rw [hsh] at e; cases e
  | some q =>
    obtain ⟨r0, M1⟩ := q
    rw [hsh] at e
    dsimp only at e
    subst hst
    have X' := X
    obtain ⟨hx, hb, hml, hown, hts, hr, hlk, hK, hS, h0⟩ := X
    have he := hf_w_at g M ht
    rw [hf_cO g M hs hci.1] at he
    have hm := hM l g r0 M1 hsh
    rw [hav] at hm
    refine va_calll (va_runV (As := As) (rest := rest) ⟨hx, hb, hml, hown, hts⟩ hm (cwV k hts hl.1.1 rfl rfl rfl hl.2 ⟨hd', by show 8 + (maxL' + 11) + 48 * d' ≤ 48 * d; have := hl.1.2; omega⟩) ⟨hf_blind g M _, va_recv hK hP.1 (ci := ci) (q0 := t) hci.2 he, fun U hU hW => ⟨rfl, hf_Pic_at hK hS h0 hP hU hW⟩⟩ rfl hk hL.1 rfl (lv_room hrest) hd ⟨Nat.le_refl 0, Nat.le_refl 0⟩) hP.2.2.1 (fun q _ h => h) (fun q h => h) (fun r1 u t H1 locs1 ht1 hvm hr1 hB hz1 hk1 hS1 => ?_)
    subst hr1
    have hP1 := hB.2.1
    rw [ht1] at hP1
    exact kc _ M1 hsh r M' e H1 locs1 ls ⟨hP1, hB.2.2.1, hS1, hB.2.2.2.2.1⟩ hL
theorem hr_csJ (X : hf_X g p s m args meth c cc n own ret) {z d' maxL' k : Nat} {y : MethodName} {cd : ByteArray} {ret' : Option FieldType} {av : hf_G → List Value} {sh' : Option (Int64 × hf_M)} {kk : Int64 → hf_M → Option (α × hf_M)} (As rest : List Value) (hM : hf_CJ y cd maxL' ret' d' av M sh') (hl : hf_ks own z y cd maxL' ret' k) (hav : av g = As) (hst : st = As.reverse ++ rest) (hk : As.length = k)
    (hd' : d' + 1 ≤ d) (hrest : (rest.map fun v => v.category).sum ≤ 8) (hd : decode cc pc = .ok (.invokestatic z, 3))
    (kc : ∀ (r : Int64) (M1 : hf_M), sh' = some (r, M1) → hf_W g p l ev d s m args below meth c n Qf M1 (pc + 3) L (.long r :: rest) (kk r M1)) : hf_W g p l ev d s m args below meth c n Qf M (pc) L (st) (hf_bd sh' kk) := by
  intro r M' e H locs ls hP hL
  unfold hf_bd at e
  cases hsh : sh' with
  | none => rw [hsh] at e; cases e
  | some q =>
    obtain ⟨r0, M1⟩ := q
    rw [hsh] at e
    dsimp only at e
    subst hst
    have X' := X
    obtain ⟨hx, hb, hml, hown, hts, hr, hlk, hK, hS, h0⟩ := X
    have hm := hM l g r0 M1 hsh
    rw [hav] at hm
    have hG : GoodIn hf_T (Cond.code y cd maxL' ret' :: hf_T) := fun w hw => by
      rcases List.mem_cons.mp hw with rfl | hw
      · exact hf_good hl.1.2.2.2.1
      · exact hf_good hw
    have hrm : (hf_R d').frames + 1 ≤ (hf_R d).frames ∧ 8 + (maxL' + 11) + (hf_R d').locals ≤ (hf_R d).locals := ⟨hd', by show 8 + (maxL' + 11) + 48 * d' ≤ 48 * d; have := hl.1.2.2.2.2; omega⟩
    have hrun : va_Run p l ev (hf_R d) s m args below meth c H locs 0 0 0 0 (F0 m pc ls (As.reverse ++ rest)) rest (va_Ql (fun x (_ : Unit) => x = r0) (fun _ t => hf_Pic g M1 t) (hf_A g) As.toArray) (hf_A g) := by
      rcases hl.1.1 with hw | ⟨host, hw⟩
      · exact va_runS (As := As) (rest := rest) ⟨hx, hb, hml, hown, hts⟩ hm ⟨callB_of k hts hG rfl rfl rfl (hts _ hl.1.2.2.1) (hts _ hw) hl.2 hrm, hts _ hl.1.2.1⟩ ⟨hf_blind g M _, fun U hU hW => ⟨rfl, hf_Pic_at hK hS h0 hP hU hW⟩⟩ rfl hk hL.1 rfl (lv_room hrest) hd ⟨Nat.le_refl 0, Nat.le_refl 0⟩
      · exact va_runSN (As := As) (rest := rest) ⟨hx, hb, hml, hown, hts⟩ hm ⟨va_cnB k hts hG rfl rfl rfl (hS.2.2.2.2.2 _ hw) (hts _ hl.1.2.2.1) hl.2 hrm, hts _ hl.1.2.1, trivial⟩ ⟨hf_blind g M _, fun U hU hW => ⟨rfl, hf_Pic_at hK hS h0 hP hU hW⟩⟩ rfl hk hL.1 rfl (lv_room hrest) hd ⟨Nat.le_refl 0, Nat.le_refl 0⟩
    refine va_calll hrun hP.2.2.1 (fun q _ h => h) (fun q h => h) (fun r1 u t H1 locs1 ht1 hvm hr1 hB hz1 hk1 hS1 => ?_)
    subst hr1
    have hP1 := hB.2.1
    rw [ht1] at hP1
    exact kc _ M1 hsh r M' e H1 locs1 ls ⟨hP1, hB.2.2.1, hS1, hB.2.2.2.2.1⟩ hL
theorem hr_cvV (X : hf_X g p s m args meth c cc n own ret) {z d' maxL' k t ci N : Nat} {y : MethodName} {cd : ByteArray} {ret' : Option FieldType} {C : String} {T : u_T} {av : hf_G → List Value} {sh' : Option (Unit × hf_M)} {kk : Unit → hf_M → Option (α × hf_M)} (As rest : List Value) (hM : hf_CV y cd maxL' ret' d' av M sh') (hl : hf_kv own z y cd maxL' ret' C k) (hav : av g = .ref (hf_a g t) :: As) (hst : st = As.reverse ++ .ref (hf_a g t) :: rest) (hk : As.length = k)
    (ht : t < 69) (hs : hf_shp t = ci) (hci : ci < 6 ∧ vwCl[ci]? = some (C, T, N)) (hd' : d' + 1 ≤ d) (hrest : (rest.map fun v => v.category).sum ≤ 8) (hd : decode cc pc = .ok (.invokevirtual z, 3))
    (kc : ∀ (r : Unit) (M1 : hf_M), sh' = some (r, M1) → hf_W g p l ev d s m args below meth c n Qf M1 (pc + 3) L (rest) (kk r M1)) : hf_W g p l ev d s m args below meth c n Qf M (pc) L (st) (hf_bd sh' kk) := by
  intro r M' e H locs ls hP hL
  unfold hf_bd at e
  cases hsh : sh' with
  | none => rw [hsh] at e; cases e
  | some q =>
    obtain ⟨r0, M1⟩ := q
    rw [hsh] at e
    dsimp only at e
    subst hst
    have X' := X
    obtain ⟨hx, hb, hml, hown, hts, hr, hlk, hK, hS, h0⟩ := X
    have he := hf_w_at g M ht
    rw [hf_cO g M hs hci.1] at he
    have hm := hM l g r0 M1 hsh
    rw [hav] at hm
    refine va_callv (va_runV (As := As) (rest := rest) ⟨hx, hb, hml, hown, hts⟩ hm (cwV k hts hl.1.1 rfl rfl rfl hl.2 ⟨hd', by show 8 + (maxL' + 11) + 48 * d' ≤ 48 * d; have := hl.1.2; omega⟩) ⟨hf_blind g M _, va_recv hK hP.1 (ci := ci) (q0 := t) hci.2 he, fun U hU hW => ⟨rfl, hf_Pic_at hK hS h0 hP hU hW⟩⟩ rfl hk hL.1 rfl (lv_room hrest) hd ⟨Nat.le_refl 0, Nat.le_refl 0⟩) hP.2.2.1 (fun q _ h => h) (fun q h => h) (fun u t H1 locs1 ht1 hvm _ hB hz1 hk1 hS1 => ?_)
    cases r0
    have hP1 := hB.2.1
    rw [ht1] at hP1
    exact kc _ M1 hsh r M' e H1 locs1 ls ⟨hP1, hB.2.2.1, hS1, hB.2.2.2.2.1⟩ hL
theorem hr_csV (X : hf_X g p s m args meth c cc n own ret) {z d' maxL' k : Nat} {y : MethodName} {cd : ByteArray} {ret' : Option FieldType} {av : hf_G → List Value} {sh' : Option (Unit × hf_M)} {kk : Unit → hf_M → Option (α × hf_M)} (As rest : List Value) (hM : hf_CV y cd maxL' ret' d' av M sh') (hl : hf_ks own z y cd maxL' ret' k) (hav : av g = As) (hst : st = As.reverse ++ rest) (hk : As.length = k)
    (hd' : d' + 1 ≤ d) (hrest : (rest.map fun v => v.category).sum ≤ 8) (hd : decode cc pc = .ok (.invokestatic z, 3))
    (kc : ∀ (r : Unit) (M1 : hf_M), sh' = some (r, M1) → hf_W g p l ev d s m args below meth c n Qf M1 (pc + 3) L (rest) (kk r M1)) : hf_W g p l ev d s m args below meth c n Qf M (pc) L (st) (hf_bd sh' kk) := by
  intro r M' e H locs ls hP hL
  unfold hf_bd at e
  cases hsh : sh' with
  | none => rw [hsh] at e; cases e
  | some q =>
    obtain ⟨r0, M1⟩ := q
    rw [hsh] at e
    dsimp only at e
    subst hst
    have X' := X
    obtain ⟨hx, hb, hml, hown, hts, hr, hlk, hK, hS, h0⟩ := X
    have hm := hM l g r0 M1 hsh
    rw [hav] at hm
    have hG : GoodIn hf_T (Cond.code y cd maxL' ret' :: hf_T) := fun w hw => by
      rcases List.mem_cons.mp hw with rfl | hw
      · exact hf_good hl.1.2.2.2.1
      · exact hf_good hw
    have hrm : (hf_R d').frames + 1 ≤ (hf_R d).frames ∧ 8 + (maxL' + 11) + (hf_R d').locals ≤ (hf_R d).locals := ⟨hd', by show 8 + (maxL' + 11) + 48 * d' ≤ 48 * d; have := hl.1.2.2.2.2; omega⟩
    have hrun : va_Run p l ev (hf_R d) s m args below meth c H locs 0 0 0 0 (F0 m pc ls (As.reverse ++ rest)) rest (va_Qv (fun (_ : Unit) => True) (fun _ t => hf_Pic g M1 t) (hf_A g) As.toArray) (hf_A g) := by
      rcases hl.1.1 with hw | ⟨host, hw⟩
      · exact va_runS (As := As) (rest := rest) ⟨hx, hb, hml, hown, hts⟩ hm ⟨callB_of k hts hG rfl rfl rfl (hts _ hl.1.2.2.1) (hts _ hw) hl.2 hrm, hts _ hl.1.2.1⟩ ⟨hf_blind g M _, fun U hU hW => ⟨rfl, hf_Pic_at hK hS h0 hP hU hW⟩⟩ rfl hk hL.1 rfl (lv_room hrest) hd ⟨Nat.le_refl 0, Nat.le_refl 0⟩
      · exact va_runSN (As := As) (rest := rest) ⟨hx, hb, hml, hown, hts⟩ hm ⟨va_cnB k hts hG rfl rfl rfl (hS.2.2.2.2.2 _ hw) (hts _ hl.1.2.2.1) hl.2 hrm, hts _ hl.1.2.1, trivial⟩ ⟨hf_blind g M _, fun U hU hW => ⟨rfl, hf_Pic_at hK hS h0 hP hU hW⟩⟩ rfl hk hL.1 rfl (lv_room hrest) hd ⟨Nat.le_refl 0, Nat.le_refl 0⟩
    refine va_callv hrun hP.2.2.1 (fun q _ h => h) (fun q h => h) (fun u t H1 locs1 ht1 hvm _ hB hz1 hk1 hS1 => ?_)
    cases r0
    have hP1 := hB.2.1
    rw [ht1] at hP1
    exact kc _ M1 hsh r M' e H1 locs1 ls ⟨hP1, hB.2.2.1, hS1, hB.2.2.2.2.1⟩ hL
end HG
