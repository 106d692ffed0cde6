def hc_w (g : hf_G) (M : hf_M) (N : Nat) : va_W := (List.range N).map (fun k => (hf_a g k, hf_c g M k))
def hc_P (g : hf_G) (N : Nat) (M : hf_M) (s : State) (H : Heap) (locs : List Loc) : Prop := va_P (hf_D g) vwCl (hc_w g M N) H ∧ va_D (hf_A g) (hc_w g M N) ∧ va_S (hf_A g) s.heap H locs ∧ H.size = hf_s0 g + N ∧ ∀ k, hf_a g k = hf_s0 g + k
def hc_W (g : hf_G) (p : Program) (l : Launch) (e : Env) (R : Room) (s : State) (m : MethodId) (args : Array Value) (below : List Frame) (meth : Method) (c : Code) (n : Nat) (Q : State → Prop) (N : Nat) (M : hf_M) (ce sl : Nat) (pc : Nat) (L : List (Option Value)) (st : List Value) : Prop :=
  ∀ (H : Heap) (locs : List Loc) (ls : Array Slot), hc_P g N M s H locs → hf_L ls n L → W p l e R s m args below meth c H locs ce sl Q (F0 m pc ls st)
theorem hc_w_at (g : hf_G) (M : hf_M) {N k : Nat} (h : k < N) : (hc_w g M N)[k]? = some (hf_a g k, hf_c g M k) := by
  simp [hc_w, List.getElem?_range h]
theorem hc_w_len (g : hf_G) (M : hf_M) (N : Nat) : (hc_w g M N).length = N := by simp [hc_w]
theorem hc_w_set (g : hf_G) (M M' : hf_M) {N k : Nat} (h : k < N) (hne : ∀ j, j ≠ k → hf_c g M' j = hf_c g M j) : (hc_w g M N).set k (hf_a g k, hf_c g M' k) = hc_w g M' N := by
  apply List.ext_getElem?
  intro j
  by_cases hj : j < N
  · rw [hc_w_at g M' hj]
    by_cases hjk : j = k
    · subst hjk
      rw [List.getElem?_set_self (by rw [hc_w_len]; exact h)]
    · rw [List.getElem?_set_ne (Ne.symm hjk), hc_w_at g M hj, hne j hjk]
  · rw [List.getElem?_eq_none (by rw [List.length_set, hc_w_len]; omega), List.getElem?_eq_none (by rw [hc_w_len]; omega)]
theorem hc_w_push (g : hf_G) (M : hf_M) (N : Nat) : hc_w g M (N + 1) = hc_w g M N ++ [(hf_a g N, hf_c g M N)] := by simp [hc_w, List.range_succ]
def hc_R (d mc ms : Nat) : Room := { frames := d, cells := mc, slots := ms, locals := 48 * d }
def hc_Pic (g : hf_G) (N : Nat) (M : hf_M) (U : State) : Prop := (va_P (hf_D g) vwCl (hc_w g M N) U.heap ∧ va_D (hf_A g) (hc_w g M N) ∧ U.heap.size = hf_s0 g + N ∧ ∀ k, hf_a g k = hf_s0 g + k) ∧ va_K (hf_D g) vwCl (hf_ty g) U ∧ hf_S g U U.heap
def hc_C (y : MethodName) (cd : ByteArray) (maxL d N mc ms : Nat) (M M' : hf_M) (av : hf_G → List Value) : Prop :=
  ∀ (l : Launch) (g : hf_G), Met l y (.code y cd maxL none :: hf_T) (hc_R d mc ms) (va_Pc (av g) (hc_Pic g N M)) (va_Qv (fun _ : Unit => True) (fun _ t => hc_Pic g (N + mc) M' t) (hf_A g)) mc ms (hf_A g)
section HC
variable {g : hf_G} {p : Program} {l : Launch} {e : Env} {R : Room} {s : State} {m : MethodId} {args : Array Value} {below : List Frame} {meth : Method} {c : Code} {n : Nat} {Q : State → Prop} {N : Nat} {M : hf_M} {ce sl : Nat} {pc : Nat} {L : List (Option Value)} {st : List Value} {cc : ByteArray} {own : String} {ret : Option FieldType}
theorem hc_iconst (X : hf_X g p s m args meth c cc n own ret) {z : Int} (v : Int32) (hd : decode cc pc = .ok (.iconst z, 1)) (hv : Int32.ofInt z = v) (k : hc_W g p l e R s m args below meth c n Q (N) M (ce) (sl) (pc + 1) L (.int v :: st)) : hc_W g p l e R s m args below meth c n Q (N) M (ce) (sl) (pc) L (st) := fun H locs ls hP hL => lv_iconst X.1 X.2.1 hd hv (k H locs ls hP hL)
theorem hc_bipush (X : hf_X g p s m args meth c cc n own ret) {z : Int} (v : Int32) (hd : decode cc pc = .ok (.bipush z, 2)) (hv : (Int8.ofInt z).toInt32 = v) (k : hc_W g p l e R s m args below meth c n Q (N) M (ce) (sl) (pc + 2) L (.int v :: st)) : hc_W g p l e R s m args below meth c n Q (N) M (ce) (sl) (pc) L (st) := fun H locs ls hP hL => lv_bipush X.1 X.2.1 hd hv (k H locs ls hP hL)
theorem hc_sipush (X : hf_X g p s m args meth c cc n own ret) {z : Int} (v : Int32) (hd : decode cc pc = .ok (.sipush z, 3)) (hv : (Int16.ofInt z).toInt32 = v) (k : hc_W g p l e R s m args below meth c n Q (N) M (ce) (sl) (pc + 3) L (.int v :: st)) : hc_W g p l e R s m args below meth c n Q (N) M (ce) (sl) (pc) L (st) := fun H locs ls hP hL => lv_sipush X.1 X.2.1 hd hv (k H locs ls hP hL)
theorem hc_lconst (X : hf_X g p s m args meth c cc n own ret) {z : Fin 2} (v : Int64) (hd : decode cc pc = .ok (.lconst z, 1)) (hv : Int64.ofNat (z : Nat) = v) (k : hc_W g p l e R s m args below meth c n Q (N) M (ce) (sl) (pc + 1) L (.long v :: st)) : hc_W g p l e R s m args below meth c n Q (N) M (ce) (sl) (pc) L (st) := fun H locs ls hP hL => lv_lconst X.1 X.2.1 hd hv (k H locs ls hP hL)
theorem hc_ldc2 (X : hf_X g p s m args meth c cc n own ret) {z : Nat} {v : Int64} (hd : decode cc pc = .ok (.ldc2_w z, 3)) (hw : Cond.constantLong own z v ∈ hf_T) (k : hc_W g p l e R s m args below meth c n Q (N) M (ce) (sl) (pc + 3) L (.long v :: st)) : hc_W g p l e R s m args below meth c n Q (N) M (ce) (sl) (pc) L (st) := fun H locs ls hP hL => lv_ldc2 X.1 X.2.1 X.2.2.2.1 (X.2.2.2.2.1 _ hw) hd (k H locs ls hP hL)
theorem hc_null (X : hf_X g p s m args meth c cc n own ret)  (hd : decode cc pc = .ok (.aconst_null, 1))  (k : hc_W g p l e R s m args below meth c n Q (N) M (ce) (sl) (pc + 1) L (.null :: st)) : hc_W g p l e R s m args below meth c n Q (N) M (ce) (sl) (pc) L (st) := fun H locs ls hP hL => lv_null X.1 X.2.1 hd (k H locs ls hP hL)
theorem hc_dup (X : hf_X g p s m args meth c cc n own ret) {va : Value} (hd : decode cc pc = .ok (.dup, 1)) (hva : va.category = 1) (k : hc_W g p l e R s m args below meth c n Q (N) M (ce) (sl) (pc + 1) L (va :: va :: st)) : hc_W g p l e R s m args below meth c n Q (N) M (ce) (sl) (pc) L (va :: st) := fun H locs ls hP hL => lv_dup X.1 X.2.1 hd hva (k H locs ls hP hL)
theorem hc_iadd (X : hf_X g p s m args meth c cc n own ret) {x y : Int32} (hd : decode cc pc = .ok (.iadd, 1))  (k : hc_W g p l e R s m args below meth c n Q (N) M (ce) (sl) (pc + 1) L (.int (x + y) :: st)) : hc_W g p l e R s m args below meth c n Q (N) M (ce) (sl) (pc) L (.int y :: .int x :: st) := fun H locs ls hP hL => lv_iadd X.1 X.2.1 hd (k H locs ls hP hL)
theorem hc_isub (X : hf_X g p s m args meth c cc n own ret) {x y : Int32} (hd : decode cc pc = .ok (.isub, 1))  (k : hc_W g p l e R s m args below meth c n Q (N) M (ce) (sl) (pc + 1) L (.int (x - y) :: st)) : hc_W g p l e R s m args below meth c n Q (N) M (ce) (sl) (pc) L (.int y :: .int x :: st) := fun H locs ls hP hL => lv_isub X.1 X.2.1 hd (k H locs ls hP hL)
theorem hc_iand (X : hf_X g p s m args meth c cc n own ret) {x y : Int32} (hd : decode cc pc = .ok (.iand, 1))  (k : hc_W g p l e R s m args below meth c n Q (N) M (ce) (sl) (pc + 1) L (.int (x &&& y) :: st)) : hc_W g p l e R s m args below meth c n Q (N) M (ce) (sl) (pc) L (.int y :: .int x :: st) := fun H locs ls hP hL => lv_iand X.1 X.2.1 hd (k H locs ls hP hL)
theorem hc_land (X : hf_X g p s m args meth c cc n own ret) {x y : Int64} (hd : decode cc pc = .ok (.land, 1))  (k : hc_W g p l e R s m args below meth c n Q (N) M (ce) (sl) (pc + 1) L (.long (x &&& y) :: st)) : hc_W g p l e R s m args below meth c n Q (N) M (ce) (sl) (pc) L (.long y :: .long x :: st) := fun H locs ls hP hL => lv_land X.1 X.2.1 hd (k H locs ls hP hL)
theorem hc_lor (X : hf_X g p s m args meth c cc n own ret) {x y : Int64} (hd : decode cc pc = .ok (.lor, 1))  (k : hc_W g p l e R s m args below meth c n Q (N) M (ce) (sl) (pc + 1) L (.long (x ||| y) :: st)) : hc_W g p l e R s m args below meth c n Q (N) M (ce) (sl) (pc) L (.long y :: .long x :: st) := fun H locs ls hP hL => lv_lor X.1 X.2.1 hd (k H locs ls hP hL)
theorem hc_lshl (X : hf_X g p s m args meth c cc n own ret) {x : Int64} {y : Int32} (hd : decode cc pc = .ok (.lshl, 1))  (k : hc_W g p l e R s m args below meth c n Q (N) M (ce) (sl) (pc + 1) L (.long (hn_lshl x y) :: st)) : hc_W g p l e R s m args below meth c n Q (N) M (ce) (sl) (pc) L (.int y :: .long x :: st) := fun H locs ls hP hL => lv_lshl X.1 X.2.1 hd rfl (k H locs ls hP hL)
theorem hc_lcmp (X : hf_X g p s m args meth c cc n own ret) {x y : Int64} (hd : decode cc pc = .ok (.lcmp, 1))  (k : hc_W g p l e R s m args below meth c n Q (N) M (ce) (sl) (pc + 1) L (.int (lg_cmp x y) :: st)) : hc_W g p l e R s m args below meth c n Q (N) M (ce) (sl) (pc) L (.long y :: .long x :: st) := fun H locs ls hP hL => W.lcmp X.1 X.2.1 hd (k H locs ls hP hL)
theorem hc_i2l (X : hf_X g p s m args meth c cc n own ret) {x : Int32} (hd : decode cc pc = .ok (.i2l, 1))  (k : hc_W g p l e R s m args below meth c n Q (N) M (ce) (sl) (pc + 1) L (.long x.toInt64 :: st)) : hc_W g p l e R s m args below meth c n Q (N) M (ce) (sl) (pc) L (.int x :: st) := fun H locs ls hP hL => lv_i2l X.1 X.2.1 hd rfl (k H locs ls hP hL)
theorem hc_iload_n (X : hf_X g p s m args meth c cc n own ret) {z : Fin 4} {x : Int32} (hd : decode cc pc = .ok (.iload_n z, 1)) (hl : L[(z : Nat)]? = some (some (.int x))) (k : hc_W g p l e R s m args below meth c n Q (N) M (ce) (sl) (pc + 1) L (.int x :: st)) : hc_W g p l e R s m args below meth c n Q (N) M (ce) (sl) (pc) L (st) := fun H locs ls hP hL => lv_iload_n X.1 X.2.1 hd rfl (hL.2.2 _ _ hl) (k H locs ls hP hL)
theorem hc_istore_n (X : hf_X g p s m args meth c cc n own ret) {z : Fin 4} {x : Int32} (hd : decode cc pc = .ok (.istore_n z, 1)) (hn : (z : Nat) < n) (hk : hf_ok1 L (z : Nat) = true) (k : hc_W g p l e R s m args below meth c n Q (N) M (ce) (sl) (pc + 1) (L.set (z : Nat) (some (.int x))) (st)) : hc_W g p l e R s m args below meth c n Q (N) M (ce) (sl) (pc) L (.int x :: st) := fun H locs ls hP hL => lv_istore_n X.1 X.2.1 hd rfl (hf_lv_has hL) hn rfl (fun ls' hl => k H locs ls' hP (hf_L_of1 hk hl))
theorem hc_aload_n (X : hf_X g p s m args meth c cc n own ret) {z : Fin 4} {x : Nat} (hd : decode cc pc = .ok (.aload_n z, 1)) (hl : L[(z : Nat)]? = some (some (.ref x))) (k : hc_W g p l e R s m args below meth c n Q (N) M (ce) (sl) (pc + 1) L (.ref x :: st)) : hc_W g p l e R s m args below meth c n Q (N) M (ce) (sl) (pc) L (st) := fun H locs ls hP hL => lv_aload_n X.1 X.2.1 hd rfl (hL.2.2 _ _ hl) (k H locs ls hP hL)
theorem hc_astore_n (X : hf_X g p s m args meth c cc n own ret) {z : Fin 4} {x : Nat} (hd : decode cc pc = .ok (.astore_n z, 1)) (hn : (z : Nat) < n) (hk : hf_ok1 L (z : Nat) = true) (k : hc_W g p l e R s m args below meth c n Q (N) M (ce) (sl) (pc + 1) (L.set (z : Nat) (some (.ref x))) (st)) : hc_W g p l e R s m args below meth c n Q (N) M (ce) (sl) (pc) L (.ref x :: st) := fun H locs ls hP hL => lv_astore_n X.1 X.2.1 hd rfl (hf_lv_has hL) hn rfl (fun ls' hl => k H locs ls' hP (hf_L_of1 hk hl))
theorem hc_iinc (X : hf_X g p s m args meth c cc n own ret) {z : Nat} {w : Int} {x : Int32} (v : Int32) (hd : decode cc pc = .ok (.iinc z w, 3)) (hl : L[z]? = some (some (.int x))) (hv : x + Int32.ofInt w = v) (hn : z < n) (hk : hf_ok1 L z = true) (k : hc_W g p l e R s m args below meth c n Q (N) M (ce) (sl) (pc + 3) (L.set z (some (.int v))) (st)) : hc_W g p l e R s m args below meth c n Q (N) M (ce) (sl) (pc) L (st) := by
  intro H locs ls hP hL
  obtain ⟨q, hq⟩ := hf_idx hl
  exact lv_iinc X.1 X.2.1 hd (hf_lv_has hL) hq hv hn rfl (fun ls' hl => k H locs ls' hP (hf_L_of1 hk hl))
theorem hc_goto (X : hf_X g p s m args meth c cc n own ret) {off : Int} (tgt : Nat) (hd : decode cc pc = .ok (.goto off, 3)) (ht : (pc : Int) + off = (tgt : Int)) (k : hc_W g p l e R s m args below meth c n Q (N) M (ce) (sl) (tgt) L (st)) : hc_W g p l e R s m args below meth c n Q (N) M (ce) (sl) (pc) L (st) := fun H locs ls hP hL => lv_goto X.1 X.2.1 hd ht (k H locs ls hP hL)
theorem hc_tabIn (X : hf_X g p s m args meth c cc n own ret) {dflt lo hi : Int} {offs : Array Int} {len : Nat} {x : Int32} {off : Int} (tgt : Nat) (hd : decode cc pc = .ok (.tableswitch dflt lo hi offs, len)) (h1 : ¬ x.toInt < lo) (h2 : ¬ hi < x.toInt) (ho : offs[(x.toInt - lo).toNat]? = some off) (ht : (pc : Int) + off = (tgt : Int)) (k : hc_W g p l e R s m args below meth c n Q (N) M (ce) (sl) (tgt) L (st)) : hc_W g p l e R s m args below meth c n Q (N) M (ce) (sl) (pc) L ((.int x :: st)) := fun H locs ls hP hL => lv_tableIn X.1 X.2.1 hd h1 h2 ho ht (k H locs ls hP hL)
theorem hc_tabOut (X : hf_X g p s m args meth c cc n own ret) {dflt lo hi : Int} {offs : Array Int} {len : Nat} {x : Int32} (tgt : Nat) (hd : decode cc pc = .ok (.tableswitch dflt lo hi offs, len)) (h : x.toInt < lo ∨ hi < x.toInt) (ht : (pc : Int) + dflt = (tgt : Int)) (k : hc_W g p l e R s m args below meth c n Q (N) M (ce) (sl) (tgt) L (st)) : hc_W g p l e R s m args below meth c n Q (N) M (ce) (sl) (pc) L ((.int x :: st)) := fun H locs ls hP hL => lv_tableOut X.1 X.2.1 hd h ht (k H locs ls hP hL)
theorem hc_wk {L' : List (Option Value)} (h : hf_sub L' L) (k : hc_W g p l e R s m args below meth c n Q (N) M (ce) (sl) (pc) L' (st)) : hc_W g p l e R s m args below meth c n Q (N) M (ce) (sl) (pc) L (st) := fun H locs ls hP hL => k H locs ls hP ⟨hL.1, hL.2.1, fun i v hi => hL.2.2 i v (h i v hi)⟩
theorem hc_wd {ce' sl' : Nat} (h1 : ce ≤ ce') (h2 : sl ≤ sl') (k : hc_W g p l e R s m args below meth c n Q (N) M (ce') (sl') (pc) L (st)) : hc_W g p l e R s m args below meth c n Q (N) M (ce) (sl) (pc) L (st) := fun H locs ls hP hL => W.widen h1 h2 (k H locs ls hP hL)
theorem hc_objInit (X : hf_X g p s m args meth c cc n own ret) {t z : Nat} (h1 : Cond.methodLink own z Lib.objectInit ∈ hf_T) (h2 : Cond.instanceMethod Lib.objectInit ∈ hf_T) (h3 : Cond.code Lib.objectInit ⟨#[0xb1]⟩ 1 none ∈ hf_T) (hf1 : 1 ≤ R.frames) (hf2 : (st.map fun v => v.category).sum + 12 ≤ R.locals) (hd : decode cc pc = .ok (.invokespecial z, 3)) (k : hc_W g p l e R s m args below meth c n Q (N) M (ce) (sl) (pc + 3) L (st)) : hc_W g p l e R s m args below meth c n Q (N) M (ce) (sl) (pc) L ((.ref t :: st)) := by
  intro H locs ls hP hL
  obtain ⟨hx, hb, hml, hown, hts, hr, hlk, hK, hS, h0⟩ := X
  refine W.objInit hx hb hown (hts _ h1) (hts _ h2) (hts _ h3) rfl (by rw [hml]; exact hL.1) rfl hd hf1 (by show 2 * 0 + _ + 12 ≤ _; omega) ?_
  exact W.eq (g2 := F0 m (pc + 3) ls st) rfl (k H locs ls hP hL)
theorem hc_if_eq_T (X : hf_X g p s m args meth c cc n own ret) {x : Int32} {off : Int} (tgt : Nat) (h : x = 0) (hd : decode cc pc = .ok (.ifCond .eq off, 3)) (ht : (pc : Int) + off = (tgt : Int)) (k : hc_W g p l e R s m args below meth c n Q (N) M (ce) (sl) (tgt) L (st)) : hc_W g p l e R s m args below meth c n Q (N) M (ce) (sl) (pc) L (.int x :: st) := fun H locs ls hP hL => lv_if_eq X.1 X.2.1 hd ht (fun _ => k H locs ls hP hL) (fun c => absurd h c)
theorem hc_if_eq_F (X : hf_X g p s m args meth c cc n own ret) {x : Int32} {off : Int} (tgt : Nat) (h : ¬ x = 0) (hd : decode cc pc = .ok (.ifCond .eq off, 3)) (ht : (pc : Int) + off = (tgt : Int)) (k : hc_W g p l e R s m args below meth c n Q (N) M (ce) (sl) (pc + 3) L (st)) : hc_W g p l e R s m args below meth c n Q (N) M (ce) (sl) (pc) L (.int x :: st) := fun H locs ls hP hL => lv_if_eq X.1 X.2.1 hd ht (fun c => absurd c h) (fun _ => k H locs ls hP hL)
theorem hc_if_ne_T (X : hf_X g p s m args meth c cc n own ret) {x : Int32} {off : Int} (tgt : Nat) (h : ¬ x = 0) (hd : decode cc pc = .ok (.ifCond .ne off, 3)) (ht : (pc : Int) + off = (tgt : Int)) (k : hc_W g p l e R s m args below meth c n Q (N) M (ce) (sl) (tgt) L (st)) : hc_W g p l e R s m args below meth c n Q (N) M (ce) (sl) (pc) L (.int x :: st) := fun H locs ls hP hL => lv_if_ne X.1 X.2.1 hd ht (fun _ => k H locs ls hP hL) (fun c => absurd c h)
theorem hc_if_ne_F (X : hf_X g p s m args meth c cc n own ret) {x : Int32} {off : Int} (tgt : Nat) (h : x = 0) (hd : decode cc pc = .ok (.ifCond .ne off, 3)) (ht : (pc : Int) + off = (tgt : Int)) (k : hc_W g p l e R s m args below meth c n Q (N) M (ce) (sl) (pc + 3) L (st)) : hc_W g p l e R s m args below meth c n Q (N) M (ce) (sl) (pc) L (.int x :: st) := fun H locs ls hP hL => lv_if_ne X.1 X.2.1 hd ht (fun c => absurd h c) (fun _ => k H locs ls hP hL)
theorem hc_if_lt_T (X : hf_X g p s m args meth c cc n own ret) {x : Int32} {off : Int} (tgt : Nat) (h : x < 0) (hd : decode cc pc = .ok (.ifCond .lt off, 3)) (ht : (pc : Int) + off = (tgt : Int)) (k : hc_W g p l e R s m args below meth c n Q (N) M (ce) (sl) (tgt) L (st)) : hc_W g p l e R s m args below meth c n Q (N) M (ce) (sl) (pc) L (.int x :: st) := fun H locs ls hP hL => lv_if_lt X.1 X.2.1 hd ht (fun _ => k H locs ls hP hL) (fun c => absurd h c)
theorem hc_if_lt_F (X : hf_X g p s m args meth c cc n own ret) {x : Int32} {off : Int} (tgt : Nat) (h : ¬ x < 0) (hd : decode cc pc = .ok (.ifCond .lt off, 3)) (ht : (pc : Int) + off = (tgt : Int)) (k : hc_W g p l e R s m args below meth c n Q (N) M (ce) (sl) (pc + 3) L (st)) : hc_W g p l e R s m args below meth c n Q (N) M (ce) (sl) (pc) L (.int x :: st) := fun H locs ls hP hL => lv_if_lt X.1 X.2.1 hd ht (fun c => absurd c h) (fun _ => k H locs ls hP hL)
theorem hc_if_ge_T (X : hf_X g p s m args meth c cc n own ret) {x : Int32} {off : Int} (tgt : Nat) (h : 0 ≤ x) (hd : decode cc pc = .ok (.ifCond .ge off, 3)) (ht : (pc : Int) + off = (tgt : Int)) (k : hc_W g p l e R s m args below meth c n Q (N) M (ce) (sl) (tgt) L (st)) : hc_W g p l e R s m args below meth c n Q (N) M (ce) (sl) (pc) L (.int x :: st) := fun H locs ls hP hL => lv_if_ge X.1 X.2.1 hd ht (fun _ => k H locs ls hP hL) (fun c => absurd h c)
theorem hc_if_ge_F (X : hf_X g p s m args meth c cc n own ret) {x : Int32} {off : Int} (tgt : Nat) (h : ¬ 0 ≤ x) (hd : decode cc pc = .ok (.ifCond .ge off, 3)) (ht : (pc : Int) + off = (tgt : Int)) (k : hc_W g p l e R s m args below meth c n Q (N) M (ce) (sl) (pc + 3) L (st)) : hc_W g p l e R s m args below meth c n Q (N) M (ce) (sl) (pc) L (.int x :: st) := fun H locs ls hP hL => lv_if_ge X.1 X.2.1 hd ht (fun c => absurd c h) (fun _ => k H locs ls hP hL)
theorem hc_if_gt_T (X : hf_X g p s m args meth c cc n own ret) {x : Int32} {off : Int} (tgt : Nat) (h : 0 < x) (hd : decode cc pc = .ok (.ifCond .gt off, 3)) (ht : (pc : Int) + off = (tgt : Int)) (k : hc_W g p l e R s m args below meth c n Q (N) M (ce) (sl) (tgt) L (st)) : hc_W g p l e R s m args below meth c n Q (N) M (ce) (sl) (pc) L (.int x :: st) := fun H locs ls hP hL => lv_if_gt X.1 X.2.1 hd ht (fun _ => k H locs ls hP hL) (fun c => absurd h c)
theorem hc_if_gt_F (X : hf_X g p s m args meth c cc n own ret) {x : Int32} {off : Int} (tgt : Nat) (h : ¬ 0 < x) (hd : decode cc pc = .ok (.ifCond .gt off, 3)) (ht : (pc : Int) + off = (tgt : Int)) (k : hc_W g p l e R s m args below meth c n Q (N) M (ce) (sl) (pc + 3) L (st)) : hc_W g p l e R s m args below meth c n Q (N) M (ce) (sl) (pc) L (.int x :: st) := fun H locs ls hP hL => lv_if_gt X.1 X.2.1 hd ht (fun c => absurd c h) (fun _ => k H locs ls hP hL)
theorem hc_if_le_T (X : hf_X g p s m args meth c cc n own ret) {x : Int32} {off : Int} (tgt : Nat) (h : x ≤ 0) (hd : decode cc pc = .ok (.ifCond .le off, 3)) (ht : (pc : Int) + off = (tgt : Int)) (k : hc_W g p l e R s m args below meth c n Q (N) M (ce) (sl) (tgt) L (st)) : hc_W g p l e R s m args below meth c n Q (N) M (ce) (sl) (pc) L (.int x :: st) := fun H locs ls hP hL => lv_if_le X.1 X.2.1 hd ht (fun _ => k H locs ls hP hL) (fun c => absurd h c)
theorem hc_if_le_F (X : hf_X g p s m args meth c cc n own ret) {x : Int32} {off : Int} (tgt : Nat) (h : ¬ x ≤ 0) (hd : decode cc pc = .ok (.ifCond .le off, 3)) (ht : (pc : Int) + off = (tgt : Int)) (k : hc_W g p l e R s m args below meth c n Q (N) M (ce) (sl) (pc + 3) L (st)) : hc_W g p l e R s m args below meth c n Q (N) M (ce) (sl) (pc) L (.int x :: st) := fun H locs ls hP hL => lv_if_le X.1 X.2.1 hd ht (fun c => absurd c h) (fun _ => k H locs ls hP hL)
theorem hc_icmp_eq_T (X : hf_X g p s m args meth c cc n own ret) {x y : Int32} {off : Int} (tgt : Nat) (h : x = y) (hd : decode cc pc = .ok (.if_icmp .eq off, 3)) (ht : (pc : Int) + off = (tgt : Int)) (k : hc_W g p l e R s m args below meth c n Q (N) M (ce) (sl) (tgt) L (st)) : hc_W g p l e R s m args below meth c n Q (N) M (ce) (sl) (pc) L (.int y :: .int x :: st) := fun H locs ls hP hL => lv_icmp_eq X.1 X.2.1 hd ht (fun _ => k H locs ls hP hL) (fun c => absurd h c)
theorem hc_icmp_eq_F (X : hf_X g p s m args meth c cc n own ret) {x y : Int32} {off : Int} (tgt : Nat) (h : ¬ x = y) (hd : decode cc pc = .ok (.if_icmp .eq off, 3)) (ht : (pc : Int) + off = (tgt : Int)) (k : hc_W g p l e R s m args below meth c n Q (N) M (ce) (sl) (pc + 3) L (st)) : hc_W g p l e R s m args below meth c n Q (N) M (ce) (sl) (pc) L (.int y :: .int x :: st) := fun H locs ls hP hL => lv_icmp_eq X.1 X.2.1 hd ht (fun c => absurd c h) (fun _ => k H locs ls hP hL)
theorem hc_icmp_ne_T (X : hf_X g p s m args meth c cc n own ret) {x y : Int32} {off : Int} (tgt : Nat) (h : ¬ x = y) (hd : decode cc pc = .ok (.if_icmp .ne off, 3)) (ht : (pc : Int) + off = (tgt : Int)) (k : hc_W g p l e R s m args below meth c n Q (N) M (ce) (sl) (tgt) L (st)) : hc_W g p l e R s m args below meth c n Q (N) M (ce) (sl) (pc) L (.int y :: .int x :: st) := fun H locs ls hP hL => lv_icmp_ne X.1 X.2.1 hd ht (fun _ => k H locs ls hP hL) (fun c => absurd c h)
theorem hc_icmp_ne_F (X : hf_X g p s m args meth c cc n own ret) {x y : Int32} {off : Int} (tgt : Nat) (h : x = y) (hd : decode cc pc = .ok (.if_icmp .ne off, 3)) (ht : (pc : Int) + off = (tgt : Int)) (k : hc_W g p l e R s m args below meth c n Q (N) M (ce) (sl) (pc + 3) L (st)) : hc_W g p l e R s m args below meth c n Q (N) M (ce) (sl) (pc) L (.int y :: .int x :: st) := fun H locs ls hP hL => lv_icmp_ne X.1 X.2.1 hd ht (fun c => absurd h c) (fun _ => k H locs ls hP hL)
theorem hc_icmp_lt_T (X : hf_X g p s m args meth c cc n own ret) {x y : Int32} {off : Int} (tgt : Nat) (h : x < y) (hd : decode cc pc = .ok (.if_icmp .lt off, 3)) (ht : (pc : Int) + off = (tgt : Int)) (k : hc_W g p l e R s m args below meth c n Q (N) M (ce) (sl) (tgt) L (st)) : hc_W g p l e R s m args below meth c n Q (N) M (ce) (sl) (pc) L (.int y :: .int x :: st) := fun H locs ls hP hL => lv_icmp_lt X.1 X.2.1 hd ht (fun _ => k H locs ls hP hL) (fun c => absurd h c)
theorem hc_icmp_lt_F (X : hf_X g p s m args meth c cc n own ret) {x y : Int32} {off : Int} (tgt : Nat) (h : ¬ x < y) (hd : decode cc pc = .ok (.if_icmp .lt off, 3)) (ht : (pc : Int) + off = (tgt : Int)) (k : hc_W g p l e R s m args below meth c n Q (N) M (ce) (sl) (pc + 3) L (st)) : hc_W g p l e R s m args below meth c n Q (N) M (ce) (sl) (pc) L (.int y :: .int x :: st) := fun H locs ls hP hL => lv_icmp_lt X.1 X.2.1 hd ht (fun c => absurd c h) (fun _ => k H locs ls hP hL)
theorem hc_icmp_ge_T (X : hf_X g p s m args meth c cc n own ret) {x y : Int32} {off : Int} (tgt : Nat) (h : y ≤ x) (hd : decode cc pc = .ok (.if_icmp .ge off, 3)) (ht : (pc : Int) + off = (tgt : Int)) (k : hc_W g p l e R s m args below meth c n Q (N) M (ce) (sl) (tgt) L (st)) : hc_W g p l e R s m args below meth c n Q (N) M (ce) (sl) (pc) L (.int y :: .int x :: st) := fun H locs ls hP hL => lv_icmp_ge X.1 X.2.1 hd ht (fun _ => k H locs ls hP hL) (fun c => absurd h c)
theorem hc_icmp_ge_F (X : hf_X g p s m args meth c cc n own ret) {x y : Int32} {off : Int} (tgt : Nat) (h : ¬ y ≤ x) (hd : decode cc pc = .ok (.if_icmp .ge off, 3)) (ht : (pc : Int) + off = (tgt : Int)) (k : hc_W g p l e R s m args below meth c n Q (N) M (ce) (sl) (pc + 3) L (st)) : hc_W g p l e R s m args below meth c n Q (N) M (ce) (sl) (pc) L (.int y :: .int x :: st) := fun H locs ls hP hL => lv_icmp_ge X.1 X.2.1 hd ht (fun c => absurd c h) (fun _ => k H locs ls hP hL)
theorem hc_icmp_gt_T (X : hf_X g p s m args meth c cc n own ret) {x y : Int32} {off : Int} (tgt : Nat) (h : y < x) (hd : decode cc pc = .ok (.if_icmp .gt off, 3)) (ht : (pc : Int) + off = (tgt : Int)) (k : hc_W g p l e R s m args below meth c n Q (N) M (ce) (sl) (tgt) L (st)) : hc_W g p l e R s m args below meth c n Q (N) M (ce) (sl) (pc) L (.int y :: .int x :: st) := fun H locs ls hP hL => lv_icmp_gt X.1 X.2.1 hd ht (fun _ => k H locs ls hP hL) (fun c => absurd h c)
theorem hc_icmp_gt_F (X : hf_X g p s m args meth c cc n own ret) {x y : Int32} {off : Int} (tgt : Nat) (h : ¬ y < x) (hd : decode cc pc = .ok (.if_icmp .gt off, 3)) (ht : (pc : Int) + off = (tgt : Int)) (k : hc_W g p l e R s m args below meth c n Q (N) M (ce) (sl) (pc + 3) L (st)) : hc_W g p l e R s m args below meth c n Q (N) M (ce) (sl) (pc) L (.int y :: .int x :: st) := fun H locs ls hP hL => lv_icmp_gt X.1 X.2.1 hd ht (fun c => absurd c h) (fun _ => k H locs ls hP hL)
theorem hc_icmp_le_T (X : hf_X g p s m args meth c cc n own ret) {x y : Int32} {off : Int} (tgt : Nat) (h : x ≤ y) (hd : decode cc pc = .ok (.if_icmp .le off, 3)) (ht : (pc : Int) + off = (tgt : Int)) (k : hc_W g p l e R s m args below meth c n Q (N) M (ce) (sl) (tgt) L (st)) : hc_W g p l e R s m args below meth c n Q (N) M (ce) (sl) (pc) L (.int y :: .int x :: st) := fun H locs ls hP hL => lv_icmp_le X.1 X.2.1 hd ht (fun _ => k H locs ls hP hL) (fun c => absurd h c)
theorem hc_icmp_le_F (X : hf_X g p s m args meth c cc n own ret) {x y : Int32} {off : Int} (tgt : Nat) (h : ¬ x ≤ y) (hd : decode cc pc = .ok (.if_icmp .le off, 3)) (ht : (pc : Int) + off = (tgt : Int)) (k : hc_W g p l e R s m args below meth c n Q (N) M (ce) (sl) (pc + 3) L (st)) : hc_W g p l e R s m args below meth c n Q (N) M (ce) (sl) (pc) L (.int y :: .int x :: st) := fun H locs ls hP hL => lv_icmp_le X.1 X.2.1 hd ht (fun c => absurd c h) (fun _ => k H locs ls hP hL)
theorem hc_grow {H H1 : Heap} {locs : List Loc} (hP : hc_P g N M s H locs) (h0 : hf_s0 g ≤ s.heap.size) (z : H1.size = H.size + 1) (oq : ∀ q, q < H.size → H1[q]? = H[q]?) (hat : va_at (hf_D g) vwCl (hf_a g N, hf_c g M N) H1) : hc_P g (N + 1) M s H1 locs := by
  obtain ⟨hp, hd, hs, hz, ha⟩ := hP
  have hk : ∀ (k : Nat) (x : Nat × va_E), (hc_w g M N)[k]? = some x → H1[x.1]? = H[x.1]? := fun k x hx => oq x.1 ((hp k x hx).lt)
  refine ⟨?_, ?_, ⟨Nat.le_trans hs.1 (by omega), fun x h1 h2 => (oq x (Nat.lt_of_lt_of_le h1 hs.1)).trans (hs.2.1 x h1 h2), hs.2.2⟩, by omega, ha⟩
  · rw [hc_w_push]
    refine (hp.kept hk).app (fun k x hx => ?_)
    have hz : k < 1 := (List.getElem?_eq_some_iff.mp hx).1
    rw [show k = 0 by omega] at hx
    cases hx
    exact hat
  · rw [hc_w_push]
    exact hd.push hp (by rw [ha, hz]) (Or.inr (by rw [ha]; omega))
theorem hc_new (X : hf_X g p s m args meth c cc n own ret) {ci z k : Nat} {C : String} {T : u_T} {ty0 : Nat → FieldType} (hsh : hf_shp N = ci) (hci : ci < 6 ∧ vwCl[ci]? = some (C, T, k) ∧ hf_nf ci = k) (h1 : Cond.classLink own z C ∈ hf_T) (h2 : Cond.instantiable C k ∈ hf_T) (h3 : Cond.initialized C ∈ hf_T) (hin : ∀ w ∈ u_ws C T k, w ∈ hf_T) (hty : ∀ j, j < k → parseFieldDescriptor (T j).2.2.1 = some (ty0 j)) (hdf : ∀ j, j < k → defaultValue (ty0 j) = if hf_fty ci j = 0 then .int 0 else if hf_fty ci j = 1 then .long 0 else .null) (hzI : ∀ j, M.1 N j = 0) (hzL : ∀ j, M.2.1 N j = 0) (hzR : ∀ j, M.2.2 N j = none) (hc1 : ce + 1 ≤ R.cells) (hc2 : sl + k ≤ R.slots) (hd : decode cc pc = .ok (.new z, 3)) (kk : hc_W g p l e R s m args below meth c n Q (N + 1) M (ce + 1) (sl + k) (pc + 3) L (.ref (hf_a g N) :: st)) : hc_W g p l e R s m args below meth c n Q (N) M (ce) (sl) (pc) L (st) := by
  intro H locs ls hP hL
  obtain ⟨hx, hb, hml, hown, hts, hr, hlk, hK, hS, h0⟩ := X
  have hKn := hK.1 ci _ hci.2.1
  have hsz := hP.2.2.2.1
  have ha := hP.2.2.2.2 N
  refine W.newcK hx hb hown (hts _ h1) (hts _ h2) (hts _ h3) rfl hd hc1 hc2 hKn.2.1 (h := hf_a g N) (by rw [hsz, ha]) fun H1 kC hkC e1 z1 o1 => ?_
  have hg : hc_P g (N + 1) M s H1 locs := by
    refine hc_grow hP h0 (by rw [z1, hsz, ha]) (fun q hq => o1 q (by rw [ha]; omega)) ?_
    show va_at _ _ (hf_a g N, hf_c g M N) H1
    rw [hf_cO g M hsh hci.1]
    refine ⟨_, hci.2.1, (u_born ty0 hts hin hKn hkC e1 hty).to (fun j hj => ?_)⟩
    show _ = (hf_fs g M N ci).getD j .null
    rw [List.getD_eq_getElem?_getD, hf_fs_at g M N (by rw [hci.2.2]; exact hj)]
    show _ = hf_fv g M N ci j
    rw [hdf j hj]
    unfold hf_fv
    rw [hzI, hzL, hzR]
    rfl
  exact kk H1 locs ls hg hL
theorem hc_cls {U : State} {ty : FieldType} {cA cB : ClassId} {x : String} (h1 : U.vm.findClass x = some cA) (h2 : U.vm.findClass x = some cB) : cA = cB := Option.some.inj (h1.symm.trans h2)
theorem hc_newI (X : hf_X g p s m args meth c cc n own ret) {w : Nat} {v : Int32} (hsh : hf_shp N = 6) (hlen : hf_len N = w) (hz : ∀ j, M.1 N j = 0) (h1 : Cond.arrayClass .int ∈ hf_T) (hv : ¬ v < 0 ∧ v.toNatClampNeg = w ∧ w ≤ 60000) (hc1 : ce + 1 ≤ R.cells) (hc2 : sl + w ≤ R.slots) (hd : decode cc pc = .ok (.newarray .int, 2)) (kk : hc_W g p l e R s m args below meth c n Q (N + 1) M (ce + 1) (sl + w) (pc + 2) L (.ref (hf_a g N) :: st)) : hc_W g p l e R s m args below meth c n Q (N) M (ce) (sl) (pc) L (.int v :: st) := by
  intro H locs ls hP hL
  obtain ⟨hx, hb, hml, hown, hts, hr, hlk, hK, hS, h0⟩ := X
  have hsz := hP.2.2.2.1
  have ha := hP.2.2.2.2 N
  refine va_newaK (atype := .int) hx hb (hts _ h1) rfl hd rfl hv.1 hv.2.1 (by show w * 4 ≤ _; have := hv.2.2; omega) hc1 hc2 (h := hf_a g N) (by rw [hsz, ha]) fun H1 cA e1 z1 o1 _ hnm => ?_
  have hcA : cA = hf_cI g := hc_cls (ty := .int) hnm (hK.2 0 _ rfl).2
  have hg : hc_P g (N + 1) M s H1 locs := by
    refine hc_grow hP h0 (by rw [z1, hsz, ha]) (fun q hq => o1 q (by rw [ha]; omega)) ?_
    show va_at _ _ (hf_a g N, hf_c g M N) H1
    rw [hf_c6 g M hsh]
    show H1[hf_a g N]? = some (vp_cell _ _)
    rw [e1, hcA, hlen]
    have hf : M.1 N = fun _ => 0 := funext hz
    rw [hf]
    rfl
  exact kk H1 locs ls hg hL
theorem hc_newJ (X : hf_X g p s m args meth c cc n own ret) {w : Nat} {v : Int32} (hsh : hf_shp N = 7) (hlen : hf_len N = w) (hz : ∀ j, M.2.1 N j = 0) (h1 : Cond.arrayClass .long ∈ hf_T) (hv : ¬ v < 0 ∧ v.toNatClampNeg = w ∧ w ≤ 60000) (hc1 : ce + 1 ≤ R.cells) (hc2 : sl + w ≤ R.slots) (hd : decode cc pc = .ok (.newarray .long, 2)) (kk : hc_W g p l e R s m args below meth c n Q (N + 1) M (ce + 1) (sl + w) (pc + 2) L (.ref (hf_a g N) :: st)) : hc_W g p l e R s m args below meth c n Q (N) M (ce) (sl) (pc) L (.int v :: st) := by
  intro H locs ls hP hL
  obtain ⟨hx, hb, hml, hown, hts, hr, hlk, hK, hS, h0⟩ := X
  have hsz := hP.2.2.2.1
  have ha := hP.2.2.2.2 N
  refine va_newaK (atype := .long) hx hb (hts _ h1) rfl hd rfl hv.1 hv.2.1 (by show w * 8 ≤ _; have := hv.2.2; omega) hc1 hc2 (h := hf_a g N) (by rw [hsz, ha]) fun H1 cA e1 z1 o1 _ hnm => ?_
  have hcA : cA = hf_cJ g := hc_cls (ty := .long) hnm (hK.2 1 _ rfl).2
  have hg : hc_P g (N + 1) M s H1 locs := by
    refine hc_grow hP h0 (by rw [z1, hsz, ha]) (fun q hq => o1 q (by rw [ha]; omega)) ?_
    show va_at _ _ (hf_a g N, hf_c g M N) H1
    rw [hf_c7 g M hsh]
    show H1[hf_a g N]? = some (vp_cell _ _)
    rw [e1, hcA, hlen]
    have hf : M.2.1 N = fun _ => 0 := funext hz
    rw [hf]
    rfl
  exact kk H1 locs ls hg hL
theorem hc_newS (X : hf_X g p s m args meth c cc n own ret) {z : Nat} {v : Int32} (hsh : hf_shp N = 8) (hlen : hf_len N = 8) (hz : ∀ j, M.2.2 N j = none) (h1 : Cond.classLink own z RX2 ∈ hf_T) (hv : v = 8) (hc1 : ce + 1 ≤ R.cells) (hc2 : sl + 8 ≤ R.slots) (hd : decode cc pc = .ok (.anewarray z, 3)) (kk : hc_W g p l e R s m args below meth c n Q (N + 1) M (ce + 1) (sl + 8) (pc + 3) L (.ref (hf_a g N) :: st)) : hc_W g p l e R s m args below meth c n Q (N) M (ce) (sl) (pc) L (.int v :: st) := by
  intro H locs ls hP hL
  obtain ⟨hx, hb, hml, hown, hts, hr, hlk, hK, hS, h0⟩ := X
  have hsz := hP.2.2.2.1
  have ha := hP.2.2.2.2 N
  subst hv
  refine W.anew hx hb hown (hts _ h1) (va_AO.use hS.2.2.2.1.2.2.2.2) rfl hd rfl (by decide) (by decide) hc1 hc2 fun cA kA comp f1 f2 f3 f4 => ?_
  generalize hH1 : H.push ({ cls := cA, slots := Array.replicate (8 : Int32).toNatClampNeg .null, vm := .none } : Cell) = H1
  have z1 : H1.size = H.size + 1 := by rw [← hH1, Array.size_push]
  have e1 : H1[H.size]? = some (arrV cA (8 : Int32).toNatClampNeg (fun _ => .null)) := by rw [← hH1, Array.getElem?_push_size, ← arrV_new]
  have o1 : ∀ q : Nat, q < H.size → H1[q]? = H[q]? := fun q hq => by rw [← hH1, Array.getElem?_push, if_neg (Nat.ne_of_lt hq)]
  obtain ⟨kB, cB, g1, g2, g3, g4⟩ := (hK.2 2 _ rfl).2
  have hcA : cA = hf_cS g := hc_cls (ty := .int) f1 g4
  have hg : hc_P g (N + 1) M s H1 locs := by
    refine hc_grow hP h0 z1 o1 ?_
    show va_at _ _ (hf_a g N, hf_c g M N) H1
    rw [hf_c8 g M hsh]
    show H1[hf_a g N]? = some (vp_cell _ _)
    rw [ha, ← hsz, e1, hcA, hlen]
    have hf : M.2.2 N = fun _ => none := funext hz
    rw [hf]
    rfl
  have hq : hf_a g N = H.size := by rw [ha, hsz]
  have := kk H1 locs ls hg hL
  rw [hq] at this
  exact this
end HC
