section HF
variable {α β : Type} {g : hf_G} {p : Program} {l : Launch} {e : Env} {d : Nat} {s : State} {m : MethodId} {args : Array Value} {below : List Frame} {meth : Method} {c : Code} {n : Nat} {Qf : α → hf_M → State → Prop} {M : hf_M} {pc : Nat} {L : List (Option Value)} {st : List Value} {sh : Option (α × hf_M)} {cc : ByteArray} {own : String} {ret : Option FieldType}
def hf_FL (own : String) (z : Nat) (C n d : String) : Prop := Cond.fieldLink own z C n d ∈ hf_T ∨ ∃ host, (own, z, C, n, d, host) ∈ hf_NF
theorem hf_get {R : Room} {H : Heap} {locs : List Loc} {cells slots : Nat} {Q : State → Prop} {ls : Array Slot} {rest : List Value} {a : Nat} {tys : List (ClassId × FieldType)} {ws : va_W} (hexec : p.tables.exec = Jvm.exec) (hb : c.code = cc) {ref C : String} {T : u_T} {N ci index : Nat} (hts : ∀ w ∈ hf_T, w.before args s = true) (hin : ∀ w ∈ u_ws C T N, w ∈ hf_T) (hown : s.vm.findClass own = some m.cls) (hK : va_K (hf_D g) vwCl tys s) (hS : hf_S g s s.heap) (hP : va_P (hf_D g) vwCl ws H) (q0 : Nat) {fs : List Value} (he : ws[q0]? = some (a, .inr (ci, fs))) (hc : vwCl[ci]? = some (C, T, N)) (k : Nat) (hk : k < N) (hlink : hf_FL own index ref (T k).2.1 (T k).2.2.1) (hsame : ∀ x, s.fieldFound? (T k).1 (T k).2.1 (T k).2.2.1 = some x → s.fieldFound? ref (T k).2.1 (T k).2.2.1 = some x) {v : Value} (hv : fs[k]? = some v) (hdg : decode cc pc = .ok (.getfield index, 3))
    (kk : W p l e R s m args below meth c H locs cells slots Q (F0 m (pc + 3) ls (v :: rest))) : W p l e R s m args below meth c H locs cells slots Q (F0 m pc ls (.ref a :: rest)) := by
  rcases hlink with hw | ⟨host, hw⟩
  · exact va_get hexec hb hts hin hown hK hP q0 he hc k hk (hts _ hw) hsame hv hdg kk
  · exact va_getN hexec hb hts hin hown hK hP q0 he hc k hk (va_Nw.use rfl (hS.2.2.2.2.1 _ hw)) hsame hv hdg kk
theorem hf_put {R : Room} {H H0 : Heap} {locs : List Loc} {cells slots : Nat} {Q : State → Prop} {ls : Array Slot} {rest : List Value} {a : Nat} {tys : List (ClassId × FieldType)} {ws : va_W} {A : Nat → Prop} (hexec : p.tables.exec = Jvm.exec) (hb : c.code = cc) {ref C : String} {T : u_T} {N ci index : Nat} (hts : ∀ w ∈ hf_T, w.before args s = true) (hin : ∀ w ∈ u_ws C T N, w ∈ hf_T) (ty0 : Nat → FieldType) (hty : ∀ k, k < N → parseFieldDescriptor (T k).2.2.1 = some (ty0 k)) (hnm : ∀ a, a < N → ∀ b, b < N → a ≠ b → (T a).2.1 ≠ (T b).2.1) (hown : s.vm.findClass own = some m.cls) (hK : va_K (hf_D g) vwCl tys s) (hS : hf_S g s s.heap) (hP : va_P (hf_D g) vwCl ws H) (hD : va_D A ws) (hS0 : va_S A H0 H locs) (q0 : Nat) {fs : List Value} (he : ws[q0]? = some (a, .inr (ci, fs))) (hc : vwCl[ci]? = some (C, T, N)) (k : Nat) (hk : k < N) (hlink : hf_FL own index ref (T k).2.1 (T k).2.2.1) (hsame : ∀ x, s.fieldFound? (T k).1 (T k).2.1 (T k).2.2.1 = some x → s.fieldFound? ref (T k).2.1 (T k).2.2.1 = some x) (hfin : (T k).2.2.2 = false) {ty : FieldType} {v : Value} (hd : parseFieldDescriptor (T k).2.2.1 = some ty) (hn : narrow ty v = v) (hfit : fits ty v = true) (hl : k < fs.length)
    (hdg : decode cc pc = .ok (.putfield index, 3)) (kk : ∀ (H1 : Heap) (locs1 : List Loc), va_P (hf_D g) vwCl (ws.set q0 (a, .inr (ci, fs.set k v))) H1 → va_D A (ws.set q0 (a, .inr (ci, fs.set k v))) → va_S A H0 H1 locs1 → W p l e R s m args below meth c H1 locs1 cells slots Q (F0 m (pc + 3) ls rest)) : W p l e R s m args below meth c H locs cells slots Q (F0 m pc ls (v :: .ref a :: rest)) := by
  rcases hlink with hw | ⟨host, hw⟩
  · exact va_put hexec hb hts hin ty0 hty hnm hown hK hP hD hS0 q0 he hc k hk (hts _ hw) hsame hfin hd hn hfit hl hdg kk
  · exact va_putN hexec hb hts hin ty0 hty hnm hown hK hP hD hS0 q0 he hc k hk (va_Nw.use rfl (hS.2.2.2.2.1 _ hw)) hsame hfin hd hn hfit hl hdg kk
theorem hr_getI (X : hf_X g p s m args meth c cc n own ret) {t ci j z N : Nat} {C : String} {T : u_T} (ht : t < 69) (hs : hf_shp t = ci) (hf : hf_fty ci j = 0 ∧ j < hf_nf ci ∧ ci < 6 ∧ vwCl[ci]? = some (C, T, N) ∧ j < N) (hin : ∀ w ∈ u_ws C T N, w ∈ hf_T) (hw : hf_FL own z C (T j).2.1 (T j).2.2.1) (hC : (T j).1 = C) (hd : decode cc pc = .ok (.getfield z, 3)) (k : hf_W g p l e d s m args below meth c n Qf M (pc + 3) L ((.int (M.1 t j) :: st)) sh) : hf_W g p l e d s m args below meth c n Qf M (pc) L ((.ref (hf_a g t) :: st)) sh := by
  intro r M' e H locs ls hP hL
  obtain ⟨hx, hb, hml, hown, hts, hr, hlk, hK, hS, h0⟩ := X
  have he := hf_w_at g M ht
  rw [hf_cO g M hs hf.2.2.1] at he
  refine hf_get hx hb hts hin hown hK hS hP.1 t he hf.2.2.2.1 j hf.2.2.2.2 hw (fun x h => by rw [hC] at h; exact h) (hf_fs_at g M t hf.2.1) hd ?_
  rw [hf_fv, if_pos hf.1]
  exact k r M' e H locs ls hP hL
theorem hr_getL (X : hf_X g p s m args meth c cc n own ret) {t ci j z N : Nat} {C : String} {T : u_T} (ht : t < 69) (hs : hf_shp t = ci) (hf : hf_fty ci j = 1 ∧ j < hf_nf ci ∧ ci < 6 ∧ vwCl[ci]? = some (C, T, N) ∧ j < N) (hin : ∀ w ∈ u_ws C T N, w ∈ hf_T) (hw : hf_FL own z C (T j).2.1 (T j).2.2.1) (hC : (T j).1 = C) (hd : decode cc pc = .ok (.getfield z, 3)) (k : hf_W g p l e d s m args below meth c n Qf M (pc + 3) L ((.long (M.2.1 t j) :: st)) sh) : hf_W g p l e d s m args below meth c n Qf M (pc) L ((.ref (hf_a g t) :: st)) sh := by
  intro r M' e H locs ls hP hL
  obtain ⟨hx, hb, hml, hown, hts, hr, hlk, hK, hS, h0⟩ := X
  have he := hf_w_at g M ht
  rw [hf_cO g M hs hf.2.2.1] at he
  refine hf_get hx hb hts hin hown hK hS hP.1 t he hf.2.2.2.1 j hf.2.2.2.2 hw (fun x h => by rw [hC] at h; exact h) (hf_fs_at g M t hf.2.1) hd ?_
  rw [hf_fv, if_neg (by rw [hf.1]; decide), if_pos hf.1]
  exact k r M' e H locs ls hP hL
theorem hr_getR (X : hf_X g p s m args meth c cc n own ret) {t ci j z N : Nat} {C : String} {T : u_T} {kk : Nat → Option (α × hf_M)} (sw : Nat) (ht : t < 69) (hs : hf_shp t = ci) (hf : hf_fty ci j = 2 ∧ j < hf_nf ci ∧ ci < 6 ∧ vwCl[ci]? = some (C, T, N) ∧ j < N) (hsw : hf_wnt ci j = sw) (hin : ∀ w ∈ u_ws C T N, w ∈ hf_T) (hw : hf_FL own z C (T j).2.1 (T j).2.2.1) (hC : (T j).1 = C) (hd : decode cc pc = .ok (.getfield z, 3)) (k : ∀ q : Nat, q < 69 → hf_shp q = sw → hf_W g p l e d s m args below meth c n Qf M (pc + 3) L ((.ref (hf_a g q) :: st)) (kk q)) : hf_W g p l e d s m args below meth c n Qf M (pc) L ((.ref (hf_a g t) :: st)) (hf_rf (M.2.2 t j) kk) := by
  intro r M' e H locs ls hP hL
  obtain ⟨hx, hb, hml, hown, hts, hr, hlk, hK, hS, h0⟩ := X
  have he := hf_w_at g M ht
  rw [hf_cO g M hs hf.2.2.1] at he
  refine hf_get hx hb hts hin hown hK hS hP.1 t he hf.2.2.2.1 j hf.2.2.2.2 hw (fun x h => by rw [hC] at h; exact h) (hf_fs_at g M t hf.2.1) hd ?_
  rw [hf_fv, if_neg (by rw [hf.1]; decide), if_neg (by rw [hf.1]; decide)]
  unfold hf_rf at e
  cases hq : M.2.2 t j with
  | none => rw [hq] at e; cases e
  | some q =>
    rw [hq] at e
    have h2 := hP.2.2.2 t j q hq
    exact k q h2.1 (by rw [h2.2, hs]; exact hsw) r M' e H locs ls hP hL
theorem hf_RT_I {M : hf_M} (h : hf_RT M) (k j : Nat) (v : Int32) : hf_RT (hf_sI M k j v) := h
theorem hf_RT_L {M : hf_M} (h : hf_RT M) (k j : Nat) (v : Int64) : hf_RT (hf_sL M k j v) := h
theorem hf_RT_R {M : hf_M} (h : hf_RT M) (k j : Nat) (v : Nat) (hv : v < 69 ∧ hf_shp v = hf_wnt (hf_shp k) j) : hf_RT (hf_sR M k j (some v)) := by
  intro a b t ht
  simp only [hf_sR, hf_u] at ht
  by_cases c : a = k ∧ b = j
  · rw [if_pos c] at ht
    cases ht
    rw [c.1, c.2]
    exact hv
  · rw [if_neg c] at ht
    exact h a b t ht
theorem hr_putI (X : hf_X g p s m args meth c cc n own ret) {kk : hf_M → Option (α × hf_M)} {t ci j z N : Nat} {C : String} {T : u_T} {v : Int32} {ty0 : Nat → FieldType} {ty : FieldType} (ht : t < 69) (hs : hf_shp t = ci) (hf : hf_fty ci j = 0 ∧ j < hf_nf ci ∧ ci < 6 ∧ vwCl[ci]? = some (C, T, N) ∧ j < N) (hin : ∀ w ∈ u_ws C T N, w ∈ hf_T) (hw : hf_FL own z C (T j).2.1 (T j).2.2.1) (hC : (T j).1 = C) (hty : ∀ k, k < N → parseFieldDescriptor (T k).2.2.1 = some (ty0 k)) (hnm : ∀ a, a < N → ∀ b, b < N → a ≠ b → (T a).2.1 ≠ (T b).2.1) (hfin : (T j).2.2.2 = false) (hdd : ty0 j = ty) (hn : narrow ty (.int v) = .int v) (hfit : fits ty (.int v) = true) (hd : decode cc pc = .ok (.putfield z, 3)) (k : ∀ M6, M6 = hf_sI M t j v → hf_W g p l e d s m args below meth c n Qf M6 (pc + 3) L (st) (kk M6)) : hf_W g p l e d s m args below meth c n Qf M (pc) L ((.int v :: .ref (hf_a g t) :: st)) (hf_pt (hf_sI M t j v) kk) := by
  intro r M' e H locs ls hP hL
  obtain ⟨hx, hb, hml, hown, hts, hr, hlk, hK, hS, h0⟩ := X
  have he := hf_w_at g M ht
  rw [hf_cO g M hs hf.2.2.1] at he
  refine hf_put hx hb hts hin ty0 hty hnm hown hK hS hP.1 hP.2.1 hP.2.2.1 t he hf.2.2.2.1 j hf.2.2.2.2 hw (fun x h => by rw [hC] at h; exact h) hfin (by rw [hty j hf.2.2.2.2, hdd]) hn hfit (by rw [hf_fs_len]; exact hf.2.1) hd (fun H1 locs1 hP1 hD1 hS1 => ?_)
  have e1 : (hf_w g M).set t (hf_a g t, .inr (ci, (hf_fs g M t ci).set j (.int v))) = hf_w g (hf_sI M t j v) := by
    rw [hf_fsI g M t v hf.2.1 hf.1, ← hf_cO g (hf_sI M t j v) hs hf.2.2.1]
    exact hf_w_set g M _ ht (hf_cI_ne g M t j v)
  rw [e1] at hP1 hD1
  exact k _ rfl r M' e H1 locs1 ls ⟨hP1, hD1, hS1, hf_RT_I hP.2.2.2 t j v⟩ hL
theorem hr_putL (X : hf_X g p s m args meth c cc n own ret) {kk : hf_M → Option (α × hf_M)} {t ci j z N : Nat} {C : String} {T : u_T} {v : Int64} {ty0 : Nat → FieldType} (ht : t < 69) (hs : hf_shp t = ci) (hf : hf_fty ci j = 1 ∧ j < hf_nf ci ∧ ci < 6 ∧ vwCl[ci]? = some (C, T, N) ∧ j < N) (hin : ∀ w ∈ u_ws C T N, w ∈ hf_T) (hw : hf_FL own z C (T j).2.1 (T j).2.2.1) (hC : (T j).1 = C) (hty : ∀ k, k < N → parseFieldDescriptor (T k).2.2.1 = some (ty0 k)) (hnm : ∀ a, a < N → ∀ b, b < N → a ≠ b → (T a).2.1 ≠ (T b).2.1) (hfin : (T j).2.2.2 = false) (hdd : ty0 j = .long) (hd : decode cc pc = .ok (.putfield z, 3)) (k : ∀ M6, M6 = hf_sL M t j v → hf_W g p l e d s m args below meth c n Qf M6 (pc + 3) L (st) (kk M6)) : hf_W g p l e d s m args below meth c n Qf M (pc) L ((.long v :: .ref (hf_a g t) :: st)) (hf_pt (hf_sL M t j v) kk) := by
  intro r M' e H locs ls hP hL
  obtain ⟨hx, hb, hml, hown, hts, hr, hlk, hK, hS, h0⟩ := X
  have he := hf_w_at g M ht
  rw [hf_cO g M hs hf.2.2.1] at he
  refine hf_put hx hb hts hin ty0 hty hnm hown hK hS hP.1 hP.2.1 hP.2.2.1 t he hf.2.2.2.1 j hf.2.2.2.2 hw (fun x h => by rw [hC] at h; exact h) hfin (by rw [hty j hf.2.2.2.2, hdd]) rfl rfl (by rw [hf_fs_len]; exact hf.2.1) hd (fun H1 locs1 hP1 hD1 hS1 => ?_)
  have e1 : (hf_w g M).set t (hf_a g t, .inr (ci, (hf_fs g M t ci).set j (.long v))) = hf_w g (hf_sL M t j v) := by
    rw [hf_fsL g M t v hf.2.1 hf.1, ← hf_cO g (hf_sL M t j v) hs hf.2.2.1]
    exact hf_w_set g M _ ht (hf_cL_ne g M t j v)
  rw [e1] at hP1 hD1
  exact k _ rfl r M' e H1 locs1 ls ⟨hP1, hD1, hS1, hf_RT_L hP.2.2.2 t j v⟩ hL
theorem hr_putR (X : hf_X g p s m args meth c cc n own ret) {kk : hf_M → Option (α × hf_M)} {t ci j z N q : Nat} {C : String} {T : u_T} {ty0 : Nat → FieldType} {ty : FieldType} (ht : t < 69) (hs : hf_shp t = ci) (hf : hf_fty ci j = 2 ∧ j < hf_nf ci ∧ ci < 6 ∧ vwCl[ci]? = some (C, T, N) ∧ j < N) (hq : q < 69) (hqs : hf_shp q = hf_wnt ci j) (hin : ∀ w ∈ u_ws C T N, w ∈ hf_T) (hw : hf_FL own z C (T j).2.1 (T j).2.2.1) (hC : (T j).1 = C) (hty : ∀ k, k < N → parseFieldDescriptor (T k).2.2.1 = some (ty0 k)) (hnm : ∀ a, a < N → ∀ b, b < N → a ≠ b → (T a).2.1 ≠ (T b).2.1) (hfin : (T j).2.2.2 = false) (hdd : ty0 j = ty) (hn : narrow ty (.ref (hf_a g q)) = .ref (hf_a g q)) (hfit : fits ty (.ref (hf_a g q)) = true) (hd : decode cc pc = .ok (.putfield z, 3)) (k : ∀ M6, M6 = hf_sR M t j (some q) → hf_W g p l e d s m args below meth c n Qf M6 (pc + 3) L (st) (kk M6)) : hf_W g p l e d s m args below meth c n Qf M (pc) L ((.ref (hf_a g q) :: .ref (hf_a g t) :: st)) (hf_pt (hf_sR M t j (some q)) kk) := by
  intro r M' e H locs ls hP hL
  obtain ⟨hx, hb, hml, hown, hts, hr, hlk, hK, hS, h0⟩ := X
  have he := hf_w_at g M ht
  rw [hf_cO g M hs hf.2.2.1] at he
  refine hf_put hx hb hts hin ty0 hty hnm hown hK hS hP.1 hP.2.1 hP.2.2.1 t he hf.2.2.2.1 j hf.2.2.2.2 hw (fun x h => by rw [hC] at h; exact h) hfin (by rw [hty j hf.2.2.2.2, hdd]) hn hfit (by rw [hf_fs_len]; exact hf.2.1) hd (fun H1 locs1 hP1 hD1 hS1 => ?_)
  have e1 : (hf_w g M).set t (hf_a g t, .inr (ci, (hf_fs g M t ci).set j (.ref (hf_a g q)))) = hf_w g (hf_sR M t j (some q)) := by
    rw [show Value.ref (hf_a g q) = va_rf ((some q).map (hf_a g)) from rfl, hf_fsR g M t (some q) hf.2.1 hf.1, ← hf_cO g (hf_sR M t j (some q)) hs hf.2.2.1]
    exact hf_w_set g M _ ht (hf_cR_ne g M t j (some q))
  rw [e1] at hP1 hD1
  exact k _ rfl r M' e H1 locs1 ls ⟨hP1, hD1, hS1, hf_RT_R hP.2.2.2 t j q ⟨hq, by rw [hs]; exact hqs⟩⟩ hL
theorem hr_iald (X : hf_X g p s m args meth c cc n own ret) {q : Nat} {i : Int32} {kk : Int32 → Option (α × hf_M)} (hq : q < 69) (hs : hf_shp q = 6) (hd : decode cc pc = .ok (.iaload, 1)) (k : ∀ v, v = M.1 q i.toNatClampNeg → hf_in i (hf_len q) → hf_W g p l e d s m args below meth c n Qf M (pc + 1) L ((.int v :: st)) (kk v)) : hf_W g p l e d s m args below meth c n Qf M (pc) L ((.int i :: .ref (hf_a g q) :: st)) (hf_ldI M q i kk) := by
  intro r M' e H locs ls hP hL
  obtain ⟨hx, hb, hml, hown, hts, hr, hlk, hK, hS, h0⟩ := X
  have he := hf_w_at g M hq
  rw [hf_c6 g M hs] at he
  unfold hf_ldI hf_ix at e
  by_cases hin : i < 0 ∨ hf_len q ≤ i.toNatClampNeg
  · rw [if_pos hin] at e; cases e
  · rw [if_neg hin] at e
    exact va_iald hx hb hK hP.1 q 0 he rfl hin hd (k _ rfl hin r M' e H locs ls hP hL)
theorem hr_iast (X : hf_X g p s m args meth c cc n own ret) {q : Nat} {i : Int32} {v : Int32} {kk : hf_M → Option (α × hf_M)} (hq : q < 69) (hs : hf_shp q = 6) (hd : decode cc pc = .ok (.iastore, 1)) (k : ∀ M6, M6 = hf_sI M q i.toNatClampNeg v → hf_in i (hf_len q) → hf_W g p l e d s m args below meth c n Qf M6 (pc + 1) L (st) (kk M6)) : hf_W g p l e d s m args below meth c n Qf M (pc) L ((.int v :: .int i :: .ref (hf_a g q) :: st)) (hf_stI M q i v kk) := by
  intro r M' e H locs ls hP hL
  obtain ⟨hx, hb, hml, hown, hts, hr, hlk, hK, hS, h0⟩ := X
  have he := hf_w_at g M hq
  rw [hf_c6 g M hs] at he
  unfold hf_stI hf_ix at e
  by_cases hin : i < 0 ∨ hf_len q ≤ i.toNatClampNeg
  · rw [if_pos hin] at e; cases e
  · rw [if_neg hin] at e
    refine va_iast hx hb hK hP.1 hP.2.1 hP.2.2.1 q 0 he rfl hin hd (fun H1 locs1 hP1 hD1 hS1 => ?_)
    have e1 : (hf_w g M).set q (hf_a g q, .inl (hf_cI g, hf_len q, .inl (upd (M.1 q) i.toNatClampNeg v))) = hf_w g (hf_sI M q i.toNatClampNeg v) := by
      have ef : (hf_sI M q i.toNatClampNeg v).1 q = upd (M.1 q) i.toNatClampNeg v := by
        funext b
        simp [hf_sI, hf_u, upd]
      rw [← hf_w_set g M (hf_sI M q i.toNatClampNeg v) hq (hf_cI_ne g M q _ v), hf_c6 g _ hs, ef]
    rw [e1] at hP1 hD1
    exact k _ rfl hin r M' e H1 locs1 ls ⟨hP1, hD1, hS1, hf_RT_I hP.2.2.2 q _ v⟩ hL
theorem hr_lald (X : hf_X g p s m args meth c cc n own ret) {q : Nat} {i : Int32} {kk : Int64 → Option (α × hf_M)} (hq : q < 69) (hs : hf_shp q = 7) (hd : decode cc pc = .ok (.laload, 1)) (k : ∀ v, v = M.2.1 q i.toNatClampNeg → hf_in i (hf_len q) → hf_W g p l e d s m args below meth c n Qf M (pc + 1) L ((.long v :: st)) (kk v)) : hf_W g p l e d s m args below meth c n Qf M (pc) L ((.int i :: .ref (hf_a g q) :: st)) (hf_ldL M q i kk) := by
  intro r M' e H locs ls hP hL
  obtain ⟨hx, hb, hml, hown, hts, hr, hlk, hK, hS, h0⟩ := X
  have he := hf_w_at g M hq
  rw [hf_c7 g M hs] at he
  unfold hf_ldL hf_ix at e
  by_cases hin : i < 0 ∨ hf_len q ≤ i.toNatClampNeg
  · rw [if_pos hin] at e; cases e
  · rw [if_neg hin] at e
    exact va_lald hx hb hK hP.1 q 1 he rfl hin hd (k _ rfl hin r M' e H locs ls hP hL)
theorem hr_last (X : hf_X g p s m args meth c cc n own ret) {q : Nat} {i : Int32} {v : Int64} {kk : hf_M → Option (α × hf_M)} (hq : q < 69) (hs : hf_shp q = 7) (hd : decode cc pc = .ok (.lastore, 1)) (k : ∀ M6, M6 = hf_sL M q i.toNatClampNeg v → hf_in i (hf_len q) → hf_W g p l e d s m args below meth c n Qf M6 (pc + 1) L (st) (kk M6)) : hf_W g p l e d s m args below meth c n Qf M (pc) L ((.long v :: .int i :: .ref (hf_a g q) :: st)) (hf_stL M q i v kk) := by
  intro r M' e H locs ls hP hL
  obtain ⟨hx, hb, hml, hown, hts, hr, hlk, hK, hS, h0⟩ := X
  have he := hf_w_at g M hq
  rw [hf_c7 g M hs] at he
  unfold hf_stL hf_ix at e
  by_cases hin : i < 0 ∨ hf_len q ≤ i.toNatClampNeg
  · rw [if_pos hin] at e; cases e
  · rw [if_neg hin] at e
    refine va_last hx hb hK hP.1 hP.2.1 hP.2.2.1 q 1 he rfl hin hd (fun H1 locs1 hP1 hD1 hS1 => ?_)
    have e1 : (hf_w g M).set q (hf_a g q, .inl (hf_cJ g, hf_len q, .inr (.inl (vp_updL (M.2.1 q) i.toNatClampNeg v)))) = hf_w g (hf_sL M q i.toNatClampNeg v) := by
      have ef : (hf_sL M q i.toNatClampNeg v).2.1 q = vp_updL (M.2.1 q) i.toNatClampNeg v := by
        funext b
        simp [hf_sL, hf_u, vp_updL]
      rw [← hf_w_set g M (hf_sL M q i.toNatClampNeg v) hq (hf_cL_ne g M q _ v), hf_c7 g _ hs, ef]
    rw [e1] at hP1 hD1
    exact k _ rfl hin r M' e H1 locs1 ls ⟨hP1, hD1, hS1, hf_RT_L hP.2.2.2 q _ v⟩ hL
theorem hr_aald (X : hf_X g p s m args meth c cc n own ret) {q : Nat} {i : Int32} {kk : Nat → Option (α × hf_M)} (hq : q < 69) (hs : hf_shp q = 8) (hl : hf_len q = 8) (hd : decode cc pc = .ok (.aaload, 1)) (k : ∀ t, t < 69 → hf_shp t = 2 → hf_W g p l e d s m args below meth c n Qf M (pc + 1) L ((.ref (hf_a g t) :: st)) (kk t)) : hf_W g p l e d s m args below meth c n Qf M (pc) L ((.int i :: .ref (hf_a g q) :: st)) (hf_ldR M q i kk) := by
  intro r M' e H locs ls hP hL
  obtain ⟨hx, hb, hml, hown, hts, hr, hlk, hK, hS, h0⟩ := X
  have he := hf_w_at g M hq
  rw [hf_c8 g M hs] at he
  unfold hf_ldR hf_ix at e
  by_cases hin : i < 0 ∨ hf_len q ≤ i.toNatClampNeg
  · rw [if_pos hin] at e; cases e
  · rw [if_neg hin] at e
    refine va_aldq hx hb hK hP.1 q 2 he rfl hin hd ?_
    unfold hf_rf at e
    dsimp only at e
    cases hz : M.2.2 q i.toNatClampNeg with
    | none => rw [hz] at e; cases e
    | some t =>
      rw [hz] at e
      have h2 := hP.2.2.2 q _ t hz
      have h3 : hf_shp t = 2 := by
        rw [h2.2, hs]
        have hlt : i.toNatClampNeg < 8 := by
          rw [hl] at hin
          exact Nat.not_le.mp fun w => hin (Or.inr w)
        revert hlt
        generalize i.toNatClampNeg = w
        intro hlt
        exact (show ∀ w, w < 8 → hf_wnt 8 w = 2 by decide) w hlt
      exact k t h2.1 h3 r M' e H locs ls hP hL
theorem hr_alenI (X : hf_X g p s m args meth c cc n own ret) {q : Nat} (v : Int32) (hq : q < 69) (hs : hf_shp q = 6) (hv : Int32.ofNat (hf_len q) = v) (hd : decode cc pc = .ok (.arraylength, 1)) (k : hf_W g p l e d s m args below meth c n Qf M (pc + 1) L ((.int v :: st)) sh) : hf_W g p l e d s m args below meth c n Qf M (pc) L ((.ref (hf_a g q) :: st)) sh := by
  intro r M' e H locs ls hP hL
  obtain ⟨hx, hb, hml, hown, hts, hr, hlk, hK, hS, h0⟩ := X
  have he := hf_w_at g M hq
  rw [hf_c6 g M hs] at he
  exact va_alen hx hb hK hP.1 q 0 he (ty := .int) rfl hv hd (k r M' e H locs ls hP hL)
theorem hr_gsAB (X : hf_X g p s m args meth c cc n own ret) {z : Nat} (hw : hf_FL own z RX4 "ABOVE" "[I") (hd : decode cc pc = .ok (.getstatic z, 3)) (k : hf_W g p l e d s m args below meth c n Qf M (pc + 3) L ((.ref (hf_tA g) :: st)) sh) : hf_W g p l e d s m args below meth c n Qf M (pc) L (st) sh := by
  intro r M' e H locs ls hP hL
  obtain ⟨hx, hb, hml, hown, hts, hr, hlk, hK, hS, h0⟩ := X
  rcases hw with hw | ⟨host, hw⟩
  · exact va_gets hx hb hS.1.1 hP.2.2.1 hown (hts _ hw) (fun x h => h) hd (k r M' e H locs ls hP hL)
  · exact va_getsN hx hb hS.1.1 hP.2.2.1 hown (va_Nw.use rfl (hS.2.2.2.2.1 _ hw)) (fun x h => h) hd (k r M' e H locs ls hP hL)
theorem hr_ldAB (X : hf_X g p s m args meth c cc n own ret) {i : Int32} {kk : Int32 → Option (α × hf_M)} (hd : decode cc pc = .ok (.iaload, 1)) (k : ∀ v, v = hf_AB i.toNatClampNeg → hf_in i 7 → hf_W g p l e d s m args below meth c n Qf M (pc + 1) L ((.int v :: st)) (kk v)) : hf_W g p l e d s m args below meth c n Qf M (pc) L ((.int i :: .ref (hf_tA g) :: st)) (hf_ldAB i kk) := by
  intro r M' e H locs ls hP hL
  obtain ⟨hx, hb, hml, hown, hts, hr, hlk, hK, hS, h0⟩ := X
  unfold hf_ldAB hf_ix at e
  by_cases hin : i < 0 ∨ 7 ≤ i.toNatClampNeg
  · rw [if_pos hin] at e; cases e
  · rw [if_neg hin] at e
    exact va_ti hx hb hS.1.2 hP.2.2.1 hin rfl hd (k _ rfl hin r M' e H locs ls hP hL)
theorem hr_gsSO (X : hf_X g p s m args meth c cc n own ret) {z : Nat} (hw : hf_FL own z RX4 "SO" "[J") (hd : decode cc pc = .ok (.getstatic z, 3)) (k : hf_W g p l e d s m args below meth c n Qf M (pc + 3) L ((.ref (hf_tS g) :: st)) sh) : hf_W g p l e d s m args below meth c n Qf M (pc) L (st) sh := by
  intro r M' e H locs ls hP hL
  obtain ⟨hx, hb, hml, hown, hts, hr, hlk, hK, hS, h0⟩ := X
  rcases hw with hw | ⟨host, hw⟩
  · exact va_gets hx hb hS.2.1.1 hP.2.2.1 hown (hts _ hw) (fun x h => h) hd (k r M' e H locs ls hP hL)
  · exact va_getsN hx hb hS.2.1.1 hP.2.2.1 hown (va_Nw.use rfl (hS.2.2.2.2.1 _ hw)) (fun x h => h) hd (k r M' e H locs ls hP hL)
theorem hr_ldSO (X : hf_X g p s m args meth c cc n own ret) {i : Int32} {kk : Int64 → Option (α × hf_M)} (hd : decode cc pc = .ok (.laload, 1)) (k : ∀ v, v = hf_SO i.toNatClampNeg → hf_in i 6 → hf_W g p l e d s m args below meth c n Qf M (pc + 1) L ((.long v :: st)) (kk v)) : hf_W g p l e d s m args below meth c n Qf M (pc) L ((.int i :: .ref (hf_tS g) :: st)) (hf_ldSO i kk) := by
  intro r M' e H locs ls hP hL
  obtain ⟨hx, hb, hml, hown, hts, hr, hlk, hK, hS, h0⟩ := X
  unfold hf_ldSO hf_ix at e
  by_cases hin : i < 0 ∨ 6 ≤ i.toNatClampNeg
  · rw [if_pos hin] at e; cases e
  · rw [if_neg hin] at e
    exact va_tl hx hb hS.2.1.2 hP.2.2.1 hin rfl hd (k _ rfl hin r M' e H locs ls hP hL)
theorem hr_gsBO (X : hf_X g p s m args meth c cc n own ret) {z : Nat} (hw : hf_FL own z RX0 "BODIES" "[I") (hd : decode cc pc = .ok (.getstatic z, 3)) (k : hf_W g p l e d s m args below meth c n Qf M (pc + 3) L ((.ref (hf_tB g) :: st)) sh) : hf_W g p l e d s m args below meth c n Qf M (pc) L (st) sh := by
  intro r M' e H locs ls hP hL
  obtain ⟨hx, hb, hml, hown, hts, hr, hlk, hK, hS, h0⟩ := X
  rcases hw with hw | ⟨host, hw⟩
  · exact va_gets hx hb hS.2.2.1.1 hP.2.2.1 hown (hts _ hw) (fun x h => h) hd (k r M' e H locs ls hP hL)
  · exact va_getsN hx hb hS.2.2.1.1 hP.2.2.1 hown (va_Nw.use rfl (hS.2.2.2.2.1 _ hw)) (fun x h => h) hd (k r M' e H locs ls hP hL)
theorem hr_ldBO (X : hf_X g p s m args meth c cc n own ret) {i : Int32} {kk : Int32 → Option (α × hf_M)} (hd : decode cc pc = .ok (.iaload, 1)) (k : ∀ v, v = hf_BO i.toNatClampNeg → hf_in i 21 → hf_W g p l e d s m args below meth c n Qf M (pc + 1) L ((.int v :: st)) (kk v)) : hf_W g p l e d s m args below meth c n Qf M (pc) L ((.int i :: .ref (hf_tB g) :: st)) (hf_ldBO i kk) := by
  intro r M' e H locs ls hP hL
  obtain ⟨hx, hb, hml, hown, hts, hr, hlk, hK, hS, h0⟩ := X
  unfold hf_ldBO hf_ix at e
  by_cases hin : i < 0 ∨ 21 ≤ i.toNatClampNeg
  · rw [if_pos hin] at e; cases e
  · rw [if_neg hin] at e
    exact va_ti hx hb hS.2.2.1.2 hP.2.2.1 hin rfl hd (k _ rfl hin r M' e H locs ls hP hL)
theorem hr_glAB (X : hf_X g p s m args meth c cc n own ret) (v : Int32) (hv : v = 7) (hd : decode cc pc = .ok (.arraylength, 1)) (k : hf_W g p l e d s m args below meth c n Qf M (pc + 1) L ((.int v :: st)) sh) : hf_W g p l e d s m args below meth c n Qf M (pc) L ((.ref (hf_tA g) :: st)) sh := by
  intro r M' e H locs ls hP hL
  obtain ⟨hx, hb, hml, hown, hts, hr, hlk, hK, hS, h0⟩ := X
  exact va_tlen hx hb hS.1.2 hP.2.2.1 (by rw [hv]; rfl) hd (k r M' e H locs ls hP hL)
theorem hr_mmax (X : hf_X g p s m args meth c cc n own ret) {z : Nat} {x y : Int32} (h1 : Cond.methodLink own z Lib.Math.max.name ∈ hf_T) (h2 : Cond.static Lib.Math.max.name ∈ hf_T) (h3 : Cond.initialized "java/lang/Math" ∈ hf_T) (h4 : Cond.code Lib.Math.max.name Lib.Math.max.code 2 (some .int) ∈ hf_T) (hdd : 1 ≤ d) (hst : (st.map fun v => v.category).sum ≤ 8) (hd : decode cc pc = .ok (.invokestatic z, 3)) (k : hf_W g p l e d s m args below meth c n Qf M (pc + 3) L ((.int (hn_max x y) :: st)) sh) : hf_W g p l e d s m args below meth c n Qf M (pc) L ((.int y :: .int x :: st)) sh := by
  intro r M' e H locs ls hP hL
  obtain ⟨hx, hb, hml, hown, hts, hr, hlk, hK, hS, h0⟩ := X
  exact va_mmax hx hb (by rw [hml, hL.1]) hown (hts _ h1) (hts _ h2) (hts _ h3) (hts _ h4) hdd (by show _ ≤ 48 * d; omega) (Nat.zero_le _) (Nat.zero_le _) hd (k r M' e H locs ls hP hL)
theorem hr_mmin (X : hf_X g p s m args meth c cc n own ret) {z : Nat} {x y : Int32} (h1 : Cond.methodLink own z Lib.Math.min.name ∈ hf_T) (h2 : Cond.static Lib.Math.min.name ∈ hf_T) (h3 : Cond.initialized "java/lang/Math" ∈ hf_T) (h4 : Cond.code Lib.Math.min.name Lib.Math.min.code 2 (some .int) ∈ hf_T) (hdd : 1 ≤ d) (hst : (st.map fun v => v.category).sum ≤ 8) (hd : decode cc pc = .ok (.invokestatic z, 3)) (k : hf_W g p l e d s m args below meth c n Qf M (pc + 3) L ((.int (hn_min x y) :: st)) sh) : hf_W g p l e d s m args below meth c n Qf M (pc) L ((.int y :: .int x :: st)) sh := by
  intro r M' e H locs ls hP hL
  obtain ⟨hx, hb, hml, hown, hts, hr, hlk, hK, hS, h0⟩ := X
  exact va_mmin hx hb (by rw [hml, hL.1]) hown (hts _ h1) (hts _ h2) (hts _ h3) (hts _ h4) hdd (by show _ ≤ 48 * d; omega) (Nat.zero_le _) (Nat.zero_le _) hd (k r M' e H locs ls hP hL)
def hf_cpI (M : hf_M) (q0 : Nat) (sp : Nat) (q1 dp n : Nat) : hf_M := (fun a b => if a = q1 then va_cpy (M.1 q0) (M.1 q1) sp dp n b else M.1 a b, M.2.1, M.2.2)
def hf_cpL (M : hf_M) (q0 : Nat) (sp : Nat) (q1 dp n : Nat) : hf_M := (M.1, fun a b => if a = q1 then va_cpy (M.2.1 q0) (M.2.1 q1) sp dp n b else M.2.1 a b, M.2.2)
def hf_acok (q0 : Nat) (sp : Int32) (q1 : Nat) (dp n : Int32) : Prop := ¬ sp < 0 ∧ ¬ dp < 0 ∧ ¬ n < 0 ∧ sp.toNatClampNeg + n.toNatClampNeg ≤ hf_len q0 ∧ dp.toNatClampNeg + n.toNatClampNeg ≤ hf_len q1
def hf_acI {β : Type} (M : hf_M) (q0 : Nat) (sp : Int32) (q1 : Nat) (dp n : Int32) (k : hf_M → Option β) : Option β := if ¬ sp < 0 ∧ ¬ dp < 0 ∧ ¬ n < 0 ∧ sp.toNatClampNeg + n.toNatClampNeg ≤ hf_len q0 ∧ dp.toNatClampNeg + n.toNatClampNeg ≤ hf_len q1 then k (hf_cpI M q0 sp.toNatClampNeg q1 dp.toNatClampNeg n.toNatClampNeg) else none
def hf_acL {β : Type} (M : hf_M) (q0 : Nat) (sp : Int32) (q1 : Nat) (dp n : Int32) (k : hf_M → Option β) : Option β := if ¬ sp < 0 ∧ ¬ dp < 0 ∧ ¬ n < 0 ∧ sp.toNatClampNeg + n.toNatClampNeg ≤ hf_len q0 ∧ dp.toNatClampNeg + n.toNatClampNeg ≤ hf_len q1 then k (hf_cpL M q0 sp.toNatClampNeg q1 dp.toNatClampNeg n.toNatClampNeg) else none
theorem hr_acI (X : hf_X g p s m args meth c cc n own ret) {q0 q1 z : Nat} {sp dp w : Int32} {kk : hf_M → Option (α × hf_M)} (h1 : Cond.methodLink own z arraycopyName ∈ hf_T) (h2 : Cond.native arraycopyName ∈ hf_T) (h3 : Cond.static arraycopyName ∈ hf_T) (h4 : Cond.initialized "java/lang/System" ∈ hf_T) (hq0 : q0 < 69) (hs0 : hf_shp q0 = 6) (hq1 : q1 < 69) (hs1 : hf_shp q1 = 6) (hdd : 1 ≤ d) (hst : (st.map fun v => v.category).sum ≤ 8) (hd : decode cc pc = .ok (.invokestatic z, 3)) (k : ∀ M6, M6 = hf_cpI M q0 sp.toNatClampNeg q1 dp.toNatClampNeg w.toNatClampNeg → hf_W g p l e d s m args below meth c n Qf M6 (pc + 3) L (st) (kk M6)) : hf_W g p l e d s m args below meth c n Qf M (pc) L ((.int w :: .int dp :: .ref (hf_a g q1) :: .int sp :: .ref (hf_a g q0) :: st)) (hf_acI M q0 sp q1 dp w kk) := by
  intro r M' e H locs ls hP hL
  obtain ⟨hx, hb, hml, hown, hts, hr, hlk, hK, hS, h0⟩ := X
  unfold hf_acI at e
  by_cases hin : ¬ sp < 0 ∧ ¬ dp < 0 ∧ ¬ w < 0 ∧ sp.toNatClampNeg + w.toNatClampNeg ≤ hf_len q0 ∧ dp.toNatClampNeg + w.toNatClampNeg ≤ hf_len q1
  · rw [if_pos hin] at e
    have he0 := hf_w_at g M hq0
    rw [hf_c6 g M hs0] at he0
    have he1 := hf_w_at g M hq1
    rw [hf_c6 g M hs1] at he1
    have hroom : (st.map fun v => v.category).sum + (nativeFrameWords "java/lang/System" "arraycopy" 5 + 11) ≤ (hf_R d).locals := by
      have h9 : nativeFrameWords "java/lang/System" "arraycopy" 5 + 11 ≤ 40 := by decide +kernel
      show _ ≤ 48 * d
      omega
    refine va_copyi (R := hf_R d) (rest := st) hx hb (by rw [hml, hL.1]) hown (hts _ h1) (hts _ h2) (hts _ h3) (hts _ h4) hK hP.1 hP.2.1 hP.2.2.1 q0 q1 0 0 he0 he1 rfl rfl rfl hin.1 hin.2.1 hin.2.2.1 hin.2.2.2.1 hin.2.2.2.2 (fun i hi => rfl) hdd hroom hd (fun H1 locs1 hP1 hD1 hS1 => ?_)
    have e1 : (hf_w g M).set q1 (hf_a g q1, .inl (hf_cI g, hf_len q1, .inl (va_cpy (M.1 q0) (M.1 q1) sp.toNatClampNeg dp.toNatClampNeg w.toNatClampNeg))) = hf_w g (hf_cpI M q0 sp.toNatClampNeg q1 dp.toNatClampNeg w.toNatClampNeg) := by
      have hne : ∀ j, j ≠ q1 → hf_c g (hf_cpI M q0 sp.toNatClampNeg q1 dp.toNatClampNeg w.toNatClampNeg) j = hf_c g M j := fun j hj => hf_c_eq g (by first | rfl | (funext b; simp [hf_cpI, hj])) (by first | rfl | (funext b; simp [hf_cpI, hj])) rfl
      rw [← hf_w_set g M _ hq1 hne, hf_c6 g _ hs1]
      have ef : (hf_cpI M q0 sp.toNatClampNeg q1 dp.toNatClampNeg w.toNatClampNeg).1 q1 = va_cpy (M.1 q0) (M.1 q1) sp.toNatClampNeg dp.toNatClampNeg w.toNatClampNeg := by
        funext b
        simp [hf_cpI]
      rw [ef]
    rw [e1] at hP1 hD1
    exact k _ rfl r M' e H1 locs1 ls ⟨hP1, hD1, hS1, hP.2.2.2⟩ hL
  · rw [if_neg hin] at e
    cases e
theorem hr_acL (X : hf_X g p s m args meth c cc n own ret) {q0 q1 z : Nat} {sp dp w : Int32} {kk : hf_M → Option (α × hf_M)} (h1 : Cond.methodLink own z arraycopyName ∈ hf_T) (h2 : Cond.native arraycopyName ∈ hf_T) (h3 : Cond.static arraycopyName ∈ hf_T) (h4 : Cond.initialized "java/lang/System" ∈ hf_T) (hq0 : q0 < 69) (hs0 : hf_shp q0 = 7) (hq1 : q1 < 69) (hs1 : hf_shp q1 = 7) (hdd : 1 ≤ d) (hst : (st.map fun v => v.category).sum ≤ 8) (hd : decode cc pc = .ok (.invokestatic z, 3)) (k : ∀ M6, M6 = hf_cpL M q0 sp.toNatClampNeg q1 dp.toNatClampNeg w.toNatClampNeg → hf_W g p l e d s m args below meth c n Qf M6 (pc + 3) L (st) (kk M6)) : hf_W g p l e d s m args below meth c n Qf M (pc) L ((.int w :: .int dp :: .ref (hf_a g q1) :: .int sp :: .ref (hf_a g q0) :: st)) (hf_acL M q0 sp q1 dp w kk) := by
  intro r M' e H locs ls hP hL
  obtain ⟨hx, hb, hml, hown, hts, hr, hlk, hK, hS, h0⟩ := X
  unfold hf_acL at e
  by_cases hin : ¬ sp < 0 ∧ ¬ dp < 0 ∧ ¬ w < 0 ∧ sp.toNatClampNeg + w.toNatClampNeg ≤ hf_len q0 ∧ dp.toNatClampNeg + w.toNatClampNeg ≤ hf_len q1
  · rw [if_pos hin] at e
    have he0 := hf_w_at g M hq0
    rw [hf_c7 g M hs0] at he0
    have he1 := hf_w_at g M hq1
    rw [hf_c7 g M hs1] at he1
    have hroom : (st.map fun v => v.category).sum + (nativeFrameWords "java/lang/System" "arraycopy" 5 + 11) ≤ (hf_R d).locals := by
      have h9 : nativeFrameWords "java/lang/System" "arraycopy" 5 + 11 ≤ 40 := by decide +kernel
      show _ ≤ 48 * d
      omega
    refine va_copyl (R := hf_R d) (rest := st) hx hb (by rw [hml, hL.1]) hown (hts _ h1) (hts _ h2) (hts _ h3) (hts _ h4) hK hP.1 hP.2.1 hP.2.2.1 q0 q1 1 1 he0 he1 rfl rfl rfl hin.1 hin.2.1 hin.2.2.1 hin.2.2.2.1 hin.2.2.2.2 (fun i hi => rfl) hdd hroom hd (fun H1 locs1 hP1 hD1 hS1 => ?_)
    have e1 : (hf_w g M).set q1 (hf_a g q1, .inl (hf_cJ g, hf_len q1, .inr (.inl (va_cpy (M.2.1 q0) (M.2.1 q1) sp.toNatClampNeg dp.toNatClampNeg w.toNatClampNeg)))) = hf_w g (hf_cpL M q0 sp.toNatClampNeg q1 dp.toNatClampNeg w.toNatClampNeg) := by
      have hne : ∀ j, j ≠ q1 → hf_c g (hf_cpL M q0 sp.toNatClampNeg q1 dp.toNatClampNeg w.toNatClampNeg) j = hf_c g M j := fun j hj => hf_c_eq g (by first | rfl | (funext b; simp [hf_cpL, hj])) (by first | rfl | (funext b; simp [hf_cpL, hj])) rfl
      rw [← hf_w_set g M _ hq1 hne, hf_c7 g _ hs1]
      have ef : (hf_cpL M q0 sp.toNatClampNeg q1 dp.toNatClampNeg w.toNatClampNeg).2.1 q1 = va_cpy (M.2.1 q0) (M.2.1 q1) sp.toNatClampNeg dp.toNatClampNeg w.toNatClampNeg := by
        funext b
        simp [hf_cpL]
      rw [ef]
    rw [e1] at hP1 hD1
    exact k _ rfl r M' e H1 locs1 ls ⟨hP1, hD1, hS1, hP.2.2.2⟩ hL
  · rw [if_neg hin] at e
    cases e
/-- field links, whole -/
def hf_gx (own : String) (z ci j : Nat) (w : Nat) : Prop := ∃ (N : Nat) (C : String) (T : u_T), (hf_fty ci j = w ∧ j < hf_nf ci ∧ ci < 6 ∧ vwCl[ci]? = some (C, T, N) ∧ j < N) ∧ (∀ w ∈ u_ws C T N, w ∈ hf_T) ∧ hf_FL own z C (T j).2.1 (T j).2.2.1 ∧ (T j).1 = C
def hf_px (own : String) (z ci j : Nat) (w : Nat) (ty : FieldType) : Prop := ∃ (N : Nat) (C : String) (T : u_T) (ty0 : Nat → FieldType), (hf_fty ci j = w ∧ j < hf_nf ci ∧ ci < 6 ∧ vwCl[ci]? = some (C, T, N) ∧ j < N) ∧ (∀ w ∈ u_ws C T N, w ∈ hf_T) ∧ hf_FL own z C (T j).2.1 (T j).2.2.1 ∧ (T j).1 = C ∧ (∀ k, k < N → parseFieldDescriptor (T k).2.2.1 = some (ty0 k)) ∧ (∀ a, a < N → ∀ b, b < N → a ≠ b → (T a).2.1 ≠ (T b).2.1) ∧ (T j).2.2.2 = false ∧ ty0 j = ty
theorem hr_gI (X : hf_X g p s m args meth c cc n own ret) {t ci j z : Nat} (ht : t < 69) (hs : hf_shp t = ci) (h : hf_gx own z ci j 0) (hd : decode cc pc = .ok (.getfield z, 3)) (k : hf_W g p l e d s m args below meth c n Qf M (pc + 3) L ((.int (M.1 t j) :: st)) sh) : hf_W g p l e d s m args below meth c n Qf M (pc) L ((.ref (hf_a g t) :: st)) sh := by
  obtain ⟨N, C, T, hf, hin, hw, hC⟩ := h
  exact hr_getI X ht hs hf hin hw hC hd k
theorem hr_gL (X : hf_X g p s m args meth c cc n own ret) {t ci j z : Nat} (ht : t < 69) (hs : hf_shp t = ci) (h : hf_gx own z ci j 1) (hd : decode cc pc = .ok (.getfield z, 3)) (k : hf_W g p l e d s m args below meth c n Qf M (pc + 3) L ((.long (M.2.1 t j) :: st)) sh) : hf_W g p l e d s m args below meth c n Qf M (pc) L ((.ref (hf_a g t) :: st)) sh := by
  obtain ⟨N, C, T, hf, hin, hw, hC⟩ := h
  exact hr_getL X ht hs hf hin hw hC hd k
theorem hr_gR (X : hf_X g p s m args meth c cc n own ret) {t ci j z : Nat} {kk : Nat → Option (α × hf_M)} (sw : Nat) (ht : t < 69) (hs : hf_shp t = ci) (h : hf_gx own z ci j 2) (hsw : hf_wnt ci j = sw) (hd : decode cc pc = .ok (.getfield z, 3)) (k : ∀ q : Nat, q < 69 → hf_shp q = sw → hf_W g p l e d s m args below meth c n Qf M (pc + 3) L ((.ref (hf_a g q) :: st)) (kk q)) : hf_W g p l e d s m args below meth c n Qf M (pc) L ((.ref (hf_a g t) :: st)) (hf_rf (M.2.2 t j) kk) := by
  obtain ⟨N, C, T, hf, hin, hw, hC⟩ := h
  exact hr_getR X sw ht hs hf hsw hin hw hC hd k
theorem hr_pI (X : hf_X g p s m args meth c cc n own ret) {kk : hf_M → Option (α × hf_M)} {t ci j z : Nat} {v : Int32} (ht : t < 69) (hs : hf_shp t = ci) (h : hf_px own z ci j 0 .int) (hd : decode cc pc = .ok (.putfield z, 3)) (k : ∀ M6, M6 = hf_sI M t j v → hf_W g p l e d s m args below meth c n Qf M6 (pc + 3) L (st) (kk M6)) : hf_W g p l e d s m args below meth c n Qf M (pc) L ((.int v :: .ref (hf_a g t) :: st)) (hf_pt (hf_sI M t j v) kk) := by
  obtain ⟨N, C, T, ty0, hf, hin, hw, hC, hty, hnm, hfin, hdd⟩ := h
  exact hr_putI X ht hs hf hin hw hC hty hnm hfin hdd rfl rfl hd k
theorem hr_pZ (X : hf_X g p s m args meth c cc n own ret) {kk : hf_M → Option (α × hf_M)} {t ci j z : Nat} {v : Int32} (hv : v = 0 ∨ v = 1) (ht : t < 69) (hs : hf_shp t = ci) (h : hf_px own z ci j 0 .boolean) (hd : decode cc pc = .ok (.putfield z, 3)) (k : ∀ M6, M6 = hf_sI M t j v → hf_W g p l e d s m args below meth c n Qf M6 (pc + 3) L (st) (kk M6)) : hf_W g p l e d s m args below meth c n Qf M (pc) L ((.int v :: .ref (hf_a g t) :: st)) (hf_pt (hf_sI M t j v) kk) := by
  obtain ⟨N, C, T, ty0, hf, hin, hw, hC, hty, hnm, hfin, hdd⟩ := h
  exact hr_putI X ht hs hf hin hw hC hty hnm hfin hdd (by rcases hv with rfl | rfl <;> rfl) (by rcases hv with rfl | rfl <;> rfl) hd k
theorem hr_pL (X : hf_X g p s m args meth c cc n own ret) {kk : hf_M → Option (α × hf_M)} {t ci j z : Nat} {v : Int64} (ht : t < 69) (hs : hf_shp t = ci) (h : hf_px own z ci j 1 .long) (hd : decode cc pc = .ok (.putfield z, 3)) (k : ∀ M6, M6 = hf_sL M t j v → hf_W g p l e d s m args below meth c n Qf M6 (pc + 3) L (st) (kk M6)) : hf_W g p l e d s m args below meth c n Qf M (pc) L ((.long v :: .ref (hf_a g t) :: st)) (hf_pt (hf_sL M t j v) kk) := by
  obtain ⟨N, C, T, ty0, hf, hin, hw, hC, hty, hnm, hfin, hdd⟩ := h
  exact hr_putL X ht hs hf hin hw hC hty hnm hfin hdd hd k
theorem hr_pR (X : hf_X g p s m args meth c cc n own ret) {kk : hf_M → Option (α × hf_M)} {t ci j z q : Nat} {E : String} (ht : t < 69) (hs : hf_shp t = ci) (hq : q < 69) (hqs : hf_shp q = hf_wnt ci j) (h : hf_px own z ci j 2 (.object E)) (hd : decode cc pc = .ok (.putfield z, 3)) (k : ∀ M6, M6 = hf_sR M t j (some q) → hf_W g p l e d s m args below meth c n Qf M6 (pc + 3) L (st) (kk M6)) : hf_W g p l e d s m args below meth c n Qf M (pc) L ((.ref (hf_a g q) :: .ref (hf_a g t) :: st)) (hf_pt (hf_sR M t j (some q)) kk) := by
  obtain ⟨N, C, T, ty0, hf, hin, hw, hC, hty, hnm, hfin, hdd⟩ := h
  exact hr_putR X ht hs hf hq hqs hin hw hC hty hnm hfin hdd rfl rfl hd k
theorem hr_none : hf_W g p l e d s m args below meth c n Qf M (pc) L (st) none := fun r M' e => by cases e
theorem hr_if_eq_T (X : hf_X g p s m args meth c cc n own ret) {x : Int32} {off : Int} (tgt : Nat) (h : x = 0) (hd : decode cc pc = .ok (.ifCond .eq off, 3)) (ht : (pc : Int) + off = (tgt : Int)) (k : hf_W g p l e d s m args below meth c n Qf M (tgt) L (st) sh) : hf_W g p l e d s m args below meth c n Qf M (pc) L (.int x :: st) sh := fun r M' e H locs ls hP hL => lv_if_eq X.1 X.2.1 hd ht (fun _ => k r M' e H locs ls hP hL) (fun c => absurd h c)
theorem hr_if_eq_F (X : hf_X g p s m args meth c cc n own ret) {x : Int32} {off : Int} (tgt : Nat) (h : ¬ x = 0) (hd : decode cc pc = .ok (.ifCond .eq off, 3)) (ht : (pc : Int) + off = (tgt : Int)) (k : hf_W g p l e d s m args below meth c n Qf M (pc + 3) L (st) sh) : hf_W g p l e d s m args below meth c n Qf M (pc) L (.int x :: st) sh := fun r M' e H locs ls hP hL => lv_if_eq X.1 X.2.1 hd ht (fun c => absurd c h) (fun _ => k r M' e H locs ls hP hL)
theorem hr_if_ne_T (X : hf_X g p s m args meth c cc n own ret) {x : Int32} {off : Int} (tgt : Nat) (h : ¬ x = 0) (hd : decode cc pc = .ok (.ifCond .ne off, 3)) (ht : (pc : Int) + off = (tgt : Int)) (k : hf_W g p l e d s m args below meth c n Qf M (tgt) L (st) sh) : hf_W g p l e d s m args below meth c n Qf M (pc) L (.int x :: st) sh := fun r M' e H locs ls hP hL => lv_if_ne X.1 X.2.1 hd ht (fun _ => k r M' e H locs ls hP hL) (fun c => absurd c h)
theorem hr_if_ne_F (X : hf_X g p s m args meth c cc n own ret) {x : Int32} {off : Int} (tgt : Nat) (h : x = 0) (hd : decode cc pc = .ok (.ifCond .ne off, 3)) (ht : (pc : Int) + off = (tgt : Int)) (k : hf_W g p l e d s m args below meth c n Qf M (pc + 3) L (st) sh) : hf_W g p l e d s m args below meth c n Qf M (pc) L (.int x :: st) sh := fun r M' e H locs ls hP hL => lv_if_ne X.1 X.2.1 hd ht (fun c => absurd h c) (fun _ => k r M' e H locs ls hP hL)
theorem hr_if_lt_T (X : hf_X g p s m args meth c cc n own ret) {x : Int32} {off : Int} (tgt : Nat) (h : x < 0) (hd : decode cc pc = .ok (.ifCond .lt off, 3)) (ht : (pc : Int) + off = (tgt : Int)) (k : hf_W g p l e d s m args below meth c n Qf M (tgt) L (st) sh) : hf_W g p l e d s m args below meth c n Qf M (pc) L (.int x :: st) sh := fun r M' e H locs ls hP hL => lv_if_lt X.1 X.2.1 hd ht (fun _ => k r M' e H locs ls hP hL) (fun c => absurd h c)
theorem hr_if_lt_F (X : hf_X g p s m args meth c cc n own ret) {x : Int32} {off : Int} (tgt : Nat) (h : ¬ x < 0) (hd : decode cc pc = .ok (.ifCond .lt off, 3)) (ht : (pc : Int) + off = (tgt : Int)) (k : hf_W g p l e d s m args below meth c n Qf M (pc + 3) L (st) sh) : hf_W g p l e d s m args below meth c n Qf M (pc) L (.int x :: st) sh := fun r M' e H locs ls hP hL => lv_if_lt X.1 X.2.1 hd ht (fun c => absurd c h) (fun _ => k r M' e H locs ls hP hL)
theorem hr_if_ge_T (X : hf_X g p s m args meth c cc n own ret) {x : Int32} {off : Int} (tgt : Nat) (h : 0 ≤ x) (hd : decode cc pc = .ok (.ifCond .ge off, 3)) (ht : (pc : Int) + off = (tgt : Int)) (k : hf_W g p l e d s m args below meth c n Qf M (tgt) L (st) sh) : hf_W g p l e d s m args below meth c n Qf M (pc) L (.int x :: st) sh := fun r M' e H locs ls hP hL => lv_if_ge X.1 X.2.1 hd ht (fun _ => k r M' e H locs ls hP hL) (fun c => absurd h c)
theorem hr_if_ge_F (X : hf_X g p s m args meth c cc n own ret) {x : Int32} {off : Int} (tgt : Nat) (h : ¬ 0 ≤ x) (hd : decode cc pc = .ok (.ifCond .ge off, 3)) (ht : (pc : Int) + off = (tgt : Int)) (k : hf_W g p l e d s m args below meth c n Qf M (pc + 3) L (st) sh) : hf_W g p l e d s m args below meth c n Qf M (pc) L (.int x :: st) sh := fun r M' e H locs ls hP hL => lv_if_ge X.1 X.2.1 hd ht (fun c => absurd c h) (fun _ => k r M' e H locs ls hP hL)
theorem hr_if_gt_T (X : hf_X g p s m args meth c cc n own ret) {x : Int32} {off : Int} (tgt : Nat) (h : 0 < x) (hd : decode cc pc = .ok (.ifCond .gt off, 3)) (ht : (pc : Int) + off = (tgt : Int)) (k : hf_W g p l e d s m args below meth c n Qf M (tgt) L (st) sh) : hf_W g p l e d s m args below meth c n Qf M (pc) L (.int x :: st) sh := fun r M' e H locs ls hP hL => lv_if_gt X.1 X.2.1 hd ht (fun _ => k r M' e H locs ls hP hL) (fun c => absurd h c)
theorem hr_if_gt_F (X : hf_X g p s m args meth c cc n own ret) {x : Int32} {off : Int} (tgt : Nat) (h : ¬ 0 < x) (hd : decode cc pc = .ok (.ifCond .gt off, 3)) (ht : (pc : Int) + off = (tgt : Int)) (k : hf_W g p l e d s m args below meth c n Qf M (pc + 3) L (st) sh) : hf_W g p l e d s m args below meth c n Qf M (pc) L (.int x :: st) sh := fun r M' e H locs ls hP hL => lv_if_gt X.1 X.2.1 hd ht (fun c => absurd c h) (fun _ => k r M' e H locs ls hP hL)
theorem hr_if_le_T (X : hf_X g p s m args meth c cc n own ret) {x : Int32} {off : Int} (tgt : Nat) (h : x ≤ 0) (hd : decode cc pc = .ok (.ifCond .le off, 3)) (ht : (pc : Int) + off = (tgt : Int)) (k : hf_W g p l e d s m args below meth c n Qf M (tgt) L (st) sh) : hf_W g p l e d s m args below meth c n Qf M (pc) L (.int x :: st) sh := fun r M' e H locs ls hP hL => lv_if_le X.1 X.2.1 hd ht (fun _ => k r M' e H locs ls hP hL) (fun c => absurd h c)
theorem hr_if_le_F (X : hf_X g p s m args meth c cc n own ret) {x : Int32} {off : Int} (tgt : Nat) (h : ¬ x ≤ 0) (hd : decode cc pc = .ok (.ifCond .le off, 3)) (ht : (pc : Int) + off = (tgt : Int)) (k : hf_W g p l e d s m args below meth c n Qf M (pc + 3) L (st) sh) : hf_W g p l e d s m args below meth c n Qf M (pc) L (.int x :: st) sh := fun r M' e H locs ls hP hL => lv_if_le X.1 X.2.1 hd ht (fun c => absurd c h) (fun _ => k r M' e H locs ls hP hL)
theorem hr_icmp_eq_T (X : hf_X g p s m args meth c cc n own ret) {x y : Int32} {off : Int} (tgt : Nat) (h : x = y) (hd : decode cc pc = .ok (.if_icmp .eq off, 3)) (ht : (pc : Int) + off = (tgt : Int)) (k : hf_W g p l e d s m args below meth c n Qf M (tgt) L (st) sh) : hf_W g p l e d s m args below meth c n Qf M (pc) L (.int y :: .int x :: st) sh := fun r M' e H locs ls hP hL => lv_icmp_eq X.1 X.2.1 hd ht (fun _ => k r M' e H locs ls hP hL) (fun c => absurd h c)
theorem hr_icmp_eq_F (X : hf_X g p s m args meth c cc n own ret) {x y : Int32} {off : Int} (tgt : Nat) (h : ¬ x = y) (hd : decode cc pc = .ok (.if_icmp .eq off, 3)) (ht : (pc : Int) + off = (tgt : Int)) (k : hf_W g p l e d s m args below meth c n Qf M (pc + 3) L (st) sh) : hf_W g p l e d s m args below meth c n Qf M (pc) L (.int y :: .int x :: st) sh := fun r M' e H locs ls hP hL => lv_icmp_eq X.1 X.2.1 hd ht (fun c => absurd c h) (fun _ => k r M' e H locs ls hP hL)
theorem hr_icmp_ne_T (X : hf_X g p s m args meth c cc n own ret) {x y : Int32} {off : Int} (tgt : Nat) (h : ¬ x = y) (hd : decode cc pc = .ok (.if_icmp .ne off, 3)) (ht : (pc : Int) + off = (tgt : Int)) (k : hf_W g p l e d s m args below meth c n Qf M (tgt) L (st) sh) : hf_W g p l e d s m args below meth c n Qf M (pc) L (.int y :: .int x :: st) sh := fun r M' e H locs ls hP hL => lv_icmp_ne X.1 X.2.1 hd ht (fun _ => k r M' e H locs ls hP hL) (fun c => absurd c h)
theorem hr_icmp_ne_F (X : hf_X g p s m args meth c cc n own ret) {x y : Int32} {off : Int} (tgt : Nat) (h : x = y) (hd : decode cc pc = .ok (.if_icmp .ne off, 3)) (ht : (pc : Int) + off = (tgt : Int)) (k : hf_W g p l e d s m args below meth c n Qf M (pc + 3) L (st) sh) : hf_W g p l e d s m args below meth c n Qf M (pc) L (.int y :: .int x :: st) sh := fun r M' e H locs ls hP hL => lv_icmp_ne X.1 X.2.1 hd ht (fun c => absurd h c) (fun _ => k r M' e H locs ls hP hL)
theorem hr_icmp_lt_T (X : hf_X g p s m args meth c cc n own ret) {x y : Int32} {off : Int} (tgt : Nat) (h : x < y) (hd : decode cc pc = .ok (.if_icmp .lt off, 3)) (ht : (pc : Int) + off = (tgt : Int)) (k : hf_W g p l e d s m args below meth c n Qf M (tgt) L (st) sh) : hf_W g p l e d s m args below meth c n Qf M (pc) L (.int y :: .int x :: st) sh := fun r M' e H locs ls hP hL => lv_icmp_lt X.1 X.2.1 hd ht (fun _ => k r M' e H locs ls hP hL) (fun c => absurd h c)
theorem hr_icmp_lt_F (X : hf_X g p s m args meth c cc n own ret) {x y : Int32} {off : Int} (tgt : Nat) (h : ¬ x < y) (hd : decode cc pc = .ok (.if_icmp .lt off, 3)) (ht : (pc : Int) + off = (tgt : Int)) (k : hf_W g p l e d s m args below meth c n Qf M (pc + 3) L (st) sh) : hf_W g p l e d s m args below meth c n Qf M (pc) L (.int y :: .int x :: st) sh := fun r M' e H locs ls hP hL => lv_icmp_lt X.1 X.2.1 hd ht (fun c => absurd c h) (fun _ => k r M' e H locs ls hP hL)
theorem hr_icmp_ge_T (X : hf_X g p s m args meth c cc n own ret) {x y : Int32} {off : Int} (tgt : Nat) (h : y ≤ x) (hd : decode cc pc = .ok (.if_icmp .ge off, 3)) (ht : (pc : Int) + off = (tgt : Int)) (k : hf_W g p l e d s m args below meth c n Qf M (tgt) L (st) sh) : hf_W g p l e d s m args below meth c n Qf M (pc) L (.int y :: .int x :: st) sh := fun r M' e H locs ls hP hL => lv_icmp_ge X.1 X.2.1 hd ht (fun _ => k r M' e H locs ls hP hL) (fun c => absurd h c)
theorem hr_icmp_ge_F (X : hf_X g p s m args meth c cc n own ret) {x y : Int32} {off : Int} (tgt : Nat) (h : ¬ y ≤ x) (hd : decode cc pc = .ok (.if_icmp .ge off, 3)) (ht : (pc : Int) + off = (tgt : Int)) (k : hf_W g p l e d s m args below meth c n Qf M (pc + 3) L (st) sh) : hf_W g p l e d s m args below meth c n Qf M (pc) L (.int y :: .int x :: st) sh := fun r M' e H locs ls hP hL => lv_icmp_ge X.1 X.2.1 hd ht (fun c => absurd c h) (fun _ => k r M' e H locs ls hP hL)
theorem hr_icmp_gt_T (X : hf_X g p s m args meth c cc n own ret) {x y : Int32} {off : Int} (tgt : Nat) (h : y < x) (hd : decode cc pc = .ok (.if_icmp .gt off, 3)) (ht : (pc : Int) + off = (tgt : Int)) (k : hf_W g p l e d s m args below meth c n Qf M (tgt) L (st) sh) : hf_W g p l e d s m args below meth c n Qf M (pc) L (.int y :: .int x :: st) sh := fun r M' e H locs ls hP hL => lv_icmp_gt X.1 X.2.1 hd ht (fun _ => k r M' e H locs ls hP hL) (fun c => absurd h c)
theorem hr_icmp_gt_F (X : hf_X g p s m args meth c cc n own ret) {x y : Int32} {off : Int} (tgt : Nat) (h : ¬ y < x) (hd : decode cc pc = .ok (.if_icmp .gt off, 3)) (ht : (pc : Int) + off = (tgt : Int)) (k : hf_W g p l e d s m args below meth c n Qf M (pc + 3) L (st) sh) : hf_W g p l e d s m args below meth c n Qf M (pc) L (.int y :: .int x :: st) sh := fun r M' e H locs ls hP hL => lv_icmp_gt X.1 X.2.1 hd ht (fun c => absurd c h) (fun _ => k r M' e H locs ls hP hL)
theorem hr_icmp_le_T (X : hf_X g p s m args meth c cc n own ret) {x y : Int32} {off : Int} (tgt : Nat) (h : x ≤ y) (hd : decode cc pc = .ok (.if_icmp .le off, 3)) (ht : (pc : Int) + off = (tgt : Int)) (k : hf_W g p l e d s m args below meth c n Qf M (tgt) L (st) sh) : hf_W g p l e d s m args below meth c n Qf M (pc) L (.int y :: .int x :: st) sh := fun r M' e H locs ls hP hL => lv_icmp_le X.1 X.2.1 hd ht (fun _ => k r M' e H locs ls hP hL) (fun c => absurd h c)
theorem hr_icmp_le_F (X : hf_X g p s m args meth c cc n own ret) {x y : Int32} {off : Int} (tgt : Nat) (h : ¬ x ≤ y) (hd : decode cc pc = .ok (.if_icmp .le off, 3)) (ht : (pc : Int) + off = (tgt : Int)) (k : hf_W g p l e d s m args below meth c n Qf M (pc + 3) L (st) sh) : hf_W g p l e d s m args below meth c n Qf M (pc) L (.int y :: .int x :: st) sh := fun r M' e H locs ls hP hL => lv_icmp_le X.1 X.2.1 hd ht (fun c => absurd c h) (fun _ => k r M' e H locs ls hP hL)
def hf_sub : List (Option Value) → List (Option Value) → Prop := fun a b => ∀ (i : Nat) (v : Value), a[i]? = some (some v) → b[i]? = some (some v)
theorem hs_nil {b : List (Option Value)} : hf_sub [] b := fun i v h => by simp at h
theorem hs_none {a b : List (Option Value)} {w : Option Value} (h : hf_sub a b) : hf_sub (none :: a) (w :: b) := fun i v hi => by
  cases i with
  | zero => simp at hi
  | succ i => simpa using h i v (by simpa using hi)
theorem hs_some {a b : List (Option Value)} {w : Value} (h : hf_sub a b) : hf_sub (some w :: a) (some w :: b) := fun i v hi => by
  cases i with
  | zero => simpa using hi
  | succ i => simpa using h i v (by simpa using hi)
theorem hr_wk {L' : List (Option Value)} (h : hf_sub L' L) (k : hf_W g p l e d s m args below meth c n Qf M (pc) L' (st) sh) : hf_W g p l e d s m args below meth c n Qf M (pc) L (st) sh := fun r M' e H locs ls hP hL => k r M' e H locs ls hP ⟨hL.1, hL.2.1, fun i v hi => hL.2.2 i v (h i v hi)⟩
theorem hr_tabDf (X : hf_X g p s m args meth c cc n own ret) {dflt lo hi : Int} {offs : Array Int} {len : Nat} {x : Int32} (tgt : Nat) (gs : List Int) (hd : decode cc pc = .ok (.tableswitch dflt lo hi offs, len)) (hg : ∀ a ∈ gs, ¬ a < lo ∧ ¬ hi < a ∧ offs[(a - lo).toNat]? = some dflt) (h : x.toInt < lo ∨ hi < x.toInt ∨ x.toInt ∈ gs) (ht : (pc : Int) + dflt = (tgt : Int)) (k : hf_W g p l e d s m args below meth c n Qf M (tgt) L (st) sh) : hf_W g p l e d s m args below meth c n Qf M (pc) L ((.int x :: st)) sh := by
  rcases h with h | h | h
  · exact hr_tabOut X tgt hd (Or.inl h) ht k
  · exact hr_tabOut X tgt hd (Or.inr h) ht k
  · exact hr_tabIn X tgt hd (hg _ h).1 (hg _ h).2.1 (hg _ h).2.2 ht k
end HF
