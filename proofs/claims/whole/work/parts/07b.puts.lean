section HC
variable {g : hf_G} {p : Program} {l : Launch} {e : Env} {R : Room} {s : State} {m : MethodId} {args : Array Value} {below : List Frame} {meth : Method} {c : Code} {n : Nat} {Q : State → Prop} {N : Nat} {M : hf_M} {ce sl : Nat} {pc : Nat} {L : List (Option Value)} {st : List Value} {cc : ByteArray} {own : String} {ret : Option FieldType}
theorem hc_setP {H H1 : Heap} {locs : List Loc} {t j : Nat} {M' : hf_M} (hP : hc_P g N M s H locs) (ht : t < N) (hne : ∀ i, i ≠ t → hf_c g M' i = hf_c g M i) (z : H1.size = H.size) (oq : ∀ q : Nat, q ≠ hf_a g t → H1[q]? = H[q]?) (hat : va_at (hf_D g) vwCl (hf_a g t, hf_c g M' t) H1) : hc_P g N M' s H1 (locs ++ [⟨hf_a g t, j⟩]) := by
  obtain ⟨hp, hd, hs, hz, ha⟩ := hP
  have h1 := hp.set hd (hc_w_at g M ht) hat oq
  have h2 : va_D (hf_A g) ((hc_w g M N).set t (hf_a g t, hf_c g M' t)) := hd.set (hc_w_at g M ht)
  rw [hc_w_set g M M' ht hne] at h1 h2
  exact ⟨h1, h2, hs.put z oq (hd.2 t _ (hc_w_at g M ht)), by rw [z, hz], ha⟩
theorem hc_putI (X : hf_X g p s m args meth c cc n own ret) {t ci j z k : Nat} {C : String} {T : u_T} {v : Int32} {ty0 : Nat → FieldType} {ty : FieldType} (ht : t < N) (hs : hf_shp t = ci) (hf : hf_fty ci j = 0 ∧ j < hf_nf ci ∧ ci < 6 ∧ vwCl[ci]? = some (C, T, k) ∧ j < k) (hin : ∀ w ∈ u_ws C T k, w ∈ hf_T) (hw : Cond.fieldLink own z C (T j).2.1 (T j).2.2.1 ∈ hf_T) (hC : (T j).1 = C) (hty : ∀ k', k' < k → parseFieldDescriptor (T k').2.2.1 = some (ty0 k')) (hnm : ∀ a, a < k → ∀ b, b < k → a ≠ b → (T a).2.1 ≠ (T b).2.1) (hfin : (T j).2.2.2 = false) (hdd : ty0 j = ty) (hn : narrow ty (.int v) = .int v) (hfit : fits ty (.int v) = true) (hd : decode cc pc = .ok (.putfield z, 3)) (kk : hc_W g p l e R s m args below meth c n Q (N) (hf_sI M t j v) (ce) (sl) (pc + 3) L (st)) : hc_W g p l e R s m args below meth c n Q (N) M (ce) (sl) (pc) L (.int v :: .ref (hf_a g t) :: st) := by
  intro H locs ls hP hL
  obtain ⟨hx, hb, hml, hown, hts, hr, hlk, hK, hS, h0⟩ := X
  have hwat := hc_w_at g M ht
  rw [hf_cO g M hs hf.2.2.1] at hwat
  have hap := va_apart (own := own) hts hin ty0 hty hnm hK hf.2.2.2.1
  obtain ⟨r, h1, cell, q1, q2, q3, q4⟩ := hP.1 t _ hwat
  have hrr : r = (C, T, k) := Option.some.inj (h1.symm.trans hf.2.2.2.1)
  subst hrr
  obtain ⟨hSl, hfc, kC, hkC, hkind⟩ := hK.1 ci _ hf.2.2.2.1
  obtain ⟨cf, kf, fi, f, hi, hsl⟩ := hSl j hf.2.2.2.2
  have hlay := hts _ (hin _ (u_in_lay hf.2.2.2.2))
  unfold u_lay at hlay
  rw [if_neg (by rw [hfin]; decide)] at hlay
  have hst := (u_facts hfc hkC (u_lays hts hin hf.2.2.2.2) hi).1
  have hsame : s.fieldFound? C (T j).2.1 (T j).2.2.1 = some (cf, kf, fi, f) := by rw [← hC]; exact hi
  have hdp : parseFieldDescriptor (T j).2.2.1 = some ty := by rw [hty j hf.2.2.2.2, hdd]
  have hgo : ∀ (H' : Heap), H'[hf_a g t]? = some (cell.setSlot f.slot (.int v)) → H'.size = H.size → (∀ q, q ≠ hf_a g t → H'[q]? = H[q]?) → W p l e R s m args below meth c H' (locs ++ [⟨hf_a g t, f.slot⟩]) ce sl Q (F0 m (pc + 3) ls st) := by
    intro H' e1 e2 e3
    refine kk H' _ ls (hc_setP hP ht (hf_cI_ne g M t j v) e2 e3 ?_) hL
    show va_at _ _ (hf_a g t, hf_c g _ t) H'
    rw [hf_cO g _ hs hf.2.2.1, ← hf_fsI g M t v hf.2.1 hf.1]
    rw [hsl] at e1
    exact ⟨_, hf.2.2.2.1, t_OB.to (V := updV (vp_V (hf_fs g M t ci)) j (.int v)) ⟨_, e1, q2, q3, t_set q4 hap hf.2.2.2.2 (.int v)⟩ (fun i _ => vp_updV_set (by rw [hf_fs_len]; exact hf.2.1) (.int v) i)⟩
  have h6 := u_store hfc hkC hkind hlay hi hdp hn hfit
  exact W.putK hx hb (f := f) ⟨hown, hts _ hw, ⟨_, _, _, hsame⟩, hst⟩ (by rw [q2]; exact h6) q1 q3 (by rw [hsl]; exact k2_hasslot (q4 j hf.2.2.2.2)) rfl rfl hd hgo
theorem hc_putL (X : hf_X g p s m args meth c cc n own ret) {t ci j z k : Nat} {C : String} {T : u_T} {v : Int64} {ty0 : Nat → FieldType} {ty : FieldType} (ht : t < N) (hs : hf_shp t = ci) (hf : hf_fty ci j = 1 ∧ j < hf_nf ci ∧ ci < 6 ∧ vwCl[ci]? = some (C, T, k) ∧ j < k) (hin : ∀ w ∈ u_ws C T k, w ∈ hf_T) (hw : Cond.fieldLink own z C (T j).2.1 (T j).2.2.1 ∈ hf_T) (hC : (T j).1 = C) (hty : ∀ k', k' < k → parseFieldDescriptor (T k').2.2.1 = some (ty0 k')) (hnm : ∀ a, a < k → ∀ b, b < k → a ≠ b → (T a).2.1 ≠ (T b).2.1) (hfin : (T j).2.2.2 = false) (hdd : ty0 j = ty) (hn : narrow ty (.long v) = .long v) (hfit : fits ty (.long v) = true) (hd : decode cc pc = .ok (.putfield z, 3)) (kk : hc_W g p l e R s m args below meth c n Q (N) (hf_sL M t j v) (ce) (sl) (pc + 3) L (st)) : hc_W g p l e R s m args below meth c n Q (N) M (ce) (sl) (pc) L (.long v :: .ref (hf_a g t) :: st) := by
  intro H locs ls hP hL
  obtain ⟨hx, hb, hml, hown, hts, hr, hlk, hK, hS, h0⟩ := X
  have hwat := hc_w_at g M ht
  rw [hf_cO g M hs hf.2.2.1] at hwat
  have hap := va_apart (own := own) hts hin ty0 hty hnm hK hf.2.2.2.1
  obtain ⟨r, h1, cell, q1, q2, q3, q4⟩ := hP.1 t _ hwat
  have hrr : r = (C, T, k) := Option.some.inj (h1.symm.trans hf.2.2.2.1)
  subst hrr
  obtain ⟨hSl, hfc, kC, hkC, hkind⟩ := hK.1 ci _ hf.2.2.2.1
  obtain ⟨cf, kf, fi, f, hi, hsl⟩ := hSl j hf.2.2.2.2
  have hlay := hts _ (hin _ (u_in_lay hf.2.2.2.2))
  unfold u_lay at hlay
  rw [if_neg (by rw [hfin]; decide)] at hlay
  have hst := (u_facts hfc hkC (u_lays hts hin hf.2.2.2.2) hi).1
  have hsame : s.fieldFound? C (T j).2.1 (T j).2.2.1 = some (cf, kf, fi, f) := by rw [← hC]; exact hi
  have hdp : parseFieldDescriptor (T j).2.2.1 = some ty := by rw [hty j hf.2.2.2.2, hdd]
  have hgo : ∀ (H' : Heap), H'[hf_a g t]? = some (cell.setSlot f.slot (.long v)) → H'.size = H.size → (∀ q, q ≠ hf_a g t → H'[q]? = H[q]?) → W p l e R s m args below meth c H' (locs ++ [⟨hf_a g t, f.slot⟩]) ce sl Q (F0 m (pc + 3) ls st) := by
    intro H' e1 e2 e3
    refine kk H' _ ls (hc_setP hP ht (hf_cL_ne g M t j v) e2 e3 ?_) hL
    show va_at _ _ (hf_a g t, hf_c g _ t) H'
    rw [hf_cO g _ hs hf.2.2.1, ← hf_fsL g M t v hf.2.1 hf.1]
    rw [hsl] at e1
    exact ⟨_, hf.2.2.2.1, t_OB.to (V := updV (vp_V (hf_fs g M t ci)) j (.long v)) ⟨_, e1, q2, q3, t_set q4 hap hf.2.2.2.2 (.long v)⟩ (fun i _ => vp_updV_set (by rw [hf_fs_len]; exact hf.2.1) (.long v) i)⟩
  have h6 := u_store hfc hkC hkind hlay hi hdp hn hfit
  exact W.putK hx hb (f := f) ⟨hown, hts _ hw, ⟨_, _, _, hsame⟩, hst⟩ (by rw [q2]; exact h6) q1 q3 (by rw [hsl]; exact k2_hasslot (q4 j hf.2.2.2.2)) rfl rfl hd hgo
theorem hc_putF (X : hf_X g p s m args meth c cc n own ret) {t ci j z k : Nat} {C : String} {T : u_T} {q : Nat} {ty0 : Nat → FieldType} {ty : FieldType} (ht : t < N) (hs : hf_shp t = ci) (hf : hf_fty ci j = 2 ∧ j < hf_nf ci ∧ ci < 6 ∧ vwCl[ci]? = some (C, T, k) ∧ j < k) (hin : ∀ w ∈ u_ws C T k, w ∈ hf_T) (hw : Cond.fieldLink own z C (T j).2.1 (T j).2.2.1 ∈ hf_T) (hC : (T j).1 = C) (hty : ∀ k', k' < k → parseFieldDescriptor (T k').2.2.1 = some (ty0 k')) (hnm : ∀ a, a < k → ∀ b, b < k → a ≠ b → (T a).2.1 ≠ (T b).2.1) (hfin : (T j).2.2.2 = true) (hdd : ty0 j = ty) (hn : narrow ty (.ref (hf_a g q)) = .ref (hf_a g q)) (hfit : fits ty (.ref (hf_a g q)) = true) (hin2 : meth.name = "<init>") (hCo : own = C) (hd : decode cc pc = .ok (.putfield z, 3)) (kk : hc_W g p l e R s m args below meth c n Q (N) (hf_sR M t j (some q)) (ce) (sl) (pc + 3) L (st)) : hc_W g p l e R s m args below meth c n Q (N) M (ce) (sl) (pc) L (.ref (hf_a g q) :: .ref (hf_a g t) :: st) := by
  intro H locs ls hP hL
  obtain ⟨hx, hb, hml, hown, hts, hr, hlk, hK, hS, h0⟩ := X
  have hwat := hc_w_at g M ht
  rw [hf_cO g M hs hf.2.2.1] at hwat
  have hap := va_apart (own := own) hts hin ty0 hty hnm hK hf.2.2.2.1
  obtain ⟨r, h1, cell, q1, q2, q3, q4⟩ := hP.1 t _ hwat
  have hrr : r = (C, T, k) := Option.some.inj (h1.symm.trans hf.2.2.2.1)
  subst hrr
  obtain ⟨hSl, hfc, kC, hkC, hkind⟩ := hK.1 ci _ hf.2.2.2.1
  obtain ⟨cf, kf, fi, f, hi, hsl⟩ := hSl j hf.2.2.2.2
  have hlay := hts _ (hin _ (u_in_lay hf.2.2.2.2))
  unfold u_lay at hlay
  rw [if_pos hfin] at hlay
  have hst := (u_facts hfc hkC (u_lays hts hin hf.2.2.2.2) hi).1
  have hsame : s.fieldFound? C (T j).2.1 (T j).2.2.1 = some (cf, kf, fi, f) := by rw [← hC]; exact hi
  have hdp : parseFieldDescriptor (T j).2.2.1 = some ty := by rw [hty j hf.2.2.2.2, hdd]
  have hgo : ∀ (H' : Heap), H'[hf_a g t]? = some (cell.setSlot f.slot (.ref (hf_a g q))) → H'.size = H.size → (∀ q, q ≠ hf_a g t → H'[q]? = H[q]?) → W p l e R s m args below meth c H' (locs ++ [⟨hf_a g t, f.slot⟩]) ce sl Q (F0 m (pc + 3) ls st) := by
    intro H' e1 e2 e3
    refine kk H' _ ls (hc_setP hP ht (hf_cR_ne g M t j (some q)) e2 e3 ?_) hL
    show va_at _ _ (hf_a g t, hf_c g _ t) H'
    rw [hf_cO g _ hs hf.2.2.1, ← (hf_fsR g M t (some q) hf.2.1 hf.1)]
    rw [hsl] at e1
    exact ⟨_, hf.2.2.2.1, t_OB.to (V := updV (vp_V (hf_fs g M t ci)) j (.ref (hf_a g q))) ⟨_, e1, q2, q3, t_set q4 hap hf.2.2.2.2 (.ref (hf_a g q))⟩ (fun i _ => vp_updV_set (by rw [hf_fs_len]; exact hf.2.1) (.ref (hf_a g q)) i)⟩
  have hcf : m.cls = cf := by
    obtain ⟨_, _, c', _, _, _, -, -, hf', -, -, -, hown2, -⟩ := Cond.laysFinal_spec hlay
    have e1 : c' = cf := by have := hi.symm.trans hf'; simp at this; exact this.1.symm
    rw [hC, ← hCo] at hown2
    rw [← e1]; exact Option.some.inj (hown.symm.trans hown2)
  have h6 := u_fits hfc hkC hkind (Or.inr hlay) hi hdp hn hfit
  refine W.putFinK hx hb hown (hts _ hw) hsame hst hcf hin2 (by rw [q2]; exact h6) q1 q3 (by rw [hsl]; exact k2_hasslot (q4 j hf.2.2.2.2)) rfl rfl hd hgo
theorem hc_putN (X : hf_X g p s m args meth c cc n own ret) {t ci j z k : Nat} {C : String} {T : u_T}  {ty0 : Nat → FieldType} {ty : FieldType} (ht : t < N) (hs : hf_shp t = ci) (hf : hf_fty ci j = 2 ∧ j < hf_nf ci ∧ ci < 6 ∧ vwCl[ci]? = some (C, T, k) ∧ j < k) (hin : ∀ w ∈ u_ws C T k, w ∈ hf_T) (hw : Cond.fieldLink own z C (T j).2.1 (T j).2.2.1 ∈ hf_T) (hC : (T j).1 = C) (hty : ∀ k', k' < k → parseFieldDescriptor (T k').2.2.1 = some (ty0 k')) (hnm : ∀ a, a < k → ∀ b, b < k → a ≠ b → (T a).2.1 ≠ (T b).2.1) (hfin : (T j).2.2.2 = false) (hdd : ty0 j = ty) (hn : narrow ty (.null) = .null) (hfit : fits ty (.null) = true) (hd : decode cc pc = .ok (.putfield z, 3)) (kk : hc_W g p l e R s m args below meth c n Q (N) (hf_sR M t j none) (ce) (sl) (pc + 3) L (st)) : hc_W g p l e R s m args below meth c n Q (N) M (ce) (sl) (pc) L (.null :: .ref (hf_a g t) :: st) := by
  intro H locs ls hP hL
  obtain ⟨hx, hb, hml, hown, hts, hr, hlk, hK, hS, h0⟩ := X
  have hwat := hc_w_at g M ht
  rw [hf_cO g M hs hf.2.2.1] at hwat
  have hap := va_apart (own := own) hts hin ty0 hty hnm hK hf.2.2.2.1
  obtain ⟨r, h1, cell, q1, q2, q3, q4⟩ := hP.1 t _ hwat
  have hrr : r = (C, T, k) := Option.some.inj (h1.symm.trans hf.2.2.2.1)
  subst hrr
  obtain ⟨hSl, hfc, kC, hkC, hkind⟩ := hK.1 ci _ hf.2.2.2.1
  obtain ⟨cf, kf, fi, f, hi, hsl⟩ := hSl j hf.2.2.2.2
  have hlay := hts _ (hin _ (u_in_lay hf.2.2.2.2))
  unfold u_lay at hlay
  rw [if_neg (by rw [hfin]; decide)] at hlay
  have hst := (u_facts hfc hkC (u_lays hts hin hf.2.2.2.2) hi).1
  have hsame : s.fieldFound? C (T j).2.1 (T j).2.2.1 = some (cf, kf, fi, f) := by rw [← hC]; exact hi
  have hdp : parseFieldDescriptor (T j).2.2.1 = some ty := by rw [hty j hf.2.2.2.2, hdd]
  have hgo : ∀ (H' : Heap), H'[hf_a g t]? = some (cell.setSlot f.slot (.null)) → H'.size = H.size → (∀ q, q ≠ hf_a g t → H'[q]? = H[q]?) → W p l e R s m args below meth c H' (locs ++ [⟨hf_a g t, f.slot⟩]) ce sl Q (F0 m (pc + 3) ls st) := by
    intro H' e1 e2 e3
    refine kk H' _ ls (hc_setP hP ht (hf_cR_ne g M t j none) e2 e3 ?_) hL
    show va_at _ _ (hf_a g t, hf_c g _ t) H'
    rw [hf_cO g _ hs hf.2.2.1, ← (hf_fsR g M t none hf.2.1 hf.1)]
    rw [hsl] at e1
    exact ⟨_, hf.2.2.2.1, t_OB.to (V := updV (vp_V (hf_fs g M t ci)) j (.null)) ⟨_, e1, q2, q3, t_set q4 hap hf.2.2.2.2 (.null)⟩ (fun i _ => vp_updV_set (by rw [hf_fs_len]; exact hf.2.1) (.null) i)⟩
  have h6 := u_store hfc hkC hkind hlay hi hdp hn hfit
  exact W.putK hx hb (f := f) ⟨hown, hts _ hw, ⟨_, _, _, hsame⟩, hst⟩ (by rw [q2]; exact h6) q1 q3 (by rw [hsl]; exact k2_hasslot (q4 j hf.2.2.2.2)) rfl rfl hd hgo
theorem hc_getR (X : hf_X g p s m args meth c cc n own ret) {t ci j z k q : Nat} {C : String} {T : u_T} (ht : t < N) (hs : hf_shp t = ci) (hf : hf_fty ci j = 2 ∧ j < hf_nf ci ∧ ci < 6 ∧ vwCl[ci]? = some (C, T, k) ∧ j < k) (hq : M.2.2 t j = some q) (hin : ∀ w ∈ u_ws C T k, w ∈ hf_T) (hw : Cond.fieldLink own z C (T j).2.1 (T j).2.2.1 ∈ hf_T) (hC : (T j).1 = C) (hd : decode cc pc = .ok (.getfield z, 3)) (kk : hc_W g p l e R s m args below meth c n Q (N) M (ce) (sl) (pc + 3) L (.ref (hf_a g q) :: st)) : hc_W g p l e R s m args below meth c n Q (N) M (ce) (sl) (pc) L (.ref (hf_a g t) :: st) := by
  intro H locs ls hP hL
  obtain ⟨hx, hb, hml, hown, hts, hr, hlk, hK, hS, h0⟩ := X
  have he := hc_w_at g M ht
  rw [hf_cO g M hs hf.2.2.1] at he
  refine va_get hx hb hts hin hown hK hP.1 t he hf.2.2.2.1 j hf.2.2.2.2 (hts _ hw) (fun x h => by rw [hC] at h; exact h) (hf_fs_at g M t hf.2.1) hd ?_
  rw [hf_fv, if_neg (by rw [hf.1]; decide), if_neg (by rw [hf.1]; decide), hq]
  exact kk H locs ls hP hL
theorem hc_iast (X : hf_X g p s m args meth c cc n own ret) {q : Nat} {i v : Int32} (hq : q < N) (hs : hf_shp q = 6) (hin : vp_in i (hf_len q)) (hd : decode cc pc = .ok (.iastore, 1)) (kk : hc_W g p l e R s m args below meth c n Q (N) (hf_sI M q i.toNatClampNeg v) (ce) (sl) (pc + 1) L (st)) : hc_W g p l e R s m args below meth c n Q (N) M (ce) (sl) (pc) L (.int v :: .int i :: .ref (hf_a g q) :: st) := by
  intro H locs ls hP hL
  obtain ⟨hx, hb, hml, hown, hts, hr, hlk, hK, hS, h0⟩ := X
  have he := hc_w_at g M hq
  rw [hf_c6 g M hs] at he
  refine W.iast hx hb (hP.1 q _ he) ((hK.2 0 _ rfl).1 (hf_len q) (fun j => .int (M.1 q j))) (fun q => by cases q) (by show ¬ (i < 0 ∨ (arrV _ _ _).slots.size ≤ _); rw [arrV_size]; exact hin) rfl rfl hd fun H1 e1 z oq => ?_
  refine kk H1 _ ls (hc_setP hP hq (hf_cI_ne g M q _ v) z oq ?_) hL
  show va_at _ _ (hf_a g q, hf_c g _ q) H1
  rw [hf_c6 g _ hs]
  show H1[hf_a g q]? = some (vp_cell _ _)
  rw [e1, vp_cell_i, vp_cell_i, arrV_store]
  congr 2
  funext b
  by_cases hb2 : b = i.toNatClampNeg
  · subst hb2
    simp [updV, hf_sI, hf_u]
  · simp [updV, hf_sI, hf_u, hb2]
theorem hc_aast (X : hf_X g p s m args meth c cc n own ret) {q t : Nat} {i : Int32} (hq : q < N) (hs : hf_shp q = 8) (ht : t < N) (hst2 : hf_shp t = 2) (hin : vp_in i (hf_len q)) (hd : decode cc pc = .ok (.aastore, 1)) (kk : hc_W g p l e R s m args below meth c n Q (N) (hf_sR M q i.toNatClampNeg (some t)) (ce) (sl) (pc + 1) L (st)) : hc_W g p l e R s m args below meth c n Q (N) M (ce) (sl) (pc) L (.ref (hf_a g t) :: .int i :: .ref (hf_a g q) :: st) := by
  intro H locs ls hP hL
  obtain ⟨hx, hb, hml, hown, hts, hr, hlk, hK, hS, h0⟩ := X
  have he := hc_w_at g M hq
  rw [hf_c8 g M hs] at he
  have hv := hc_w_at g M ht
  rw [hf_cO g M hst2 (by decide)] at hv
  have hlt : i.toNatClampNeg < hf_len q := Nat.not_le.mp fun w => hin (Or.inr w)
  obtain ⟨r', hr', cellV, g1, g2, g3, -⟩ := hP.1 t _ hv
  have hcls := (hK.1 2 _ rfl).2
  obtain ⟨kA, comp, k1, k2, k3, -⟩ := (hK.2 2 _ rfl).2
  have hcomp : comp = (hf_D g).1 2 := Option.some.inj (k3.symm.trans hcls.1)
  subst hcomp
  obtain ⟨kC, hkC, -⟩ := hcls.2
  refine W.aast hx hb (hP.1 q _ he) (fun q h => by cases h) (fun h => by cases h) k1 k2 rfl hkC ⟨fun w => hin (Or.inl w), by show _ < (arrV _ _ _).slots.size; rw [arrV_size]; exact hlt⟩ g1 (fun q h => by rw [g3] at h; cases h) (by rw [g2]; exact hkC) (by rw [g2]; exact va_assign hcls) rfl rfl hd fun H1 e1 z oq => ?_
  refine kk H1 _ ls (hc_setP hP hq (hf_cR_ne g M q _ (some t)) z oq ?_) hL
  show va_at _ _ (hf_a g q, hf_c g _ q) H1
  rw [hf_c8 g _ hs]
  show H1[hf_a g q]? = some (vp_cell _ _)
  rw [e1, vp_cell_q, vp_cell_q, arrV_store]
  congr 2
  funext b
  by_cases hb2 : b = i.toNatClampNeg
  · subst hb2
    simp [updV, hf_sR, hf_u, va_rf]
  · simp [updV, hf_sR, hf_u, hb2]
theorem hc_Pic_at {H : Heap} {t : State} {locs : List Loc} (hK : va_K (hf_D g) vwCl (hf_ty g) s) (hS : hf_S g s s.heap) (hP : hc_P g N M s H locs) (ht : t.heap = H) (hW : s.WarmedH t.vm) : hc_Pic g N M t :=
  ⟨by rw [ht]; exact ⟨hP.1, hP.2.1, hP.2.2.2.1, hP.2.2.2.2⟩, va_K.moved hW.alike hK, hf_S_at hS hP.2.2.1 hW ht⟩
theorem hc_blind (g : hf_G) (N : Nat) (M : hf_M) (av : List Value) : FrameBlind (va_Pc av (hc_Pic g N M)) := fun a U f mk h =>
  ⟨h.1, h.2.1, va_K.moved (u := U) (U := U.calling f mk a) (Vm.Alike.refl U.vm) h.2.2.1, hf_S_blind h.2.2.2⟩
theorem hc_call (X : hf_X g p s m args meth c cc n own ret) {z d' maxL' mc ms t : Nat} {y : MethodName} {cd : ByteArray} {av : hf_G → List Value} {M' : hf_M} (hM : hc_C y cd maxL' d' N mc ms M M' av) (hl : Cond.methodLink own z y ∈ hf_T ∨ ∃ host, (own, z, y, host) ∈ hf_NM) (h2 : Cond.instanceMethod y ∈ hf_T) (h3 : Cond.initialized y.cls ∈ hf_T) (h4 : Cond.code y cd maxL' none ∈ hf_T) (hmx : maxL' ≤ 29) (hy : y.name = "<init>") (hdsc : y.cls ≠ "java/lang/invoke/MethodHandle" ∧ y.cls ≠ "java/lang/invoke/VarHandle" ∧ (parseMethodDescriptor y.desc).map (fun d => d.parameters.length) = some 0)
    (hav : av g = [.ref (hf_a g t)]) (hd1 : d' + 1 ≤ R.frames) (hd2 : 48 * d' + 48 ≤ R.locals) (hrest : (st.map fun v => v.category).sum ≤ 8) (hc1 : ce + mc ≤ R.cells) (hc2 : sl + ms ≤ R.slots) (hd : decode cc pc = .ok (.invokespecial z, 3))
    (kk : hc_W g p l e R s m args below meth c n Q (N + mc) M' (ce + mc) (sl + ms) (pc + 3) L (st)) : hc_W g p l e R s m args below meth c n Q (N) M (ce) (sl) (pc) L (.ref (hf_a g t) :: st) := by
  intro H locs ls hP hL
  obtain ⟨hx, hb, hml, hown, hts, hr, hlk, hK, hS, h0⟩ := X
  have hm := hM l g
  rw [hav] at hm
  have hG : GoodIn hf_T (Cond.code y cd maxL' none :: hf_T) := fun w hw => by
    rcases List.mem_cons.mp hw with rfl | hw
    · exact hf_good h4
    · exact hf_good hw
  have hrm : (hc_R d' mc ms).frames + 1 ≤ R.frames ∧ 8 + (maxL' + 11) + (hc_R d' mc ms).locals ≤ R.locals := ⟨hd1, by show 8 + (maxL' + 11) + 48 * d' ≤ R.locals; omega⟩
  have hrun : va_Run p l e R s m args below meth c H locs ce sl mc ms (F0 m pc ls (.ref (hf_a g t) :: st)) st ((va_Qv (fun _ : Unit => True) (fun _ u => hc_Pic g (N + mc) M' u) (hf_A g)) (Value.ref (hf_a g t) :: []).toArray) (hf_A g) := by
    rcases hl with hw | ⟨host, hw⟩
    · exact va_runI (As := []) (rest := st) ⟨hx, hb, hml, hown, hts⟩ hm (cwI 0 hts hG rfl rfl rfl (hts _ h3) (hts _ hw) (hts _ h2) hy hdsc hrm) ⟨hc_blind g N M _, fun U hU hW => ⟨rfl, hc_Pic_at hK hS hP hU hW⟩⟩ rfl rfl hL.1 rfl (lv_room hrest) hd ⟨hc1, hc2⟩
    · exact va_runIN (As := []) (rest := st) ⟨hx, hb, hml, hown, hts⟩ hm ⟨va_cnB 0 hts hG rfl rfl rfl (hS.2.2.2.2.2 _ hw) (hts _ h3) hdsc hrm, hy, hts _ h2⟩ ⟨hc_blind g N M _, fun U hU hW => ⟨rfl, hc_Pic_at hK hS hP hU hW⟩⟩ rfl rfl hL.1 rfl (lv_room hrest) hd ⟨hc1, hc2⟩
  refine va_callv hrun hP.2.2.1 (fun q _ h => h) (fun q h => h) (fun u t1 H1 locs1 ht1 hvm _ hB hz1 hk1 hS1 => ?_)
  have hP1 := hB.1
  rw [ht1] at hP1
  exact kk H1 locs1 ls ⟨hP1.1, hP1.2.1, hS1, hP1.2.2.1, hP1.2.2.2⟩ hL
theorem hc_vret (X : hf_X g p s m args meth c cc n own none) {N0 mc : Nat} (hN : N = N0 + mc) (hd : decode cc pc = .ok (.return_, 1)) : hc_W g p l e R s m args below meth c n (MQ below (va_Qv (fun _ : Unit => True) (fun _ t => hc_Pic g (N0 + mc) M t) (hf_A g)) args s ce sl (hf_A g)) N M ce sl pc L [] := by
  intro H locs ls hP hL
  subst hN
  obtain ⟨hx, hb, hml, hown, hts, hr, hlk, hK, hS, h0⟩ := X
  exact W.vret hx hb hr (fun t ht hW => ⟨⟨(), rfl, trivial, hc_Pic_at hK hS hP ht hW⟩, hP.2.2.1.F ht⟩) hP.2.2.1.2.2 hd hlk
end HC
theorem hc_met {y : MethodName} {cd : ByteArray} {maxL d N mc ms : Nat} {M M' : hf_M} {t : Nat} (hy : plainName y.cls = true) (hyn : y.name = "<init>") (hml : 1 ≤ maxL)
    (body : ∀ (g : hf_G) (p : Program) (l : Launch) (e : Env) (s : State) (m : MethodId) (args : Array Value) (below : List Frame) (meth : Method) (c : Code), hf_X g p s m args meth c cd maxL y.cls none → meth.name = "<init>" → hc_W g p l e (hc_R d mc ms) s m args below meth c maxL (MQ below (va_Qv (fun _ : Unit => True) (fun _ t => hc_Pic g (N + mc) M' t) (hf_A g)) args s mc ms (hf_A g)) N M 0 0 0 (hf_L0 [.ref (hf_a g t)] maxL) []) : hc_C y cd maxL d N mc ms M M' (fun g => [.ref (hf_a g t)]) := by
  intro l g
  refine Met.ofW (cc := cd) (maxL := maxL) (ret := none) hy rfl ?_
  intro p e s m args below meth c s₁ B hmx hv
  obtain ⟨ha, ⟨hP, hD, hz, hga⟩, hK, hS⟩ := hv
  have hts := atoms_spec (ws := Cond.code y cd maxL none :: hf_T) B.pre
  have X : hf_X g p s m args meth c cd maxL y.cls none := ⟨B.exec, B.bytes, hmx, findClass_of_methodNamed B.named, fun w hw => hts w (List.mem_cons_of_mem _ hw), B.returns, B.notSynchronized, hK, hS, by rw [hz]; omega⟩
  have hl := lv_entry ([.ref (hf_a g t)]) (n := maxL) hml
  dsimp only at ha
  rw [ha, lg_entry_eq, ← ha]
  have hl2 : hf_L ((lg_sl ([.ref (hf_a g t)]) ++ List.replicate (maxL - (lg_sl ([.ref (hf_a g t)])).length) Slot.unset).toArray) maxL (hf_L0 ([.ref (hf_a g t)]) maxL) := ⟨hl.1, hl.2.1, fun i v h => hl.2.2 (i, v) (by have := hf_L0_in ([.ref (hf_a g t)]) _ 0 i v h; simpa using this)⟩
  exact body g p l e s m args below meth c X ((name_of_methodNamed B.named B.method).1.trans hyn) s.heap [] _ ⟨hP, hD, va_S.rf, hz, hga⟩ hl2
