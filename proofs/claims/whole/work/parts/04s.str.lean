theorem lkS_RX1_60 : hf_kv RX1 60 yJ0_length_8abf5 cJ0_length_8abf5 1 (some .int) RJ0 0 := hf_kv_of (hf_c2 211 rfl rfl) (hf_c2 212 rfl rfl) (hf_c2 213 rfl rfl) (hf_c1 10 rfl rfl) (hf_c2 214 rfl rfl) (by decide) ⟨rfl, by decide +kernel⟩
theorem lkS_RX1_65 : hf_kv RX1 65 yJ0_charAt_5068e cJ0_charAt_5068e 2 (some .char) RJ0 1 := hf_kv_of (hf_c2 221 rfl rfl) (hf_c2 222 rfl rfl) (hf_c2 223 rfl rfl) (hf_c1 10 rfl rfl) (hf_c2 224 rfl rfl) (by decide) ⟨rfl, by decide +kernel⟩
theorem lkJ_335 : hf_kv RJ0 335 yJ0_coder_7d493 cJ0_coder_7d493 1 (some .byte) RJ0 0 := hf_kv_of (hf_c2 215 rfl rfl) (hf_c2 216 rfl rfl) (hf_c2 217 rfl rfl) (hf_c1 10 rfl rfl) (hf_c2 218 rfl rfl) (by decide) ⟨rfl, by decide +kernel⟩
theorem lkJ_492 : hf_kv RJ0 492 yJ0_isLatin1_aae02 cJ0_isLatin1_aae02 1 (some .boolean) RJ0 0 := hf_kv_of (hf_c2 225 rfl rfl) (hf_c2 226 rfl rfl) (hf_c2 227 rfl rfl) (hf_c1 10 rfl rfl) (hf_c2 228 rfl rfl) (by decide) ⟨rfl, by decide +kernel⟩
theorem lkJ_495 : hf_ks RJ0 495 yJ1_charAt_3b067 cJ1_charAt_3b067 2 (some .char) 2 := ⟨⟨Or.inl (hf_c2 229 rfl rfl), hf_c2 230 rfl rfl, hf_c1 11 rfl rfl, hf_c2 231 rfl rfl, by decide⟩, by decide +kernel⟩
theorem lkJ_9 : hf_ks RJ1 9 yJ0_checkIndex_df160 cJ0_checkIndex_df160 2 (none) 2 := ⟨⟨Or.inl (hf_c2 232 rfl rfl), hf_c2 233 rfl rfl, hf_c1 10 rfl rfl, hf_c2 234 rfl rfl, by decide⟩, by decide +kernel⟩
theorem lkJ_1059 : hf_ks RJ0 1059 yJ3_checkIndex_8e157 cJ3_checkIndex_8e157 3 (some .int) 3 := ⟨⟨Or.inl (hf_c2 237 rfl rfl), hf_c2 238 rfl rfl, hf_c1 12 rfl rfl, hf_c2 239 rfl rfl, by decide⟩, by decide +kernel⟩
theorem lsJ_38 : hf_FL RJ0 38 "java/lang/String" "COMPACT_STRINGS" "Z" := Or.inl (hf_c2 219 rfl rfl)
theorem lsJ_1053 : hf_FL RJ0 1053 "jdk/internal/util/Preconditions" "SIOOBE_FORMATTER" "Ljava/util/function/BiFunction;" := Or.inl (hf_c2 235 rfl rfl)
theorem lwJ_9 : Cond.fieldLink RJ0 9 "java/lang/String" "value" "[B" ∈ hf_T := hf_c6x 65 rfl rfl
theorem lwJ_15 : Cond.fieldLink RJ0 15 "java/lang/String" "coder" "B" ∈ hf_T := hf_c6x 66 rfl rfl
/-- a text's length, a letter of it -/
def hf_wlen (i : Nat) : Int32 := Int32.ofNat (hf_wl.getD i 0)
def hf_chr (i k : Nat) : Int32 := (hf_wc.getD i []).getD k 0
def hf_ldCh {β : Type} (i : Nat) (k : Int32) (f : Int32 → Option β) : Option β := hf_ix k (hf_wl.getD i 0) (fun z => f (hf_chr i z))
theorem hf_chr_ok : ∀ i, i < 5 → ∀ j, j < hf_wl.getD i 0 → ((hf_chr i j &&& 255).toUInt32 % 65536).toInt32 = hf_chr i j ∧ narrow .char (.int (hf_chr i j)) = .int (hf_chr i j) := by decide +kernel
theorem hf_wl_6 : ∀ i, i < 5 → hf_wl.getD i 0 < 6 := by decide +kernel
section HT
variable {α β : Type} {g : hf_G} {p : Program} {l : Launch} {e : Env} {d : Nat} {s : State} {m : MethodId} {args : Array Value} {below : List Frame} {meth : Method} {c : Code} {n : Nat} {Qf : α → hf_M → State → Prop} {M : hf_M} {pc : Nat} {L : List (Option Value)} {st : List Value} {sh : Option (α × hf_M)} {cc : ByteArray} {own : String} {ret : Option FieldType}
theorem hr_ldS (X : hf_X g p s m args meth c cc n RX1 ret) {i z : Nat} (hi : i < 5) (hd : decode cc pc = .ok (.ldc z, 2)) (k : hf_W g p l e d s m args below meth c n Qf M (pc + 2) L ((.ref (hf_aK g i) :: st)) sh) (hz : hf_wx.getD i 0 = z := by rfl) : hf_W g p l e d s m args below meth c n Qf M (pc) L (st) sh := by
  intro r M' e H locs ls hP hL
  obtain ⟨hx, hb, hml, hown, hts, hr, hlk, hK, hS, h0⟩ := X
  have hq := hS.2.2.2.1.2.2.1 i hi
  rw [hz] at hq
  exact va_ldcS hx hb hown hq hd (k r M' e H locs ls hP hL)
theorem hr_gCS (X : hf_X g p s m args meth c cc n RJ0 ret) (hd : decode cc pc = .ok (.getstatic 38, 3)) (k : hf_W g p l e d s m args below meth c n Qf M (pc + 3) L ((.int 1 :: st)) sh) : hf_W g p l e d s m args below meth c n Qf M (pc) L (st) sh := by
  intro r M' e H locs ls hP hL
  obtain ⟨hx, hb, hml, hown, hts, hr, hlk, hK, hS, h0⟩ := X
  rcases lsJ_38 with hw | ⟨host, hw⟩
  · exact va_gets hx hb hS.2.2.2.1.1 hP.2.2.1 hown (hts _ hw) (fun x h => h) hd (k r M' e H locs ls hP hL)
  · exact va_getsN hx hb hS.2.2.2.1.1 hP.2.2.1 hown (va_Nw.use rfl (hS.2.2.2.2.1 _ hw)) (fun x h => h) hd (k r M' e H locs ls hP hL)
theorem hr_gFo (X : hf_X g p s m args meth c cc n RJ0 ret) (hd : decode cc pc = .ok (.getstatic 1053, 3)) (k : ∀ v : Value, (v = .null ∨ ∃ t, v = .ref t) → hf_W g p l e d s m args below meth c n Qf M (pc + 3) L ((v :: st)) sh) : hf_W g p l e d s m args below meth c n Qf M (pc) L (st) sh := by
  intro r M' e H locs ls hP hL
  obtain ⟨hx, hb, hml, hown, hts, hr, hlk, hK, hS, h0⟩ := X
  rcases lsJ_1053 with hw | ⟨host, hw⟩
  · rcases hS.2.2.2.1.2.2.2.1 with hz | ⟨t, hz⟩
    · exact va_gets hx hb hz hP.2.2.1 hown (hts _ hw) (fun x h => h) hd (k _ (Or.inl rfl) r M' e H locs ls hP hL)
    · exact va_gets hx hb hz hP.2.2.1 hown (hts _ hw) (fun x h => h) hd (k _ (Or.inr ⟨t, rfl⟩) r M' e H locs ls hP hL)
  · rcases hS.2.2.2.1.2.2.2.1 with hz | ⟨t, hz⟩
    · exact va_getsN hx hb hz hP.2.2.1 hown (va_Nw.use rfl (hS.2.2.2.2.1 _ hw)) (fun x h => h) hd (k _ (Or.inl rfl) r M' e H locs ls hP hL)
    · exact va_getsN hx hb hz hP.2.2.1 hown (va_Nw.use rfl (hS.2.2.2.2.1 _ hw)) (fun x h => h) hd (k _ (Or.inr ⟨t, rfl⟩) r M' e H locs ls hP hL)
theorem hr_gCo (X : hf_X g p s m args meth c cc n RJ0 ret) {i : Nat} (hi : i < 5) (hd : decode cc pc = .ok (.getfield 15, 3)) (k : hf_W g p l e d s m args below meth c n Qf M (pc + 3) L ((.int 0 :: st)) sh) : hf_W g p l e d s m args below meth c n Qf M (pc) L ((.ref (hf_aK g i) :: st)) sh := by
  intro r M' e H locs ls hP hL
  obtain ⟨hx, hb, hml, hown, hts, hr, hlk, hK, hS, h0⟩ := X
  exact vk_getf hx hb (hS.2.2.2.1.2.1.1 i hi).2.1 hP.2.2.1 hown (hts _ lwJ_15) (fun x h => h) hd (k r M' e H locs ls hP hL)
theorem hr_gVa (X : hf_X g p s m args meth c cc n RJ0 ret) {i : Nat} (hi : i < 5) (hd : decode cc pc = .ok (.getfield 9, 3)) (k : hf_W g p l e d s m args below meth c n Qf M (pc + 3) L ((.ref (hf_aV g i) :: st)) sh) : hf_W g p l e d s m args below meth c n Qf M (pc) L ((.ref (hf_aK g i) :: st)) sh := by
  intro r M' e H locs ls hP hL
  obtain ⟨hx, hb, hml, hown, hts, hr, hlk, hK, hS, h0⟩ := X
  exact vk_getf hx hb (hS.2.2.2.1.2.1.1 i hi).2.2.1 hP.2.2.1 hown (hts _ lwJ_9) (fun x h => h) hd (k r M' e H locs ls hP hL)
theorem hr_lnV (X : hf_X g p s m args meth c cc n own ret) {i : Nat} (hi : i < 5) (hd : decode cc pc = .ok (.arraylength, 1)) (k : hf_W g p l e d s m args below meth c n Qf M (pc + 1) L ((.int (hf_wlen i) :: st)) sh) : hf_W g p l e d s m args below meth c n Qf M (pc) L ((.ref (hf_aV g i) :: st)) sh := by
  intro r M' e H locs ls hP hL
  obtain ⟨hx, hb, hml, hown, hts, hr, hlk, hK, hS, h0⟩ := X
  exact va_tlen hx hb (hS.2.2.2.1.2.1.1 i hi).2.2.2 hP.2.2.1 rfl hd (k r M' e H locs ls hP hL)
theorem hr_bld (X : hf_X g p s m args meth c cc n own ret) {i : Nat} {x : Int32} (hi : i < 5) (hd : decode cc pc = .ok (.baload, 1)) (hin : vp_in x (hf_wl.getD i 0)) (k : hf_W g p l e d s m args below meth c n Qf M (pc + 1) L ((.int (hf_chr i x.toNatClampNeg) :: st)) sh) : hf_W g p l e d s m args below meth c n Qf M (pc) L ((.int x :: .ref (hf_aV g i) :: st)) sh := by
  intro r M' e H locs ls hP hL
  obtain ⟨hx, hb, hml, hown, hts, hr, hlk, hK, hS, h0⟩ := X
  exact va_tb hx hb (hS.2.2.2.1.2.1.1 i hi).2.2.2 hP.2.2.1 hin rfl hd (k r M' e H locs ls hP hL)
theorem hr_i2c (X : hf_X g p s m args meth c cc n own ret) {x : Int32} (v : Int32) (hd : decode cc pc = .ok (.i2c, 1)) (hv : (x.toUInt32 % 65536).toInt32 = v) (k : hf_W g p l e d s m args below meth c n Qf M (pc + 1) L ((.int v :: st)) sh) : hf_W g p l e d s m args below meth c n Qf M (pc) L ((.int x :: st)) sh := fun r M' e H locs ls hP hL => lv_i2c X.1 X.2.1 hd hv (k r M' e H locs ls hP hL)
theorem hr_aloadV (X : hf_X g p s m args meth c cc n own ret) {z : Fin 4} {v : Value} (hv : v = .null ∨ ∃ t, v = .ref t) (hd : decode cc pc = .ok (.aload_n z, 1)) (hl : L[(z : Nat)]? = some (some v)) (k : hf_W g p l e d s m args below meth c n Qf M (pc + 1) L ((v :: st)) sh) : hf_W g p l e d s m args below meth c n Qf M (pc) L (st) sh := by
  intro r M' e H locs ls hP hL
  rcases hv with rfl | ⟨t, rfl⟩
  · exact lv_aload_nN X.1 X.2.1 hd rfl (hL.2.2 _ _ hl) (k r M' e H locs ls hP hL)
  · exact lv_aload_n X.1 X.2.1 hd rfl (hL.2.2 _ _ hl) (k r M' e H locs ls hP hL)
theorem hr_nret (rt : FieldType) (X : hf_X g p s m args meth c cc n own (some rt)) {v : Int32} (hv : narrow rt (.int v) = .int v) (hd : decode cc pc = .ok (.ireturn, 1)) : hf_W g p l e d s m args below meth c n (hf_QI g below args s) M pc L [.int v] (some (v, M)) := by
  intro r M' e H locs ls hP hL
  cases e
  obtain ⟨hx, hb, hml, hown, hts, hr, hlk, hK, hS, h0⟩ := X
  exact W.zret hx hb hr hv (fun t ht hW => ⟨⟨v, (), rfl, rfl, hf_Pic_at hK hS h0 hP ht hW⟩, hP.2.2.1.F ht⟩) hP.2.2.1.2.2 hd hlk
/-- a call of a text's method -/
theorem hr_ctI (X : hf_X g p s m args meth c cc n own ret) {z d' maxL' k i : Nat} {y : MethodName} {cd : ByteArray} {ret' : Option FieldType} {av : hf_G → List Value} {sh' : Option (Int32 × hf_M)} {kk : Int32 → hf_M → Option (α × hf_M)} (As rest : List Value) (hM : hf_CI y cd maxL' ret' d' av M sh') (hl : hf_kv own z y cd maxL' ret' "java/lang/String" k) (hav : av g = .ref (hf_aK g i) :: As) (hst : st = As.reverse ++ .ref (hf_aK g i) :: rest) (hk : As.length = k)
    (hi : i < 5) (hd' : d' + 1 ≤ d) (hrest : (rest.map fun v => v.category).sum ≤ 8) (hd : decode cc pc = .ok (.invokevirtual z, 3))
    (kc : ∀ (r : Int32) (M1 : hf_M), sh' = some (r, M1) → hf_W g p l e d s m args below meth c n Qf M1 (pc + 3) L (.int r :: rest) (kk r M1)) : hf_W g p l e d s m args below meth c n Qf M (pc) L (st) (hf_bd sh' kk) := by
  intro r M' e H locs ls hP hL
  unfold hf_bd at e
  cases hsh : sh' with
  | none => rw [hsh] at e; cases e
  | some q =>
    obtain ⟨r0, M1⟩ := q
    rw [hsh] at e
    dsimp only at e
    subst hst
    obtain ⟨hx, hb, hml, hown, hts, hr, hlk, hK, hS, h0⟩ := X
    have hm := hM l g r0 M1 hsh
    rw [hav] at hm
    refine va_calli (va_runV (As := As) (rest := rest) ⟨hx, hb, hml, hown, hts⟩ hm (cwV k hts hl.1.1 rfl rfl rfl hl.2 ⟨hd', by show 8 + (maxL' + 11) + 48 * d' ≤ 48 * d; have := hl.1.2; omega⟩) ⟨hf_blind g M _, vk_recv hS.2.2.2.1.2.1 hi hP.2.2.1, fun U hU hW => ⟨rfl, hf_Pic_at hK hS h0 hP hU hW⟩⟩ rfl hk hL.1 rfl (lv_room hrest) hd ⟨Nat.le_refl 0, Nat.le_refl 0⟩) hP.2.2.1 (fun q _ h => h) (fun q h => h) (fun r1 u t H1 locs1 ht1 hvm hr1 hB hz1 hk1 hS1 => ?_)
    subst hr1
    have hP1 := hB.2.1
    rw [ht1] at hP1
    exact kc _ M1 hsh r M' e H1 locs1 ls ⟨hP1, hB.2.2.1, hS1, hB.2.2.2.2.1⟩ hL
end HT
theorem c_J0_coder {i : Nat} (hi : i < 5) (M : hf_M) : hf_CI yJ0_coder_7d493 cJ0_coder_7d493 1 (some .byte) 1 (fun g => [.ref (hf_aK g i)]) M (some (0, M)) := by
  refine hf_metI (by decide +kernel) (fun g => Nat.le_of_ble_eq_true rfl) (fun g p l ev s m args below meth c X => ?_)
  have X : hf_X g p s m args meth c cJ0_coder_7d493 1 RJ0 (some .byte) := X
  show hf_W g p l ev 1 s m args below meth c 1 (hf_QI g below args s) M 0 [some (.ref (hf_aK g i))] [] (some (0, M))
  refine hr_gCS X dJ0_coder_7d493_0 ?_
  refine hr_if_eq_F X 13 (by decide) dJ0_coder_7d493_3 rfl ?_
  refine hr_aload_n X dJ0_coder_7d493_6 rfl ?_
  refine hr_gCo X hi dJ0_coder_7d493_7 ?_
  refine hr_goto X 14 dJ0_coder_7d493_10 rfl ?_
  exact hr_nret .byte X rfl dJ0_coder_7d493_14
theorem c_J0_isLatin1 {i : Nat} (hi : i < 5) (M : hf_M) : hf_CI yJ0_isLatin1_aae02 cJ0_isLatin1_aae02 1 (some .boolean) 1 (fun g => [.ref (hf_aK g i)]) M (some (1, M)) := by
  refine hf_metI (by decide +kernel) (fun g => Nat.le_of_ble_eq_true rfl) (fun g p l ev s m args below meth c X => ?_)
  have X : hf_X g p s m args meth c cJ0_isLatin1_aae02 1 RJ0 (some .boolean) := X
  show hf_W g p l ev 1 s m args below meth c 1 (hf_QI g below args s) M 0 [some (.ref (hf_aK g i))] [] (some (1, M))
  refine hr_gCS X dJ0_isLatin1_aae02_0 ?_
  refine hr_if_eq_F X 17 (by decide) dJ0_isLatin1_aae02_3 rfl ?_
  refine hr_aload_n X dJ0_isLatin1_aae02_6 rfl ?_
  refine hr_gCo X hi dJ0_isLatin1_aae02_7 ?_
  refine hr_if_ne_F X 17 (by decide) dJ0_isLatin1_aae02_10 rfl ?_
  refine hr_iconst X 1 dJ0_isLatin1_aae02_13 kc_1 ?_
  refine hr_goto X 18 dJ0_isLatin1_aae02_14 rfl ?_
  exact hr_zretC X (Or.inr rfl) dJ0_isLatin1_aae02_18
theorem c_J0_length {i : Nat} (hi : i < 5) (M : hf_M) : hf_CI yJ0_length_8abf5 cJ0_length_8abf5 1 (some .int) 2 (fun g => [.ref (hf_aK g i)]) M (some (hf_wlen i, M)) := by
  refine hf_metI (by decide +kernel) (fun g => Nat.le_of_ble_eq_true rfl) (fun g p l ev s m args below meth c X => ?_)
  have X : hf_X g p s m args meth c cJ0_length_8abf5 1 RJ0 (some .int) := X
  show hf_W g p l ev 2 s m args below meth c 1 (hf_QI g below args s) M 0 [some (.ref (hf_aK g i))] [] (hf_bd (some ((0 : Int32), M)) (fun _ M => some (hf_wlen i, M)))
  refine hr_aload_n X dJ0_length_8abf5_0 rfl ?_
  refine hr_gVa X hi dJ0_length_8abf5_1 ?_
  refine hr_lnV X hi dJ0_length_8abf5_4 ?_
  refine hr_aload_n X dJ0_length_8abf5_5 rfl ?_
  refine hr_ctI X [] [.int (hf_wlen i)] (c_J0_coder hi M) lkJ_335 rfl rfl rfl hi (by decide) (Nat.le_of_ble_eq_true rfl) dJ0_length_8abf5_6 (fun r M1 hr => ?_)
  cases hr
  refine hr_ishr X dJ0_length_8abf5_9 ?_
  rw [show hn_ishr (hf_wlen i) 0 = hf_wlen i by
    rcases (show i = 0 ∨ i = 1 ∨ i = 2 ∨ i = 3 ∨ i = 4 by omega) with rfl | rfl | rfl | rfl | rfl <;> decide]
  exact hr_iret X dJ0_length_8abf5_10
theorem c_J3_ck (k w : Int32) {v : Value} (hv : v = .null ∨ ∃ t, v = .ref t) (M : hf_M) : hf_CI yJ3_checkIndex_8e157 cJ3_checkIndex_8e157 3 (some .int) 1 (fun _ => [.int k, .int w, v]) M (if k < 0 then none else if k < w then some (k, M) else none) := by
  have hlen : (lg_sl [.int k, .int w, v]).length ≤ 3 := by rcases hv with rfl | ⟨t, rfl⟩ <;> exact Nat.le_of_ble_eq_true rfl
  refine hf_metI (by decide +kernel) (fun g => hlen) (fun g p l ev s m args below meth c X => ?_)
  have X : hf_X g p s m args meth c cJ3_checkIndex_8e157 3 RJ3 (some .int) := X
  have e0 : hf_L0 [.int k, .int w, v] 3 = [some (.int k), some (.int w), some v] := by rcases hv with rfl | ⟨t, rfl⟩ <;> rfl
  rw [e0]
  refine hr_iload_n X dJ3_checkIndex_8e157_0 rfl ?_
  refine hr_if_lt X 9 dJ3_checkIndex_8e157_1 rfl hr_none ?_
  refine hr_iload_n X dJ3_checkIndex_8e157_4 rfl ?_
  refine hr_iload_n X dJ3_checkIndex_8e157_5 rfl ?_
  refine hr_icmp_lt X 16 dJ3_checkIndex_8e157_6 rfl ?_ hr_none
  refine hr_iload_n X dJ3_checkIndex_8e157_16 rfl ?_
  exact hr_iret X dJ3_checkIndex_8e157_17
theorem c_J0_ck (k w : Int32) (M : hf_M) : hf_CV yJ0_checkIndex_df160 cJ0_checkIndex_df160 2 none 2 (fun _ => [.int k, .int w]) M (hf_bd (if k < 0 then none else if k < w then some (k, M) else none) (fun _ M1 => some ((), M1))) := by
  refine hf_metV (by decide +kernel) (fun g => Nat.le_of_ble_eq_true rfl) (fun g p l ev s m args below meth c X => ?_)
  have X : hf_X g p s m args meth c cJ0_checkIndex_df160 2 RJ0 none := X
  show hf_W g p l ev 2 s m args below meth c 2 (hf_QV g below args s) M 0 [some (.int k), some (.int w)] [] _
  refine hr_iload_n X dJ0_checkIndex_df160_0 rfl ?_
  refine hr_iload_n X dJ0_checkIndex_df160_1 rfl ?_
  refine hr_gFo X dJ0_checkIndex_df160_2 (fun v hv => ?_)
  refine hr_csI X [.int k, .int w, v] [] (c_J3_ck k w hv M) lkJ_1059 rfl rfl rfl (by decide) (Nat.le_of_ble_eq_true rfl) dJ0_checkIndex_df160_5 (fun r M1 hr => ?_)
  refine hr_pop X dJ0_checkIndex_df160_8 rfl ?_
  exact hr_vret X dJ0_checkIndex_df160_9
theorem c_J1_charAt {i : Nat} (hi : i < 5) (k : Int32) (M : hf_M) (hin : vp_in k (hf_wl.getD i 0)) : hf_CI yJ1_charAt_3b067 cJ1_charAt_3b067 2 (some .char) 3 (fun g => [.ref (hf_aV g i), .int k]) M (some (hf_chr i k.toNatClampNeg, M)) := by
  have hlt := hf_wl_6 i hi
  obtain ⟨j, hj, rfl⟩ := vp_in_of hin (by omega)
  have hck : (if nI j < 0 then none else if nI j < hf_wlen i then some (nI j, M) else none) = some (nI j, M) := by
    rw [if_neg (nI_pos (by omega)), if_pos (show nI j < hf_wlen i from nI_lt hj (by omega))]
  have hq : hf_bd (hf_bd (if nI j < 0 then none else if nI j < hf_wlen i then some (nI j, M) else none) (fun _ M1 => some ((), M1))) (fun _ M1 => some (hf_chr i (nI j).toNatClampNeg, M1)) = some (hf_chr i (nI j).toNatClampNeg, M) := by
    rw [hck]
    rfl
  rw [← hq]
  refine hf_metI (by decide +kernel) (fun g => Nat.le_of_ble_eq_true rfl) (fun g p l ev s m args below meth c X => ?_)
  have X : hf_X g p s m args meth c cJ1_charAt_3b067 2 RJ1 (some .char) := X
  show hf_W g p l ev 3 s m args below meth c 2 (hf_QI g below args s) M 0 [some (.ref (hf_aV g i)), some (.int (nI j))] [] _
  refine hr_iload_n X dJ1_charAt_3b067_0 rfl ?_
  refine hr_aload_n X dJ1_charAt_3b067_1 rfl ?_
  refine hr_lnV X hi dJ1_charAt_3b067_2 ?_
  refine hr_csV X [.int (nI j), .int (hf_wlen i)] [] (c_J0_ck (nI j) (hf_wlen i) M) lkJ_9 rfl rfl rfl (by decide) (Nat.le_of_ble_eq_true rfl) dJ1_charAt_3b067_3 (fun _ M1 hr => ?_)
  refine hr_aload_n X dJ1_charAt_3b067_6 rfl ?_
  refine hr_iload_n X dJ1_charAt_3b067_7 rfl ?_
  refine hr_bld X hi dJ1_charAt_3b067_8 hin ?_
  refine hr_sipush X 255 dJ1_charAt_3b067_9 (by decide) ?_
  refine hr_iand X dJ1_charAt_3b067_12 ?_
  have hc : ((hf_chr i (nI j).toNatClampNeg &&& 255).toUInt32 % 65536).toInt32 = hf_chr i (nI j).toNatClampNeg ∧ narrow .char (.int (hf_chr i (nI j).toNatClampNeg)) = .int (hf_chr i (nI j).toNatClampNeg) := by
    rw [nI_clamp (by omega)]
    exact hf_chr_ok i hi j hj
  refine hr_i2c X _ dJ1_charAt_3b067_13 hc.1 ?_
  exact hr_nret .char X hc.2 dJ1_charAt_3b067_14
theorem c_J0_charAt {i : Nat} (hi : i < 5) (k : Int32) (M : hf_M) (hin : vp_in k (hf_wl.getD i 0)) : hf_CI yJ0_charAt_5068e cJ0_charAt_5068e 2 (some .char) 4 (fun g => [.ref (hf_aK g i), .int k]) M (hf_bd (some ((1 : Int32), M)) (fun _ M => hf_bd (some (hf_chr i k.toNatClampNeg, M)) (fun v M => some (v, M)))) := by
  refine hf_metI (by decide +kernel) (fun g => Nat.le_of_ble_eq_true rfl) (fun g p l ev s m args below meth c X => ?_)
  have X : hf_X g p s m args meth c cJ0_charAt_5068e 2 RJ0 (some .char) := X
  show hf_W g p l ev 4 s m args below meth c 2 (hf_QI g below args s) M 0 [some (.ref (hf_aK g i)), some (.int k)] [] _
  refine hr_aload_n X dJ0_charAt_5068e_0 rfl ?_
  refine hr_ctI X [] [] (c_J0_isLatin1 hi M) lkJ_492 rfl rfl rfl hi (by decide) (Nat.le_of_ble_eq_true rfl) dJ0_charAt_5068e_1 (fun r M1 hr => ?_)
  cases hr
  refine hr_if_eq_F X 16 (by decide) dJ0_charAt_5068e_4 rfl ?_
  refine hr_aload_n X dJ0_charAt_5068e_7 rfl ?_
  refine hr_gVa X hi dJ0_charAt_5068e_8 ?_
  refine hr_iload_n X dJ0_charAt_5068e_11 rfl ?_
  refine hr_csI X [.ref (hf_aV g i), .int k] [] (c_J1_charAt hi k M hin) lkJ_495 rfl rfl rfl (by decide) (Nat.le_of_ble_eq_true rfl) dJ0_charAt_5068e_12 (fun r M1 hr => ?_)
  cases hr
  refine hr_nret .char X ?_ dJ0_charAt_5068e_15
  have hlt := hf_wl_6 i hi
  obtain ⟨j, hj, rfl⟩ := vp_in_of hin (by omega)
  rw [nI_clamp (by omega)]
  exact (hf_chr_ok i hi j hj).2
section HU
variable {α β : Type} {g : hf_G} {p : Program} {l : Launch} {e : Env} {d : Nat} {s : State} {m : MethodId} {args : Array Value} {below : List Frame} {meth : Method} {c : Code} {n : Nat} {Qf : α → hf_M → State → Prop} {M : hf_M} {pc : Nat} {L : List (Option Value)} {st : List Value} {sh : Option (α × hf_M)} {cc : ByteArray} {own : String} {ret : Option FieldType}
theorem hr_strlen (X : hf_X g p s m args meth c cc n own ret) {i z : Nat} (hi : i < 5) (hl : hf_kv own z yJ0_length_8abf5 cJ0_length_8abf5 1 (some .int) "java/lang/String" 0) (hdd : 5 ≤ d) (hrest : (st.map fun v => v.category).sum ≤ 8) (hd : decode cc pc = .ok (.invokevirtual z, 3)) (k : hf_W g p l e d s m args below meth c n Qf M (pc + 3) L ((.int (hf_wlen i) :: st)) sh) : hf_W g p l e d s m args below meth c n Qf M (pc) L ((.ref (hf_aK g i) :: st)) sh :=
  hr_ctI (kk := fun _ _ => sh) X [] st (c_J0_length hi M) hl rfl rfl rfl hi (by omega) hrest hd (fun r M1 hr => by cases hr; exact k)
theorem hr_charAt (X : hf_X g p s m args meth c cc n own ret) {i z : Nat} {x : Int32} {kk : Int32 → Option (α × hf_M)} (hi : i < 5) (hl : hf_kv own z yJ0_charAt_5068e cJ0_charAt_5068e 2 (some .char) "java/lang/String" 1) (hdd : 5 ≤ d) (hrest : (st.map fun v => v.category).sum ≤ 8) (hd : decode cc pc = .ok (.invokevirtual z, 3)) (k : ∀ v, v = hf_chr i x.toNatClampNeg → hf_W g p l e d s m args below meth c n Qf M (pc + 3) L ((.int v :: st)) (kk v)) : hf_W g p l e d s m args below meth c n Qf M (pc) L ((.int x :: .ref (hf_aK g i) :: st)) (hf_ldCh i x kk) := by
  by_cases hin : x < 0 ∨ hf_wl.getD i 0 ≤ x.toNatClampNeg
  · unfold hf_ldCh hf_ix
    rw [if_pos hin]
    exact hr_none
  · have e1 : hf_ldCh i x kk = hf_bd (hf_bd (some ((1 : Int32), M)) (fun _ M => hf_bd (some (hf_chr i x.toNatClampNeg, M)) (fun v M => some (v, M)))) (fun v _ => kk v) := by
      unfold hf_ldCh hf_ix
      rw [if_neg hin]
      rfl
    rw [e1]
    exact hr_ctI X [.int x] st (c_J0_charAt hi x M hin) hl rfl rfl rfl hi (by omega) hrest hd (fun r M1 hr => by cases hr; exact k _ rfl)
end HU
