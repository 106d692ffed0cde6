/-! the reference's town -/
def GZ (k j : Nat) : Prop := Gv k j ∨ k = 65 ∨ (k = 67 ∧ j = 0) ∨ (k = 49 ∧ (j = 8 ∨ j = 25 ∨ j = 27))
theorem r_town {T : Nat → Int32} {z s : Nat} {υ : hU} {N : hf_M} (hR : yRf N) (hr : rU υ N) (hu : uWF υ) (hs : s < 8) (hz : z ≤ 160) (hw : s_X5_wants 49 (nI s) N = some (0, N)) (h59 : N.1 59 s = nI z) (hT : ∀ i, i < z → (N.2.1 61 (160 * s + i)).toInt32 = T i) (hWo : iWo N) : match yRd T z υ with
    | .inl e => ∃ L, s_X5_town 49 (nI s) N = some (-6, bR 6 L) ∧ gG GZ N L ∧ rU υ L ∧ L.1 49 8 = nI e
    | .inr q => ∃ L, s_X5_town 49 (nI s) N = some (nI q.2, L) ∧ gG GZ N L ∧ rU q.1 L ∧ L.1 49 8 = -1 ∧ uWF q.1 := by
  have hS := hu.2.1
  have hP := hu.1.1.2.1
  obtain ⟨A, a1, a2, a3⟩ := r_store hR hr (by omega) hP (c := 65) (w := 0) (Or.inl ⟨rfl, rfl⟩)
  have hRA : yRf A := gG_rf a3 hR
  have rA : rU υ A := rU_ag (ag_g a3 (fun k j hk hn => by unfold Zr at hk; omega)) hr
  have l59 : s < hf_len 59 := hs
  obtain ⟨B, hB⟩ : ∃ B, B = hf_sI (hf_sI (hf_sI (hf_sI A 49 25 (nI (160 * s))) 49 26 0) 49 27 (nI z)) 49 8 (-1) := ⟨_, rfl⟩
  have gB : gG (fun k j => k = 49 ∧ (j = 8 ∨ j = 25 ∨ j = 26 ∨ j = 27)) A B := by
    subst hB
    exact gG_tr (gG_tr (gG_tr (gG_I (by omega)) (gG_I (by omega))) (gG_I (by omega))) (gG_I (by omega))
  have hRB := gG_rf gB hRA
  have rB : rU υ B := rU_ag (ag_g gB (fun k j hk hn => by unfold Zr at hk; omega)) rA
  have X : vX T z s B := ⟨hRB, hs, hz, by subst hB; rw [gI (by omega), gI (by omega), gI (by omega), gI0], by subst hB; rw [gI (by omega), gI0], fun i hi => by rw [(gB.2 61 (160 * s + i) (by omega)).2, (a3.2 61 (160 * s + i) (by omega)).2]; exact hT i hi, fun j => by rw [(gB.2 63 j (by omega)).1, (a3.2 63 j (by omega)).1]; exact hWo j⟩
  have rd := r_read X hu (by subst hB; rw [gI (by omega), gI (by omega), gI0]) rB
  have h8 : B.1 49 8 = -1 := by subst hB; exact gI0
  have a1' : s_X5_all 49 65 0 0 N = some ((), A) := a1
  have et : ∀ {y}, hf_bd (s_X5_item 49 B) (fun r12 M13 => s_X5_town_63 49 2000 1 r12 M13) = y → s_X5_town 49 (nI s) N = y := by
    intro y hy
    unfold s_X5_town
    rw [hw, qb1, if_pos rfl, yrf_49 hR (j := 30) rfl, qrs, a1', qb1, qpt, qpt, show (160 : Int32) = nI 160 from rfl, pk_mul]
    show hf_rf (A.2.2 49 19) _ = _
    rw [yrf_49 hRA (j := 19) rfl, qrs, qlI _ l59, gI (by omega), gI (by omega), (a3.2 59 s (by omega)).1, h59, qpt, qpt, ← hB]
    exact hy
  have gAB : gG GZ N B := gG_tr (gG_mono a3 (fun k j hk => by unfold GZ; omega)) (gG_mono gB (fun k j hk => by unfold GZ Gv; omega))
  cases hd : yRd T z υ with
  | inl e =>
    rw [hd] at rd
    obtain ⟨L, v3, fu, l1, l2, l3⟩ := rd
    have hk : kU 65 0 υ L := kU_ag (M := A) (fun j => by rw [(l2.2 65 j (by unfold Gv GrT; omega)).1, (gB.2 65 j (by omega)).1]) (by rw [(l2.2 67 0 (by unfold Gv GrT; omega)).2, (gB.2 67 0 (by omega)).2]) a2
    have hRL := gG_rf l2 hRB
    obtain ⟨C, c1, c2, c3⟩ := r_back hRL (by omega) hP (c := 65) (w := 0) (Or.inl ⟨rfl, rfl⟩) hk
    have c1' : s_X5_all 49 65 0 1 L = some ((), C) := c1
    have hRC := gG_rf c3 hRL
    have e29 : C.1 49 29 = nI e := by rw [(c3.2 49 29 (by unfold GrT; omega)).1]; exact l3
    refine ⟨hf_sI C 49 8 (nI e), et ?_, gG_tr gAB (gG_tr (gG_mono l2 (fun k j hk => Or.inl hk)) (gG_tr (gG_mono c3 (fun k j hk => Or.inl (Or.inl hk))) (gG_I (by unfold GZ; omega)))), rU_ag (M := C) (N := hf_sI C 49 8 (nI e)) (fun k i hk => ⟨by unfold Zr at hk; rw [gI (by omega)], rfl⟩) c2, gI0⟩
    rw [l1, s_X5_town_63, if_pos rfl, if_pos rfl, yrf_49 hRL (j := 30) rfl, qrs, c1', qb1, qpt, e29, r_no (M := hf_sI C 49 8 (nI e)) hRC (j := 6) rfl (by decide), qb1]
  | inr q =>
    rw [hd] at rd
    obtain ⟨L, l1, l2, l3, l4⟩ := rd
    refine ⟨L, et l1, gG_tr gAB (gG_mono l2 (fun k j hk => Or.inl hk)), l3, ?_, l4⟩
    rw [(l2.2 49 8 (by unfold Gv GrT; omega)).1]; exact h8
