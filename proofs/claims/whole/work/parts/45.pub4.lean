/-! Pure mathematics: the public answers, fourth lot: one, as, untell. -/
theorem pu_comm {P : zP} {w i x w' i' x' : Nat} (h : w ≠ w') : pu (pu P w i x) w' i' x' = pu (pu P w' i' x') w i x := by
  funext a c
  unfold pu
  by_cases q : a = w' ∧ c = i'
  · rw [if_pos q, if_neg (by omega), if_pos q]
  · rw [if_neg q, if_neg q]
theorem PI_row {P : zP} (hP : PI P) {i w x : Nat} (h : (w = 0 ∧ x ≤ 6) ∨ (w = 1 ∧ x ≤ 9) ∨ (w = 2 ∧ x ≤ 8 ∧ P 7 0 ≤ i)) : PI (pu P w i x) := by
  obtain ⟨h1, h2, h3, h4, h5, h6⟩ := hP
  have e : ∀ a j, a ≠ w → pu P w i x a j = P a j := fun a j ha => pu_w ha
  refine ⟨by rw [e _ _ (by omega)]; exact h1, by rw [e _ _ (by omega)]; exact h2, by rw [e _ _ (by omega)]; exact h3, fun j hj => ?_, fun j hj => ?_, fun j hj => by rw [e _ _ (by omega)]; exact h6 j hj⟩
  · have := h4 j hj
    rcases h with ⟨q, r⟩ | ⟨q, r⟩ | ⟨q, r⟩ <;> subst q <;> unfold pu <;> by_cases e : j = i <;> simp [e] <;> (try subst e) <;> omega
  · rw [e _ _ (by omega)] at hj
    have := h5 j hj
    rcases h with ⟨q, r⟩ | ⟨q, r⟩ | ⟨q, r⟩
    · rw [e _ _ (by omega)]; exact this
    · rw [e _ _ (by omega)]; exact this
    · subst q
      rw [pu_i (by omega)]
      exact this
theorem PI_n {P : zP} (hP : PI P) (hn : P 7 0 < 8) (h2 : P 2 (P 7 0) ≤ P 7 0) : PI (pu P 7 0 (P 7 0 + 1)) := by
  obtain ⟨a1, a2, a3, a4, a5, a6⟩ := hP
  have e : ∀ a j, a ≠ 7 → pu P 7 0 (P 7 0 + 1) a j = P a j := fun a j ha => pu_w ha
  refine ⟨by rw [pu_s]; omega, by rw [pu_i (by omega)]; exact a2, by rw [pu_i (by omega)]; exact a3, fun j hj => ?_, fun j hj => ?_, fun j hj => by rw [e _ _ (by omega)]; exact a6 j hj⟩
  · rw [e 0 j (by omega), e 1 j (by omega), e 2 j (by omega), e 3 j (by omega), e 4 j (by omega), e 5 j (by omega)]
    exact a4 j hj
  · rw [pu_s] at hj
    rw [e 2 j (by omega)]
    by_cases q : j = P 7 0
    · rw [q]; exact h2
    · exact a5 j (by omega)
theorem M_inm {σ : zS} {P : zP} (h : VM σ P) (hP : PI P) {x : Int32} : (x = -1 ∨ thr P x → fM_in x (-1) ((σ 30 0 4) - 1) = some 1) ∧ (¬ (x = -1 ∨ thr P x) → fM_in x (-1) ((σ 30 0 4) - 1) = some 0) := by
  rw [thr_iff hP, i32_eq]
  have hn := hP.1
  unfold fM_in
  rw [h.2.2.1]
  have h0 : (-1 : Int32).toInt = -1 := by decide
  have hb := n_sub1t hn
  constructor
  · intro q
    rw [if_neg (by rw [i32_lt]; omega), if_neg (by rw [i32_lt]; omega)]
  · intro h
    by_cases q : x < -1
    · rw [if_pos q]
    · rw [if_neg q, if_pos]
      rw [i32_lt] at q ⊢
      omega
/-- the road with one more person -/
def sOne (P : zP) (k mc c s : Nat) : zP := pu (pu (pu (pu (pu (pu P 0 (P 7 0) (k / 10)) 1 (P 7 0) (k % 10)) 2 (P 7 0) mc) 3 (P 7 0) c) 5 (P 7 0) (if mc = 0 then 0 else s)) 4 (P 7 0) (sA (pu (pu (pu (pu (pu P 0 (P 7 0) (k / 10)) 1 (P 7 0) (k % 10)) 2 (P 7 0) mc) 3 (P 7 0) c) 5 (P 7 0) (if mc = 0 then 0 else s)) (P 7 0))
theorem sA_5 {P : zP} {w i x j : Nat} (hw : w ≠ 2 ∧ w ≠ 3) : sA (pu P w i x) j = sA P j := by
  unfold sA
  rw [pu_w (by omega), pu_w (by omega), pu_w (by omega)]
theorem P_one {σ : zS} (h : Core σ) (x1 x2 x3 x4 : Int32) : Pr σ (fA_one x1 x2 x3 x4) (fM_one x1 x2 x3 x4) := by
  obtain ⟨P, T, M, c⟩ := h
  obtain ⟨c1, c2, c3, c3', c4, c5, c6, c7, c8, c9, c10⟩ := c
  have c : CX σ P T M := ⟨c1, c2, c3, c3', c4, c5, c6, c7, c8, c9, c10⟩
  have hn := c3.1
  have a1 := A_within (x := x1) (B := 69) (by omega)
  have a3 := A_within (x := x3) (B := 63) (by omega)
  have a4 := A_within (x := x4) (B := 99) (by omega)
  have m1 := M_in (x := x1) (B := 69) (by omega)
  have m3 := M_in (x := x3) (B := 63) (by omega)
  have m4 := M_in (x := x4) (B := 99) (by omega)
  by_cases ok : wi x1 69 ∧ (x2 = -1 ∨ thr P x2) ∧ wi x3 63 ∧ wi x4 99
  · obtain ⟨q1, q2, q3, q4⟩ := ok
    have a1 : fA_within x1 69 = some 1 := a1.1 q1
    have a3 : fA_within x3 63 = some 1 := a3.1 q3
    have a4 : fA_within x4 99 = some 1 := a4.1 q4
    have m1 : fM_in x1 0 69 = some 1 := m1.1 q1
    have m3 : fM_in x3 0 63 = some 1 := m3.1 q3
    have m4 : fM_in x4 0 99 = some 1 := m4.1 q4
    have hA : fA_one x1 x2 x3 x4 σ = fA_one_J48 x1 x2 x3 x4 1 σ := by
      unfold fA_one fA_one_J24
      rw [a3, zbd_s, if_neg (by decide), a4, zbd_s, if_neg (by decide), a1, zbd_s, if_neg (by decide)]
      by_cases qm : x2 = -1
      · rw [if_pos qm]
      · have := (A_there c1 c3).1 (q2.resolve_left qm)
        rw [if_neg qm, this, zbd_s, if_neg (by decide)]
    by_cases q8 : P 7 0 = 8
    · refine Pr_err c (e := 4) (by omega) (by omega) ?_ ?_
      · rw [hA]
        unfold fA_one_J48
        have : ¬ (nI 8 < 8) := by decide
        rw [if_neg (by decide), c1.2.2.1, q8, if_neg this, zb2_id]
        rfl
      · unfold fM_one fM_isKm fM_isCell
        rw [m1, zbd_s, zgd_t (Or.inr rfl), zbd_s, if_neg (by decide), (M_inm (VM_26 c2) c3).1 q2, zbd_s, if_neg (by decide), m3, zbd_s, zgd_t (Or.inr rfl), zbd_s, if_neg (by decide), m4, zbd_s, if_neg (by decide), (VM_26 c2).2.2.1, q8, if_pos (by decide), zb2_id]
        rfl
    · have hn8 : P 7 0 < 8 := by omega
      obtain ⟨k, hk, rfl⟩ := q1
      obtain ⟨cl, hcl, rfl⟩ := q3
      obtain ⟨sp, hsp, rfl⟩ := q4
      have hm : nI k - nI k / 10 * 10 = nI (k % 10) := n_mod rfl (by omega) (by omega) (by omega)
      have hdv : nI k / 10 = nI (k / 10) := n_div (d := 10) (by omega) (by omega) (by omega)
      have hmc : ∃ mc, mc ≤ P 7 0 ∧ x2 = nO mc := by
        rcases q2 with q2 | ⟨j, hj, rfl⟩
        · exact ⟨0, by omega, q2⟩
        · exact ⟨j + 1, by omega, (nO_s j).symm⟩
      obtain ⟨mc, hmc, rfl⟩ := hmc
      -- the class
      have b0 : VC 0 (zup σ 14 0 (P 7 0) (nI (k / 10))) (pu P 0 (P 7 0) (k / 10)) := VC_u 0 c1 (by omega) rfl
      have b1 : VC 0 (zup (zup σ 14 0 (P 7 0) (nI (k / 10))) 15 0 (P 7 0) (nI (k % 10))) (pu (pu P 0 (P 7 0) (k / 10)) 1 (P 7 0) (k % 10)) := VC_u 1 b0 (by omega) rfl
      have b2 : VC 0 (zup (zup (zup σ 14 0 (P 7 0) (nI (k / 10))) 15 0 (P 7 0) (nI (k % 10))) 17 0 (P 7 0) (nI cl)) (pu (pu (pu P 0 (P 7 0) (k / 10)) 1 (P 7 0) (k % 10)) 3 (P 7 0) cl) := VC_u 3 b1 (by omega) rfl
      have b3 : VC 0 (zup (zup (zup (zup σ 14 0 (P 7 0) (nI (k / 10))) 15 0 (P 7 0) (nI (k % 10))) 17 0 (P 7 0) (nI cl)) 16 0 (P 7 0) (nO mc)) (pu (pu (pu (pu P 0 (P 7 0) (k / 10)) 1 (P 7 0) (k % 10)) 2 (P 7 0) mc) 3 (P 7 0) cl) := by
        rw [pu_comm (w := 2) (w' := 3) (by omega)]
        exact VC_u 2 b2 (by omega) rfl
      have f3 : FC 0 σ (zup (zup (zup (zup σ 14 0 (P 7 0) (nI (k / 10))) 15 0 (P 7 0) (nI (k % 10))) 17 0 (P 7 0) (nI cl)) 16 0 (P 7 0) (nO mc)) := FC_t (FC_t (FC_t (FC_u (by omega)) (FC_u (by omega))) (FC_u (by omega))) (FC_u (by omega))
      have hR : ∀ x4, fR_add 0 (nI k) (nO mc) (nI cl) x4 σ = (if nO mc < 0 then fR_add_J60 0 (nI (P 7 0)) 0 (nI (P 7 0)) (zup (zup (zup (zup σ 14 0 (P 7 0) (nI (k / 10))) 15 0 (P 7 0) (nI (k % 10))) 17 0 (P 7 0) (nI cl)) 16 0 (P 7 0) (nO mc)) else fR_add_J60 0 (nI (P 7 0)) x4 (nI (P 7 0)) (zup (zup (zup (zup σ 14 0 (P 7 0) (nI (k / 10))) 15 0 (P 7 0) (nI (k % 10))) 17 0 (P 7 0) (nI cl)) 16 0 (P 7 0) (nO mc))) := by
        intro x4
        unfold fR_add
        rw [c1.2.2.1, hm, hdv]
        simp (disch := omega) only [zlt_eq, zgd_T, zin_T, zb2_s, zbd_s, n_cl, n_sub1, n_predm, n_sc, if_nle, if_nle0, if_nle1, if_le, if_true, if_false]
      have pI : PI (pu (pu (pu (pu P 0 (P 7 0) (k / 10)) 1 (P 7 0) (k % 10)) 2 (P 7 0) mc) 3 (P 7 0) cl) := PI_w (PI_row (PI_row (PI_row c3 (by omega)) (by omega)) (Or.inr (Or.inr ⟨rfl, by omega, by rw [pu_w (by omega), pu_w (by omega)]; omega⟩))) (by omega)
      have hsp' : (if mc = 0 then 0 else sp) ≤ 99 := by split <;> omega
      sorry
  · sorry
