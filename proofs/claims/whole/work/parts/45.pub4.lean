/-! Pure mathematics: the public answers, fourth lot: one, as, untell. -/
theorem pu_comm {P : zP} {w i x w' i' x' : Nat} (h : w ≠ w') : pu (pu P w i x) w' i' x' = pu (pu P w' i' x') w i x := by
  funext a c
  unfold pu
  by_cases q : a = w' ∧ c = i'
  · rw [if_pos q, if_neg (by omega), if_pos q]
  · rw [if_neg q, if_neg q]
theorem PI_row {P : zP} (hP : PI P) {i w x : Nat} (h : (w = 0 ∧ x ≤ 6) ∨ (w = 1 ∧ x ≤ 9) ∨ (w = 2 ∧ x ≤ 8 ∧ P 7 0 ≤ i)) : PI (pu P w i x) := by
  obtain ⟨h1, h2, h3, h4, h5, h6⟩ := hP
  have e : ∀ a j, a ≠ w → pu P w i x a j = P a j := fun a j ha => pu_w ha
  refine ⟨by rw [e _ _ (by omega)]; exact h1, by rw [e _ _ (by omega)]; exact h2, by rw [e _ _ (by omega)]; exact h3, fun j hj => ?_, fun j hj => ?_, fun j hj => by rw [e _ _ (by omega)]; exact h6 j hj⟩
  · have := h4 j hj
    rcases h with ⟨q, r⟩ | ⟨q, r⟩ | ⟨q, r⟩ <;> subst q <;> unfold pu <;> by_cases e : j = i <;> simp [e] <;> (try subst e) <;> omega
  · rw [e _ _ (by omega)] at hj
    have := h5 j hj
    rcases h with ⟨q, r⟩ | ⟨q, r⟩ | ⟨q, r⟩
    · rw [e _ _ (by omega)]; exact this
    · rw [e _ _ (by omega)]; exact this
    · subst q
      rw [pu_i (by omega)]
      exact this
theorem PI_n {P : zP} (hP : PI P) (hn : P 7 0 < 8) (h2 : P 2 (P 7 0) ≤ P 7 0) : PI (pu P 7 0 (P 7 0 + 1)) := by
  obtain ⟨a1, a2, a3, a4, a5, a6⟩ := hP
  have e : ∀ a j, a ≠ 7 → pu P 7 0 (P 7 0 + 1) a j = P a j := fun a j ha => pu_w ha
  refine ⟨by rw [pu_s]; omega, by rw [pu_i (by omega)]; exact a2, by rw [pu_i (by omega)]; exact a3, fun j hj => ?_, fun j hj => ?_, fun j hj => by rw [e _ _ (by omega)]; exact a6 j hj⟩
  · rw [e 0 j (by omega), e 1 j (by omega), e 2 j (by omega), e 3 j (by omega), e 4 j (by omega), e 5 j (by omega)]
    exact a4 j hj
  · rw [pu_s] at hj
    rw [e 2 j (by omega)]
    by_cases q : j = P 7 0
    · rw [q]; exact h2
    · exact a5 j (by omega)
theorem M_inm {σ : zS} {P : zP} (h : VM σ P) (hP : PI P) {x : Int32} : (x = -1 ∨ thr P x → fM_in x (-1) ((σ 30 0 4) - 1) = some 1) ∧ (¬ (x = -1 ∨ thr P x) → fM_in x (-1) ((σ 30 0 4) - 1) = some 0) := by
  rw [thr_iff hP, i32_eq]
  have hn := hP.1
  unfold fM_in
  rw [h.2.2.1]
  have h0 : (-1 : Int32).toInt = -1 := by decide
  have hb := n_sub1t hn
  constructor
  · intro q
    rw [if_neg (by rw [i32_lt]; omega), if_neg (by rw [i32_lt]; omega)]
  · intro h
    by_cases q : x < -1
    · rw [if_pos q]
    · rw [if_neg q, if_pos]
      rw [i32_lt] at q ⊢
      omega
/-- the road with one more person -/
def sOne (P : zP) (k mc c s : Nat) : zP := pu (pu (pu (pu (pu (pu P 0 (P 7 0) (k / 10)) 1 (P 7 0) (k % 10)) 2 (P 7 0) mc) 3 (P 7 0) c) 5 (P 7 0) (if mc = 0 then 0 else s)) 4 (P 7 0) (sA (pu (pu (pu (pu (pu P 0 (P 7 0) (k / 10)) 1 (P 7 0) (k % 10)) 2 (P 7 0) mc) 3 (P 7 0) c) 5 (P 7 0) (if mc = 0 then 0 else s)) (P 7 0))
theorem sA_5 {P : zP} {w i x j : Nat} (hw : w ≠ 2 ∧ w ≠ 3) : sA (pu P w i x) j = sA P j := by
  unfold sA
  rw [pu_w (by omega), pu_w (by omega), pu_w (by omega)]
theorem P_one {σ : zS} (h : Core σ) (x1 x2 x3 x4 : Int32) : Pr σ (fA_one x1 x2 x3 x4) (fM_one x1 x2 x3 x4) := by
  obtain ⟨P, T, M, c⟩ := h
  obtain ⟨c1, c2, c3, c3', c4, c5, c6, c7, c8, c9, c10⟩ := c
  have c : CX σ P T M := ⟨c1, c2, c3, c3', c4, c5, c6, c7, c8, c9, c10⟩
  have hn := c3.1
  have a1 := A_within (x := x1) (B := 69) (by omega)
  have a3 := A_within (x := x3) (B := 63) (by omega)
  have a4 := A_within (x := x4) (B := 99) (by omega)
  have m1 := M_in (x := x1) (B := 69) (by omega)
  have m3 := M_in (x := x3) (B := 63) (by omega)
  have m4 := M_in (x := x4) (B := 99) (by omega)
  by_cases ok : wi x1 69 ∧ (x2 = -1 ∨ thr P x2) ∧ wi x3 63 ∧ wi x4 99
  · obtain ⟨q1, q2, q3, q4⟩ := ok
    have a1 : fA_within x1 69 = some 1 := a1.1 q1
    have a3 : fA_within x3 63 = some 1 := a3.1 q3
    have a4 : fA_within x4 99 = some 1 := a4.1 q4
    have m1 : fM_in x1 0 69 = some 1 := m1.1 q1
    have m3 : fM_in x3 0 63 = some 1 := m3.1 q3
    have m4 : fM_in x4 0 99 = some 1 := m4.1 q4
    have hA : fA_one x1 x2 x3 x4 σ = fA_one_J48 x1 x2 x3 x4 1 σ := by
      unfold fA_one fA_one_J24
      rw [a3, zbd_s, if_neg (by decide), a4, zbd_s, if_neg (by decide), a1, zbd_s, if_neg (by decide)]
      by_cases qm : x2 = -1
      · rw [if_pos qm]
      · have := (A_there c1 c3).1 (q2.resolve_left qm)
        rw [if_neg qm, this, zbd_s, if_neg (by decide)]
    by_cases q8 : P 7 0 = 8
    · refine Pr_err c (e := 4) (by omega) (by omega) ?_ ?_
      · rw [hA]
        unfold fA_one_J48
        have : ¬ (nI 8 < 8) := by decide
        rw [if_neg (by decide), c1.2.2.1, q8, if_neg this, zb2_id]
        rfl
      · unfold fM_one fM_isKm fM_isCell
        rw [m1, zbd_s, zgd_t (Or.inr rfl), zbd_s, if_neg (by decide), (M_inm (VM_26 c2) c3).1 q2, zbd_s, if_neg (by decide), m3, zbd_s, zgd_t (Or.inr rfl), zbd_s, if_neg (by decide), m4, zbd_s, if_neg (by decide), (VM_26 c2).2.2.1, q8, if_pos (by decide), zb2_id]
        rfl
    · have hn8 : P 7 0 < 8 := by omega
      obtain ⟨k, hk, rfl⟩ := q1
      obtain ⟨cl, hcl, rfl⟩ := q3
      obtain ⟨sp, hsp, rfl⟩ := q4
      have hm : nI k - nI k / 10 * 10 = nI (k % 10) := n_mod rfl (by omega) (by omega) (by omega)
      have hdv : nI k / 10 = nI (k / 10) := n_div (d := 10) (by omega) (by omega) (by omega)
      have hmc : ∃ mc, mc ≤ P 7 0 ∧ x2 = nO mc := by
        rcases q2 with q2 | ⟨j, hj, rfl⟩
        · exact ⟨0, by omega, q2⟩
        · exact ⟨j + 1, by omega, (nO_s j).symm⟩
      obtain ⟨mc, hmc, rfl⟩ := hmc
      -- the class
      have b0 : VC 0 (zup σ 14 0 (P 7 0) (nI (k / 10))) (pu P 0 (P 7 0) (k / 10)) := VC_u 0 c1 (by omega) rfl
      have b1 : VC 0 (zup (zup σ 14 0 (P 7 0) (nI (k / 10))) 15 0 (P 7 0) (nI (k % 10))) (pu (pu P 0 (P 7 0) (k / 10)) 1 (P 7 0) (k % 10)) := VC_u 1 b0 (by omega) rfl
      have b2 : VC 0 (zup (zup (zup σ 14 0 (P 7 0) (nI (k / 10))) 15 0 (P 7 0) (nI (k % 10))) 17 0 (P 7 0) (nI cl)) (pu (pu (pu P 0 (P 7 0) (k / 10)) 1 (P 7 0) (k % 10)) 3 (P 7 0) cl) := VC_u 3 b1 (by omega) rfl
      have b3 : VC 0 (zup (zup (zup (zup σ 14 0 (P 7 0) (nI (k / 10))) 15 0 (P 7 0) (nI (k % 10))) 17 0 (P 7 0) (nI cl)) 16 0 (P 7 0) (nO mc)) (pu (pu (pu (pu P 0 (P 7 0) (k / 10)) 1 (P 7 0) (k % 10)) 2 (P 7 0) mc) 3 (P 7 0) cl) := by
        rw [pu_comm (w := 2) (w' := 3) (by omega)]
        exact VC_u 2 b2 (by omega) rfl
      have f3 : FC 0 σ (zup (zup (zup (zup σ 14 0 (P 7 0) (nI (k / 10))) 15 0 (P 7 0) (nI (k % 10))) 17 0 (P 7 0) (nI cl)) 16 0 (P 7 0) (nO mc)) := FC_t (FC_t (FC_t (FC_u (by omega)) (FC_u (by omega))) (FC_u (by omega))) (FC_u (by omega))
      have hR : ∀ x4, fR_add 0 (nI k) (nO mc) (nI cl) x4 σ = (if nO mc < 0 then fR_add_J60 0 (nI (P 7 0)) 0 (nI (P 7 0)) (zup (zup (zup (zup σ 14 0 (P 7 0) (nI (k / 10))) 15 0 (P 7 0) (nI (k % 10))) 17 0 (P 7 0) (nI cl)) 16 0 (P 7 0) (nO mc)) else fR_add_J60 0 (nI (P 7 0)) x4 (nI (P 7 0)) (zup (zup (zup (zup σ 14 0 (P 7 0) (nI (k / 10))) 15 0 (P 7 0) (nI (k % 10))) 17 0 (P 7 0) (nI cl)) 16 0 (P 7 0) (nO mc))) := by
        intro x4
        unfold fR_add
        rw [c1.2.2.1, hm, hdv]
        simp (disch := omega) only [zlt_eq, zgd_T, zin_T, zb2_s, zbd_s, n_cl, n_sub1, n_predm, n_sc, if_nle, if_nle0, if_nle1, if_le, if_true, if_false]
      have pI : PI (pu (pu (pu (pu P 0 (P 7 0) (k / 10)) 1 (P 7 0) (k % 10)) 2 (P 7 0) mc) 3 (P 7 0) cl) := PI_w (PI_row (PI_row (PI_row c3 (by omega)) (by omega)) (Or.inr (Or.inr ⟨rfl, by omega, by rw [pu_w (by omega), pu_w (by omega)]; omega⟩))) (by omega)
      have e70 : (pu (pu (pu (pu P 0 (P 7 0) (k / 10)) 1 (P 7 0) (k % 10)) 2 (P 7 0) mc) 3 (P 7 0) cl) 7 0 = P 7 0 := by rw [pu_w (by omega), pu_w (by omega), pu_w (by omega), pu_w (by omega)]
      have e71 : (pu (pu (pu (pu P 0 (P 7 0) (k / 10)) 1 (P 7 0) (k % 10)) 2 (P 7 0) mc) 3 (P 7 0) cl) 7 1 = P 7 1 := by rw [pu_w (by omega), pu_w (by omega), pu_w (by omega), pu_w (by omega)]
      have e2n : (pu (pu (pu (pu P 0 (P 7 0) (k / 10)) 1 (P 7 0) (k % 10)) 2 (P 7 0) mc) 3 (P 7 0) cl) 2 (P 7 0) = mc := by rw [pu_w (by omega), pu_s]
      have hVM : ∀ s, VM s P → VM (zup (zup (zup (zup s 30 0 (12 + 6 * (P 7 0) + 0) (nI (k / 10))) 30 0 (12 + 6 * (P 7 0) + 1) (nI (k % 10))) 30 0 (12 + 6 * (P 7 0) + 2) (nO mc)) 30 0 (12 + 6 * (P 7 0) + 3) (nI cl)) (pu (pu (pu (pu P 0 (P 7 0) (k / 10)) 1 (P 7 0) (k % 10)) 2 (P 7 0) mc) 3 (P 7 0) cl) := fun s hs => VM_u 3 (VM_u 2 (VM_u 1 (VM_u 0 hs (by omega) hn8 rfl) (by omega) hn8 rfl) (by omega) hn8 rfl) (by omega) hn8 rfl
      have e2o : ∀ i, i ≠ P 7 0 → (pu (pu (pu (pu P 0 (P 7 0) (k / 10)) 1 (P 7 0) (k % 10)) 2 (P 7 0) mc) 3 (P 7 0) cl) 2 i = P 2 i := fun i hi => by rw [pu_w (by omega), pu_i hi, pu_w (by omega), pu_w (by omega)]
      have e5o : ∀ i, (pu (pu (pu (pu P 0 (P 7 0) (k / 10)) 1 (P 7 0) (k % 10)) 2 (P 7 0) mc) 3 (P 7 0) cl) 5 i = P 5 i := fun i => by rw [pu_w (by omega), pu_w (by omega), pu_w (by omega), pu_w (by omega)]
      generalize (pu (pu (pu (pu P 0 (P 7 0) (k / 10)) 1 (P 7 0) (k % 10)) 2 (P 7 0) mc) 3 (P 7 0) cl) = P3 at pI b3 e70 e71 e2n hVM e2o e5o
      generalize (zup (zup (zup (zup σ 14 0 (P 7 0) (nI (k / 10))) 15 0 (P 7 0) (nI (k % 10))) 17 0 (P 7 0) (nI cl)) 16 0 (P 7 0) (nO mc)) = s3 at b3 f3 hR
      have fin : ∀ (v : Nat) (x4 : Int32), v ≤ 99 → (v = if mc = 0 then 0 else sp) → fR_add 0 (nI k) (nO mc) (nI cl) x4 σ = fR_add_J60 0 (nI (P 7 0)) (nI v) (nI (P 7 0)) s3 → x4 = nI sp → Pr σ (fA_one (nI k) (nO mc) (nI cl) x4) (fM_one (nI k) (nO mc) (nI cl) x4) := by
        intro v x4 hv hvv hadd hx4
        subst hx4
        have g5 : VC 0 (zup s3 19 0 (P 7 0) (nI v)) (pu P3 5 (P 7 0) v) := VC_u 5 b3 (by omega) rfl
        have p5 : PI (pu P3 5 (P 7 0) v) := PI_w pI (by omega)
        have hsA := sA_le p5 hn8
        have pj : PJ (pu P3 5 (P 7 0) v) := by
          intro j hj
          rw [pu_w (by omega)] at hj
          unfold pu
          by_cases qj : j = P 7 0
          · rw [if_pos ⟨rfl, qj⟩]
            rw [qj, e2n] at hj
            rw [hvv, if_pos hj]
          · rw [if_neg (fun r => qj r.2), e5o]
            rw [e2o j qj] at hj
            exact c3'.2 j hj
        have rA := R_apart g5 p5 hn8
        have g4 := VC_u (i := P 7 0) (x := sA (pu P3 5 (P 7 0) v) (P 7 0)) (v := nI (sA (pu P3 5 (P 7 0) v) (P 7 0))) 4 g5 (by omega) rfl
        have p4 : PI (pu (pu P3 5 (P 7 0) v) 4 (P 7 0) (sA (pu P3 5 (P 7 0) v) (P 7 0))) := PI_w p5 (by omega)
        have q70 : (pu (pu P3 5 (P 7 0) v) 4 (P 7 0) (sA (pu P3 5 (P 7 0) v) (P 7 0))) 7 0 = P 7 0 := by rw [pu_w (by omega), pu_w (by omega)]; exact e70
        have q71 : (pu (pu P3 5 (P 7 0) v) 4 (P 7 0) (sA (pu P3 5 (P 7 0) v) (P 7 0))) 7 1 = P 7 1 := by rw [pu_w (by omega), pu_w (by omega)]; exact e71
        have q2n : (pu (pu P3 5 (P 7 0) v) 4 (P 7 0) (sA (pu P3 5 (P 7 0) v) (P 7 0))) 2 (P 7 0) = mc := by rw [pu_w (by omega), pu_w (by omega)]; exact e2n
        have g7 := VC_7 (x := P 7 0 + 1) 0 g4 (by omega)
        have p7 : PI (pu (pu (pu P3 5 (P 7 0) v) 4 (P 7 0) (sA (pu P3 5 (P 7 0) v) (P 7 0))) 7 0 (P 7 0 + 1)) := by
          have := PI_n p4 (by omega) (by rw [q70, q2n]; exact hmc)
          rw [q70] at this
          exact this
        have f9 : FC 0 σ (zup (zup (zup s3 19 0 (P 7 0) (nI v)) 18 0 (P 7 0) (nI (sA (pu P3 5 (P 7 0) v) (P 7 0)))) 2 0 (9 + 0) (nI (P 7 0 + 1))) := FC_t f3 (FC_t (FC_t (FC_u (by omega)) (FC_u (by omega))) (FC_u (by omega)))
        have v9 := VM_C c2 f9
        have hcls : fA_one (nI k) (nO mc) (nI cl) (nI sp) σ = some (nI (P 7 0), zup (zup (zup s3 19 0 (P 7 0) (nI v)) 18 0 (P 7 0) (nI (sA (pu P3 5 (P 7 0) v) (P 7 0)))) 2 0 (9 + 0) (nI (P 7 0 + 1))) := by
          have hlt : nI (P 7 0) < 8 := (nI_ltI (b := 8) (by omega) (by omega)).mpr hn8
          have h9 := g4.2.2.1
          rw [q70] at h9
          rw [hA]
          unfold fA_one_J48
          rw [if_neg (by decide), c1.2.2.1, if_pos hlt, hadd, zb2_id]
          unfold fR_add_J60
          simp (disch := omega) only [zlt_eq, zgd_T, zin_T, zb2_s, zbd_s, n_cl, n_sub1, n_predm, n_sc, if_nle, if_nle0, if_nle1, if_le, if_true, if_false, rA]
          rw [h9, n_sc]
        generalize (zup (zup (zup s3 19 0 (P 7 0) (nI v)) 18 0 (P 7 0) (nI (sA (pu P3 5 (P 7 0) v) (P 7 0)))) 2 0 (9 + 0) (nI (P 7 0 + 1))) = s9 at g7 f9 v9 hcls
        have w3 := hVM s9 v9
        have l0' : ∀ v s, fM_lays1 (nI (P 7 0)) 0 v s = some (zup s 30 0 (12 + 6 * (P 7 0) + 0) v) := fun v s => M_lays 0 (by omega) hn8
        have l1' : ∀ v s, fM_lays1 (nI (P 7 0)) 1 v s = some (zup s 30 0 (12 + 6 * (P 7 0) + 1) v) := fun v s => M_lays 1 (by omega) hn8
        have l2' : ∀ v s, fM_lays1 (nI (P 7 0)) 2 v s = some (zup s 30 0 (12 + 6 * (P 7 0) + 2) v) := fun v s => M_lays 2 (by omega) hn8
        have l3' : ∀ v s, fM_lays1 (nI (P 7 0)) 3 v s = some (zup s 30 0 (12 + 6 * (P 7 0) + 3) v) := fun v s => M_lays 3 (by omega) hn8
        have l4' : ∀ v s, fM_lays1 (nI (P 7 0)) 4 v s = some (zup s 30 0 (12 + 6 * (P 7 0) + 4) v) := fun v s => M_lays 4 (by omega) hn8
        have l5' : ∀ v s, fM_lays1 (nI (P 7 0)) 5 v s = some (zup s 30 0 (12 + 6 * (P 7 0) + 5) v) := fun v s => M_lays 5 (by omega) hn8
        have fw : FM s9 (zup (zup (zup (zup s9 30 0 (12 + 6 * (P 7 0) + 0) (nI (k / 10))) 30 0 (12 + 6 * (P 7 0) + 1) (nI (k % 10))) 30 0 (12 + 6 * (P 7 0) + 2) (nO mc)) 30 0 (12 + 6 * (P 7 0) + 3) (nI cl)) := FM_t (FM_t (FM_t (FM_u (by omega)) (FM_u (by omega))) (FM_u (by omega))) (FM_u (by omega))
        have hmod : fM_one (nI k) (nO mc) (nI cl) (nI sp) s9 = (fM_apartOf (nI (P 7 0)) (zup (zup (zup (zup s9 30 0 (12 + 6 * (P 7 0) + 0) (nI (k / 10))) 30 0 (12 + 6 * (P 7 0) + 1) (nI (k % 10))) 30 0 (12 + 6 * (P 7 0) + 2) (nO mc)) 30 0 (12 + 6 * (P 7 0) + 3) (nI cl))).bind fun r27 => (fM_lays1 (nI (P 7 0)) 4 r27 (zup (zup (zup (zup s9 30 0 (12 + 6 * (P 7 0) + 0) (nI (k / 10))) 30 0 (12 + 6 * (P 7 0) + 1) (nI (k % 10))) 30 0 (12 + 6 * (P 7 0) + 2) (nO mc)) 30 0 (12 + 6 * (P 7 0) + 3) (nI cl))).bind fun s29 => (if 0 ≤ nO mc then fM_one_J137 (nI (P 7 0)) (nI sp) 5 (nI (P 7 0)) s29 else fM_one_J137 (nI (P 7 0)) 0 5 (nI (P 7 0)) s29) := by
          have h8' : ¬ (nI (P 7 0) = 8) := fun r => q8 ((nI_eq (a := P 7 0) (b := 8) (by omega) (by omega)).mp r)
          unfold fM_one fM_isKm fM_isCell
          rw [m1, zbd_s, zgd_t (Or.inr rfl), zbd_s, if_neg (by decide), (M_inm v9 c3).1 q2, zbd_s, if_neg (by decide), m3, zbd_s, zgd_t (Or.inr rfl), zbd_s, if_neg (by decide), m4, zbd_s, if_neg (by decide), v9.2.2.1, if_neg h8', zlt_eq, hm, hdv, l0', zbd_s, l1', zbd_s, l2', zbd_s, l3', zbd_s]
        generalize (zup (zup (zup (zup s9 30 0 (12 + 6 * (P 7 0) + 0) (nI (k / 10))) 30 0 (12 + 6 * (P 7 0) + 1) (nI (k % 10))) 30 0 (12 + 6 * (P 7 0) + 2) (nO mc)) 30 0 (12 + 6 * (P 7 0) + 3) (nI cl)) = t3 at w3 fw hmod
        have hAA : sA P3 (P 7 0) = sA (pu P3 5 (P 7 0) v) (P 7 0) := (sA_5 (by omega)).symm
        have w4 := VM_u (x := sA (pu P3 5 (P 7 0) v) (P 7 0)) (v := nI (sA (pu P3 5 (P 7 0) v) (P 7 0))) 4 w3 (by omega) hn8 rfl
        have w5 := VM_u (x := v) (v := nI v) 5 w4 (by omega) hn8 rfl
        rw [pu_comm (w := 4) (w' := 5) (by omega)] at w5
        have w7 := VM_7 (x := P 7 0 + 1) 0 w5 (k' := 4) (by omega)
        have h30 := w5.2.2.1
        rw [q70] at h30
        refine Pr_move c hcls (τ := zup (zup (zup t3 30 0 (12 + 6 * (P 7 0) + 4) (nI (sA (pu P3 5 (P 7 0) v) (P 7 0)))) 30 0 (12 + 6 * (P 7 0) + 5) (nI v)) 30 0 4 (nI (P 7 0 + 1))) ?_ f9 (FM_t fw (FM_t (FM_t (FM_u (by omega)) (FM_u (by omega))) (FM_u (by omega)))) g7 w7 p7 ⟨by rw [pu_i (by omega), q71]; exact c3'.1, PJ_w (PJ_w pj (by omega)) (by omega)⟩
        rw [hmod, M_apart w3 pI hn8, zbd_s, hAA, l4', zbd_s]
        have hJ : ∀ (u : Int32), u = nI v → fM_one_J137 (nI (P 7 0)) u 5 (nI (P 7 0)) (zup t3 30 0 (12 + 6 * (P 7 0) + 4) (nI (sA (pu P3 5 (P 7 0) v) (P 7 0)))) = some (nI (P 7 0), zup (zup (zup t3 30 0 (12 + 6 * (P 7 0) + 4) (nI (sA (pu P3 5 (P 7 0) v) (P 7 0)))) 30 0 (12 + 6 * (P 7 0) + 5) (nI v)) 30 0 4 (nI (P 7 0 + 1))) := by
          intro u hu
          unfold fM_one_J137
          rw [hu, l5', zbd_s, zlt_eq, h30, n_sc]
        by_cases z : mc = 0
        · have : ¬ (0 ≤ nO mc) := by rw [z]; decide
          rw [if_neg this]
          exact hJ 0 (by rw [hvv, if_pos z]; rfl)
        · have : 0 ≤ nO mc := by rw [l0, nO_le (by omega)]; exact z
          rw [if_pos this]
          exact hJ _ (by rw [hvv, if_neg z])
      by_cases z : mc = 0
      · refine fin 0 (nI sp) (by omega) (by rw [if_pos z]) ?_ rfl
        have : nO mc < 0 := by rw [z]; decide
        rw [hR, if_pos this]
        rfl
      · refine fin sp (nI sp) hsp (by rw [if_neg z]) ?_ rfl
        have : ¬ (nO mc < 0) := by rw [l0, nO_lt (by omega)]; exact z
        rw [hR, if_neg this]
  · refine Pr_err c (e := 1) (by omega) (by omega) ?_ ?_
    · have j53 : fA_one_J53 σ = fA_refuse (nI 1) σ := by unfold fA_one_J53; rw [zb2_id]; rfl
      have j0 : fA_one_J24 x1 x2 x3 x4 0 σ = fA_refuse (nI 1) σ := by
        unfold fA_one_J24
        have hJ : fA_one_J48 x1 x2 x3 x4 0 σ = fA_refuse (nI 1) σ := by unfold fA_one_J48; rw [if_pos rfl, j53]
        by_cases q1 : wi x1 69
        · have a1 : fA_within x1 69 = some 1 := a1.1 q1
          rw [a1, zbd_s, if_neg (by decide), hJ, j53]
          by_cases qm : x2 = -1
          · rw [if_pos qm]
          · rw [if_neg qm]
            by_cases qt : thr P x2
            · rw [(A_there c1 c3).1 qt, zbd_s, if_neg (by decide)]
            · rw [(A_there c1 c3).2 qt, zbd_s, if_pos rfl]
        · have a1 : fA_within x1 69 = some 0 := a1.2 q1
          rw [a1, zbd_s, if_pos rfl, j53]
      unfold fA_one fA_one_J23
      rw [j0]
      by_cases q3 : wi x3 63
      · have a3 : fA_within x3 63 = some 1 := a3.1 q3
        rw [a3, zbd_s, if_neg (by decide)]
        by_cases q4 : wi x4 99
        · have a4 : fA_within x4 99 = some 1 := a4.1 q4
          rw [a4, zbd_s, if_neg (by decide)]
          unfold fA_one_J24
          by_cases q1 : wi x1 69
          · have a1 : fA_within x1 69 = some 1 := a1.1 q1
            have q2 : ¬ (x2 = -1 ∨ thr P x2) := fun r => ok ⟨q1, r, q3, q4⟩
            rw [a1, zbd_s, if_neg (by decide), if_neg (fun r => q2 (Or.inl r)), (A_there c1 c3).2 (fun r => q2 (Or.inr r)), zbd_s, if_pos rfl, j53]
          · have a1 : fA_within x1 69 = some 0 := a1.2 q1
            rw [a1, zbd_s, if_pos rfl, j53]
        · have a4 : fA_within x4 99 = some 0 := a4.2 q4
          rw [a4, zbd_s, if_pos rfl]
      · have a3 : fA_within x3 63 = some 0 := a3.2 q3
        rw [a3, zbd_s, if_pos rfl]
    · have hv := VM_26 (e := 1) (v := σ 26 0 1 + 1) c2
      have j41 : fM_one_J41 (zup σ 26 0 1 (σ 26 0 1 + 1)) = fM_error (nI 1) (zup σ 26 0 1 (σ 26 0 1 + 1)) := by unfold fM_one_J41; rw [zb2_id]; rfl
      unfold fM_one fM_isKm fM_isCell
      by_cases q1 : wi x1 69
      · have m1 : fM_in x1 0 69 = some 1 := m1.1 q1
        rw [m1, zbd_s, zgd_t (Or.inr rfl), zbd_s, if_neg (by decide)]
        by_cases q2 : x2 = -1 ∨ thr P x2
        · rw [(M_inm hv c3).1 q2, zbd_s, if_neg (by decide)]
          by_cases q3 : wi x3 63
          · have m3 : fM_in x3 0 63 = some 1 := m3.1 q3
            rw [m3, zbd_s, zgd_t (Or.inr rfl), zbd_s, if_neg (by decide)]
            have m4 : fM_in x4 0 99 = some 0 := m4.2 (fun q4 => ok ⟨q1, q2, q3, q4⟩)
            rw [m4, zbd_s, if_pos rfl, j41]
          · have m3 : fM_in x3 0 63 = some 0 := m3.2 q3
            rw [m3, zbd_s, zgd_t (Or.inl rfl), zbd_s, if_pos rfl, j41]
        · rw [(M_inm hv c3).2 q2, zbd_s, if_pos rfl, j41]
      · have m1 : fM_in x1 0 69 = some 0 := m1.2 q1
        rw [m1, zbd_s, zgd_t (Or.inl rfl), zbd_s, if_pos rfl, j41]
/-- ABOVE, as the class has it -/
def RO (σ : zS) : Prop := σ 52 0 0 = -1 ∧ σ 52 0 1 = 0 ∧ σ 52 0 2 = 0 ∧ σ 52 0 3 = 0 ∧ σ 52 0 4 = 1 ∧ σ 52 0 5 = 2 ∧ σ 52 0 6 = 0
theorem V_st {N f : Nat} {σ : zS} {a b j : Nat} (ha : a < 7) (hb : b < 7) (hj : j ≤ 6) : fV_isUnder_L4 N (f + 1) (nI b) (nI a) (nI j) σ = if a = b then some 1 else fV_isUnder_L4 N f (nI b) (σ 52 0 a) (nI (j + 1)) σ := by
  have n1 : ¬ (6 < nI j) := fun q => absurd ((nI_ltI (a := 6) (by omega) (by omega)).mp q) (by omega)
  have n2 : ¬ (nI a < 0) := fun q => absurd ((nI_ltI (b := 0) (by omega) (by omega)).mp q) (by omega)
  rw [fV_isUnder_L4, if_neg n1, if_neg n2]
  by_cases q : a = b
  · rw [if_pos q, q, if_pos rfl]
  · rw [if_neg q, if_neg (fun r => q ((nI_eq (by omega) (by omega)).mp r))]
    simp (disch := omega) only [zlt_eq, zgd_T, zin_T, zb2_s, zbd_s, n_cl, n_sub1, n_predm, n_sc, if_nle, if_nle0, if_nle1, if_le, if_true, if_false]
theorem V_en {N f : Nat} {σ : zS} {b j : Nat} (hj : j ≤ 6) : fV_isUnder_L4 N (f + 1) (nI b) (-1) (nI j) σ = some 0 := by
  have n1 : ¬ (6 < nI j) := fun q => absurd ((nI_ltI (a := 6) (by omega) (by omega)).mp q) (by omega)
  rw [fV_isUnder_L4, if_neg n1, if_pos (by decide)]
theorem V_isUnder {N : Nat} (hN : 8 ≤ N) {σ : zS} (h : RO σ) {a b : Nat} (ha : a ≤ 6) (hb : b ≤ 6) : fV_isUnder N (nI a) (nI b) σ = some (if b = 0 ∨ a = b ∨ (a = 4 ∧ b = 1) ∨ (a = 5 ∧ b = 2) then 1 else 0) := by
  obtain ⟨n, rfl⟩ : ∃ n, N = n + 5 := ⟨N - 5, by omega⟩
  obtain ⟨r0, r1, r2, r3, r4, r5, r6⟩ := h
  unfold fV_isUnder
  generalize hK : n + 5 = K
  subst hK
  have z0 : ∀ f j, j ≤ 5 → fV_isUnder_L4 (n + 5) (f + 1 + 1) (nI b) (nI 0) (nI j) σ = if 0 = b then some 1 else some 0 := by
    intro f j hj
    rw [V_st (by omega) (by omega) (by omega), r0, V_en (by omega)]
  have z1 : ∀ f j a, j ≤ 4 → (a = 1 ∨ a = 2 ∨ a = 3 ∨ a = 6) → fV_isUnder_L4 (n + 5) (f + 1 + 1 + 1) (nI b) (nI a) (nI j) σ = if a = b then some 1 else if 0 = b then some 1 else some 0 := by
    intro f j a hj h
    rw [V_st (by omega) (by omega) (by omega)]
    have : σ 52 0 a = nI 0 := by
      rcases h with h | h | h | h <;> subst h <;> assumption
    rw [this, z0 f (j + 1) (by omega)]
  have z2 : ∀ f j a c, j ≤ 3 → (a = 4 ∧ c = 1 ∨ a = 5 ∧ c = 2) → fV_isUnder_L4 (n + 5) (f + 1 + 1 + 1 + 1) (nI b) (nI a) (nI j) σ = if a = b then some 1 else if c = b then some 1 else if 0 = b then some 1 else some 0 := by
    intro f j a c hj h
    rw [V_st (by omega) (by omega) (by omega)]
    have : σ 52 0 a = nI c := by
      rcases h with ⟨h, h'⟩ | ⟨h, h'⟩ <;> subst h h' <;> assumption
    rw [this, z1 f (j + 1) c (by omega) (by omega)]
  show fV_isUnder_L4 (n + 5) (n + 5) (nI b) (nI a) (nI 0) σ = _
  rcases (show a = 0 ∨ (a = 1 ∨ a = 2 ∨ a = 3 ∨ a = 6) ∨ (a = 4 ∨ a = 5) by omega) with q | q | q
  · rw [q, z0 (n + 3) 0 (by omega)]
    by_cases p : b = 0
    · rw [if_pos p.symm, if_pos (Or.inl p)]
    · rw [if_neg (fun r => p r.symm), if_neg (by omega)]
  · rw [z1 (n + 2) 0 a (by omega) q]
    by_cases p : a = b
    · rw [if_pos p, if_pos (by omega)]
    · rw [if_neg p]
      by_cases p2 : 0 = b
      · rw [if_pos p2, if_pos (by omega)]
      · rw [if_neg p2, if_neg (by omega)]
  · have : ∃ c, (a = 4 ∧ c = 1 ∨ a = 5 ∧ c = 2) := by
      rcases q with q | q
      · exact ⟨1, by omega⟩
      · exact ⟨2, by omega⟩
    obtain ⟨c, hc⟩ := this
    rw [z2 (n + 1) 0 a c (by omega) hc]
    by_cases p : a = b
    · rw [if_pos p, if_pos (by omega)]
    · rw [if_neg p]
      by_cases p1 : c = b
      · rw [if_pos p1, if_pos (by omega)]
      · rw [if_neg p1]
        by_cases p2 : 0 = b
        · rw [if_pos p2, if_pos (by omega)]
        · rw [if_neg p2, if_neg (by omega)]
theorem P_as {N : Nat} (hN : 901 ≤ N) {σ : zS} (h : Core σ) (hR : RO σ) (x1 x2 : Int32) : Pr σ (fA_as N x1 x2) (fM_as x1 x2) := by
  obtain ⟨P, T, M, c⟩ := h
  obtain ⟨c1, c2, c3, c3', c4, c5, c6, c7, c8, c9, c10⟩ := c
  have c : CX σ P T M := ⟨c1, c2, c3, c3', c4, c5, c6, c7, c8, c9, c10⟩
  have hn := c3.1
  by_cases q : thr P x1
  · have a1 := (A_there c1 c3).1 q
    have m1 := fun s (hs : VM s P) => (M_there hs c3).1 q
    have m2 := M_in (x := x2) (B := 6) (by omega)
    have a2 := A_within (x := x2) (B := 6) (by omega)
    by_cases q2 : wi x2 6
    · have m2 : fM_in x2 0 6 = some 1 := m2.1 q2
      have a2 : fA_within x2 6 = some 1 := a2.1 q2
      obtain ⟨i, hi, rfl⟩ := q
      obtain ⟨k, hk, rfl⟩ := q2
      have hi8 : i < 8 := by omega
      have hPi := c3.2.2.2.1 i hi8
      have e0 : σ 14 0 i = nI (P 0 i) := c1.1 0 i (by omega) hi8
      have e1 : σ 15 0 i = nI (P 1 i) := c1.1 1 i (by omega) hi8
      have hu := V_isUnder (N := N) (by omega) hR (a := P 0 i) (b := k) (by omega) hk
      have hmod : ∀ s, VM s P → fM_as (nI i) (nI k) s = if k = 0 ∨ P 0 i = k ∨ (P 0 i = 4 ∧ k = 1) ∨ (P 0 i = 5 ∧ k = 2) then some (nI (P 1 i), s) else fM_error (nI 5) s := by
        intro s hs
        have i0 : fM_its (nI i) 0 s = some (nI (P 0 i)) := M_its hs 0 (by omega) hi8
        have i1 : fM_its (nI i) 1 s = some (nI (P 1 i)) := M_its hs 1 (by omega) hi8
        have y : fM_as_J48 (nI i) s = some (nI (P 1 i), s) := by
          unfold fM_as_J48 fM_as_J53
          rw [if_neg (by decide), i1, zbd_s]
        unfold fM_as
        rw [m1 s hs, zbd_s, if_neg (by decide), m2, zbd_s, if_neg (by decide), i0, zbd_s, y]
        simp (disch := omega) only [n_eq0, n_eq]
        by_cases p0 : k = 0
        · rw [if_pos p0, if_pos (Or.inl p0)]
        · rw [if_neg p0]
          by_cases p1 : P 0 i = k
          · rw [if_pos p1, if_pos (Or.inr (Or.inl p1))]
          · rw [if_neg p1]
            unfold fM_above
            simp (disch := omega) only [n_eq4, n_eq5]
            have z : fM_as_J53 (nI i) 0 s = fM_error (nI 5) s := by
              unfold fM_as_J53
              rw [if_pos rfl, zb2_id]
              rfl
            by_cases p4 : P 0 i = 4
            · rw [if_pos p4, zbd_s]
              by_cases pk : k = 1
              · rw [if_pos (show (1 : Int32) = nI k by rw [pk]; rfl), if_pos (show k = 0 ∨ P 0 i = k ∨ (P 0 i = 4 ∧ k = 1) ∨ (P 0 i = 5 ∧ k = 2) by omega)]
              · rw [if_neg (show ¬ ((1 : Int32) = nI k) from fun r => pk ((nI_eq (a := 1) (by omega) (by omega)).mp r).symm), z, if_neg (show ¬ (k = 0 ∨ P 0 i = k ∨ (P 0 i = 4 ∧ k = 1) ∨ (P 0 i = 5 ∧ k = 2)) by omega)]
            · rw [if_neg p4]
              by_cases p5 : P 0 i = 5
              · rw [if_pos p5, zbd_s]
                by_cases pk : k = 2
                · rw [if_pos (show (2 : Int32) = nI k by rw [pk]; rfl), if_pos (show k = 0 ∨ P 0 i = k ∨ (P 0 i = 4 ∧ k = 1) ∨ (P 0 i = 5 ∧ k = 2) by omega)]
                · rw [if_neg (show ¬ ((2 : Int32) = nI k) from fun r => pk ((nI_eq (a := 2) (by omega) (by omega)).mp r).symm), z, if_neg (show ¬ (k = 0 ∨ P 0 i = k ∨ (P 0 i = 4 ∧ k = 1) ∨ (P 0 i = 5 ∧ k = 2)) by omega)]
              · rw [if_neg p5, zbd_s, if_neg (show ¬ ((0 : Int32) = nI k) from fun r => p0 ((nI_eq (a := 0) (by omega) (by omega)).mp r).symm), z, if_neg (show ¬ (k = 0 ∨ P 0 i = k ∨ (P 0 i = 4 ∧ k = 1) ∨ (P 0 i = 5 ∧ k = 2)) by omega)]
      have hcls : fA_as N (nI i) (nI k) σ = if k = 0 ∨ P 0 i = k ∨ (P 0 i = 4 ∧ k = 1) ∨ (P 0 i = 5 ∧ k = 2) then some (nI (P 1 i), σ) else fA_refuse (nI 5) σ := by
        unfold fA_as
        rw [a1, zbd_s, if_neg (by decide), a2, zbd_s, if_neg (by decide)]
        simp (disch := omega) only [zlt_eq, zgd_T, zin_T, zb2_s, zbd_s, n_cl, n_sub1, n_predm, n_sc, if_nle, if_nle0, if_nle1, if_le, if_true, if_false, e0, hu]
        by_cases y : k = 0 ∨ P 0 i = k ∨ (P 0 i = 4 ∧ k = 1) ∨ (P 0 i = 5 ∧ k = 2)
        · rw [if_pos y, if_neg (by decide), if_pos y, e1]
        · rw [if_neg y, if_pos rfl, if_neg y, zb2_id]
          rfl
      by_cases y : k = 0 ∨ P 0 i = k ∨ (P 0 i = 4 ∧ k = 1) ∨ (P 0 i = 5 ∧ k = 2)
      · exact Pr_look c (hcls.trans (if_pos y)) ((hmod σ c2).trans (if_pos y))
      · exact Pr_err c (e := 5) (by omega) (by omega) (hcls.trans (if_neg y)) ((hmod _ (VM_26 c2)).trans (if_neg y))
    · have m2 : fM_in x2 0 6 = some 0 := m2.2 q2
      have a2 : fA_within x2 6 = some 0 := a2.2 q2
      refine Pr_err c (e := 1) (by omega) (by omega) ?_ ?_
      · unfold fA_as fA_as_J17
        rw [a1, zbd_s, if_neg (by decide), a2, zbd_s, if_pos rfl, zb2_id]
        rfl
      · unfold fM_as fM_as_J18
        rw [m1 _ (VM_26 c2), zbd_s, if_neg (by decide), m2, zbd_s, if_pos rfl, zb2_id]
        rfl
  · refine Pr_err c (e := 1) (by omega) (by omega) ?_ ?_
    · unfold fA_as fA_as_J17
      rw [(A_there c1 c3).2 q, zbd_s, if_pos rfl, zb2_id]
      rfl
    · unfold fM_as fM_as_J18
      rw [(M_there (VM_26 c2) c3).2 q, zbd_s, if_pos rfl, zb2_id]
      rfl
