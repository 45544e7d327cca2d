/-! Pure mathematics: the public answers, first lot. -/
theorem Pr_look {σ : zS} {P : zP} {T : Nat → Nat → Int32} {M : Nat → Nat} (h : CX σ P T M) {fa fm : zS → Option (Int32 × zS)} {r : Int32} (ha : fa σ = some (r, σ)) (hm : fm σ = some (r, σ)) : Pr σ fa fm := ⟨r, σ, σ, ha, hm, ⟨P, T, M, h⟩, FR_r, fun _ _ => rfl⟩
theorem Pr_move {σ s τ : zS} {P P' : zP} {T : Nat → Nat → Int32} {M : Nat → Nat} (h : CX σ P T M) {fa fm : zS → Option (Int32 × zS)} {r : Int32} (ha : fa σ = some (r, s)) (hm : fm s = some (r, τ)) (hC : FC 0 σ s) (hM : FM s τ) (v1 : VC 0 s P') (v2 : VM τ P') (hP : PI P') (hd : P' 7 1 ≤ 9999 ∧ PJ P') : Pr σ fa fm := by
  obtain ⟨a, b⟩ := CX_move h hC hM v1 v2 hP hd
  exact ⟨r, s, τ, ha, hm, ⟨P', T, M, a⟩, b, fun i k => hC _ _ _ (by omega) (by omega) (by omega)⟩
theorem VM_26 {σ : zS} {P : zP} {e : Nat} {v : Int32} (h : VM σ P) : VM (zup σ 26 0 e v) P := VM_x h (by omega)
theorem P_oneIs {N : Nat} (hN : 901 ≤ N) {σ : zS} (h : Core σ) (x1 x2 : Int32) : Pr σ (fA_oneIs N x1 x2) (fM_oneIs N x1 x2) := by
  obtain ⟨P, T, M, c⟩ := h
  obtain ⟨c1, c2, c3, c3', c4, c5, c6, c7, c8, c9, c10⟩ := c
  have c : CX σ P T M := ⟨c1, c2, c3, c3', c4, c5, c6, c7, c8, c9, c10⟩
  have hn := c3.1
  by_cases q : thr P x1
  · have a1 := (A_there c1 c3).1 q
    have m1 := fun s (hs : VM s P) => (M_there hs c3).1 q
    by_cases q2 : wi x2 8
    · have m2 := (M_in (x := x2) (B := 8) (by omega)).1 q2
      have m2 : fM_in x2 0 8 = some 1 := m2
      obtain ⟨i, hi, rfl⟩ := q
      obtain ⟨k, hk, rfl⟩ := q2
      have hi8 : i < 8 := by omega
      have e := fun w (hw : w < 6) => c1.1 w i hw hi8
      have f := fun w (hw : w < 6) => M_its c2 w hw hi8
      rcases (show k = 0 ∨ k = 1 ∨ k = 2 ∨ k = 3 ∨ k = 4 ∨ k = 5 ∨ k = 6 ∨ k = 7 ∨ k = 8 by omega) with r | r | r | r | r | r | r | r | r <;> subst r
      · refine Pr_look c (r := nI (P 0 i)) ?_ ?_
        · unfold fA_oneIs
          rw [a1, zbd_s, if_neg (by decide), if_pos (by decide), zgd_t (zin_n hi8 (by omega)), n_cl (by omega)]
          exact congrArg (fun v => some (v, σ)) (e 0 (by omega))
        · unfold fM_oneIs
          rw [m1 σ c2, zbd_s, if_neg (by decide), m2, zbd_s, if_neg (by decide), if_neg (by decide), if_neg (by decide), if_neg (by decide), f 0 (by omega), zbd_s]
          rfl
      · refine Pr_look c (r := nI (P 1 i)) ?_ ?_
        · unfold fA_oneIs
          rw [a1, zbd_s, if_neg (by decide), if_neg (by decide), if_pos (by decide), zgd_t (zin_n hi8 (by omega)), n_cl (by omega)]
          exact congrArg (fun v => some (v, σ)) (e 1 (by omega))
        · unfold fM_oneIs
          rw [m1 σ c2, zbd_s, if_neg (by decide), m2, zbd_s, if_neg (by decide), if_neg (by decide), if_neg (by decide), if_neg (by decide), f 1 (by omega), zbd_s]
          rfl
      · refine Pr_look c (r := nO (P 2 i)) ?_ ?_
        · unfold fA_oneIs
          rw [a1, zbd_s, if_neg (by decide), if_neg (by decide), if_neg (by decide), if_pos (by decide), zgd_t (zin_n hi8 (by omega)), n_cl (by omega)]
          exact congrArg (fun v => some (v, σ)) (e 2 (by omega))
        · unfold fM_oneIs
          rw [m1 σ c2, zbd_s, if_neg (by decide), m2, zbd_s, if_neg (by decide), if_neg (by decide), if_neg (by decide), if_neg (by decide), f 2 (by omega), zbd_s]
          rfl
      · refine Pr_look c (r := nI (P 3 i)) ?_ ?_
        · unfold fA_oneIs
          rw [a1, zbd_s, if_neg (by decide), if_neg (by decide), if_neg (by decide), if_neg (by decide), if_pos (by decide), zgd_t (zin_n hi8 (by omega)), n_cl (by omega)]
          exact congrArg (fun v => some (v, σ)) (e 3 (by omega))
        · unfold fM_oneIs
          rw [m1 σ c2, zbd_s, if_neg (by decide), m2, zbd_s, if_neg (by decide), if_neg (by decide), if_neg (by decide), if_neg (by decide), f 3 (by omega), zbd_s]
          rfl
      · refine Pr_look c (r := nI (P 4 i)) ?_ ?_
        · unfold fA_oneIs
          rw [a1, zbd_s, if_neg (by decide), if_neg (by decide), if_neg (by decide), if_neg (by decide), if_neg (by decide), if_pos (by decide), zgd_t (zin_n hi8 (by omega)), n_cl (by omega)]
          exact congrArg (fun v => some (v, σ)) (e 4 (by omega))
        · unfold fM_oneIs
          rw [m1 σ c2, zbd_s, if_neg (by decide), m2, zbd_s, if_neg (by decide), if_neg (by decide), if_neg (by decide), if_neg (by decide), f 4 (by omega), zbd_s]
          rfl
      · refine Pr_look c (r := nI (P 5 i)) ?_ ?_
        · unfold fA_oneIs
          rw [a1, zbd_s, if_neg (by decide), if_neg (by decide), if_neg (by decide), if_neg (by decide), if_neg (by decide), if_neg (by decide), if_pos (by decide), zgd_t (zin_n hi8 (by omega)), n_cl (by omega)]
          exact congrArg (fun v => some (v, σ)) (e 5 (by omega))
        · unfold fM_oneIs
          rw [m1 σ c2, zbd_s, if_neg (by decide), m2, zbd_s, if_neg (by decide), if_neg (by decide), if_neg (by decide), if_neg (by decide), f 5 (by omega), zbd_s]
          rfl
      · refine Pr_look c (r := nI (sA P i)) ?_ ?_
        · unfold fA_oneIs
          rw [a1, zbd_s, if_neg (by decide), if_neg (by decide), if_neg (by decide), if_neg (by decide), if_neg (by decide), if_neg (by decide), if_neg (by decide), if_pos (by decide), R_apart c1 c3 hi8, zbd_s]
        · unfold fM_oneIs
          rw [m1 σ c2, zbd_s, if_neg (by decide), m2, zbd_s, if_neg (by decide), if_pos (by decide), M_apart c2 c3 hi8, zbd_s]
      · obtain ⟨s, r1, r2, r3⟩ := R_doesNow (N := N) c1 c3 c4 c6 (by omega) hi8
        have hC : FC 0 σ s := FC_11 r3
        obtain ⟨τ, t1, t2, t3⟩ := M_doesNow (N := N) (VM_C c2 hC) c3 (TM_C c5 hC) c6 (by omega) hi8
        refine Pr_move c (r := nI (sDo T M P i)) ?_ ?_ hC (FM_36 t3) r2 t2 c3 c3'
        · unfold fA_oneIs
          rw [a1, zbd_s, if_neg (by decide), if_neg (by decide), if_neg (by decide), if_neg (by decide), if_neg (by decide), if_neg (by decide), if_neg (by decide), if_neg (by decide), if_pos (by decide), r1, zb2_s]
        · unfold fM_oneIs
          rw [m1 s (VM_C c2 hC), zbd_s, if_neg (by decide), m2, zbd_s, if_neg (by decide), if_neg (by decide), if_pos (by decide), t1, zb2_s]
      · obtain ⟨s, r1, r2, r3⟩ := R_goesNow (N := N) c1 c3 c4 c6 (by omega) hi8
        have hC : FC 0 σ s := FC_11 r3
        obtain ⟨τ, t1, t2, t3⟩ := M_goesNow (N := N) (VM_C c2 hC) c3 (TM_C c5 hC) c6 (by omega) hi8
        refine Pr_move c (r := nI (sGo T M P i)) ?_ ?_ hC (FM_36 t3) r2 t2 c3 c3'
        · unfold fA_oneIs
          rw [a1, zbd_s, if_neg (by decide), if_neg (by decide), if_neg (by decide), if_neg (by decide), if_neg (by decide), if_neg (by decide), if_neg (by decide), if_neg (by decide), if_neg (by decide), if_pos (by decide), r1, zb2_s]
        · unfold fM_oneIs
          rw [m1 s (VM_C c2 hC), zbd_s, if_neg (by decide), m2, zbd_s, if_neg (by decide), if_neg (by decide), if_neg (by decide), if_pos (by decide), t1, zb2_s]
    · have m2 : fM_in x2 0 8 = some 0 := (M_in (x := x2) (B := 8) (by omega)).2 q2
      refine Pr_err c (e := 1) (by omega) (by omega) ?_ ?_
      · have hk : ∀ k, k ≤ 8 → x2 ≠ nI k := fun k hk r => q2 ⟨k, hk, r⟩
        have k0 : ¬ (x2 = 0) := hk 0 (by omega)
        have k1 : ¬ (x2 = 1) := hk 1 (by omega)
        have k2 : ¬ (x2 = 2) := hk 2 (by omega)
        have k3 : ¬ (x2 = 3) := hk 3 (by omega)
        have k4 : ¬ (x2 = 4) := hk 4 (by omega)
        have k5 : ¬ (x2 = 5) := hk 5 (by omega)
        have k6 : ¬ (x2 = 6) := hk 6 (by omega)
        have k7 : ¬ (x2 = 7) := hk 7 (by omega)
        have k8 : ¬ (x2 = 8) := hk 8 (by omega)
        unfold fA_oneIs
        rw [a1, zbd_s, if_neg (by decide), if_neg k0, if_neg k1, if_neg k2, if_neg k3, if_neg k4, if_neg k5, if_neg k6, if_neg k7, if_neg k8, zb2_id]
        rfl
      · unfold fM_oneIs fM_oneIs_J18
        rw [m1 _ (VM_26 c2), zbd_s, if_neg (by decide), m2, zbd_s, if_pos rfl, zb2_id]
        rfl
  · refine Pr_err c (e := 1) (by omega) (by omega) ?_ ?_
    · unfold fA_oneIs
      rw [(A_there c1 c3).2 q, zbd_s, if_pos rfl, zb2_id]
      rfl
    · unfold fM_oneIs fM_oneIs_J18
      rw [(M_there (VM_26 c2) c3).2 q, zbd_s, if_pos rfl, zb2_id]
      rfl
theorem PI_km {P : zP} (hP : PI P) {i a b : Nat} (ha : a ≤ 6) (hb : b ≤ 9) : PI (pu (pu P 0 i a) 1 i b) := by
  obtain ⟨h1, h2, h3, h4, h5, h6⟩ := hP
  have e : ∀ w j, 2 ≤ w → pu (pu P 0 i a) 1 i b w j = P w j := fun w j hw => by rw [pu_w (by omega), pu_w (by omega)]
  refine ⟨by rw [e _ _ (by omega)]; exact h1, by rw [e _ _ (by omega)]; exact h2, by rw [e _ _ (by omega)]; exact h3, fun j hj => ?_, fun j hj => ?_, fun j hj => by rw [e _ _ (by omega)]; exact h6 j hj⟩
  · have := h4 j hj
    rw [e 2 j (by omega), e 3 j (by omega), e 4 j (by omega), e 5 j (by omega)]
    refine ⟨?_, ?_, this.2.2⟩
    · rw [pu_w (by omega)]
      unfold pu
      split <;> omega
    · unfold pu
      split
      · omega
      · rw [if_neg (by omega)]; omega
  · rw [e _ _ (by omega)] at hj ⊢
    exact h5 j hj
theorem P_become {σ : zS} (h : Core σ) (x1 x2 : Int32) : Pr σ (fA_become x1 x2) (fM_become x1 x2) := by
  obtain ⟨P, T, M, c⟩ := h
  obtain ⟨c1, c2, c3, c3', c4, c5, c6, c7, c8, c9, c10⟩ := c
  have c : CX σ P T M := ⟨c1, c2, c3, c3', c4, c5, c6, c7, c8, c9, c10⟩
  have hn := c3.1
  by_cases q : thr P x1
  · have a1 := (A_there c1 c3).1 q
    have m1 := fun s (hs : VM s P) => (M_there hs c3).1 q
    have m2 := M_in (x := x2) (B := 69) (by omega)
    have a2 := A_within (x := x2) (B := 69) (by omega)
    by_cases q2 : wi x2 69
    · have m2 : fM_in x2 0 69 = some 1 := m2.1 q2
      have a2 : fA_within x2 69 = some 1 := a2.1 q2
      obtain ⟨i, hi, rfl⟩ := q
      obtain ⟨k, hk, rfl⟩ := q2
      have hi8 : i < 8 := by omega
      have hm : nI k - nI k / 10 * 10 = nI (k % 10) := n_mod rfl (by omega) (by omega) (by omega)
      have hdv : nI k / 10 = nI (k / 10) := n_div (d := 10) (by omega) (by omega) (by omega)
      have g1 : VC 0 (zup (zup σ 14 0 i (nI (k / 10))) 15 0 i (nI (k % 10))) (pu (pu P 0 i (k / 10)) 1 i (k % 10)) := VC_u 1 (VC_u 0 c1 (by omega) rfl) (by omega) rfl
      have f1 : FC 0 σ (zup (zup σ 14 0 i (nI (k / 10))) 15 0 i (nI (k % 10))) := FC_t (FC_u (by omega)) (FC_u (by omega))
      have v0 := VM_C c2 f1
      have e0 : σ 14 0 i = nI (P 0 i) := c1.1 0 i (by omega) hi8
      have e0' : fM_its (nI i) 0 (zup (zup σ 14 0 i (nI (k / 10))) 15 0 i (nI (k % 10))) = some (nI (P 0 i)) := M_its v0 0 (by omega) hi8
      have l0' : ∀ v s, fM_lays1 (nI i) 0 v s = some (zup s 30 0 (12 + 6 * i + 0) v) := fun v s => M_lays 0 (by omega) hi8
      have l1' : ∀ v s, fM_lays1 (nI i) 1 v s = some (zup s 30 0 (12 + 6 * i + 1) v) := fun v s => M_lays 1 (by omega) hi8
      refine Pr_move c (r := nI (P 0 i)) (s := zup (zup σ 14 0 i (nI (k / 10))) 15 0 i (nI (k % 10))) (τ := zup (zup (zup (zup σ 14 0 i (nI (k / 10))) 15 0 i (nI (k % 10))) 30 0 (12 + 6 * i + 0) (nI (k / 10))) 30 0 (12 + 6 * i + 1) (nI (k % 10))) ?_ ?_ f1 (FM_t (FM_u (by omega)) (FM_u (by omega))) g1 (VM_u 1 (VM_u 0 v0 (by omega) hi8 rfl) (by omega) hi8 rfl) (PI_km c3 (by omega) (by omega)) ⟨by rw [pu_w (by omega), pu_w (by omega)]; exact c3'.1, PJ_w (PJ_w c3'.2 (by omega)) (by omega)⟩
      · unfold fA_become
        rw [a1, zbd_s, if_neg (by decide), a2, zbd_s, if_neg (by decide), hm, hdv]
        simp (disch := omega) only [zlt_eq, zgd_T, zin_T, zb2_s, zbd_s, n_cl, n_sub1, n_predm, n_sc, if_nle, if_nle0, if_nle1, if_le, if_true, if_false, e0]
      · unfold fM_become fM_isKm
        rw [m1 _ v0, zbd_s, if_neg (by decide), m2, zbd_s, zgd_t (Or.inr rfl), zbd_s, if_neg (by decide), e0', zbd_s, hm, hdv, l0', zbd_s, l1', zbd_s]
    · have m2 : fM_in x2 0 69 = some 0 := m2.2 q2
      have a2 : fA_within x2 69 = some 0 := a2.2 q2
      refine Pr_err c (e := 1) (by omega) (by omega) ?_ ?_
      · unfold fA_become fA_become_J17
        rw [a1, zbd_s, if_neg (by decide), a2, zbd_s, if_pos rfl, zb2_id]
        rfl
      · unfold fM_become fM_become_J15 fM_isKm
        rw [m1 _ (VM_26 c2), zbd_s, if_neg (by decide), m2, zbd_s, zgd_t (Or.inl rfl), zbd_s, if_pos rfl, zb2_id]
        rfl
  · refine Pr_err c (e := 1) (by omega) (by omega) ?_ ?_
    · unfold fA_become fA_become_J17
      rw [(A_there c1 c3).2 q, zbd_s, if_pos rfl, zb2_id]
      rfl
    · unfold fM_become fM_become_J15
      rw [(M_there (VM_26 c2) c3).2 q, zbd_s, if_pos rfl, zb2_id]
      rfl
theorem P_reel {σ : zS} (h : Core σ) (x1 x2 : Int32) : Pr σ (fA_reel x1 x2) (fM_reel x1 x2) := by
  obtain ⟨P, T, M, c⟩ := h
  obtain ⟨c1, c2, c3, c3', c4, c5, c6, c7, c8, c9, c10⟩ := c
  have c : CX σ P T M := ⟨c1, c2, c3, c3', c4, c5, c6, c7, c8, c9, c10⟩
  have hn := c3.1
  by_cases q : thr P x1
  · have a1 := (A_there c1 c3).1 q
    have m1 := fun s (hs : VM s P) => (M_there hs c3).1 q
    have m2 := M_in (x := x2) (B := 99) (by omega)
    have a2 := A_within (x := x2) (B := 99) (by omega)
    by_cases q2 : wi x2 99
    · have m2 : fM_in x2 0 99 = some 1 := m2.1 q2
      have a2 : fA_within x2 99 = some 1 := a2.1 q2
      obtain ⟨i, hi, rfl⟩ := q
      obtain ⟨k, hk, rfl⟩ := q2
      have hi8 : i < 8 := by omega
      have hPi := c3.2.2.2.1 i hi8
      have e2 : σ 16 0 i = nO (P 2 i) := c1.1 2 i (by omega) hi8
      have e5 : σ 19 0 i = nI (P 5 i) := c1.1 5 i (by omega) hi8
      have m3 := fun s (hs : VM s P) => M_its hs 2 (by omega) hi8
      have mt : ∀ s, VM s P → fM_isTied (nI i) s = some (if P 2 i = 0 then 0 else 1) := by
        intro s hs
        have e : fM_its (nI i) 2 s = some (nO (P 2 i)) := M_its hs 2 (by omega) hi8
        unfold fM_isTied
        rw [e, zbd_s]
        by_cases z : P 2 i = 0
        · rw [z, if_pos (by decide), if_pos rfl]
        · have : ¬ (nO (P 2 i) < 0) := by rw [l0, nO_lt (by omega)]; exact z
          rw [if_neg this, if_neg z]
      have at' : fR_isTied 0 (nI i) σ = some (if P 2 i = 0 then 0 else 1) := by
        unfold fR_isTied
        simp (disch := omega) only [zlt_eq, zgd_T, zin_T, zb2_s, zbd_s, n_cl, n_sub1, n_predm, n_sc, if_nle, if_nle0, if_nle1, if_le, if_true, if_false, e2]
        by_cases z : P 2 i = 0
        · rw [z, if_pos (by decide), if_pos rfl]
        · have : ¬ (nO (P 2 i) < 0) := by rw [l0, nO_lt (by omega)]; exact z
          rw [if_neg this, if_neg z]
      by_cases z : P 2 i = 0
      · refine Pr_err c (e := 3) (by omega) (by omega) ?_ ?_
        · unfold fA_reel
          rw [a1, zbd_s, if_neg (by decide), a2, zbd_s, if_neg (by decide), at', zbd_s, if_pos z, if_pos rfl, zb2_id]
          rfl
        · unfold fM_reel
          rw [m1 _ (VM_26 c2), zbd_s, if_neg (by decide), m2, zbd_s, if_neg (by decide), mt _ (VM_26 c2), zbd_s, if_pos z, if_pos rfl, zb2_id]
          rfl
      · have g1 : VC 0 (zup σ 19 0 i (nI k)) (pu P 5 i k) := VC_u 5 c1 (by omega) rfl
        have f1 : FC 0 σ (zup σ 19 0 i (nI k)) := FC_u (by omega)
        have v0 := VM_C c2 f1
        have hq : 12 + 6 * nI i + 5 = nI (12 + 6 * i + 5) := by rw [l12, l6, l5, n_mul, n_add, n_add]
        refine Pr_move c (r := nI (P 5 i)) (s := zup σ 19 0 i (nI k)) (τ := zup (zup σ 19 0 i (nI k)) 30 0 (12 + 6 * i + 5) (nI k)) ?_ ?_ f1 (FM_u (by omega)) g1 (VM_u 5 v0 (by omega) hi8 rfl) (PI_w c3 (by omega)) ⟨by rw [pu_w (by omega)]; exact c3'.1, PJ_5 c3'.2 (Or.inl z)⟩
        · unfold fA_reel
          rw [a1, zbd_s, if_neg (by decide), a2, zbd_s, if_neg (by decide), at', zbd_s, if_neg z, if_neg (by decide)]
          simp (disch := omega) only [zlt_eq, zgd_T, zin_T, zb2_s, zbd_s, n_cl, n_sub1, n_predm, n_sc, if_nle, if_nle0, if_nle1, if_le, if_true, if_false, e5]
        · unfold fM_reel fM_change1
          rw [m1 _ v0, zbd_s, if_neg (by decide), m2, zbd_s, if_neg (by decide), mt _ v0, zbd_s, if_neg z, if_neg (by decide), hq]
          simp (disch := omega) only [zlt_eq, zgd_T, zin_T, zb2_s, zbd_s, n_cl, n_sub1, n_predm, n_sc, if_nle, if_nle0, if_nle1, if_le, if_true, if_false]
          rw [v0.1 5 i (by omega) hi8]
          rfl
    · have m2 : fM_in x2 0 99 = some 0 := m2.2 q2
      have a2 : fA_within x2 99 = some 0 := a2.2 q2
      refine Pr_err c (e := 1) (by omega) (by omega) ?_ ?_
      · unfold fA_reel fA_reel_J17
        rw [a1, zbd_s, if_neg (by decide), a2, zbd_s, if_pos rfl, zb2_id]
        rfl
      · unfold fM_reel fM_reel_J18
        rw [m1 _ (VM_26 c2), zbd_s, if_neg (by decide), m2, zbd_s, if_pos rfl, zb2_id]
        rfl
  · refine Pr_err c (e := 1) (by omega) (by omega) ?_ ?_
    · unfold fA_reel fA_reel_J17
      rw [(A_there c1 c3).2 q, zbd_s, if_pos rfl, zb2_id]
      rfl
    · unfold fM_reel fM_reel_J18
      rw [(M_there (VM_26 c2) c3).2 q, zbd_s, if_pos rfl, zb2_id]
      rfl
theorem A_tied {b : Nat} {σ : zS} {P : zP} (h : VC b σ P) (hP : PI P) {i : Nat} (hi : i < 8) : fR_isTied b (nI i) σ = some (if P 2 i = 0 then 0 else 1) := by
  have hPi := hP.2.2.2.1 i hi
  have e2 : σ 16 b i = nO (P 2 i) := h.1 2 i (by omega) hi
  unfold fR_isTied
  simp (disch := omega) only [zlt_eq, zgd_T, zin_T, zb2_s, zbd_s, n_cl, n_sub1, n_predm, n_sc, if_nle, if_nle0, if_nle1, if_le, if_true, if_false, e2]
  by_cases z : P 2 i = 0
  · rw [z, if_pos (by decide), if_pos rfl]
  · have : ¬ (nO (P 2 i) < 0) := by rw [l0, nO_lt (by omega)]; exact z
    rw [if_neg this, if_neg z]
theorem M_tied {σ : zS} {P : zP} (h : VM σ P) (hP : PI P) {i : Nat} (hi : i < 8) : fM_isTied (nI i) σ = some (if P 2 i = 0 then 0 else 1) := by
  have hPi := hP.2.2.2.1 i hi
  have e : fM_its (nI i) 2 σ = some (nO (P 2 i)) := M_its h 2 (by omega) hi
  unfold fM_isTied
  rw [e, zbd_s]
  by_cases z : P 2 i = 0
  · rw [z, if_pos (by decide), if_pos rfl]
  · have : ¬ (nO (P 2 i) < 0) := by rw [l0, nO_lt (by omega)]; exact z
    rw [if_neg this, if_neg z]
theorem P_cut {σ : zS} (h : Core σ) (x1 : Int32) : Pr σ (fA_cut x1) (fM_cut x1) := by
  obtain ⟨P, T, M, c⟩ := h
  obtain ⟨c1, c2, c3, c3', c4, c5, c6, c7, c8, c9, c10⟩ := c
  have c : CX σ P T M := ⟨c1, c2, c3, c3', c4, c5, c6, c7, c8, c9, c10⟩
  have hn := c3.1
  by_cases q : thr P x1
  · have a1 := (A_there c1 c3).1 q
    have m1 := fun s (hs : VM s P) => (M_there hs c3).1 q
    obtain ⟨i, hi, rfl⟩ := q
    have hi8 : i < 8 := by omega
    by_cases z : P 2 i = 0
    · refine Pr_err c (e := 3) (by omega) (by omega) ?_ ?_
      · unfold fA_cut
        rw [a1, zbd_s, if_neg (by decide), A_tied c1 c3 hi8, zbd_s, if_pos z, if_pos rfl, zb2_id]
        rfl
      · unfold fM_cut
        rw [m1 _ (VM_26 c2), zbd_s, if_neg (by decide), M_tied (VM_26 c2) c3 hi8, zbd_s, if_pos z, if_pos rfl, zb2_id]
        rfl
    · have e2 : σ 16 0 i = nO (P 2 i) := c1.1 2 i (by omega) hi8
      have g1 : VC 0 (zup (zup (zup σ 16 0 i (-1)) 18 0 i 0) 19 0 i 0) (pu (pu (pu P 2 i 0) 4 i 0) 5 i 0) := VC_u 5 (VC_u 4 (VC_u 2 c1 (by omega) rfl) (by omega) rfl) (by omega) rfl
      have f1 : FC 0 σ (zup (zup (zup σ 16 0 i (-1)) 18 0 i 0) 19 0 i 0) := FC_t (FC_t (FC_u (by omega)) (FC_u (by omega))) (FC_u (by omega))
      have v0 := VM_C c2 f1
      have ha : fA_cut (nI i) σ = some (nO (P 2 i), zup (zup (zup σ 16 0 i (-1)) 18 0 i 0) 19 0 i 0) := by
        unfold fA_cut fR_untie
        rw [a1, zbd_s, if_neg (by decide), A_tied c1 c3 hi8, zbd_s, if_neg z, if_neg (by decide)]
        simp (disch := omega) only [zlt_eq, zgd_T, zin_T, zb2_s, zbd_s, n_cl, n_sub1, n_predm, n_sc, if_nle, if_nle0, if_nle1, if_le, if_true, if_false, e2]
      have l1' : ∀ s, fM_lays1 (nI i) 2 (-1) s = _ := fun s => M_lays 2 (by omega) hi8
      have l2' : ∀ s, fM_lays1 (nI i) 4 0 s = _ := fun s => M_lays 4 (by omega) hi8
      have l3' : ∀ s, fM_lays1 (nI i) 5 0 s = _ := fun s => M_lays 5 (by omega) hi8
      generalize (zup (zup (zup σ 16 0 i (-1)) 18 0 i 0) 19 0 i 0) = s at g1 f1 v0 ha
      have e2' : fM_its (nI i) 2 s = some (nO (P 2 i)) := M_its v0 2 (by omega) hi8
      refine Pr_move c (r := nO (P 2 i)) (s := s) (τ := zup (zup (zup s 30 0 (12 + 6 * i + 2) (-1)) 30 0 (12 + 6 * i + 4) 0) 30 0 (12 + 6 * i + 5) 0) ha ?_ f1 (FM_t (FM_t (FM_u (by omega)) (FM_u (by omega))) (FM_u (by omega))) g1 (VM_u 5 (VM_u 4 (VM_u 2 v0 (by omega) hi8 rfl) (by omega) hi8 rfl) (by omega) hi8 rfl) (PI_w (PI_w (PI_w c3 (by omega)) (by omega)) (by omega)) ⟨by rw [pu_w (by omega), pu_w (by omega), pu_w (by omega)]; exact c3'.1, PJ_sev c3'.2⟩
      unfold fM_cut fM_unties
      rw [m1 _ v0, zbd_s, if_neg (by decide), M_tied v0 c3 hi8, zbd_s, if_neg z, if_neg (by decide), e2', zbd_s, l1', zbd_s, l2', zbd_s, l3', zbd_s, zbd_s]
  · refine Pr_err c (e := 1) (by omega) (by omega) ?_ ?_
    · unfold fA_cut
      rw [(A_there c1 c3).2 q, zbd_s, if_pos rfl, zb2_id]
      rfl
    · unfold fM_cut
      rw [(M_there (VM_26 c2) c3).2 q, zbd_s, if_pos rfl, zb2_id]
      rfl
