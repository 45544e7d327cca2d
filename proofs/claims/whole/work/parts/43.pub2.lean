/-! Pure mathematics: the public answers, second lot. -/
theorem VC_6 {b : Nat} {σ : zS} {P : zP} {j x : Nat} (h : VC b σ P) : VC b (zup σ 20 b j (nI x)) (pu P 6 j x) := by
  obtain ⟨h1, h2, h3, h4, h5⟩ := h
  refine ⟨fun w' i' hw' hi' => ?_, fun j' hj => ?_, ?_, ?_, ?_⟩
  · rw [zup_o (by omega), pu_w (by omega)]; exact h1 w' i' hw' hi'
  · unfold zup pu
    by_cases q : j' = j
    · rw [if_pos ⟨rfl, rfl, q⟩, if_pos ⟨rfl, q⟩]
    · rw [if_neg (fun r => q r.2.2), if_neg (fun r => q r.2)]
      exact h2 j' hj
  · rw [zup_o (by omega), pu_w (by omega)]; exact h3
  · rw [zup_o (by omega), pu_w (by omega)]; exact h4
  · rw [zup_o (by omega), pu_w (by omega)]; exact h5
theorem VM_6 {σ : zS} {P : zP} {j x : Nat} (h : VM σ P) (hj6 : j < 6) : VM (zup σ 30 0 (6 + j) (nI x)) (pu P 6 j x) := by
  obtain ⟨h1, h2, h3, h4, h5⟩ := h
  refine ⟨fun w' i' hw' hi' => ?_, fun j' hj => ?_, ?_, ?_, ?_⟩
  · rw [zup_k (by omega), pu_w (by omega)]; exact h1 w' i' hw' hi'
  · unfold zup pu
    by_cases q : j' = j
    · rw [if_pos ⟨rfl, rfl, by omega⟩, if_pos ⟨rfl, q⟩]
    · rw [if_neg (fun r => q (by omega)), if_neg (fun r => q r.2)]
      exact h2 j' hj
  · rw [zup_k (by omega), pu_w (by omega)]; exact h3
  · rw [zup_k (by omega), pu_w (by omega)]; exact h4
  · rw [zup_k (by omega), pu_w (by omega)]; exact h5
theorem PI_6 {P : zP} (hP : PI P) {j x : Nat} (h1 : x < 80) (h2 : x % 10 < 2) : PI (pu P 6 j x) := by
  obtain ⟨a1, a2, a3, a4, a5, a6⟩ := hP
  have e : ∀ w i, w ≠ 6 → pu P 6 j x w i = P w i := fun w i hw => pu_w hw
  refine ⟨by rw [e _ _ (by omega)]; exact a1, by rw [e _ _ (by omega)]; exact a2, by rw [e _ _ (by omega)]; exact a3, fun i hi => ?_, fun i hi => ?_, fun i hi => ?_⟩
  · rw [e 0 i (by omega), e 1 i (by omega), e 2 i (by omega), e 3 i (by omega), e 4 i (by omega), e 5 i (by omega)]
    exact a4 i hi
  · rw [e _ _ (by omega)] at hi ⊢
    exact a5 i hi
  · unfold pu
    split
    · exact ⟨h1, h2⟩
    · exact a6 i hi
theorem P_list {σ : zS} (h : Core σ) (x1 x2 x3 : Int32) : Pr σ (fA_list x1 x2 x3) (fM_list x1 x2 x3) := by
  obtain ⟨P, T, M, c⟩ := h
  obtain ⟨c1, c2, c3, c3', c4, c5, c6, c7, c8, c9, c10⟩ := c
  have c : CX σ P T M := ⟨c1, c2, c3, c3', c4, c5, c6, c7, c8, c9, c10⟩
  have hn := c3.1
  have a1 := A_within (x := x1) (B := 5) (by omega)
  have a2 := A_within (x := x2) (B := 7) (by omega)
  have a3 := A_within (x := x3) (B := 1) (by omega)
  have m1 := M_in (x := x1) (B := 5) (by omega)
  have m2 := M_in (x := x2) (B := 7) (by omega)
  have m3 := M_in (x := x3) (B := 1) (by omega)
  by_cases q1 : wi x1 5
  · have a1 : fA_within x1 5 = some 1 := a1.1 q1
    have m1 : fM_in x1 0 5 = some 1 := m1.1 q1
    by_cases q2 : wi x2 7
    · have a2 : fA_within x2 7 = some 1 := a2.1 q2
      have m2 : fM_in x2 0 7 = some 1 := m2.1 q2
      by_cases q3 : wi x3 1
      · have a3 : fA_within x3 1 = some 1 := a3.1 q3
        have m3 : fM_in x3 0 1 = some 1 := m3.1 q3
        obtain ⟨i, hi, rfl⟩ := q1
        obtain ⟨j, hj, rfl⟩ := q2
        obtain ⟨k, hk, rfl⟩ := q3
        have e6 := c1.2.1 i (by omega)
        have hv : 10 * nI j + nI k = nI (10 * j + k) := by rw [l10, n_mul, n_add]
        have h6 : 6 + nI i = nI (6 + i) := n_add 6 i
        have f1 : FC 0 σ (zup σ 20 0 i (nI (10 * j + k))) := FC_u (by omega)
        have v0 := VM_C c2 f1
        have e6' := v0.2.1 i (by omega)
        refine Pr_move c (r := nI (P 6 i)) (s := zup σ 20 0 i (nI (10 * j + k))) (τ := zup (zup σ 20 0 i (nI (10 * j + k))) 30 0 (6 + i) (nI (10 * j + k))) ?_ ?_ f1 (FM_u (by omega)) (VC_6 c1) (VM_6 v0 (by omega)) (PI_6 c3 (by omega) (by omega)) ⟨by rw [pu_w (by omega)]; exact c3'.1, PJ_w c3'.2 (by omega)⟩
        · unfold fA_list
          rw [a1, zbd_s, if_neg (by decide), a2, zbd_s, if_neg (by decide), a3, zbd_s, if_neg (by decide), hv]
          simp (disch := omega) only [zlt_eq, zgd_T, zin_T, zb2_s, zbd_s, n_cl, n_sub1, n_predm, n_sc, if_nle, if_nle0, if_nle1, if_le, if_true, if_false, e6]
        · unfold fM_list fM_isPlace fM_change1
          rw [m1, zbd_s, zgd_t (Or.inr rfl), zbd_s, if_neg (by decide), m2, zbd_s, if_neg (by decide), m3, zbd_s, if_neg (by decide), hv, h6]
          simp (disch := omega) only [zlt_eq, zgd_T, zin_T, zb2_s, zbd_s, n_cl, n_sub1, n_predm, n_sc, if_nle, if_nle0, if_nle1, if_le, if_true, if_false, e6']
      · have a3 : fA_within x3 1 = some 0 := a3.2 q3
        have m3 : fM_in x3 0 1 = some 0 := m3.2 q3
        refine Pr_err c (e := 1) (by omega) (by omega) ?_ ?_
        · unfold fA_list fA_list_J25
          rw [a1, zbd_s, if_neg (by decide), a2, zbd_s, if_neg (by decide), a3, zbd_s, if_pos rfl, zb2_id]
          rfl
        · unfold fM_list fM_isPlace fM_list_J43
          rw [m1, zbd_s, zgd_t (Or.inr rfl), zbd_s, if_neg (by decide), m2, zbd_s, if_neg (by decide), m3, zbd_s, if_pos rfl, zb2_id]
          rfl
    · have a2 : fA_within x2 7 = some 0 := a2.2 q2
      have m2 : fM_in x2 0 7 = some 0 := m2.2 q2
      refine Pr_err c (e := 1) (by omega) (by omega) ?_ ?_
      · unfold fA_list fA_list_J25
        rw [a1, zbd_s, if_neg (by decide), a2, zbd_s, if_pos rfl, zb2_id]
        rfl
      · unfold fM_list fM_isPlace fM_list_J43
        rw [m1, zbd_s, zgd_t (Or.inr rfl), zbd_s, if_neg (by decide), m2, zbd_s, if_pos rfl, zb2_id]
        rfl
  · have a1 : fA_within x1 5 = some 0 := a1.2 q1
    have m1 : fM_in x1 0 5 = some 0 := m1.2 q1
    refine Pr_err c (e := 1) (by omega) (by omega) ?_ ?_
    · unfold fA_list fA_list_J25
      rw [a1, zbd_s, if_pos rfl, zb2_id]
      rfl
    · unfold fM_list fM_isPlace fM_list_J43
      rw [m1, zbd_s, zgd_t (Or.inl rfl), zbd_s, if_pos rfl, zb2_id]
      rfl
theorem P_listed {σ : zS} (h : Core σ) (x1 : Int32) : Pr σ (fA_listed x1) (fM_listed x1) := by
  obtain ⟨P, T, M, c⟩ := h
  obtain ⟨c1, c2, c3, c3', c4, c5, c6, c7, c8, c9, c10⟩ := c
  have c : CX σ P T M := ⟨c1, c2, c3, c3', c4, c5, c6, c7, c8, c9, c10⟩
  have hn := c3.1
  have a1 := A_within (x := x1) (B := 5) (by omega)
  have m1 := M_in (x := x1) (B := 5) (by omega)
  by_cases q1 : wi x1 5
  · have a1 : fA_within x1 5 = some 1 := a1.1 q1
    have m1 : fM_in x1 0 5 = some 1 := m1.1 q1
    obtain ⟨i, hi, rfl⟩ := q1
    have e6 := c1.2.1 i (by omega)
    have e6' := c2.2.1 i (by omega)
    have h6 : 6 + nI i = nI (6 + i) := n_add 6 i
    refine Pr_look c (r := nI (P 6 i)) ?_ ?_
    · unfold fA_listed
      rw [a1, zbd_s, if_neg (by decide)]
      simp (disch := omega) only [zlt_eq, zgd_T, zin_T, zb2_s, zbd_s, n_cl, n_sub1, n_predm, n_sc, if_nle, if_nle0, if_nle1, if_le, if_true, if_false, e6]
    · unfold fM_listed fM_isPlace
      rw [m1, zbd_s, zgd_t (Or.inr rfl), zbd_s, if_neg (by decide), h6]
      simp (disch := omega) only [zlt_eq, zgd_T, zin_T, zb2_s, zbd_s, n_cl, n_sub1, n_predm, n_sc, if_nle, if_nle0, if_nle1, if_le, if_true, if_false, e6']
  · have a1 : fA_within x1 5 = some 0 := a1.2 q1
    have m1 : fM_in x1 0 5 = some 0 := m1.2 q1
    refine Pr_err c (e := 1) (by omega) (by omega) ?_ ?_
    · unfold fA_listed
      rw [a1, zbd_s, if_pos rfl, zb2_id]
      rfl
    · unfold fM_listed fM_isPlace
      rw [m1, zbd_s, zgd_t (Or.inl rfl), zbd_s, if_pos rfl, zb2_id]
      rfl
theorem P_law {N : Nat} (hN : 901 ≤ N) {σ : zS} (h : Core σ) (x1 x2 x3 x4 : Int32) : Pr σ (fA_law N x1 x2 x3 x4) (fM_law N x1 x2 x3 x4) := by
  obtain ⟨P, T, M, c⟩ := h
  obtain ⟨c1, c2, c3, c3', c4, c5, c6, c7, c8, c9, c10⟩ := c
  have c : CX σ P T M := ⟨c1, c2, c3, c3', c4, c5, c6, c7, c8, c9, c10⟩
  have hn := c3.1
  have a1 := A_within (x := x1) (B := 1) (by omega)
  have m1 := M_in (x := x1) (B := 1) (by omega)
  by_cases q1 : wi x1 1
  · have a1 : fA_within x1 1 = some 1 := a1.1 q1
    have m1 : fM_in x1 0 1 = some 1 := m1.1 q1
    obtain ⟨u, hu, rfl⟩ := q1
    obtain ⟨s, r1, r2⟩ := L_gives (N := N) c4 c6 (by omega) (u := u) (x := x2) (y := x3) (z := x4) (by omega)
    have hC : FC 0 σ s := FC_11 r2
    obtain ⟨τ, t1, t2⟩ := M_givenBy (N := N) (TM_C c5 hC) c6 (by omega) (u := u) (x := x2) (y := x3) (z := x4) (by omega)
    refine Pr_move c (r := nI (sG T M u x2 x3 x4)) (s := s) (τ := τ) ?_ ?_ hC (FM_36 t2) (VC_11 c1 r2) (VM_36 (VM_C c2 hC) (fun c i k hc => t2 c i k (by omega) (by omega))) c3 c3'
    · unfold fA_law fA_lawOf
      rw [a1, zbd_s, if_neg (by decide)]
      rcases (show u = 0 ∨ u = 1 by omega) with q | q <;> subst q
      · rw [if_pos (show nI 0 = 0 from rfl), zbd_s]
        rw [Nat.add_zero] at r1
        rw [r1, zb2_s]
      · rw [if_neg (by decide), zbd_s]
        rw [Nat.zero_add] at r1
        rw [r1, zb2_s]
    · unfold fM_law
      rw [m1, zbd_s, if_neg (by decide), t1, zb2_s]
  · have a1 : fA_within x1 1 = some 0 := a1.2 q1
    have m1 : fM_in x1 0 1 = some 0 := m1.2 q1
    refine Pr_err c (e := 1) (by omega) (by omega) ?_ ?_
    · unfold fA_law
      rw [a1, zbd_s, if_pos rfl, zb2_id]
      rfl
    · unfold fM_law
      rw [m1, zbd_s, if_pos rfl, zb2_id]
      rfl
def rng (x : Int32) (a b : Nat) : Prop := ∃ k, a ≤ k ∧ k ≤ b ∧ x = nI k
theorem rng_iff {x : Int32} {a b : Nat} (hB : b < 2147483648) : rng x a b ↔ ((a : Int) ≤ x.toInt ∧ x.toInt ≤ b) := by
  constructor
  · rintro ⟨k, hk, hk2, rfl⟩
    rw [n_toInt (by omega)]
    omega
  · rintro ⟨h1, h2⟩
    exact ⟨x.toInt.toNat, by omega, by omega, i32_nat (by omega)⟩
theorem M_inr {x : Int32} {a b : Nat} (ha : a ≤ b) (hB : b < 2147483648) : (rng x a b → fM_in x (nI a) (nI b) = some 1) ∧ (¬ rng x a b → fM_in x (nI a) (nI b) = some 0) := by
  rw [rng_iff hB]
  unfold fM_in
  have h0 : (nI a).toInt = a := n_toInt (by omega)
  have hb := n_toInt hB
  constructor
  · intro ⟨h1, h2⟩
    rw [if_neg (by rw [i32_lt]; omega), if_neg (by rw [i32_lt]; omega)]
  · intro h
    by_cases q : x < nI a
    · rw [if_pos q]
    · rw [if_neg q, if_pos]
      rw [i32_lt] at q ⊢
      omega
theorem rng_if {α : Type} {x : Int32} {b : Nat} (hB : b < 2147483648) (h : ¬ rng x 1 b) (u v : α) : (if x < 1 then u else if x ≤ nI b then v else u) = u := by
  rw [rng_iff hB] at h
  have h1 : (1 : Int32).toInt = 1 := by decide
  have hb := n_toInt hB
  by_cases q : x < 1
  · rw [if_pos q]
  · rw [if_neg q, if_neg]
    intro r
    rw [i32_lt] at q
    rw [i32_le] at r
    omega
theorem P_days {N : Nat} (hN : 901 ≤ N) {σ : zS} (h : Core σ) (x1 : Int32) : Pr σ (fA_days N x1) (fM_days N x1) := by
  obtain ⟨P, T, M, c⟩ := h
  obtain ⟨c1, c2, c3, c3', c4, c5, c6, c7, c8, c9, c10⟩ := c
  have c : CX σ P T M := ⟨c1, c2, c3, c3', c4, c5, c6, c7, c8, c9, c10⟩
  have hn := c3.1
  have m1 := M_inr (x := x1) (a := 1) (b := 60) (by omega) (by omega)
  by_cases q1 : rng x1 1 60
  · have m1 : fM_in x1 1 60 = some 1 := m1.1 q1
    obtain ⟨k, hk1, hk, rfl⟩ := q1
    have n1 : ¬ (nI k < 1) := by rw [l1, n_lt (by omega) (by omega)]; omega
    have n2 : nI k ≤ 60 := (nI_leI (b := 60) (by omega) (by omega)).mpr hk
    by_cases qd : P 7 1 + k ≤ 9999
    · obtain ⟨s, r1, r2, r3⟩ := R_pass (N := N) c1 c3 c4 c6 (by omega) (n := k) (by omega) (by omega) (by omega)
      obtain ⟨τ, t1, t2, t3⟩ := M_goesOn (N := N) (VM_C c2 r3) c3 (TM_C c5 r3) c6 hN (n := k) (by omega) (by omega) (by omega)
      obtain ⟨d1, d2, d3, d4⟩ := sDays_ok (T := T) (M := M) k P c3 (by omega)
      have hle : nI (P 7 1) + nI k ≤ 9999 := by rw [n_add]; exact (nI_leI (b := 9999) (by omega) (by omega)).mpr qd
      refine Pr_move c (r := nI (sDays T M k P 7 2)) (s := s) (τ := τ) ?_ ?_ r3 t3 r2 t2 d1 ⟨by omega, (Q_days k P).2 c3'.2⟩
      · unfold fA_days
        rw [if_neg n1, if_pos n2, c1.2.2.2.1, if_pos hle, r1, zbd_s, r2.2.2.2.2]
      · unfold fM_days
        rw [m1, zbd_s, if_neg (by decide), (VM_C c2 r3).2.2.2.1, if_pos hle, t1, zbd_s, t2.2.2.2.2]
    · have hle : ¬ (nI (P 7 1) + nI k ≤ 9999) := by rw [n_add]; exact fun r => qd ((nI_leI (b := 9999) (by omega) (by omega)).mp r)
      refine Pr_err c (e := 3) (by omega) (by omega) ?_ ?_
      · unfold fA_days
        rw [if_neg n1, if_pos n2, c1.2.2.2.1, if_neg hle, zb2_id]
        rfl
      · unfold fM_days
        rw [m1, zbd_s, if_neg (by decide), (VM_26 c2).2.2.2.1, if_neg hle, zb2_id]
        rfl
  · have m1 : fM_in x1 1 60 = some 0 := m1.2 q1
    refine Pr_err c (e := 1) (by omega) (by omega) ?_ ?_
    · unfold fA_days
      refine (rng_if (b := 60) (by omega) q1 _ _).trans ?_
      unfold fA_days_J11
      rw [zb2_id]
      rfl
    · unfold fM_days
      rw [m1, zbd_s, if_pos rfl, zb2_id]
      rfl
theorem P_day {σ : zS} (h : Core σ) (x1 : Int32) : Pr σ (fA_day x1) (fM_day x1) := by
  obtain ⟨P, T, M, c⟩ := h
  obtain ⟨c1, c2, c3, c3', c4, c5, c6, c7, c8, c9, c10⟩ := c
  have c : CX σ P T M := ⟨c1, c2, c3, c3', c4, c5, c6, c7, c8, c9, c10⟩
  have hn := c3.1
  have a1 := A_within (x := x1) (B := 9999) (by omega)
  have m1 := M_in (x := x1) (B := 9999) (by omega)
  by_cases q1 : wi x1 9999
  · have a1 : fA_within x1 9999 = some 1 := a1.1 q1
    have m1 : fM_in x1 0 9999 = some 1 := m1.1 q1
    obtain ⟨k, hk, rfl⟩ := q1
    have f1 : FC 0 σ (zup σ 2 0 10 (nI k)) := FC_u (by omega)
    have v0 := VM_C c2 f1
    refine Pr_move c (r := nI (P 7 1)) (s := zup σ 2 0 10 (nI k)) (τ := zup (zup σ 2 0 10 (nI k)) 30 0 0 (nI k)) ?_ ?_ f1 (FM_u (by omega)) (VC_7 1 c1 (by omega)) (VM_7 1 v0 (by omega)) (PI_7 c3 (by omega)) ⟨by rw [pu_s]; exact hk, PJ_w c3'.2 (by omega)⟩
    · unfold fA_day
      rw [a1, zbd_s, if_neg (by decide), zlt_eq, zlt_eq, c1.2.2.2.1]
    · unfold fM_day fM_change1
      rw [m1, zbd_s, if_neg (by decide)]
      have hc : (0 : Int32).toNatClampNeg = 0 := rfl
      rw [zgd_t (by decide), zlt_eq, zgd_t (by decide), zlt_eq, zb2_s, hc, v0.2.2.2.1]
  · have a1 : fA_within x1 9999 = some 0 := a1.2 q1
    have m1 : fM_in x1 0 9999 = some 0 := m1.2 q1
    refine Pr_err c (e := 1) (by omega) (by omega) ?_ ?_
    · unfold fA_day
      rw [a1, zbd_s, if_pos rfl, zb2_id]
      rfl
    · unfold fM_day
      rw [m1, zbd_s, if_pos rfl, zb2_id]
      rfl
