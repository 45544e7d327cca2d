/-! Pure mathematics: lines of mothers, what lies between. -/
def sLn (P : zP) : Nat → Nat → Nat → Nat
  | 0, acc, _ => acc
  | f + 1, acc, c => if c = 0 then acc else sLn P f (acc ||| 2 ^ (c - 1)) (P 2 (c - 1))
theorem sLn_lt {P : zP} (hP : PI P) : ∀ f acc c, acc < 256 → c ≤ 8 → sLn P f acc c < 256
  | 0, acc, c, h, hc => h
  | f + 1, acc, c, h, hc => by
    unfold sLn
    split
    · exact h
    · have := hP.2.2.2.1 (c - 1) (by omega)
      exact sLn_lt hP f _ _ (b_ol h (by omega)) (by omega)
theorem R_line_L {N b : Nat} {σ : zS} {P : zP} (h : VC b σ P) (hP : PI P) : ∀ f acc c y g, c ≤ f → c ≤ P 7 0 → y + c ≤ 8 → f < g → acc < 256 → fR_lineOf_L7 N b g (nI acc) (nO c) (nI y) σ = some (nI (sLn P f acc c))
  | f, acc, c, y, 0, h1, h2, h3, h4, h5 => absurd h4 (by omega)
  | 0, acc, c, y, g + 1, h1, h2, h3, h4, h5 => by
    have hc : c = 0 := by omega
    rw [fR_lineOf_L7, hc]
    have : nO 0 < 0 := by decide
    rw [if_pos this]
    unfold sLn
    split <;> rfl
  | f + 1, acc, c, y, g + 1, h1, h2, h3, h4, h5 => by
    have hn := hP.1
    rw [fR_lineOf_L7]
    unfold sLn
    by_cases q : c = 0
    · have : nO c < 0 := by rw [q]; decide
      rw [if_pos this, if_pos q]
      split <;> rfl
    · have hm := hP.2.2.2.2.1 (c - 1) (by omega)
      have h8 : ¬ (8 ≤ nI y) := fun r => absurd ((nI_leI (a := 8) (by omega) (by omega)).mp r) (by omega)
      have hlt : ¬ (nO c < 0) := by rw [l0, nO_lt (by omega)]; exact q
      have e2 : σ 16 b (c - 1) = nO (P 2 (c - 1)) := h.1 2 (c - 1) (by omega) (by omega)
      rw [if_neg h8, if_neg hlt, if_neg q, nO_pos q, b_o h5 (by omega)]
      simp (disch := omega) only [zlt_eq, zgd_T, zin_T, zb2_s, zbd_s, n_cl, n_sub1, n_predm, n_sc, if_nle, if_nle0, if_nle1, if_le, if_true, if_false, e2]
      exact R_line_L h hP f _ _ (y + 1) g (by omega) (by omega) (by omega) (by omega) (b_ol h5 (by omega))
theorem M_line_L {N : Nat} {σ : zS} {P : zP} (h : VM σ P) (hP : PI P) : ∀ f acc c g, c ≤ f → c ≤ P 7 0 → f < g → acc < 256 → fM_lineOf_L4 N g (nI acc) (nO c) σ = some (nI (sLn P f acc c))
  | f, acc, c, 0, h1, h2, h4, h5 => absurd h4 (by omega)
  | 0, acc, c, g + 1, h1, h2, h4, h5 => by
    have hc : c = 0 := by omega
    rw [fM_lineOf_L4, hc]
    have : nO 0 < 0 := by decide
    rw [if_pos this]
    rfl
  | f + 1, acc, c, g + 1, h1, h2, h4, h5 => by
    have hn := hP.1
    rw [fM_lineOf_L4]
    unfold sLn
    by_cases q : c = 0
    · have : nO c < 0 := by rw [q]; decide
      rw [if_pos this, if_pos q]
    · have hm := hP.2.2.2.2.1 (c - 1) (by omega)
      have hlt : ¬ (nO c < 0) := by rw [l0, nO_lt (by omega)]; exact q
      have e2 : fM_its (nI (c - 1)) 2 σ = some (nO (P 2 (c - 1))) := M_its h 2 (by omega) (by omega)
      rw [if_neg hlt, if_neg q, nO_pos q, b_o h5 (by omega), zlt_eq, e2, zbd_s]
      exact M_line_L h hP f _ _ g (by omega) (by omega) (by omega) (b_ol h5 (by omega))
def sLine (P : zP) (i : Nat) : Nat := sLn P 8 0 (i + 1)
theorem R_line {N b : Nat} {σ : zS} {P : zP} (h : VC b σ P) (hP : PI P) (hN : 9 ≤ N) {i : Nat} (hi : i < P 7 0) : fR_lineOf N b (nI i) σ = some (nI (sLine P i)) := by
  have hn := hP.1
  unfold fR_lineOf
  rw [← nO_s]
  exact R_line_L h hP 8 0 (i + 1) 0 N (by omega) (by omega) (by omega) (by omega) (by omega)
theorem M_line {N : Nat} {σ : zS} {P : zP} (h : VM σ P) (hP : PI P) (hN : 9 ≤ N) {i : Nat} (hi : i < P 7 0) : fM_lineOf N (nI i) σ = some (nI (sLine P i)) := by
  have hn := hP.1
  unfold fM_lineOf
  rw [← nO_s]
  exact M_line_L h hP 8 0 (i + 1) N (by omega) (by omega) (by omega) (by omega)
theorem P_line {N : Nat} (hN : 901 ≤ N) {σ : zS} (h : Core σ) (x1 : Int32) : Pr σ (fA_line N x1) (fM_line N x1) := by
  obtain ⟨P, T, M, c⟩ := h
  obtain ⟨c1, c2, c3, c3', c4, c5, c6, c7, c8, c9, c10⟩ := c
  have c : CX σ P T M := ⟨c1, c2, c3, c3', c4, c5, c6, c7, c8, c9, c10⟩
  have hn := c3.1
  by_cases q : thr P x1
  · have a1 := (A_there c1 c3).1 q
    have m1 := (M_there c2 c3).1 q
    obtain ⟨i, hi, rfl⟩ := q
    refine Pr_look c (r := nI (sLine P i)) ?_ ?_
    · unfold fA_line
      rw [a1, zbd_s, if_neg (by decide), R_line c1 c3 (by omega) hi, zbd_s]
    · unfold fM_line
      rw [m1, zbd_s, if_neg (by decide), M_line c2 c3 (by omega) hi, zbd_s]
  · refine Pr_err c (e := 1) (by omega) (by omega) ?_ ?_
    · unfold fA_line
      rw [(A_there c1 c3).2 q, zbd_s, if_pos rfl, zb2_id]
      rfl
    · unfold fM_line
      rw [(M_there (VM_26 c2) c3).2 q, zbd_s, if_pos rfl, zb2_id]
      rfl
/-! the strings over a cell, the strings tied -/
def sLow (P : zP) (i : Nat) : Nat := if P 3 (P 2 i - 1) < P 3 i then P 3 (P 2 i - 1) else P 3 i
def sOv (P : zP) (x : Nat) : Nat → Nat → Nat → Nat
  | 0, _, acc => acc
  | k + 1, j, acc => sOv P x k (j + 1) (if P 2 j ≠ 0 ∧ sLow P j ≤ x ∧ x ≤ sLow P j + sA P j then acc ||| 2 ^ j else acc)
theorem R_low {b : Nat} {σ : zS} {P : zP} (h : VC b σ P) (hP : PI P) {i : Nat} (hi : i < 8) (h2 : P 2 i ≠ 0) : fR_low b (nI i) σ = some (nI (sLow P i)) := by
  have hPi := hP.2.2.2.1 i hi
  have hPm := hP.2.2.2.1 (P 2 i - 1) (by omega)
  have e2 : σ 16 b i = nO (P 2 i) := h.1 2 i (by omega) hi
  have e3 : σ 17 b i = nI (P 3 i) := h.1 3 i (by omega) hi
  have e3' : σ 17 b (P 2 i - 1) = nI (P 3 (P 2 i - 1)) := h.1 3 (P 2 i - 1) (by omega) (by omega)
  have hlt : ¬ (nI (P 2 i - 1) < 0) := by rw [l0, n_lt (by omega) (by omega)]; omega
  unfold fR_low
  simp (disch := omega) only [zlt_eq, zgd_T, zin_T, zb2_s, zbd_s, n_cl, n_sub1, n_predm, n_sc, if_nle, if_nle0, if_nle1, if_le, if_true, if_false, e2]
  rw [nO_pos h2, if_neg hlt]
  simp (disch := omega) only [zlt_eq, zgd_T, zin_T, zb2_s, zbd_s, n_cl, n_sub1, n_predm, n_sc, if_nle, if_nle0, if_nle1, if_le, if_true, if_false, e3, e3']
  unfold fJ_min sLow
  by_cases q : P 3 (P 2 i - 1) < P 3 i
  · rw [if_pos ((nI_ltI (by omega) (by omega)).mpr q), if_pos q, zbd_s]
  · rw [if_neg (fun r => q ((nI_ltI (by omega) (by omega)).mp r)), if_neg q, zbd_s]
theorem M_low {σ : zS} {P : zP} (h : VM σ P) (hP : PI P) {i : Nat} (hi : i < 8) (h2 : P 2 i ≠ 0) : fM_lowEnd (nI i) σ = some (nI (sLow P i)) := by
  have hPi := hP.2.2.2.1 i hi
  have hPm := hP.2.2.2.1 (P 2 i - 1) (by omega)
  have e2 : fM_its (nI i) 2 σ = some (nI (P 2 i - 1)) := (M_its h 2 (by omega) hi).trans (by rw [pw_2, nO_pos h2])
  have e3 : fM_its (nI i) 3 σ = some (nI (P 3 i)) := M_its h 3 (by omega) hi
  have e3' : fM_its (nI (P 2 i - 1)) 3 σ = some (nI (P 3 (P 2 i - 1))) := M_its h 3 (by omega) (by omega)
  unfold fM_lowEnd sLow
  rw [e3, zbd_s, e2, zbd_s, e3', zbd_s]
  by_cases q : P 3 (P 2 i - 1) < P 3 i
  · rw [if_le (by omega) (by omega), if_pos q]
  · rw [if_neg q]
    by_cases q2 : P 3 (P 2 i - 1) = P 3 i
    · rw [q2, if_le (by omega) (by omega)]
    · rw [if_nle (by omega) (by omega)]
theorem sLow_le {P : zP} (hP : PI P) {i : Nat} (hi : i < 8) : sLow P i ≤ 63 := by
  have hPi := hP.2.2.2.1 i hi
  unfold sLow
  split <;> omega
theorem R_over_L {N b : Nat} {σ : zS} {P : zP} (h : VC b σ P) (hP : PI P) {x : Nat} (hx : x ≤ 63) : ∀ k j acc f, j + k = P 7 0 → k < f → acc < 256 → fR_stringsOver_L4 N b f (nI x) (nI acc) (nI j) σ = some (nI (sOv P x k j acc))
  | k, j, acc, 0, h1, h2, h3 => absurd h2 (by omega)
  | 0, j, acc, f + 1, h1, h2, h3 => by
    have hn := hP.1
    rw [fR_stringsOver_L4, h.2.2.1, if_le (by omega) (by omega)]
    rfl
  | k + 1, j, acc, f + 1, h1, h2, h3 => by
    have hn := hP.1
    have hj : j < 8 := by omega
    have hl := sLow_le hP hj
    have ha := sA_le hP hj
    rw [fR_stringsOver_L4, h.2.2.1, if_nle (by omega) (by omega), A_tied h hP hj, zbd_s, n_sc]
    unfold sOv
    by_cases q : P 2 j = 0
    · rw [if_pos q, if_pos rfl, if_neg (fun r => r.1 q)]
      exact R_over_L h hP hx k (j + 1) acc f (by omega) (by omega) h3
    · rw [if_neg q, if_neg (by decide), R_low h hP hj q, zbd_s]
      have hh : fR_high b (nI j) σ = some (nI (sLow P j + sA P j)) := by
        unfold fR_high
        rw [R_low h hP hj q, zbd_s, R_apart h hP hj, zbd_s, n_add]
      rw [hh, zbd_s]
      by_cases q1 : sLow P j ≤ x
      · rw [if_neg (fun r => absurd ((nI_ltI (by omega) (by omega)).mp r) (by omega))]
        by_cases q2 : x ≤ sLow P j + sA P j
        · rw [if_neg (fun r => absurd ((nI_ltI (by omega) (by omega)).mp r) (by omega)), if_pos ⟨q, q1, q2⟩, zlt_eq, b_o h3 hj]
          exact R_over_L h hP hx k (j + 1) _ f (by omega) (by omega) (b_ol h3 hj)
        · rw [if_pos ((nI_ltI (by omega) (by omega)).mpr (by omega)), if_neg (fun r => q2 r.2.2)]
          exact R_over_L h hP hx k (j + 1) acc f (by omega) (by omega) h3
      · rw [if_pos ((nI_ltI (by omega) (by omega)).mpr (by omega)), if_neg (fun r => q1 r.2.1)]
        exact R_over_L h hP hx k (j + 1) acc f (by omega) (by omega) h3
theorem M_over_L {N : Nat} {σ : zS} {P : zP} (h : VM σ P) (hP : PI P) {x : Nat} (hx : x ≤ 63) : ∀ k j acc f, j + k = P 7 0 → k < f → acc < 256 → fM_overAt_L4 N f (nI x) (nI acc) (nI j) σ = some (nI (sOv P x k j acc))
  | k, j, acc, 0, h1, h2, h3 => absurd h2 (by omega)
  | 0, j, acc, f + 1, h1, h2, h3 => by
    have hn := hP.1
    rw [fM_overAt_L4, h.2.2.1, if_le (by omega) (by omega)]
    rfl
  | k + 1, j, acc, f + 1, h1, h2, h3 => by
    have hn := hP.1
    have hj : j < 8 := by omega
    have hl := sLow_le hP hj
    have ha := sA_le hP hj
    have h46 : ∀ K, fM_overAt_J46 N K (nI x) (nI j) (nI acc) σ = K (nI x) (nI acc) (nI (j + 1)) σ := by
      intro K
      unfold fM_overAt_J46
      rw [zlt_eq, n_sc]
      have : nI acc ||| 0 = nI acc := by
        apply Int32.toBitVec_inj.mp
        show (nI acc).toBitVec ||| 0#32 = _
        rw [BitVec.or_zero]
      rw [this]
    rw [fM_overAt_L4, h.2.2.1, if_nle (by omega) (by omega), M_tied h hP hj, zbd_s, h46, n_sc]
    unfold sOv
    by_cases q : P 2 j = 0
    · rw [if_pos q, if_pos rfl, if_neg (fun r => r.1 q)]
      exact M_over_L h hP hx k (j + 1) acc f (by omega) (by omega) h3
    · have hh : fM_highEnd (nI j) σ = some (nI (sLow P j + sA P j)) := by
        unfold fM_highEnd
        rw [M_low h hP hj q, zbd_s, M_apart h hP hj, zbd_s, n_add]
      rw [if_neg q, if_neg (by decide), M_low h hP hj q, zbd_s, hh, zbd_s]
      unfold fM_in
      by_cases q1 : sLow P j ≤ x
      · rw [if_neg (fun r => absurd ((nI_ltI (by omega) (by omega)).mp r) (by omega))]
        by_cases q2 : x ≤ sLow P j + sA P j
        · rw [if_neg (fun r => absurd ((nI_ltI (by omega) (by omega)).mp r) (by omega)), zbd_s, if_neg (by decide), if_pos ⟨q, q1, q2⟩, zlt_eq, b_o h3 hj]
          exact M_over_L h hP hx k (j + 1) _ f (by omega) (by omega) (b_ol h3 hj)
        · rw [if_pos ((nI_ltI (by omega) (by omega)).mpr (by omega)), zbd_s, if_pos rfl, if_neg (fun r => q2 r.2.2)]
          exact M_over_L h hP hx k (j + 1) acc f (by omega) (by omega) h3
      · rw [if_pos ((nI_ltI (by omega) (by omega)).mpr (by omega)), zbd_s, if_pos rfl, if_neg (fun r => q1 r.2.1)]
        exact M_over_L h hP hx k (j + 1) acc f (by omega) (by omega) h3
theorem R_over {N b : Nat} {σ : zS} {P : zP} (h : VC b σ P) (hP : PI P) (hN : 9 ≤ N) {x : Nat} (hx : x ≤ 63) : fR_stringsOver N b (nI x) σ = some (nI (sOv P x (P 7 0) 0 0)) := by
  have hn := hP.1
  exact R_over_L h hP hx (P 7 0) 0 0 N (by omega) (by omega) (by omega)
theorem M_over {N : Nat} {σ : zS} {P : zP} (h : VM σ P) (hP : PI P) (hN : 9 ≤ N) {x : Nat} (hx : x ≤ 63) : fM_overAt N (nI x) σ = some (nI (sOv P x (P 7 0) 0 0)) := by
  have hn := hP.1
  exact M_over_L h hP hx (P 7 0) 0 0 N (by omega) (by omega) (by omega)
theorem sOv_lt {P : zP} {x : Nat} : ∀ k j acc, j + k ≤ 8 → acc < 256 → sOv P x k j acc < 256
  | 0, j, acc, h1, h2 => h2
  | k + 1, j, acc, h1, h2 => by
    unfold sOv
    refine sOv_lt k (j + 1) _ (by omega) ?_
    split
    · exact b_ol h2 (by omega)
    · exact h2
theorem P_over {N : Nat} (hN : 901 ≤ N) {σ : zS} (h : Core σ) (x1 : Int32) : Pr σ (fA_over N x1) (fM_over N x1) := by
  obtain ⟨P, T, M, c⟩ := h
  obtain ⟨c1, c2, c3, c3', c4, c5, c6, c7, c8, c9, c10⟩ := c
  have c : CX σ P T M := ⟨c1, c2, c3, c3', c4, c5, c6, c7, c8, c9, c10⟩
  have hn := c3.1
  have a1 := A_within (x := x1) (B := 63) (by omega)
  have m1 := M_in (x := x1) (B := 63) (by omega)
  by_cases q1 : wi x1 63
  · have a1 : fA_within x1 63 = some 1 := a1.1 q1
    have m1 : fM_in x1 0 63 = some 1 := m1.1 q1
    obtain ⟨x, hx, rfl⟩ := q1
    refine Pr_look c (r := nI (sOv P x (P 7 0) 0 0)) ?_ ?_
    · unfold fA_over
      rw [a1, zbd_s, if_neg (by decide), R_over c1 c3 (by omega) hx, zbd_s]
    · unfold fM_over fM_isCell
      rw [m1, zbd_s, zgd_t (Or.inr rfl), zbd_s, if_neg (by decide), M_over c2 c3 (by omega) hx, zbd_s]
  · have a1 : fA_within x1 63 = some 0 := a1.2 q1
    have m1 : fM_in x1 0 63 = some 0 := m1.2 q1
    refine Pr_err c (e := 1) (by omega) (by omega) ?_ ?_
    · unfold fA_over
      rw [a1, zbd_s, if_pos rfl, zb2_id]
      rfl
    · unfold fM_over fM_isCell
      rw [m1, zbd_s, zgd_t (Or.inl rfl), zbd_s, if_pos rfl, zb2_id]
      rfl
/-- the strings tied -/
def sTd (P : zP) : Nat → Nat → Nat → Nat
  | 0, _, acc => acc
  | k + 1, j, acc => sTd P k (j + 1) (if P 2 j = 0 then acc else acc ||| 2 ^ j)
theorem R_tied_L {N b : Nat} {σ : zS} {P : zP} (h : VC b σ P) (hP : PI P) : ∀ k j acc f, j + k = P 7 0 → k < f → acc < 256 → fR_tied_L4 N b f (nI acc) (nI j) σ = some (nI (sTd P k j acc))
  | k, j, acc, 0, h1, h2, h3 => absurd h2 (by omega)
  | 0, j, acc, f + 1, h1, h2, h3 => by
    have hn := hP.1
    rw [fR_tied_L4, h.2.2.1, if_le (by omega) (by omega)]
    rfl
  | k + 1, j, acc, f + 1, h1, h2, h3 => by
    have hn := hP.1
    have hj : j < 8 := by omega
    rw [fR_tied_L4, h.2.2.1, if_nle (by omega) (by omega), A_tied h hP hj, zbd_s, n_sc, b_o h3 hj, zlt_eq]
    unfold sTd
    by_cases q : P 2 j = 0
    · rw [if_pos q, if_pos rfl, if_pos q]
      exact R_tied_L h hP k (j + 1) acc f (by omega) (by omega) h3
    · rw [if_neg q, if_neg (by decide), if_neg q]
      exact R_tied_L h hP k (j + 1) _ f (by omega) (by omega) (b_ol h3 hj)
theorem n_or0 (x : Int32) : x ||| 0 = x := by
  apply Int32.toBitVec_inj.mp
  show x.toBitVec ||| 0#32 = _
  rw [BitVec.or_zero]
theorem M_tied_L {N : Nat} {σ : zS} {P : zP} (h : VM σ P) (hP : PI P) : ∀ k j acc f, j + k = P 7 0 → k < f → acc < 256 → fM_tiedNow_L4 N f (nI acc) (nI j) σ = some (nI (sTd P k j acc))
  | k, j, acc, 0, h1, h2, h3 => absurd h2 (by omega)
  | 0, j, acc, f + 1, h1, h2, h3 => by
    have hn := hP.1
    rw [fM_tiedNow_L4, h.2.2.1, if_le (by omega) (by omega)]
    rfl
  | k + 1, j, acc, f + 1, h1, h2, h3 => by
    have hn := hP.1
    have hj : j < 8 := by omega
    rw [fM_tiedNow_L4, h.2.2.1, if_nle (by omega) (by omega), M_tied h hP hj, zbd_s, n_sc, b_o h3 hj, zlt_eq, zlt_eq, n_or0]
    unfold sTd
    by_cases q : P 2 j = 0
    · rw [if_pos q, if_pos rfl, if_pos q]
      exact M_tied_L h hP k (j + 1) acc f (by omega) (by omega) h3
    · rw [if_neg q, if_neg (by decide), if_neg q]
      exact M_tied_L h hP k (j + 1) _ f (by omega) (by omega) (b_ol h3 hj)
theorem R_tiedAll {N b : Nat} {σ : zS} {P : zP} (h : VC b σ P) (hP : PI P) (hN : 9 ≤ N) : fR_tied N b σ = some (nI (sTd P (P 7 0) 0 0)) := by
  have hn := hP.1
  exact R_tied_L h hP (P 7 0) 0 0 N (by omega) (by omega) (by omega)
theorem M_tiedAll {N : Nat} {σ : zS} {P : zP} (h : VM σ P) (hP : PI P) (hN : 9 ≤ N) : fM_tiedNow N σ = some (nI (sTd P (P 7 0) 0 0)) := by
  have hn := hP.1
  exact M_tied_L h hP (P 7 0) 0 0 N (by omega) (by omega) (by omega)
