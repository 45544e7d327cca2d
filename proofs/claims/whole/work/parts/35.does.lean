/-! Pure mathematics: what a person yields, does, goes. -/
def sHr (P : zP) (i : Nat) : Nat → Nat → Nat
  | 0, _ => 0
  | k + 1, j => if P 2 j = i + 1 then 1 else sHr P i k (j + 1)
def sH (P : zP) (i : Nat) : Nat := sHr P i (P 7 0) 0
theorem sHr_01 (P : zP) (i : Nat) : ∀ k j, sHr P i k j = 0 ∨ sHr P i k j = 1
  | 0, j => Or.inl rfl
  | k + 1, j => by
    unfold sHr
    split
    · exact Or.inr rfl
    · exact sHr_01 P i k (j + 1)
theorem sHr_skip {P : zP} (hP : PI P) (i : Nat) : ∀ k j n, P 7 0 = n → j + k = n → j ≤ i + 1 → sHr P i k j = sHr P i (n - (i + 1)) (i + 1)
  | 0, j, n, hn, h1, h2 => by
    have : n - (i + 1) = 0 := by omega
    rw [this]
    rfl
  | k + 1, j, n, hn, h1, h2 => by
    by_cases hj : j = i + 1
    · subst hj
      have : n - (i + 1) = k + 1 := by omega
      rw [this]
    · have hm := hP.2.2.2.2.1 j (by omega)
      rw [sHr, if_neg (by omega)]
      exact sHr_skip hP i k (j + 1) n hn (by omega) (by omega)
theorem R_hasChildren_L {N b : Nat} {σ : zS} {P : zP} (h : VC b σ P) (hP : PI P) {i : Nat} (hi : i < 8) : ∀ k j f, j + k = P 7 0 → k < f → fR_hasChildren_L4 N b f (nI (i + 1 - 1)) (nI j) σ = some (nI (sHr P i k j))
  | 0, j, 0, h1, h2 => absurd h2 (by omega)
  | k + 1, j, 0, h1, h2 => absurd h2 (by omega)
  | 0, j, f + 1, h1, h2 => by
    rw [fR_hasChildren_L4, h.2.2.1, if_le (by omega) (by have := hP.1; omega)]
    rfl
  | k + 1, j, f + 1, h1, h2 => by
    have hn := hP.1
    have hj := hP.2.2.2.1 j (by omega)
    have e2 : σ 16 b j = nO (P 2 j) := h.1 2 j (by omega) (by omega)
    rw [fR_hasChildren_L4, h.2.2.1, if_nle (by omega) (by omega)]
    simp (disch := omega) only [zlt_eq, zgd_T, zin_T, zb2_s, zbd_s, n_cl, n_sub1, n_predm, n_sc, if_nle, if_nle0, if_nle1, if_le, if_true, if_false, e2]
    rw [sHr]
    by_cases q : P 2 j = i + 1
    · rw [if_pos q, if_pos]
      · rfl
      · rw [nO_eqn (by omega) (by omega)]
        omega
    · rw [if_neg q, if_neg]
      · exact R_hasChildren_L h hP hi k (j + 1) f (by omega) (by omega)
      · rw [nO_eqn (by omega) (by omega)]
        omega
theorem sHr_e (P : zP) (i : Nat) : ∀ k k' j, k' = k → sHr P i k' j = sHr P i k j := fun _ _ _ h => by rw [h]
theorem R_hasChildren {N b : Nat} {σ : zS} {P : zP} (h : VC b σ P) (hP : PI P) (hN : 9 ≤ N) {i : Nat} (hi : i < 8) : fR_hasChildren N b (nI i) σ = some (nI (sH P i)) := by
  unfold fR_hasChildren
  have hn := hP.1
  rw [zlt_eq, n_sc]
  unfold sH
  rw [sHr_skip hP i (P 7 0) 0 (P 7 0) rfl (by omega) (by omega)]
  by_cases q : i + 1 ≤ P 7 0
  · exact R_hasChildren_L (N := N) h hP hi (P 7 0 - (i + 1)) (i + 1) N (by omega) (by omega)
  · have : P 7 0 - (i + 1) = 0 := by omega
    rw [this]
    cases N with
    | zero => omega
    | succ f =>
      rw [fR_hasChildren_L4, h.2.2.1, if_le (by omega) (by omega)]
      rfl
theorem M_hasChildren_L {N : Nat} {σ : zS} {P : zP} (h : VM σ P) (hP : PI P) {i : Nat} (hi : i < 8) : ∀ k j f, j + k = P 7 0 → k < f → fM_hasChildren_L4 N f (nI i) 0 (nI j) σ = some (nI (sHr P i k j)) ∧ fM_hasChildren_L4 N f (nI i) 1 (nI j) σ = some (nI 1)
  | 0, j, 0, h1, h2 => absurd h2 (by omega)
  | k + 1, j, 0, h1, h2 => absurd h2 (by omega)
  | 0, j, f + 1, h1, h2 => by
    constructor
    · rw [fM_hasChildren_L4, h.2.2.1, if_le (by omega) (by have := hP.1; omega), zgd_t (Or.inl rfl)]
      rfl
    · rw [fM_hasChildren_L4, h.2.2.1, if_le (by omega) (by have := hP.1; omega), zgd_t (Or.inr rfl)]
      rfl
  | k + 1, j, f + 1, h1, h2 => by
    have hn := hP.1
    have hj := hP.2.2.2.1 j (by omega)
    have e2 : fM_its (nI j) 2 σ = some (nO (P 2 j)) := M_its h 2 (by omega) (by omega)
    obtain ⟨g1, g2⟩ := M_hasChildren_L (N := N) h hP hi k (j + 1) f (by omega) (by omega)
    constructor
    · rw [fM_hasChildren_L4, h.2.2.1, if_nle (by omega) (by omega), if_pos rfl, e2, zbd_s, sHr]
      unfold fM_hasChildren_J28
      rw [n_sc]
      by_cases q : P 2 j = i + 1
      · rw [if_pos q, if_pos]
        · exact g2
        · rw [nO_eqn (by omega) (by omega)]
          omega
      · rw [if_neg q, if_neg]
        · exact g1
        · rw [nO_eqn (by omega) (by omega)]
          omega
    · rw [fM_hasChildren_L4, h.2.2.1, if_nle (by omega) (by omega), if_neg (by decide)]
      unfold fM_hasChildren_J28
      rw [n_sc]
      exact g2
theorem M_hasChildren {N : Nat} {σ : zS} {P : zP} (h : VM σ P) (hP : PI P) (hN : 9 ≤ N) {i : Nat} (hi : i < 8) : fM_hasChildren N (nI i) σ = some (nI (sH P i)) := by
  unfold fM_hasChildren
  have hn := hP.1
  exact (M_hasChildren_L h hP hi (P 7 0) 0 N (by omega) (by omega)).1
/-- what a person yields -/
def sY (P : zP) (i : Nat) : Nat := if P 0 i = 0 then 0 else if P 0 i = 1 then 1 else if P 0 i = 2 then (if P 5 i = 0 then 0 else 3) else if P 0 i = 3 then 2 else if P 0 i = 4 then (if sH P i = 0 then 1 else 0) else if P 0 i = 5 then (if 4 < P 1 i then (if P 5 i = 0 then 0 else 3) else 2) else (P 7 1 + P 1 i) % 4
def sS (P : zP) (i : Nat) : Nat := if P 0 i = 0 then 2 else if P 0 i = 1 then 2 + P 7 1 % 2 else if P 0 i = 2 then 1 else if P 0 i = 3 then P 1 i / 5 else if P 0 i = 4 then 2 + P 7 1 % 2 + P 1 i else if P 0 i = 5 then 4 else 1
theorem n_le0 {a : Nat} (ha : a < 2147483648) : (nI a ≤ 0) = (a = 0) := by rw [l0, n_le ha (by omega)]; exact propext (by omega)
theorem n_eqL {a b : Nat} {v : Int32} (hv : v = nI b) (ha : a < 2147483648) (hb : b < 2147483648) : (nI a = v) = (a = b) := by rw [hv, n_eq ha hb]
theorem n_eq0 {a : Nat} (ha : a < 2147483648) : (nI a = 0) = (a = 0) := n_eqL rfl ha (by omega)
theorem n_eq1 {a : Nat} (ha : a < 2147483648) : (nI a = 1) = (a = 1) := n_eqL rfl ha (by omega)
theorem n_eq2 {a : Nat} (ha : a < 2147483648) : (nI a = 2) = (a = 2) := n_eqL rfl ha (by omega)
theorem n_eq3 {a : Nat} (ha : a < 2147483648) : (nI a = 3) = (a = 3) := n_eqL rfl ha (by omega)
theorem n_eq4 {a : Nat} (ha : a < 2147483648) : (nI a = 4) = (a = 4) := n_eqL rfl ha (by omega)
theorem n_eq5 {a : Nat} (ha : a < 2147483648) : (nI a = 5) = (a = 5) := n_eqL rfl ha (by omega)
theorem n_eq6 {a : Nat} (ha : a < 2147483648) : (nI a = 6) = (a = 6) := n_eqL rfl ha (by omega)
theorem n_mod {a d : Nat} {v : Int32} (hv : v = nI d) (ha : a < 2147483648) (h0 : 0 < d) (hd : d < 2147483648) : nI a - nI a / v * v = nI (a % d) := by rw [hv]; exact n_rem ha h0 hd
theorem R_yielding {N b : Nat} {σ : zS} {P : zP} (h : VC b σ P) (hP : PI P) (hN : 9 ≤ N) {i : Nat} (hi : i < 8) : fR_yielding N b (nI i) σ = some (nI (sY P i)) := by
  have hi1 := hP.2.2.2.1 i hi
  have hd := hP.2.1
  have e0 : σ 14 b i = nI (P 0 i) := h.1 0 i (by omega) hi
  have e1 : σ 15 b i = nI (P 1 i) := h.1 1 i (by omega) hi
  have e5 : σ 19 b i = nI (P 5 i) := h.1 5 i (by omega) hi
  have ed := h.2.2.2.1
  have hs := sHr_01 P i (P 7 0) 0
  have hm : nI (P 7 1) + nI (P 1 i) - (nI (P 7 1) + nI (P 1 i)) / 4 * 4 = nI ((P 7 1 + P 1 i) % 4) := by
    rw [n_add]
    exact n_mod rfl (by omega) (by omega) (by omega)
  have h4 : (4 < nI (P 1 i)) = (4 < P 1 i) := n_lt (a := 4) (by omega) (by omega)
  unfold fR_yielding sY
  simp (disch := omega) only [zlt_eq, zgd_T, zin_T, zb2_s, zbd_s, n_cl, n_sub1, n_predm, n_sc, if_nle, if_nle0, if_nle1, if_le, if_true, if_false, e0, e1, e5, ed, hm, h4, n_eq0, n_eq1, n_eq2, n_eq3, n_eq4, n_eq5, n_le0, R_hasChildren h hP hN hi]
  unfold sH at *
  repeat' split
  all_goals first | rfl | omega | skip
  all_goals (rename_i q q'; first | (rw [n_eq0 (by omega)] at q; omega) | (rw [n_eq0 (by omega)] at q'; omega))
theorem M_yieldsOf {N : Nat} {σ : zS} {P : zP} (h : VM σ P) (hP : PI P) (hN : 9 ≤ N) {i : Nat} (hi : i < 8) : fM_yieldsOf N (nI i) σ = some (nI (sY P i)) := by
  have hi1 := hP.2.2.2.1 i hi
  have hd := hP.2.1
  have e0 : fM_its (nI i) 0 σ = some (nI (P 0 i)) := M_its h 0 (by omega) hi
  have e1 : fM_its (nI i) 1 σ = some (nI (P 1 i)) := M_its h 1 (by omega) hi
  have e5 : fM_its (nI i) 5 σ = some (nI (P 5 i)) := M_its h 5 (by omega) hi
  have ed := h.2.2.2.1
  have hs := sHr_01 P i (P 7 0) 0
  have hm : nI (P 7 1) + nI (P 1 i) - (nI (P 7 1) + nI (P 1 i)) / 4 * 4 = nI ((P 7 1 + P 1 i) % 4) := by
    rw [n_add]
    exact n_mod rfl (by omega) (by omega) (by omega)
  have h4 : (nI (P 1 i) ≤ 4) = (P 1 i ≤ 4) := n_le (b := 4) (by omega) (by omega)
  have hJ : ∀ v : Nat, fM_yieldsOf_J21 N (nI i) (nI (P 1 i)) (nI v) σ = some (nI (if P 0 i = 1 then 1 else if P 0 i = 2 then v else if P 0 i = 3 then 2 else if P 0 i = 4 then (if sH P i = 0 then 1 else 0) else if P 0 i = 5 then (if P 1 i ≤ 4 then 2 else v) else if P 0 i = 6 then (P 7 1 + P 1 i) % 4 else 0)) := by
    intro v
    unfold fM_yieldsOf_J21
    rw [e0, zbd_s, ed, hm, M_hasChildren h hP hN hi, zbd_s]
    simp (disch := omega) only [h4, n_eq1, n_eq2, n_eq3, n_eq4, n_eq5, n_eq6]
    unfold sH at *
    repeat' split
    all_goals first | rfl | omega | skip
    all_goals (rename_i q q'; first | (rw [n_eq0 (by omega)] at q; omega) | (rw [n_eq0 (by omega)] at q'; omega))
  unfold fM_yieldsOf
  rw [e1, zbd_s, e5, zbd_s]
  unfold sY
  by_cases q : P 5 i = 0
  · rw [if_pos (by rw [n_le0 (by omega)]; exact q)]
    refine (hJ 0).trans ?_
    congr 2
    repeat' split
    all_goals omega
  · rw [if_neg (by rw [n_le0 (by omega)]; exact q)]
    refine (hJ 3).trans ?_
    congr 2
    repeat' split
    all_goals omega
theorem R_steps {b : Nat} {σ : zS} {P : zP} (h : VC b σ P) (hP : PI P) {i : Nat} (hi : i < 8) : fR_steps b (nI i) σ = some (nI (sS P i)) := by
  have hi1 := hP.2.2.2.1 i hi
  have hd := hP.2.1
  have e0 : σ 14 b i = nI (P 0 i) := h.1 0 i (by omega) hi
  have e1 : σ 15 b i = nI (P 1 i) := h.1 1 i (by omega) hi
  have ed := h.2.2.2.1
  have hm : nI (P 7 1) - nI (P 7 1) / 2 * 2 = nI (P 7 1 % 2) := n_mod rfl (by omega) (by omega) (by omega)
  have h5 : nI (P 1 i) / 5 = nI (P 1 i / 5) := n_div (d := 5) (by omega) (by omega) (by omega)
  have h2 : 2 + nI (P 7 1 % 2) = nI (2 + P 7 1 % 2) := n_add 2 _
  unfold fR_steps sS
  simp (disch := omega) only [zlt_eq, zgd_T, zin_T, zb2_s, zbd_s, n_cl, n_sub1, n_predm, n_sc, if_nle, if_nle0, if_nle1, if_le, if_true, if_false, e0, e1, ed, hm, h5, h2, n_add, n_eq0, n_eq1, n_eq2, n_eq3, n_eq4, n_eq5]
  repeat' split
  all_goals first | rfl | omega
theorem M_stepsOf {σ : zS} {P : zP} (h : VM σ P) (hP : PI P) {i : Nat} (hi : i < 8) : fM_stepsOf (nI i) σ = some (nI (sS P i)) := by
  have hi1 := hP.2.2.2.1 i hi
  have hd := hP.2.1
  have e0 : fM_its (nI i) 0 σ = some (nI (P 0 i)) := M_its h 0 (by omega) hi
  have e1 : fM_its (nI i) 1 σ = some (nI (P 1 i)) := M_its h 1 (by omega) hi
  have ed := h.2.2.2.1
  have hm : nI (P 7 1) - nI (P 7 1) / 2 * 2 = nI (P 7 1 % 2) := n_mod rfl (by omega) (by omega) (by omega)
  have h5 : nI (P 1 i) / 5 = nI (P 1 i / 5) := n_div (d := 5) (by omega) (by omega) (by omega)
  have h2 : 2 + nI (P 7 1 % 2) = nI (2 + P 7 1 % 2) := n_add 2 _
  unfold fM_stepsOf sS
  simp (disch := omega) only [zlt_eq, zgd_T, zin_T, zb2_s, zbd_s, n_cl, n_sub1, n_predm, n_sc, if_nle, if_nle0, if_nle1, if_le, if_true, if_false, e0, e1, ed, hm, h5, h2, n_add, n_eq0, n_eq1, n_eq2, n_eq3, n_eq4, n_eq5, n_eq6]
  repeat' split
  all_goals first | rfl | omega
theorem sS_le {P : zP} (hP : PI P) {i : Nat} (hi : i < 8) : sS P i ≤ 12 := by
  have hi1 := hP.2.2.2.1 i hi
  unfold sS
  repeat' split
  all_goals omega
/-- what a person does, and how far it goes -/
def sDo (T : Nat → Nat → Int32) (M : Nat → Nat) (P : zP) (i : Nat) : Nat := sG T M 0 (nI (sY P i)) (nI (P 5 i)) (nI (P 7 1 % 8))
def sGo (T : Nat → Nat → Int32) (M : Nat → Nat) (P : zP) (i : Nat) : Nat := sG T M 1 (nI (sS P i)) (nI (P 4 i)) (nI (P 7 1 % 8))
theorem sDo_le (T : Nat → Nat → Int32) (M : Nat → Nat) (P : zP) (i : Nat) : sDo T M P i ≤ 3 := fE_0 _
theorem sGo_le (T : Nat → Nat → Int32) (M : Nat → Nat) (P : zP) (i : Nat) : sGo T M P i ≤ 9 := sG_le T M 1 _ _ _
/-- which laws a road has -/
def lw (b : Nat) : Nat := if b = 2 then 0 else 2 * b
theorem lw_0 (b : Nat) : (if b = 2 then 0 else 2 * b) = lw b + 0 := rfl
theorem lw_1 (b : Nat) : (if b = 2 then 1 else 2 * b + 1) = lw b + 1 := by unfold lw; split <;> rfl
theorem n_day8 {d : Nat} (h : d ≤ 20000) : nI d - nI d / 8 * 8 = nI (d % 8) := n_mod rfl (by omega) (by omega) (by omega)
theorem R_doesNow {N b : Nat} {σ : zS} {P : zP} {T : Nat → Nat → Int32} {M : Nat → Nat} (h : VC b σ P) (hP : PI P) (hT : TC (lw b) σ T M) (hW : WT T M) (hN : 61 ≤ N) {i : Nat} (hi : i < 8) : ∃ σ', fR_doesNow N b (nI i) σ = some (nI (sDo T M P i), σ') ∧ VC b σ' P ∧ (∀ c i k, c ≠ 11 → σ' c i k = σ c i k) := by
  have hi1 := hP.2.2.2.1 i hi
  have hd := hP.2.1
  have e5 : σ 19 b i = nI (P 5 i) := h.1 5 i (by omega) hi
  obtain ⟨σ', q1, q2⟩ := L_gives (N := N) hT hW hN (x := nI (sY P i)) (y := nI (P 5 i)) (z := nI (P 7 1 % 8)) (show 0 < 2 by omega)
  refine ⟨σ', ?_, VC_11 h q2, q2⟩
  unfold fR_doesNow
  rw [R_yielding h hP (by omega) hi, zbd_s, h.2.2.2.1, n_day8 hd, lw_0]
  simp (disch := omega) only [zlt_eq, zgd_T, zin_T, zb2_s, zbd_s, n_cl, n_sub1, n_predm, n_sc, if_nle, if_nle0, if_nle1, if_le, if_true, if_false, e5, q1]
  rfl
theorem R_goesNow {N b : Nat} {σ : zS} {P : zP} {T : Nat → Nat → Int32} {M : Nat → Nat} (h : VC b σ P) (hP : PI P) (hT : TC (lw b) σ T M) (hW : WT T M) (hN : 61 ≤ N) {i : Nat} (hi : i < 8) : ∃ σ', fR_goesNow N b (nI i) σ = some (nI (sGo T M P i), σ') ∧ VC b σ' P ∧ (∀ c i k, c ≠ 11 → σ' c i k = σ c i k) := by
  have hi1 := hP.2.2.2.1 i hi
  have hd := hP.2.1
  have e4 : σ 18 b i = nI (P 4 i) := h.1 4 i (by omega) hi
  obtain ⟨σ', q1, q2⟩ := L_gives (N := N) hT hW hN (x := nI (sS P i)) (y := nI (P 4 i)) (z := nI (P 7 1 % 8)) (show 1 < 2 by omega)
  refine ⟨σ', ?_, VC_11 h q2, q2⟩
  unfold fR_goesNow
  rw [R_steps h hP hi, zbd_s, h.2.2.2.1, n_day8 hd, lw_1]
  simp (disch := omega) only [zlt_eq, zgd_T, zin_T, zb2_s, zbd_s, n_cl, n_sub1, n_predm, n_sc, if_nle, if_nle0, if_nle1, if_le, if_true, if_false, e4, q1]
  rfl
theorem M_doesNow {N : Nat} {σ : zS} {P : zP} {T : Nat → Nat → Int32} {M : Nat → Nat} (h : VM σ P) (hP : PI P) (hT : TM σ T M) (hW : WT T M) (hN : 61 ≤ N) {i : Nat} (hi : i < 8) : ∃ σ', fM_doesNow N (nI i) σ = some (nI (sDo T M P i), σ') ∧ VM σ' P ∧ (∀ c i k, c ≠ 36 → c ≠ 37 → σ' c i k = σ c i k) := by
  have hi1 := hP.2.2.2.1 i hi
  have hd := hP.2.1
  have e5 : fM_its (nI i) 5 σ = some (nI (P 5 i)) := M_its h 5 (by omega) hi
  obtain ⟨σ', q1, q2⟩ := M_givenBy (N := N) hT hW hN (x := nI (sY P i)) (y := nI (P 5 i)) (z := nI (P 7 1 % 8)) (show 0 < 2 by omega)
  refine ⟨σ', ?_, VM_36 h (fun c i k hc => q2 c i k (by omega) (by omega)), q2⟩
  unfold fM_doesNow
  rw [M_yieldsOf h hP (by omega) hi, zbd_s, e5, zbd_s, h.2.2.2.1, n_day8 hd, l0, q1]
  rfl
theorem M_goesNow {N : Nat} {σ : zS} {P : zP} {T : Nat → Nat → Int32} {M : Nat → Nat} (h : VM σ P) (hP : PI P) (hT : TM σ T M) (hW : WT T M) (hN : 61 ≤ N) {i : Nat} (hi : i < 8) : ∃ σ', fM_goesNow N (nI i) σ = some (nI (sGo T M P i), σ') ∧ VM σ' P ∧ (∀ c i k, c ≠ 36 → c ≠ 37 → σ' c i k = σ c i k) := by
  have hi1 := hP.2.2.2.1 i hi
  have hd := hP.2.1
  have e4 : fM_its (nI i) 4 σ = some (nI (P 4 i)) := M_its h 4 (by omega) hi
  obtain ⟨σ', q1, q2⟩ := M_givenBy (N := N) hT hW hN (x := nI (sS P i)) (y := nI (P 4 i)) (z := nI (P 7 1 % 8)) (show 1 < 2 by omega)
  refine ⟨σ', ?_, VM_36 h (fun c i k hc => q2 c i k (by omega) (by omega)), q2⟩
  unfold fM_goesNow
  rw [M_stepsOf h hP hi, zbd_s, e4, zbd_s, h.2.2.2.1, n_day8 hd, l1, q1]
  rfl
