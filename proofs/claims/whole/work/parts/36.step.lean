/-! Pure mathematics: one step. -/
theorem bit_r : ∀ m : Fin 256, ∀ i : Fin 8, (((nI m.1) >>> (nI i.1 &&& 31)) &&& 1) = nI (if m.1.testBit i.1 then 1 else 0) := by decide +kernel
theorem bit_o : ∀ m : Fin 256, ∀ i : Fin 8, ((nI m.1) ||| (1 <<< (nI i.1 &&& 31))) = nI (m.1 ||| 2 ^ i.1) ∧ (m.1 ||| 2 ^ i.1) < 256 := by decide +kernel
theorem bit_1 : ∀ i : Fin 8, ((1 : Int32) <<< (nI i.1 &&& 31)) = nI (2 ^ i.1) ∧ 2 ^ i.1 < 256 := by decide +kernel
theorem b_r {m i : Nat} (hm : m < 256) (hi : i < 8) : (((nI m) >>> (nI i &&& 31)) &&& 1) = nI (if m.testBit i then 1 else 0) := bit_r ⟨m, hm⟩ ⟨i, hi⟩
theorem b_o {m i : Nat} (hm : m < 256) (hi : i < 8) : ((nI m) ||| (1 <<< (nI i &&& 31))) = nI (m ||| 2 ^ i) := (bit_o ⟨m, hm⟩ ⟨i, hi⟩).1
theorem b_ol {m i : Nat} (hm : m < 256) (hi : i < 8) : (m ||| 2 ^ i) < 256 := (bit_o ⟨m, hm⟩ ⟨i, hi⟩).2
theorem b_1 {i : Nat} (hi : i < 8) : ((1 : Int32) <<< (nI i &&& 31)) = nI (2 ^ i) := (bit_1 ⟨i, hi⟩).1
theorem b_1l {i : Nat} (hi : i < 8) : 2 ^ i < 256 := (bit_1 ⟨i, hi⟩).2
/-! least string that is too short -/
def sLf (P : zP) : Nat → Nat → Nat
  | 0, _ => 0
  | k + 1, j => if P 4 j < sA P j then j + 1 else sLf P k (j + 1)
def sL (P : zP) : Nat := sLf P (P 7 0) 0
theorem sLf_s (P : zP) : ∀ k j, sLf P k j ≠ 0 → j + 1 ≤ sLf P k j ∧ sLf P k j ≤ j + k ∧ P 4 (sLf P k j - 1) < sA P (sLf P k j - 1)
  | 0, j, h => absurd rfl h
  | k + 1, j, h => by
    rw [sLf] at h ⊢
    by_cases q : P 4 j < sA P j
    · rw [if_pos q]
      exact ⟨by omega, by omega, q⟩
    · rw [if_neg q] at h ⊢
      have := sLf_s P k (j + 1) h
      exact ⟨by omega, by omega, this.2.2⟩
theorem sLf_le (P : zP) (k j : Nat) : sLf P k j ≤ j + k := by
  by_cases h : sLf P k j = 0
  · omega
  · exact (sLf_s P k j h).2.1
theorem sL_s {P : zP} (h : sL P ≠ 0) : sL P - 1 < P 7 0 ∧ P 4 (sL P - 1) < sA P (sL P - 1) := by
  have := sLf_s P (P 7 0) 0 h
  unfold sL at *
  exact ⟨by omega, this.2.2⟩
theorem R_least_L {N b : Nat} {σ : zS} {P : zP} (h : VC b σ P) (hP : PI P) : ∀ k j f, j + k = P 7 0 → k < f → fR_leastTooShort_L2 N b f (nI j) σ = some (nO (sLf P k j))
  | 0, j, 0, h1, h2 => absurd h2 (by omega)
  | k + 1, j, 0, h1, h2 => absurd h2 (by omega)
  | 0, j, f + 1, h1, h2 => by
    have hn := hP.1
    rw [fR_leastTooShort_L2, h.2.2.1, if_le (by omega) (by omega)]
    rfl
  | k + 1, j, f + 1, h1, h2 => by
    have hn := hP.1
    have hj := hP.2.2.2.1 j (by omega)
    have e2 : σ 16 b j = nO (P 2 j) := h.1 2 j (by omega) (by omega)
    have e3 : σ 17 b j = nI (P 3 j) := h.1 3 j (by omega) (by omega)
    have e4 : σ 18 b j = nI (P 4 j) := h.1 4 j (by omega) (by omega)
    rw [fR_leastTooShort_L2, h.2.2.1, if_nle (by omega) (by omega)]
    simp (disch := omega) only [zlt_eq, zgd_T, zin_T, zb2_s, zbd_s, n_cl, n_sub1, n_predm, n_sc, if_nle, if_nle0, if_nle1, if_le, if_true, if_false, e2]
    rw [sLf]
    have go := R_least_L (N := N) h hP k (j + 1) f (by omega) (by omega)
    by_cases q : P 2 j = 0
    · have hA : sA P j = 0 := by unfold sA; rw [if_pos q]
      rw [q, if_pos (by decide), if_neg (by omega)]
      exact go
    · have hA : sA P j = nD (P 3 j) (P 3 (P 2 j - 1)) := by unfold sA; rw [if_neg q]
      have hm := hP.2.2.2.1 (P 2 j - 1) (by omega)
      have hl := sA_le hP (show j < 8 by omega)
      have e3' : σ 17 b (P 2 j - 1) = nI (P 3 (P 2 j - 1)) := h.1 3 (P 2 j - 1) (by omega) (by omega)
      have hlt : ¬ (nI (P 2 j - 1) < 0) := by rw [l0, n_lt (by omega) (by omega)]; omega
      rw [nO_pos q, if_neg hlt]
      simp (disch := omega) only [zlt_eq, zgd_T, zin_T, zb2_s, zbd_s, n_cl, n_sub1, n_predm, n_sc, if_nle, if_nle0, if_nle1, if_le, if_true, if_false, e3, e3', e4, fJ_abs_n]
      rw [← hA]
      by_cases q2 : P 4 j < sA P j
      · rw [if_pos q2, if_nle (by omega) (by omega), nO_s]
      · rw [if_neg q2, if_le (by omega) (by omega)]
        exact go
theorem R_least {N b : Nat} {σ : zS} {P : zP} (h : VC b σ P) (hP : PI P) (hN : 9 ≤ N) : fR_leastTooShort N b σ = some (nO (sL P)) := by
  have hn := hP.1
  exact R_least_L h hP (P 7 0) 0 N (by omega) (by omega)
theorem M_least_L {N : Nat} {σ : zS} {P : zP} (h : VM σ P) (hP : PI P) : ∀ k j f, j + k = P 7 0 → k < f → fM_tooShort_L2 N f (nI j) σ = some (nO (sLf P k j))
  | 0, j, 0, h1, h2 => absurd h2 (by omega)
  | k + 1, j, 0, h1, h2 => absurd h2 (by omega)
  | 0, j, f + 1, h1, h2 => by
    have hn := hP.1
    rw [fM_tooShort_L2, h.2.2.1, if_le (by omega) (by omega)]
    rfl
  | k + 1, j, f + 1, h1, h2 => by
    have hn := hP.1
    have hj := hP.2.2.2.1 j (by omega)
    have hl := sA_le hP (show j < 8 by omega)
    have e4 : fM_its (nI j) 4 σ = some (nI (P 4 j)) := M_its h 4 (by omega) (by omega)
    rw [fM_tooShort_L2, h.2.2.1, if_nle (by omega) (by omega), M_apart h hP (by omega), zbd_s, e4, zbd_s, sLf, n_sc]
    by_cases q2 : P 4 j < sA P j
    · rw [if_pos q2, if_nle (by omega) (by omega), nO_s]
    · rw [if_neg q2, if_le (by omega) (by omega)]
      exact M_least_L (N := N) h hP k (j + 1) f (by omega) (by omega)
theorem M_least {N : Nat} {σ : zS} {P : zP} (h : VM σ P) (hP : PI P) (hN : 9 ≤ N) : fM_tooShort N σ = some (nO (sL P)) := by
  have hn := hP.1
  exact M_least_L h hP (P 7 0) 0 N (by omega) (by omega)
/-! the turn -/
def sUn (P : zP) (m i : Nat) : Nat := if m.testBit i then (if m.testBit (P 2 i - 1) then 0 else P 2 i) else i + 1
def sOut (P : zP) (i j : Nat) : zP := pu (pu P 5 j (P 5 j - 1)) 4 i (P 4 i + 1)
def sSev (P : zP) (i : Nat) : zP := pu (pu (pu (pu P 2 i 0) 4 i 0) 5 i 0) 7 2 (min (P 7 2 + 1) 9999)
def sCm (P : zP) (i j : Nat) : zP := pu P 3 i (if P 3 j ≤ P 3 i then P 3 i - 1 else P 3 i + 1)
theorem pu_id {P : zP} {w i x : Nat} (h : x = P w i) : pu P w i x = P := by
  funext a c
  unfold pu
  by_cases q : a = w ∧ c = i
  · rw [if_pos q, h, q.1, q.2]
  · rw [if_neg q]
/-- what the loop keeps besides: the copy made before it -/
def FL (b : Nat) (σ σ' : zS) : Prop := FC b σ σ' ∧ ∀ k, σ' 21 b k = σ 21 b k
theorem FL_r {b : Nat} {σ : zS} : FL b σ σ := ⟨FC_r, fun _ => rfl⟩
theorem FL_t {b : Nat} {σ σ' σ'' : zS} (h : FL b σ σ') (h' : FL b σ' σ'') : FL b σ σ'' := ⟨FC_t h.1 h'.1, fun k => (h'.2 k).trans (h.2 k)⟩
theorem FL_u {b c k : Nat} {v : Int32} {σ : zS} (h : (c = 2 ∧ k ≠ 12) ∨ (14 ≤ c ∧ c ≤ 20)) : FL b σ (zup σ c b k v) := ⟨FC_u (by omega), fun k' => by rw [zup_o (by omega)]⟩
theorem FL_11 {b : Nat} {σ σ' : zS} (h : ∀ c i k, c ≠ 11 → σ' c i k = σ c i k) : FL b σ σ' := ⟨FC_11 h, fun k => h _ _ _ (by omega)⟩
theorem R_letOut {b : Nat} {σ : zS} {P : zP} (h : VC b σ P) {i j : Nat} (hi : i < 8) (hj : j < 8) (h5 : P 5 j ≠ 0) : ∃ σ', fR_letOut b (nI i) (nI j) σ = some σ' ∧ VC b σ' (sOut P i j) ∧ FL b σ σ' ∧ σ' 2 b 14 = σ 2 b 14 := by
  have e5 : σ 19 b j = nI (P 5 j) := h.1 5 j (by omega) hj
  have g1 : VC b (zup σ 19 b j (nI (P 5 j - 1))) (pu P 5 j (P 5 j - 1)) := VC_u 5 h (by omega) rfl
  have e4 : (zup σ 19 b j (nI (P 5 j - 1))) 18 b i = nI (P 4 i) := (g1.1 4 i (by omega) hi).trans (by rw [pu_w (by omega)]; rfl)
  have g2 := VC_u (v := nI (P 4 i + 1)) (x := P 4 i + 1) (i := i) 4 g1 (by omega) rfl
  refine ⟨_, ?_, g2, FL_t (FL_u (by omega)) (FL_u (by omega)), ?_⟩
  · unfold fR_letOut
    simp (disch := omega) only [zlt_eq, zgd_T, zin_T, zb2_s, zbd_s, n_cl, n_sub1, n_predm, n_sc, if_nle, if_nle0, if_nle1, if_le, if_true, if_false, e5, e4]
  · rw [zup_o (by omega), zup_o (by omega)]
theorem R_sever {b : Nat} {σ : zS} {P : zP} (h : VC b σ P) (hP : PI P) {i : Nat} (hi : i < 8) : ∃ σ', fR_sever b (nI i) σ = some σ' ∧ VC b σ' (sSev P i) ∧ FL b σ σ' ∧ σ' 2 b 14 = σ 2 b 14 := by
  have g1 : VC b (zup (zup (zup σ 16 b i (-1)) 18 b i 0) 19 b i 0) (pu (pu (pu P 2 i 0) 4 i 0) 5 i 0) := VC_u 5 (VC_u 4 (VC_u 2 h (by omega) rfl) (by omega) rfl) (by omega) rfl
  have f1 : FL b σ (zup (zup (zup σ 16 b i (-1)) 18 b i 0) 19 b i 0) := FL_t (FL_t (FL_u (by omega)) (FL_u (by omega))) (FL_u (by omega))
  have hm : (zup (zup (zup σ 16 b i (-1)) 18 b i 0) 19 b i 0) 2 b 14 = σ 2 b 14 := by rw [zup_o (by omega), zup_o (by omega), zup_o (by omega)]
  have hc : (zup (zup (zup σ 16 b i (-1)) 18 b i 0) 19 b i 0) 2 b 11 = nI (P 7 2) := by rw [zup_o (by omega), zup_o (by omega), zup_o (by omega)]; exact h.2.2.2.2
  have hq := hP.2.2.1
  unfold fR_sever fR_untie
  simp (disch := omega) only [zlt_eq, zgd_T, zin_T, zb2_s, zbd_s, n_cl, n_sub1, n_predm, n_sc, if_nle, if_nle0, if_nle1, if_le, if_true, if_false]
  generalize (zup (zup (zup σ 16 b i (-1)) 18 b i 0) 19 b i 0) = s at g1 f1 hm hc ⊢
  rw [hc, l9999]
  unfold sSev
  by_cases q : 9999 ≤ P 7 2
  · rw [if_le q (by omega), pu_id (by rw [pu_w (by omega), pu_w (by omega), pu_w (by omega)]; omega)]
    exact ⟨s, rfl, g1, f1, hm⟩
  · rw [if_nle (by omega) (by omega), n_sc]
    have hmin : min (P 7 2 + 1) 9999 = P 7 2 + 1 := by omega
    rw [hmin]
    exact ⟨_, rfl, VC_7 2 g1 (by omega), FL_t f1 (FL_u (by omega)), by rw [zup_k (by omega)]; exact hm⟩
theorem R_come {b : Nat} {σ : zS} {P : zP} (h : VC b σ P) (hP : PI P) {i j m : Nat} (hi : i < 8) (hj : j < 8) (hne : P 3 i ≠ P 3 j) (hm : m < 256) (hv : σ 2 b 14 = nI m) : ∃ σ', fR_come b (nI i) (nI j) σ = some σ' ∧ VC b σ' (sCm P i j) ∧ FL b σ σ' ∧ σ' 2 b 14 = nI (m ||| 2 ^ i) := by
  have hPi := hP.2.2.2.1 i hi
  have hPj := hP.2.2.2.1 j hj
  have e3 : σ 17 b i = nI (P 3 i) := h.1 3 i (by omega) hi
  have e3' : σ 17 b j = nI (P 3 j) := h.1 3 j (by omega) hj
  have go : ∀ x, ∃ σ', fR_come_J38 b (nI i) (zup σ 17 b i (nI x)) = some σ' ∧ VC b σ' (pu P 3 i x) ∧ FL b σ σ' ∧ σ' 2 b 14 = nI (m ||| 2 ^ i) := by
    intro x
    have g1 : VC b (zup σ 17 b i (nI x)) (pu P 3 i x) := VC_u 3 h (by omega) rfl
    refine ⟨zup (zup σ 17 b i (nI x)) 2 b 14 (nI (m ||| 2 ^ i)), ?_, VC_x g1 (by omega), FL_t (FL_u (by omega)) (FL_u (by omega)), zup_s⟩
    unfold fR_come_J38
    rw [zlt_eq, zup_o (by omega), hv, b_o hm hi]
  unfold fR_come sCm
  simp (disch := omega) only [zlt_eq, zgd_T, zin_T, zb2_s, zbd_s, n_cl, n_sub1, n_predm, n_sc, if_nle, if_nle0, if_nle1, if_le, if_true, if_false, e3, e3']
  by_cases q : P 3 j ≤ P 3 i
  · rw [if_le q (by omega), if_pos q]
    have : 1 ≤ P 3 i := by omega
    simp (disch := omega) only [zlt_eq, zgd_T, zin_T, zb2_s, zbd_s, n_cl, n_sub1, n_predm, n_sc, if_nle, if_nle0, if_nle1, if_le, if_true, if_false]
    exact go _
  · rw [if_nle (by omega) (by omega), if_neg q]
    exact go _
theorem R_unmoved {b : Nat} {σ : zS} {P : zP} (h : VC b σ P) (hP : PI P) {i m : Nat} (hi : i < 8) (h2 : P 2 i ≠ 0) (hm : m < 256) (hv : σ 2 b 14 = nI m) : fR_unmovedEnd b (nI i) σ = some (nO (sUn P m i)) := by
  have hPi := hP.2.2.2.1 i hi
  have e2 : σ 16 b i = nO (P 2 i) := h.1 2 i (by omega) hi
  unfold fR_unmovedEnd sUn
  rw [hv, b_r hm hi]
  simp (disch := omega) only [zlt_eq, zgd_T, zin_T, zb2_s, zbd_s, n_cl, n_sub1, n_predm, n_sc, if_nle, if_nle0, if_nle1, if_le, if_true, if_false, e2]
  rw [nO_pos h2, b_r hm (by omega)]
  by_cases q : m.testBit i = true
  · rw [if_pos q, if_pos q, if_neg (by decide)]
    by_cases q2 : m.testBit (P 2 i - 1) = true
    · rw [if_pos q2, if_pos q2, if_neg (by decide)]
      rfl
    · rw [if_neg q2, if_neg q2, if_pos (by decide), nO_pos h2]
  · rw [if_neg q, if_neg q, if_pos (by decide), nO_s]
def sPull (P : zP) (m i w d : Nat) : zP × Nat := if d = 1 then (sSev P i, m) else if d = 3 ∧ w ≠ i ∧ P 5 w ≠ 0 then (sOut P i w, m) else (sCm P w (if w = i then P 2 i - 1 else i), m ||| 2 ^ w)
theorem sA_ne {P : zP} {i : Nat} (h : P 4 i < sA P i) : P 2 i ≠ 0 ∧ P 3 i ≠ P 3 (P 2 i - 1) := by
  unfold sA nD at h
  by_cases q : P 2 i = 0
  · rw [if_pos q] at h; omega
  · rw [if_neg q] at h
    refine ⟨q, fun r => ?_⟩
    rw [r, if_pos (by omega)] at h
    omega
theorem R_pull_1 {b : Nat} {σ : zS} {P : zP} (h : VC b σ P) (hP : PI P) {i m : Nat} (hi : i < 8) (x : Int32) (hv : σ 2 b 14 = nI m) : ∃ σ', fR_pull b (nI i) x 1 σ = some σ' ∧ VC b σ' (sSev P i) ∧ FL b σ σ' ∧ σ' 2 b 14 = nI m := by
  obtain ⟨σ', q1, q2, q3, q4⟩ := R_sever h hP hi
  refine ⟨σ', ?_, q2, q3, q4.trans hv⟩
  unfold fR_pull
  rw [if_pos rfl, q1, zbd_s]
theorem R_pull {b : Nat} {σ : zS} {P : zP} (h : VC b σ P) (hP : PI P) {i w m d : Nat} (hi : i < P 7 0) (hA : P 4 i < sA P i) (hw : w = i ∨ w = P 2 i - 1) (hd : d ≤ 3) (hm : m < 256) (hv : σ 2 b 14 = nI m) : ∃ σ', fR_pull b (nI i) (nI w) (nI d) σ = some σ' ∧ VC b σ' (sPull P m i w d).1 ∧ FL b σ σ' ∧ σ' 2 b 14 = nI (sPull P m i w d).2 := by
  have hn := hP.1
  have hPi := hP.2.2.2.1 i (by omega)
  have hmo := hP.2.2.2.2.1 i hi
  obtain ⟨h2, hne⟩ := sA_ne hA
  have hw8 : w < 8 := by omega
  have hPw := hP.2.2.2.1 w hw8
  by_cases q1 : d = 1
  · subst q1
    unfold sPull
    rw [if_pos rfl]
    exact R_pull_1 h hP (by omega) (nI w) hv
  have hcome : ∃ σ', fR_pull_J41 b (nI i) (nI w) σ = some σ' ∧ VC b σ' (sCm P w (if w = i then P 2 i - 1 else i)) ∧ FL b σ σ' ∧ σ' 2 b 14 = nI (m ||| 2 ^ w) := by
    have e2 : σ 16 b i = nO (P 2 i) := h.1 2 i (by omega) (by omega)
    unfold fR_pull_J41 fR_pull_J58
    simp (disch := omega) only [n_eq]
    by_cases q : w = i
    · subst q
      rw [if_pos rfl, if_pos rfl]
      simp (disch := omega) only [zlt_eq, zgd_T, zin_T, zb2_s, zbd_s, n_cl, n_sub1, n_predm, n_sc, if_nle, if_nle0, if_nle1, if_le, if_true, if_false, e2]
      rw [nO_pos h2]
      obtain ⟨σ', r1, r2, r3, r4⟩ := R_come h hP (i := w) (j := P 2 w - 1) (by omega) (by omega) hne hm hv
      exact ⟨σ', by rw [r1, zbd_s], r2, r3, r4⟩
    · rw [if_neg q, if_neg q]
      have hwm : w = P 2 i - 1 := by omega
      obtain ⟨σ', r1, r2, r3, r4⟩ := R_come h hP (i := w) (j := i) (by omega) (by omega) (by rw [hwm]; exact fun r => hne r.symm) hm hv
      exact ⟨σ', by rw [r1, zbd_s], r2, r3, r4⟩
  unfold fR_pull
  simp (disch := omega) only [n_eq1, n_eq3, n_eq]
  rw [if_neg q1]
  by_cases q3 : d = 3
  · rw [if_pos q3]
    by_cases qw : w = i
    · have hs : sPull P m i w d = (sCm P w (if w = i then P 2 i - 1 else i), m ||| 2 ^ w) := by
        unfold sPull
        rw [if_neg q1, if_neg (by omega)]
      rw [if_pos qw, hs]
      exact hcome
    · rw [if_neg qw]
      have e5 : σ 19 b w = nI (P 5 w) := h.1 5 w (by omega) hw8
      simp (disch := omega) only [zlt_eq, zgd_T, zin_T, zb2_s, zbd_s, n_cl, n_sub1, n_predm, n_sc, if_nle, if_nle0, if_nle1, if_le, if_true, if_false, e5, n_le0]
      by_cases q5 : P 5 w = 0
      · have hs : sPull P m i w d = (sCm P w (if w = i then P 2 i - 1 else i), m ||| 2 ^ w) := by
          unfold sPull
          rw [if_neg q1, if_neg (by omega)]
        rw [if_pos q5, hs]
        exact hcome
      · have hs : sPull P m i w d = (sOut P i w, m) := by
          unfold sPull
          rw [if_neg q1, if_pos ⟨q3, qw, q5⟩]
        rw [if_neg q5, hs]
        obtain ⟨σ', r1, r2, r3, r4⟩ := R_letOut h (i := i) (j := w) (by omega) hw8 q5
        exact ⟨σ', by rw [r1, zbd_s], r2, r3, r4.trans hv⟩
  · have hs : sPull P m i w d = (sCm P w (if w = i then P 2 i - 1 else i), m ||| 2 ^ w) := by
      unfold sPull
      rw [if_neg q1, if_neg (by omega)]
    rw [if_neg q3, hs]
    exact hcome
/-! keeping and putting back -/
def KP (b : Nat) (σ : zS) (P : zP) : Prop := (∀ k, k < 8 → σ 21 b k = nO (P 2 k)) ∧ (∀ k, k < 8 → σ 21 b (8 + k) = nI (P 3 k)) ∧ (∀ k, k < 8 → σ 21 b (16 + k) = nI (P 4 k)) ∧ (∀ k, k < 8 → σ 21 b (24 + k) = nI (P 5 k)) ∧ σ 21 b 32 = nI (P 7 2)
theorem KP_f {b : Nat} {σ σ' : zS} {P : zP} (h : KP b σ P) (hf : ∀ k, σ' 21 b k = σ 21 b k) : KP b σ' P := by
  obtain ⟨h1, h2, h3, h4, h5⟩ := h
  exact ⟨fun k hk => (hf _).trans (h1 k hk), fun k hk => (hf _).trans (h2 k hk), fun k hk => (hf _).trans (h3 k hk), fun k hk => (hf _).trans (h4 k hk), (hf _).trans h5⟩
theorem zcp_o {σ : zS} {c i c2 i2 sp dp n c' i' k : Nat} (h : c' ≠ c2 ∨ i' ≠ i2) : zcp σ c i c2 i2 sp dp n c' i' k = σ c' i' k := by
  unfold zcp
  rw [if_neg (by omega)]
theorem zcp_i {σ : zS} {c i c2 i2 sp dp n k : Nat} (h : dp ≤ k) (h2 : k < dp + n) : zcp σ c i c2 i2 sp dp n c2 i2 k = σ c i (sp + (k - dp)) := by
  unfold zcp va_cpy
  rw [if_pos ⟨rfl, rfl⟩, if_pos ⟨h, h2⟩]
theorem zcp_n {σ : zS} {c i c2 i2 sp dp n k : Nat} (h : k < dp ∨ dp + n ≤ k) : zcp σ c i c2 i2 sp dp n c2 i2 k = σ c2 i2 k := by
  unfold zcp va_cpy
  rw [if_pos ⟨rfl, rfl⟩, if_neg (by omega)]
theorem R_keep {b : Nat} {σ : zS} {P : zP} (h : VC b σ P) : ∃ σ', fR_keep b σ = some σ' ∧ VC b σ' P ∧ KP b σ' P ∧ FC b σ σ' ∧ σ' 2 b 14 = σ 2 b 14 := by
  have c0 : (0 : Int32).toNatClampNeg = 0 := rfl
  have c8 : (8 : Int32).toNatClampNeg = 8 := rfl
  have c16 : (16 : Int32).toNatClampNeg = 16 := rfl
  have c24 : (24 : Int32).toNatClampNeg = 24 := rfl
  unfold fR_keep
  rw [zgd_t (by decide), zlt_eq, zgd_t (by decide), zlt_eq, zgd_t (by decide), zlt_eq, zgd_t (by decide), zlt_eq, zlt_eq, c0, c8, c16, c24]
  refine ⟨_, rfl, ?_, ?_, ?_, ?_⟩
  · obtain ⟨h1, h2, h3, h4, h5⟩ := h
    have e : ∀ c k, c ≠ 21 → (zup (zcp (zcp (zcp (zcp σ 16 b 21 b 0 0 8) 17 b 21 b 0 8 8) 18 b 21 b 0 16 8) 19 b 21 b 0 24 8) 21 b 32 ((zcp (zcp (zcp (zcp σ 16 b 21 b 0 0 8) 17 b 21 b 0 8 8) 18 b 21 b 0 16 8) 19 b 21 b 0 24 8) 2 b 11)) c b k = σ c b k := by
      intro c k hc
      rw [zup_o hc, zcp_o (by omega), zcp_o (by omega), zcp_o (by omega), zcp_o (by omega)]
    exact ⟨fun w i hw hi => by rw [e _ _ (by omega)]; exact h1 w i hw hi, fun j hj => by rw [e _ _ (by omega)]; exact h2 j hj, by rw [e _ _ (by omega)]; exact h3, by rw [e _ _ (by omega)]; exact h4, by rw [e _ _ (by omega)]; exact h5⟩
  · refine ⟨fun k hk => ?_, fun k hk => ?_, fun k hk => ?_, fun k hk => ?_, ?_⟩
    · rw [zup_k (by omega), zcp_n (by omega), zcp_n (by omega), zcp_n (by omega), zcp_i (by omega) (by omega)]
      exact (congrArg (σ 16 b) (by omega)).trans (h.1 2 k (by omega) hk)
    · rw [zup_k (by omega), zcp_n (by omega), zcp_n (by omega), zcp_i (by omega) (by omega), zcp_o (by omega)]
      exact (congrArg (σ 17 b) (by omega)).trans (h.1 3 k (by omega) hk)
    · rw [zup_k (by omega), zcp_n (by omega), zcp_i (by omega) (by omega), zcp_o (by omega), zcp_o (by omega)]
      exact (congrArg (σ 18 b) (by omega)).trans (h.1 4 k (by omega) hk)
    · rw [zup_k (by omega), zcp_i (by omega) (by omega), zcp_o (by omega), zcp_o (by omega), zcp_o (by omega)]
      exact (congrArg (σ 19 b) (by omega)).trans (h.1 5 k (by omega) hk)
    · rw [zup_s, zcp_o (by omega), zcp_o (by omega), zcp_o (by omega), zcp_o (by omega)]
      exact h.2.2.2.2
  · intro c i k a1 a2 a3
    have hne : c ≠ 21 ∨ i ≠ b := by omega
    unfold zup
    rw [if_neg (by omega), zcp_o hne, zcp_o hne, zcp_o hne, zcp_o hne]
  · rw [zup_o (by omega), zcp_o (by omega), zcp_o (by omega), zcp_o (by omega), zcp_o (by omega)]
/-- the parts of a road that no step changes -/
def SP (P P0 : zP) : Prop := (∀ i, P 0 i = P0 0 i) ∧ (∀ i, P 1 i = P0 1 i) ∧ (∀ i, P 6 i = P0 6 i) ∧ P 7 0 = P0 7 0 ∧ P 7 1 = P0 7 1
theorem R_putBack {b : Nat} {σ : zS} {P P0 : zP} (h : VC b σ P) (hK : KP b σ P0) (hS : SP P P0) : ∃ σ', fR_putBack b σ = some σ' ∧ VC b σ' P0 ∧ FC b σ σ' := by
  have c0 : (0 : Int32).toNatClampNeg = 0 := rfl
  have c8 : (8 : Int32).toNatClampNeg = 8 := rfl
  have c16 : (16 : Int32).toNatClampNeg = 16 := rfl
  have c24 : (24 : Int32).toNatClampNeg = 24 := rfl
  obtain ⟨s1, s2, s3, s4, s5⟩ := hS
  obtain ⟨k1, k2, k3, k4, k5⟩ := hK
  unfold fR_putBack
  rw [zgd_t (by decide), zlt_eq, zgd_t (by decide), zlt_eq, zgd_t (by decide), zlt_eq, zgd_t (by decide), zlt_eq, zlt_eq, c0, c8, c16, c24]
  refine ⟨_, rfl, ?_, ?_⟩
  · obtain ⟨h1, h2, h3, h4, h5⟩ := h
    refine ⟨fun w i hw hi => ?_, fun j hj => ?_, ?_, ?_, ?_⟩
    · rw [zup_o (by omega)]
      rcases (show w = 0 ∨ w = 1 ∨ w = 2 ∨ w = 3 ∨ w = 4 ∨ w = 5 by omega) with q | q | q | q | q | q <;> subst q
      · rw [zcp_o (by omega), zcp_o (by omega), zcp_o (by omega), zcp_o (by omega)]
        exact (h1 0 i hw hi).trans (by rw [s1 i])
      · rw [zcp_o (by omega), zcp_o (by omega), zcp_o (by omega), zcp_o (by omega)]
        exact (h1 1 i hw hi).trans (by rw [s2 i])
      · rw [zcp_o (by omega), zcp_o (by omega), zcp_o (by omega), zcp_i (by omega) (by omega)]
        exact (congrArg (σ 21 b) (by omega)).trans (k1 i hi)
      · rw [zcp_o (by omega), zcp_o (by omega), zcp_i (by omega) (by omega), zcp_o (by omega)]
        exact (congrArg (σ 21 b) (by omega)).trans (k2 i hi)
      · rw [zcp_o (by omega), zcp_i (by omega) (by omega), zcp_o (by omega), zcp_o (by omega)]
        exact (congrArg (σ 21 b) (by omega)).trans (k3 i hi)
      · rw [zcp_i (by omega) (by omega), zcp_o (by omega), zcp_o (by omega), zcp_o (by omega)]
        exact (congrArg (σ 21 b) (by omega)).trans (k4 i hi)
    · rw [zup_o (by omega), zcp_o (by omega), zcp_o (by omega), zcp_o (by omega), zcp_o (by omega)]
      exact (h2 j hj).trans (by rw [s3 j])
    · rw [zup_k (by omega), zcp_o (by omega), zcp_o (by omega), zcp_o (by omega), zcp_o (by omega)]
      exact h3.trans (by rw [s4])
    · rw [zup_k (by omega), zcp_o (by omega), zcp_o (by omega), zcp_o (by omega), zcp_o (by omega)]
      exact h4.trans (by rw [s5])
    · rw [zup_s, zcp_o (by omega), zcp_o (by omega), zcp_o (by omega), zcp_o (by omega)]
      exact k5
  · intro c i k a1 a2 a3
    unfold zup
    rw [if_neg (by omega), zcp_o (by omega), zcp_o (by omega), zcp_o (by omega), zcp_o (by omega)]
