/-! Pure mathematics: check, images. -/
def sCk (g : Nat → Int32) (T : Nat → Nat → Int32) (M : Nat → Nat) (P : zP) : Nat → Nat → Nat
  | 0, _ => 0
  | k + 1, j => if P 7 0 ≤ j then j + 1 else if g j = nI (sGo T M P j) then sCk g T M P k (j + 1) else j + 1
theorem R_ck {N : Nat} (hN : 901 ≤ N) {T : Nat → Nat → Int32} {M : Nat → Nat} {P : zP} {g : Nat → Int32} (hP : PI P) (hW : WT T M) {w : Nat} (hw : w ≤ 24) : ∀ k j f s, j + k = w → k < f → VC 0 s P → TC 0 s T M → (∀ i, s 22 1 i = g i) → ∃ s', fA_check_L24 N f (nI w) (nI j) s = some (nI (sCk g T M P k j), s') ∧ (∀ c i y, c ≠ 11 → s' c i y = s c i y)
  | k, j, 0, s, h1, h2, h3, h4, h5 => absurd h2 (by omega)
  | 0, j, f + 1, s, h1, h2, h3, h4, h5 => by
    rw [fA_check_L24, if_le (by omega) (by omega)]
    exact ⟨s, rfl, fun _ _ _ _ => rfl⟩
  | k + 1, j, f + 1, s, h1, h2, h3, h4, h5 => by
    have hn := hP.1
    have ht := A_there h3 hP (x := nI j)
    rw [fA_check_L24, if_nle (by omega) (by omega), n_sc]
    unfold sCk
    by_cases q : P 7 0 ≤ j
    · have hq : ¬ thr P (nI j) := by
        rintro ⟨i, hi, e⟩
        have := (nI_eq (a := j) (b := i) (by omega) (by omega)).mp e
        omega
      rw [ht.2 hq, zbd_s, if_pos rfl, if_pos q]
      exact ⟨s, rfl, fun _ _ _ _ => rfl⟩
    · rw [ht.1 ⟨j, by omega, rfl⟩, zbd_s, if_neg (by decide), if_neg q]
      obtain ⟨s1, r1, r2, r3⟩ := R_goesNow (N := N) h3 hP h4 hW (by omega) (i := j) (by omega)
      have e5 : s1 22 1 j = g j := (r3 _ _ _ (by omega)).trans (h5 j)
      simp (disch := omega) only [zlt_eq, zgd_T, zin_T, zb2_s, zbd_s, n_cl, n_sub1, n_predm, n_sc, if_nle, if_nle0, if_nle1, if_le, if_true, if_false]
      rw [r1, zb2_s, h5]
      by_cases y : g j = nI (sGo T M P j)
      · rw [if_pos y, if_pos y]
        obtain ⟨s', t1, t2⟩ := R_ck hN hP hW hw k (j + 1) f s1 (by omega) (by omega) r2 (TC_f (b' := 0) h4 (FC_11 r3)) (fun i => (r3 _ _ _ (by omega)).trans (h5 i))
        exact ⟨s', t1, fun c i y hc => (t2 c i y hc).trans (r3 c i y hc)⟩
      · rw [if_neg y, if_neg y]
        exact ⟨s1, rfl, r3⟩
theorem M_ck {N : Nat} (hN : 901 ≤ N) {T : Nat → Nat → Int32} {M : Nat → Nat} {P : zP} {g : Nat → Int32} (hP : PI P) (hW : WT T M) {w : Nat} (hw : w ≤ 24) : ∀ k j f s, j + k = w → k < f → VM s P → TM s T M → (∀ i, i < w → s 30 0 (370 + i) = g i) → ∃ s', fM_check_L16 N f (nI w) (nI j) s = some (nI (sCk g T M P k j), s') ∧ (∀ c i y, c ≠ 36 → c ≠ 37 → s' c i y = s c i y)
  | k, j, 0, s, h1, h2, h3, h4, h5 => absurd h2 (by omega)
  | 0, j, f + 1, s, h1, h2, h3, h4, h5 => by
    rw [fM_check_L16, if_le (by omega) (by omega)]
    exact ⟨s, rfl, fun _ _ _ _ _ => rfl⟩
  | k + 1, j, f + 1, s, h1, h2, h3, h4, h5 => by
    have hn := hP.1
    have ht := M_there h3 hP (x := nI j)
    have h370 : 370 + nI j = nI (370 + j) := n_add 370 j
    have h1j : 1 + nI j = nI (j + 1) := by rw [l1, n_add, Nat.add_comm]
    rw [fM_check_L16, if_nle (by omega) (by omega), n_sc, h1j, h370]
    unfold sCk
    by_cases q : P 7 0 ≤ j
    · have hq : ¬ thr P (nI j) := by
        rintro ⟨i, hi, e⟩
        have := (nI_eq (a := j) (b := i) (by omega) (by omega)).mp e
        omega
      rw [ht.2 hq, zbd_s, if_pos rfl, if_pos q]
      exact ⟨s, rfl, fun _ _ _ _ _ => rfl⟩
    · rw [ht.1 ⟨j, by omega, rfl⟩, zbd_s, if_neg (by decide), if_neg q]
      obtain ⟨s1, r1, r2, r3⟩ := M_goesNow (N := N) h3 hP h4 hW (by omega) (i := j) (by omega)
      simp (disch := omega) only [zlt_eq, zgd_T, zin_T, zb2_s, zbd_s, n_cl, n_sub1, n_predm, n_sc, if_nle, if_nle0, if_nle1, if_le, if_true, if_false]
      rw [r1, zb2_s, h5 j (by omega)]
      by_cases y : g j = nI (sGo T M P j)
      · rw [if_pos y, if_pos y]
        obtain ⟨s', t1, t2⟩ := M_ck hN hP hW hw k (j + 1) f s1 (by omega) (by omega) r2 (TM_f h4 (FM_36 r3)) (fun i hi => (r3 _ _ _ (by omega) (by omega)).trans (h5 i hi))
        exact ⟨s', t1, fun c i y h1 h2 => (t2 c i y h1 h2).trans (r3 c i y h1 h2)⟩
      · rw [if_neg y, if_neg y]
        exact ⟨s1, rfl, r3⟩
theorem P_check {N : Nat} (hN : 901 ≤ N) {σ : zS} (h : Core σ) : Pr σ (fA_check N) (fM_check N) := by
  obtain ⟨P, T, M, c⟩ := h
  obtain ⟨c1, c2, c3, c3', c4, c5, c6, c7, c8, c9, c10⟩ := c
  have c : CX σ P T M := ⟨c1, c2, c3, c3', c4, c5, c6, c7, c8, c9, c10⟩
  have hn := c3.1
  obtain ⟨w, hw, w1, w2, w3⟩ := c10
  have f1 : ∀ c i k, ¬ (c = 3 ∧ i = 1 ∧ k = 1) → (zup σ 3 1 1 0) c i k = σ c i k := fun c i k q => by
    unfold zup
    rw [if_neg (by omega)]
  have v1 : VC 0 (zup σ 3 1 1 0) P := by
    obtain ⟨h1, h2, h3, h4, h5⟩ := c1
    exact ⟨fun w i hw hi => by rw [f1 _ _ _ (by omega)]; exact h1 w i hw hi, fun j hj => by rw [f1 _ _ _ (by omega)]; exact h2 j hj, by rw [f1 _ _ _ (by omega)]; exact h3, by rw [f1 _ _ _ (by omega)]; exact h4, by rw [f1 _ _ _ (by omega)]; exact h5⟩
  obtain ⟨s, r1, r2⟩ := R_ck (N := N) (g := σ 22 1) hN c3 c6 hw w 0 N (zup σ 3 1 1 0) (by omega) (by omega) v1 (TC_e c4 (fun c i k hc => f1 c i k (by omega))) (fun i => f1 _ _ _ (by omega))
  have e1 : ∀ c i k, c ≠ 11 → ¬ (c = 3 ∧ i = 1 ∧ k = 1) → s c i k = σ c i k := fun c i k a b => (r2 c i k a).trans (f1 c i k b)
  have f2 : ∀ c i k, ¬ (c = 30 ∧ i = 0 ∧ k = 3) → (zup s 30 0 3 0) c i k = s c i k := fun c i k q => by
    unfold zup
    rw [if_neg (by omega)]
  have v2 : VM (zup s 30 0 3 0) P := VM_x (VM_e c2 (fun k _ => e1 _ _ _ (by omega) (by omega))) (by omega)
  obtain ⟨τ, t1, t2⟩ := M_ck (N := N) (g := σ 22 1) hN c3 c6 hw w 0 N (zup s 30 0 3 0) (by omega) (by omega) v2 (TM_e c5 c6 (fun k a b => (f2 _ _ _ (by omega)).trans (e1 _ _ _ (by omega) (by omega)))) (fun i hi => by rw [f2 _ _ _ (by omega), e1 _ _ _ (by omega) (by omega)]; exact (w3 i hi).symm)
  have e : ∀ c i k, c ≠ 11 → c ≠ 36 → c ≠ 37 → ¬ (c = 3 ∧ i = 1 ∧ k = 1) → ¬ (c = 30 ∧ i = 0 ∧ k = 3) → τ c i k = σ c i k := fun c i k a1 a2 a3 a4 a5 => (t2 c i k a2 a3).trans ((f2 c i k a5).trans (e1 c i k a1 a4))
  refine ⟨nI (sCk (σ 22 1) T M P w 0), s, τ, ?_, ?_, ⟨P, T, M, CX_mk c (fun c i k hc => e c i k (by omega) (by omega) (by omega) (by omega) (by omega)) (TC_e c4 (fun c i k hc => e c i k (by omega) (by omega) (by omega) (by omega) (by omega))) (TM_e c5 c6 (fun k a b => e 30 0 k (by omega) (by omega) (by omega) (by omega) (by omega))) c6 ?_ ?_⟩, ?_, fun i k => e1 _ _ _ (by omega) (by omega)⟩
  · unfold fA_check
    rw [zlt_eq, zlt_eq, w1]
    exact r1
  · have e3 : s 30 0 3 = nI w := (e1 _ _ _ (by omega) (by omega)).trans w2
    unfold fM_check
    rw [zlt_eq, zlt_eq, e3]
    exact t1
  · exact RW_g c9 (e _ _ _ (by omega) (by omega) (by omega) (by omega) (by omega)) (fun k _ => e _ _ _ (by omega) (by omega) (by omega) (by omega) (by omega)) (e _ _ _ (by omega) (by omega) (by omega) (by omega) (by omega)) (fun k _ _ => e _ _ _ (by omega) (by omega) (by omega) (by omega) (by omega))
  · refine ⟨0, by omega, ?_, ?_, fun k hk => absurd hk (by omega)⟩
    · rw [t2 _ _ _ (by omega) (by omega), f2 _ _ _ (by omega), r2 _ _ _ (by omega), zup_s]
      rfl
    · rw [t2 _ _ _ (by omega) (by omega), zup_s]
      rfl
  · intro c i k a1 a2 a3 a4 a5 a6 a7 a8 a9 a10 a11
    exact e c i k (by omega) (by omega) (by omega) (by omega) (by omega)
/-! images -/
theorem R_copyg {b p : Nat} (hne : b ≠ p) {σ : zS} {P : zP} (h : VC p σ P) : ∃ σ', fR_copy b p σ = some σ' ∧ VC b σ' P ∧ σ' 2 b 12 = σ 2 p 12 ∧ FZ b σ σ' := by
  have c0 : (0 : Int32).toNatClampNeg = 0 := rfl
  have c8 : (8 : Int32).toNatClampNeg = 8 := rfl
  have c6 : (6 : Int32).toNatClampNeg = 6 := rfl
  unfold fR_copy
  rw [zgd_t (by decide), zlt_eq, zgd_t (by decide), zlt_eq, zgd_t (by decide), zlt_eq, zgd_t (by decide), zlt_eq, zgd_t (by decide), zlt_eq, zgd_t (by decide), zlt_eq, zgd_t (by decide), zlt_eq, zlt_eq, zlt_eq, zlt_eq, zlt_eq, c0, c8, c6]
  obtain ⟨h1, h2, h3, h4, h5⟩ := h
  have e2 : ∀ k, (zcp (zcp (zcp (zcp (zcp (zcp (zcp σ 14 p 14 b 0 0 8) 15 p 15 b 0 0 8) 16 p 16 b 0 0 8) 17 p 17 b 0 0 8) 18 p 18 b 0 0 8) 19 p 19 b 0 0 8) 20 p 20 b 0 0 6) 2 p k = σ 2 p k := fun k => by
    rw [zcp_o (by omega), zcp_o (by omega), zcp_o (by omega), zcp_o (by omega), zcp_o (by omega), zcp_o (by omega), zcp_o (by omega)]
  refine ⟨_, rfl, ⟨fun w i hw hi => ?_, fun j hj => ?_, ?_, ?_, ?_⟩, ?_, ?_⟩
  · rw [zup_o (by omega), zup_o (by omega), zup_o (by omega), zup_o (by omega), zcp_o (by omega)]
    rcases (show w = 0 ∨ w = 1 ∨ w = 2 ∨ w = 3 ∨ w = 4 ∨ w = 5 by omega) with q | q | q | q | q | q <;> subst q
    · rw [zcp_o (by omega), zcp_o (by omega), zcp_o (by omega), zcp_o (by omega), zcp_o (by omega), zcp_i (by omega) (by omega)]
      exact (congrArg (σ 14 p) (by omega)).trans (h1 0 i hw hi)
    · rw [zcp_o (by omega), zcp_o (by omega), zcp_o (by omega), zcp_o (by omega), zcp_i (by omega) (by omega), zcp_o (by omega)]
      exact (congrArg (σ 15 p) (by omega)).trans (h1 1 i hw hi)
    · rw [zcp_o (by omega), zcp_o (by omega), zcp_o (by omega), zcp_i (by omega) (by omega), zcp_o (by omega), zcp_o (by omega)]
      exact (congrArg (σ 16 p) (by omega)).trans (h1 2 i hw hi)
    · rw [zcp_o (by omega), zcp_o (by omega), zcp_i (by omega) (by omega), zcp_o (by omega), zcp_o (by omega), zcp_o (by omega)]
      exact (congrArg (σ 17 p) (by omega)).trans (h1 3 i hw hi)
    · rw [zcp_o (by omega), zcp_i (by omega) (by omega), zcp_o (by omega), zcp_o (by omega), zcp_o (by omega), zcp_o (by omega)]
      exact (congrArg (σ 18 p) (by omega)).trans (h1 4 i hw hi)
    · rw [zcp_i (by omega) (by omega), zcp_o (by omega), zcp_o (by omega), zcp_o (by omega), zcp_o (by omega), zcp_o (by omega)]
      exact (congrArg (σ 19 p) (by omega)).trans (h1 5 i hw hi)
  · rw [zup_o (by omega), zup_o (by omega), zup_o (by omega), zup_o (by omega), zcp_i (by omega) (by omega), zcp_o (by omega), zcp_o (by omega), zcp_o (by omega), zcp_o (by omega), zcp_o (by omega), zcp_o (by omega)]
    exact (congrArg (σ 20 p) (by omega)).trans (h2 j hj)
  · rw [zup_k (by omega), zup_k (by omega), zup_k (by omega), zup_s, e2]; exact h3
  · rw [zup_k (by omega), zup_k (by omega), zup_s]
    unfold zup
    rw [if_neg (by omega), e2]; exact h4
  · rw [zup_k (by omega), zup_s]
    unfold zup
    rw [if_neg (by omega), if_neg (by omega), e2]; exact h5
  · rw [zup_s]
    unfold zup
    rw [if_neg (by omega), if_neg (by omega), if_neg (by omega), e2]
  · intro c i k a1 a2 a3
    have e : ∀ (s : zS) (k' : Nat) (v : Int32), zup s 2 b k' v c i k = s c i k := fun s k' v => by unfold zup; rw [if_neg (by omega)]
    rw [e, e, e, e, zcp_o (by omega), zcp_o (by omega), zcp_o (by omega), zcp_o (by omega), zcp_o (by omega), zcp_o (by omega), zcp_o (by omega)]
theorem L_take_L {N b p m : Nat} (hne : b ≠ p) (hm : m ≤ 60) : ∀ k j f s, j + k = m → k < f → ∃ s', fL_take_10_L2 N b p f (nI m) (nI j) s = some s' ∧ s' 0 b 1 = nI m ∧ (∀ i, j ≤ i → i < m → s' 10 b i = s 10 p i) ∧ (∀ c i y, ¬ (c = 0 ∧ i = b ∧ y = 1) → ¬ (c = 10 ∧ i = b ∧ j ≤ y) → s' c i y = s c i y)
  | k, j, 0, s, h1, h2 => absurd h2 (by omega)
  | 0, j, f + 1, s, h1, h2 => by
    rw [fL_take_10_L2, if_le (by omega) (by omega)]
    unfold fL_take_10_J34
    rw [zlt_eq]
    refine ⟨_, rfl, zup_s, fun i a b => by omega, fun c i y a1 a2 => ?_⟩
    unfold zup
    rw [if_neg (by omega)]
  | k + 1, j, f + 1, s, h1, h2 => by
    have hq : ¬ ((60 : Int32) ≤ nI j) := fun r => absurd ((nI_leI (a := 60) (by omega) (by omega)).mp r) (by omega)
    rw [fL_take_10_L2, if_nle (by omega) (by omega), if_neg hq, if_neg hq]
    simp (disch := omega) only [zlt_eq, zgd_T, zin_T, zb2_s, zbd_s, n_cl, n_sub1, n_predm, n_sc, if_nle, if_nle0, if_nle1, if_le, if_true, if_false]
    obtain ⟨s', r1, r2, r3, r4⟩ := L_take_L (N := N) hne hm k (j + 1) f (zup s 10 b j (s 10 p j)) (by omega) (by omega)
    refine ⟨s', r1, r2, fun i a c => ?_, fun c i y a1 a2 => ?_⟩
    · by_cases z : i = j
      · subst z
        rw [r4 _ _ _ (by omega) (by omega), zup_s]
      · rw [r3 i (by omega) c]
        unfold zup
        rw [if_neg (by omega)]
    · rw [r4 c i y a1 (by omega)]
      unfold zup
      rw [if_neg (by omega)]
theorem W_copy_L {N b p cap m : Nat} (hne : b ≠ p) (hb : (if b % 2 = 0 then 60 else 24) = cap) (hp : (if p % 2 = 0 then 60 else 24) = cap) (hc : cap ≤ 60) (hm : m ≤ cap) : ∀ k j f s, j + k = m → k < f → s 3 p 1 = nI m → ∃ s', fW_copy_L2 N b p f (nI j) s = some s' ∧ s' 3 b 1 = nI m ∧ (∀ i, j ≤ i → i < m → s' 22 b i = s 22 p i) ∧ (∀ c i y, ¬ (c = 3 ∧ i = b ∧ y = 1) → ¬ (c = 22 ∧ i = b ∧ j ≤ y) → s' c i y = s c i y)
  | k, j, 0, s, h1, h2, h3 => absurd h2 (by omega)
  | 0, j, f + 1, s, h1, h2, h3 => by
    rw [fW_copy_L2, h3, if_le (by omega) (by omega)]
    unfold fW_copy_J37
    rw [zlt_eq, h3]
    refine ⟨_, rfl, zup_s, fun i a b => by omega, fun c i y a1 a2 => ?_⟩
    unfold zup
    rw [if_neg (by omega)]
  | k + 1, j, f + 1, s, h1, h2, h3 => by
    have hq : ¬ (nI cap ≤ nI j) := fun r => absurd ((nI_leI (a := cap) (by omega) (by omega)).mp r) (by omega)
    have e3 : (zup s 22 b j (s 22 p j)) 3 p 1 = nI m := by rw [zup_o (by omega)]; exact h3
    rw [fW_copy_L2, h3, if_nle (by omega) (by omega), hb, hp]
    show ∃ s', (if nI cap ≤ nI j then _ else _) = some s' ∧ _
    rw [if_neg hq]
    simp (disch := omega) only [zlt_eq, zgd_T, zin_T, zb2_s, zbd_s, n_cl, n_sub1, n_predm, n_sc, if_nle, if_nle0, if_nle1, if_le, if_true, if_false]
    obtain ⟨s', r1, r2, r3, r4⟩ := W_copy_L (N := N) hne hb hp hc hm k (j + 1) f (zup s 22 b j (s 22 p j)) (by omega) (by omega) e3
    refine ⟨s', r1, r2, fun i a c => ?_, fun c i y a1 a2 => ?_⟩
    · by_cases z : i = j
      · subst z
        rw [r4 _ _ _ (by omega) (by omega), zup_s]
      · rw [r3 i (by omega) c]
        unfold zup
        rw [if_neg (by omega)]
    · rw [r4 c i y a1 (by omega)]
      unfold zup
      rw [if_neg (by omega)]
/-- a state of the class copied -/
theorem T_copy {N b p : Nat} (hN : 901 ≤ N) (hb : b < 2) (hp : p < 2) (hne : b ≠ p) {σ : zS} {P : zP} {T : Nat → Nat → Int32} {M : Nat → Nat} {t w : Nat} (h1 : VC p σ P) (h2 : TC (2 * p) σ T M) (hW : WT T M) (ht : t ≤ 60) (hw : w ≤ 24) (h3 : σ 3 (2 * p) 1 = nI t) (h4 : σ 3 (2 * p + 1) 1 = nI w) (u0 : σ 0 (2 * b) 2 = nI 0) (u1 : σ 0 (2 * b + 1) 2 = nI 1) : ∃ σ', fT_copy N b p σ = some σ' ∧ VC b σ' P ∧ TC (2 * b) σ' T M ∧ σ' 2 b 12 = σ 2 p 12 ∧ σ' 3 (2 * b) 1 = nI t ∧ (∀ k, k < t → σ' 22 (2 * b) k = σ 22 (2 * p) k) ∧ σ' 3 (2 * b + 1) 1 = nI w ∧ (∀ k, k < w → σ' 22 (2 * b + 1) k = σ 22 (2 * p + 1) k) ∧ (∀ c i k, ¬ ((c = 0 ∨ c = 10 ∨ c = 3 ∨ c = 22) ∧ (i = 2 * b ∨ i = 2 * b + 1)) → ¬ ((c = 2 ∨ (14 ≤ c ∧ c ≤ 20)) ∧ i = b) → c ≠ 11 → ¬ (c = 21 ∧ i = b) → σ' c i k = σ c i k) := by
  have m0 := (hW 0 (by omega)).1
  have m1 := (hW 1 (by omega)).1
  obtain ⟨a0, a1, a2⟩ := h2 0 (by omega)
  obtain ⟨b0, b1, b2⟩ := h2 1 (by omega)
  rw [Nat.add_zero] at a0 a1 a2
  obtain ⟨s1, r1, r2, r3, r4⟩ := L_take_L (N := N) (b := 2 * b) (p := 2 * p) (by omega) m0 (M 0) 0 N σ (by omega) (by omega)
  have e1 : s1 0 (2 * p + 1) 1 = nI (M 1) := (r4 _ _ _ (by omega) (by omega)).trans b0
  obtain ⟨s2, x1, x2, x3, x4⟩ := L_take_L (N := N) (b := 2 * b + 1) (p := 2 * p + 1) (by omega) m1 (M 1) 0 N s1 (by omega) (by omega)
  have f2 : ∀ c i y, c ≠ 0 → c ≠ 10 → s2 c i y = σ c i y := fun c i y q1 q2 => (x4 c i y (by omega) (by omega)).trans (r4 c i y (by omega) (by omega))
  have v2 : VC p s2 P := by
    obtain ⟨h1, h2, h3, h4, h5⟩ := h1
    exact ⟨fun w i hw hi => by rw [f2 _ _ _ (by omega) (by omega)]; exact h1 w i hw hi, fun j hj => by rw [f2 _ _ _ (by omega) (by omega)]; exact h2 j hj, by rw [f2 _ _ _ (by omega) (by omega)]; exact h3, by rw [f2 _ _ _ (by omega) (by omega)]; exact h4, by rw [f2 _ _ _ (by omega) (by omega)]; exact h5⟩
  obtain ⟨s3, y1, y2, y3, y4⟩ := R_copyg (b := b) (p := p) hne v2
  have y4' : ∀ c i k, ¬ ((c = 2 ∨ (14 ≤ c ∧ c ≤ 21)) ∧ i = b) → c ≠ 11 → s3 c i k = s2 c i k := fun c i k q1 q2 => y4 c i k q2 (by omega) (by omega)
  obtain ⟨s4, z1, z2, z3, z4⟩ := W_copy_L (N := N) (b := 2 * b) (p := 2 * p) (cap := 60) (m := t) (by omega) (if_pos (by omega)) (if_pos (by omega)) (by omega) ht t 0 N s3 (by omega) (by omega) ((y4' _ _ _ (by omega) (by omega)).trans ((f2 _ _ _ (by omega) (by omega)).trans h3))
  obtain ⟨s5, w1, w2, w3, w4⟩ := W_copy_L (N := N) (b := 2 * b + 1) (p := 2 * p + 1) (cap := 24) (m := w) (by omega) (if_neg (by omega)) (if_neg (by omega)) (by omega) hw w 0 N s4 (by omega) (by omega) ((z4 _ _ _ (by omega) (by omega)).trans ((y4' _ _ _ (by omega) (by omega)).trans ((f2 _ _ _ (by omega) (by omega)).trans h4)))
  have f5 : ∀ c i y, c ≠ 3 → c ≠ 22 → s5 c i y = s3 c i y := fun c i y q1 q2 => (w4 c i y (by omega) (by omega)).trans (z4 c i y (by omega) (by omega))
  refine ⟨s5, ?_, ?_, ?_, ?_, ?_, fun k hk => ?_, w2, fun k hk => ?_, fun c i k q1 q2 q3 q4 => ?_⟩
  · have r1' : fL_take_10 N (2 * b) (2 * p) (σ 0 (2 * p) 1) σ = some s1 := by rw [a0]; exact r1
    have x1' : fL_take_10 N (2 * b + 1) (2 * p + 1) (s1 0 (2 * p + 1) 1) s1 = some s2 := by rw [e1]; exact x1
    have z1' : fW_copy N (2 * b) (2 * p) s3 = some s4 := z1
    have w1' : fW_copy N (2 * b + 1) (2 * p + 1) s4 = some s5 := w1
    unfold fT_copy
    rw [r1', zbd_s, x1', zbd_s, y1, zbd_s, z1', zbd_s, w1', zbd_s]
  · obtain ⟨h1, h2, h3, h4, h5⟩ := y2
    exact ⟨fun w i hw hi => by rw [f5 _ _ _ (by omega) (by omega)]; exact h1 w i hw hi, fun j hj => by rw [f5 _ _ _ (by omega) (by omega)]; exact h2 j hj, by rw [f5 _ _ _ (by omega) (by omega)]; exact h3, by rw [f5 _ _ _ (by omega) (by omega)]; exact h4, by rw [f5 _ _ _ (by omega) (by omega)]; exact h5⟩
  · have g : ∀ c i y, (c = 0 ∨ c = 10) → s5 c i y = s2 c i y := fun c i y q => (f5 c i y (by omega) (by omega)).trans (y4' c i y (by omega) (by omega))
    intro u hu
    rcases (show u = 0 ∨ u = 1 by omega) with z | z <;> subst z
    · rw [Nat.add_zero]
      refine ⟨?_, ?_, fun k hk => ?_⟩
      · rw [g _ _ _ (by omega), x4 _ _ _ (by omega) (by omega), r2]
      · rw [g _ _ _ (by omega), x4 _ _ _ (by omega) (by omega), r4 _ _ _ (by omega) (by omega), u0]
      · rw [g _ _ _ (by omega), x4 _ _ _ (by omega) (by omega), r3 k (by omega) hk, a2 k hk]
    · refine ⟨?_, ?_, fun k hk => ?_⟩
      · rw [g _ _ _ (by omega), x2]
      · rw [g _ _ _ (by omega), x4 _ _ _ (by omega) (by omega), r4 _ _ _ (by omega) (by omega), u1]
      · rw [g _ _ _ (by omega), x3 k (by omega) hk, r4 _ _ _ (by omega) (by omega), b2 k hk]
  · rw [f5 _ _ _ (by omega) (by omega), y3, f2 _ _ _ (by omega) (by omega)]
  · rw [w4 _ _ _ (by omega) (by omega), z2]
  · rw [w4 _ _ _ (by omega) (by omega), z3 k (by omega) hk, y4' _ _ _ (by omega) (by omega), f2 _ _ _ (by omega) (by omega)]
  · rw [w3 k (by omega) hk, z4 _ _ _ (by omega) (by omega), y4' _ _ _ (by omega) (by omega), f2 _ _ _ (by omega) (by omega)]
  · rw [w4 c i k (by omega) (by omega), z4 c i k (by omega) (by omega), y4' c i k (by omega) q3, x4 c i k (by omega) (by omega), r4 c i k (by omega) (by omega)]
theorem M_ca1_L {N : Nat} : ∀ k j f s, j + k = 394 → k < f → ∃ s', fM_copyAll_30_31_L2 N f (nI j) s = some s' ∧ (∀ i, j ≤ i → i < 394 → s' 31 0 i = s 30 0 i) ∧ (∀ c i y, ¬ (c = 31 ∧ i = 0 ∧ j ≤ y) → s' c i y = s c i y)
  | k, j, 0, s, h1, h2 => absurd h2 (by omega)
  | 0, j, f + 1, s, h1, h2 => by
    have hq : (394 : Int32) ≤ nI j := (nI_leI (a := 394) (by omega) (by omega)).mpr (by omega)
    rw [fM_copyAll_30_31_L2, if_pos hq]
    exact ⟨s, rfl, fun i a b => by omega, fun _ _ _ _ => rfl⟩
  | k + 1, j, f + 1, s, h1, h2 => by
    have hq : ¬ ((394 : Int32) ≤ nI j) := fun r => absurd ((nI_leI (a := 394) (by omega) (by omega)).mp r) (by omega)
    rw [fM_copyAll_30_31_L2, if_neg hq]
    simp (disch := omega) only [zlt_eq, zgd_T, zin_T, zb2_s, zbd_s, n_cl, n_sub1, n_predm, n_sc, if_nle, if_nle0, if_nle1, if_le, if_true, if_false]
    obtain ⟨s', r1, r2, r3⟩ := M_ca1_L (N := N) k (j + 1) f (zup s 31 0 j (s 30 0 j)) (by omega) (by omega)
    refine ⟨s', r1, fun i a b => ?_, fun c i y hc => ?_⟩
    · by_cases e : i = j
      · subst e
        rw [r3 _ _ _ (by omega), zup_s]
      · rw [r2 i (by omega) b, zup_o (by omega)]
    · rw [r3 c i y (by omega)]
      unfold zup
      rw [if_neg (by omega)]
theorem M_ca2_L {N : Nat} : ∀ k j f s, j + k = 394 → k < f → ∃ s', fM_copyAll_31_30_L2 N f (nI j) s = some s' ∧ (∀ i, j ≤ i → i < 394 → s' 30 0 i = s 31 0 i) ∧ (∀ c i y, ¬ (c = 30 ∧ i = 0 ∧ j ≤ y) → s' c i y = s c i y)
  | k, j, 0, s, h1, h2 => absurd h2 (by omega)
  | 0, j, f + 1, s, h1, h2 => by
    have hq : (394 : Int32) ≤ nI j := (nI_leI (a := 394) (by omega) (by omega)).mpr (by omega)
    rw [fM_copyAll_31_30_L2, if_pos hq]
    exact ⟨s, rfl, fun i a b => by omega, fun _ _ _ _ => rfl⟩
  | k + 1, j, f + 1, s, h1, h2 => by
    have hq : ¬ ((394 : Int32) ≤ nI j) := fun r => absurd ((nI_leI (a := 394) (by omega) (by omega)).mp r) (by omega)
    rw [fM_copyAll_31_30_L2, if_neg hq]
    simp (disch := omega) only [zlt_eq, zgd_T, zin_T, zb2_s, zbd_s, n_cl, n_sub1, n_predm, n_sc, if_nle, if_nle0, if_nle1, if_le, if_true, if_false]
    obtain ⟨s', r1, r2, r3⟩ := M_ca2_L (N := N) k (j + 1) f (zup s 30 0 j (s 31 0 j)) (by omega) (by omega)
    refine ⟨s', r1, fun i a b => ?_, fun c i y hc => ?_⟩
    · by_cases e : i = j
      · subst e
        rw [r3 _ _ _ (by omega), zup_s]
      · rw [r2 i (by omega) b, zup_o (by omega)]
    · rw [r3 c i y (by omega)]
      unfold zup
      rw [if_neg (by omega)]
theorem CX_p {σ τ : zS} {P : zP} {T : Nat → Nat → Int32} {M : Nat → Nat} (c : CX σ P T M) (x : ∀ c i k, (((c = 2 ∨ (14 ≤ c ∧ c ≤ 20)) ∧ i = 0) ∨ ((c = 0 ∨ c = 10 ∨ c = 3 ∨ c = 22) ∧ i < 2) ∨ c = 26 ∨ c = 34 ∨ c = 30) → τ c i k = σ c i k) : CX τ P T M := by
  obtain ⟨c1, c2, c3, c3', c4, c5, c6, c7, c8, c9, c10⟩ := c
  refine ⟨?_, VM_e c2 (fun k _ => x _ _ _ (by omega)), c3, c3', ?_, TM_e c5 c6 (fun k _ _ => x _ _ _ (by omega)), c6, by rw [x _ _ _ (by omega), x _ _ _ (by omega)]; exact c7, fun k hk => by rw [x _ _ _ (by omega), x _ _ _ (by omega)]; exact c8 k hk, RW_e c9 (fun k => x _ _ _ (by omega)) (fun k => x _ _ _ (by omega)) (x _ _ _ (by omega)) (fun k _ _ => x _ _ _ (by omega)), RW_e c10 (fun k => x _ _ _ (by omega)) (fun k => x _ _ _ (by omega)) (x _ _ _ (by omega)) (fun k _ _ => x _ _ _ (by omega))⟩
  · obtain ⟨h1, h2, h3, h4, h5⟩ := c1
    exact ⟨fun w i hw hi => by rw [x _ _ _ (by omega)]; exact h1 w i hw hi, fun j hj => by rw [x _ _ _ (by omega)]; exact h2 j hj, by rw [x _ _ _ (by omega)]; exact h3, by rw [x _ _ _ (by omega)]; exact h4, by rw [x _ _ _ (by omega)]; exact h5⟩
  · intro u hu
    obtain ⟨h1, h2, h3⟩ := c4 u hu
    exact ⟨by rw [x _ _ _ (by omega)]; exact h1, by rw [x _ _ _ (by omega)]; exact h2, fun k hk => by rw [x _ _ _ (by omega)]; exact h3 k hk⟩
theorem P_image {N : Nat} (hN : 901 ≤ N) {σ : zS} (h : Full σ) : PrF σ (fA_image N) (fM_image N) := by
  obtain ⟨⟨P, T, M, c⟩, hS, hT, ⟨i1, i2, i3, i4⟩, hB⟩ := h
  obtain ⟨c1, c2, c3, c3', c4, c5, c6, c7, c8, ⟨t, ht, t1, t2, t3⟩, ⟨w, hw, w1, w2, w3⟩⟩ := c
  have c : CX σ P T M := ⟨c1, c2, c3, c3', c4, c5, c6, c7, c8, ⟨t, ht, t1, t2, t3⟩, ⟨w, hw, w1, w2, w3⟩⟩
  obtain ⟨s, r1, r2, r3, r4, r5, r6, r7, r8, r9⟩ := T_copy (N := N) (b := 1) (p := 0) hN (by omega) (by omega) (by omega) c1 c4 c6 ht hw t1 w1 i3 i4
  have f1 : ∀ c i k, ¬ ((c = 0 ∨ c = 10 ∨ c = 3 ∨ c = 22) ∧ (i = 2 ∨ i = 3)) → ¬ ((c = 2 ∨ (14 ≤ c ∧ c ≤ 20)) ∧ i = 1) → c ≠ 11 → c ≠ 21 → ¬ (c = 7) → (zup s 7 0 8 (σ 7 0 8 + 1)) c i k = σ c i k := fun c i k a1 a2 a3 a4 a5 => (zup_o a5).trans (r9 c i k a1 a2 a3 (by omega))
  obtain ⟨u, u1, u2, u3⟩ := M_ca1_L (N := N) 394 0 N (zup s 7 0 8 (σ 7 0 8 + 1)) (by omega) (by omega)
  have e7 : s 7 0 8 = σ 7 0 8 := r9 _ _ _ (by omega) (by omega) (by omega) (by omega)
  have e84 : u 8 0 4 = σ 8 0 4 := (u3 _ _ _ (by omega)).trans (f1 _ _ _ (by omega) (by omega) (by omega) (by omega) (by omega))
  have e : ∀ c i k, ¬ ((c = 0 ∨ c = 10 ∨ c = 3 ∨ c = 22) ∧ (i = 2 ∨ i = 3)) → ¬ ((c = 2 ∨ (14 ≤ c ∧ c ≤ 20)) ∧ i = 1) → c ≠ 11 → c ≠ 21 → c ≠ 7 → c ≠ 31 → ¬ (c = 8 ∧ k = 4) → (zup u 8 0 4 (σ 8 0 4 + 1)) c i k = σ c i k := fun c i k a1 a2 a3 a4 a5 a6 a7 => by
    have : (zup u 8 0 4 (σ 8 0 4 + 1)) c i k = u c i k := by
      unfold zup
      rw [if_neg (by omega)]
    rw [this, u3 c i k (by omega)]
    exact f1 c i k a1 a2 a3 a4 a5
  have g : ∀ c i k, c ≠ 8 → c ≠ 31 → c ≠ 7 → (zup u 8 0 4 (σ 8 0 4 + 1)) c i k = s c i k := fun c i k a1 a2 a3 => by
    rw [zup_o a1, u3 c i k (by omega), zup_o a3]
  have k31 : ∀ k, k < 394 → (zup u 8 0 4 (σ 8 0 4 + 1)) 31 0 k = σ 30 0 k := fun k hk => by
    rw [zup_o (by omega), u2 k (by omega) hk]
    exact f1 _ _ _ (by omega) (by omega) (by omega) (by omega) (by omega)
  have ekv : ∀ k, k < 394 → kv (zup u 8 0 4 (σ 8 0 4 + 1)) 30 0 k = σ 30 0 k := fun k hk => (kv_30 _ _ _).trans (k31 k hk)
  refine ⟨σ 7 0 8 + 1, zup s 7 0 8 (σ 7 0 8 + 1), zup u 8 0 4 (σ 8 0 4 + 1), ?_, ?_, ⟨⟨P, T, M, CX_p c (fun c i k hc => e c i k (by omega) (by omega) (by omega) (by omega) (by omega) (by omega) (by omega))⟩, SH_e hS (fun c i k hc => e c i k (by omega) (by omega) (by omega) (by omega) (by omega) (by omega) (by omega)), TR_e hT (fun c i k hc => e c i k (by omega) (by omega) (by omega) (by omega) (by omega) (by omega) (by omega)), ⟨?_, fun _ => ?_, ?_, ?_⟩, TB_e hB (fun c i k hc => e c i k (by omega) (by omega) (by omega) (by omega) (by omega) (by omega) (by omega))⟩, fun i k => e _ _ _ (by omega) (by omega) (by omega) (by omega) (by omega) (by omega) (by omega), fun i k => f1 _ _ _ (by omega) (by omega) (by omega) (by omega) (by omega)⟩
  · unfold fA_image
    rw [r1, zbd_s, zlt_eq, zup_s, e7]
  · have u1' : fM_copyAll_30_31 N (zup s 7 0 8 (σ 7 0 8 + 1)) = some u := u1
    unfold fM_image
    rw [u1', zbd_s, zlt_eq, zup_s, e84, i1]
  · rw [zup_o (by omega), u3 _ _ _ (by omega), zup_s, zup_s, i1]
  · refine ⟨P, T, M, ?_, VM_e c2 (fun k hk => ekv k (by omega)), c3, c3', ?_, TM_e c5 c6 (fun k _ hk => ekv k (by omega)), c6, ?_, ⟨t, ht, ?_, (ekv 2 (by omega)).trans t2, fun k hk => ?_⟩, ⟨w, hw, ?_, (ekv 3 (by omega)).trans w2, fun k hk => ?_⟩⟩
    · obtain ⟨h1, h2, h3, h4, h5⟩ := r2
      exact ⟨fun w i hw hi => by rw [g _ _ _ (by omega) (by omega) (by omega)]; exact h1 w i hw hi, fun j hj => by rw [g _ _ _ (by omega) (by omega) (by omega)]; exact h2 j hj, by rw [g _ _ _ (by omega) (by omega) (by omega)]; exact h3, by rw [g _ _ _ (by omega) (by omega) (by omega)]; exact h4, by rw [g _ _ _ (by omega) (by omega) (by omega)]; exact h5⟩
    · intro v hv
      obtain ⟨h1, h2, h3⟩ := r3 v hv
      exact ⟨by rw [g _ _ _ (by omega) (by omega) (by omega)]; exact h1, by rw [g _ _ _ (by omega) (by omega) (by omega)]; exact h2, fun k hk => by rw [g _ _ _ (by omega) (by omega) (by omega)]; exact h3 k hk⟩
    · rw [g _ _ _ (by omega) (by omega) (by omega), k31 1 (by omega), r4]; exact c7
    · rw [g _ _ _ (by omega) (by omega) (by omega)]; exact r5
    · rw [g _ _ _ (by omega) (by omega) (by omega), ekv _ (by omega)]; exact (r6 k hk).trans (t3 k hk)
    · rw [g _ _ _ (by omega) (by omega) (by omega)]; exact r7
    · rw [g _ _ _ (by omega) (by omega) (by omega), ekv _ (by omega)]; exact (r8 k hk).trans (w3 k hk)
  · rw [g _ _ _ (by omega) (by omega) (by omega)]; exact (r3 0 (by omega)).2.1
  · rw [g _ _ _ (by omega) (by omega) (by omega)]; exact (r3 1 (by omega)).2.1
theorem P_restore {N : Nat} (hN : 901 ≤ N) {σ : zS} (h : Core σ) (hI : IM σ) : Pr σ (fA_restore N) (fM_restore N) := by
  obtain ⟨P, T, M, c⟩ := h
  obtain ⟨c1, c2, c3, c3', c4, c5, c6, c7, c8, c9, c10⟩ := c
  have c : CX σ P T M := ⟨c1, c2, c3, c3', c4, c5, c6, c7, c8, c9, c10⟩
  have hn := c3.1
  obtain ⟨i1, i2, i3, i4⟩ := hI
  by_cases z : σ 7 0 8 = 0
  · refine Pr_err c (e := 2) (by omega) (by omega) ?_ ?_
    · unfold fA_restore
      rw [if_pos z, zb2_id]
      rfl
    · have : (zup σ 26 0 2 (σ 26 0 2 + 1)) 8 0 4 = 0 := by rw [zup_o (by omega), ← i1]; exact z
      unfold fM_restore
      rw [if_pos this, zb2_id]
      rfl
  · obtain ⟨P', T', M', k1, k2, k3, k4, k5, k6, k7, k8, ⟨t, ht, t1, t2, t3⟩, ⟨w, hw, w1, w2, w3⟩⟩ := i2 z
    obtain ⟨s, r1, r2, r3, r4, r5, r6, r7, r8, r9⟩ := T_copy (N := N) (b := 0) (p := 1) hN (by omega) (by omega) (by omega) k1 k5 k7 ht hw t1 w1 (c4 0 (by omega)).2.1 (c4 1 (by omega)).2.1
    obtain ⟨τ, u1, u2, u3⟩ := M_ca2_L (N := N) 394 0 N s (by omega) (by omega)
    have f1 : ∀ c i k, ¬ ((c = 0 ∨ c = 10 ∨ c = 3 ∨ c = 22) ∧ (i = 0 ∨ i = 1)) → ¬ ((c = 2 ∨ (14 ≤ c ∧ c ≤ 20)) ∧ i = 0) → c ≠ 11 → c ≠ 21 → c ≠ 30 → τ c i k = σ c i k := fun c i k a1 a2 a3 a4 a5 => (u3 c i k (by omega)).trans (r9 c i k a1 a2 a3 (by omega))
    have k30 : ∀ k, k < 394 → τ 30 0 k = kv σ 30 0 k := fun k hk => by
      rw [u2 k (by omega) hk, kv_30]
      exact r9 _ _ _ (by omega) (by omega) (by omega) (by omega)
    have g : ∀ c i k, c ≠ 30 → τ c i k = s c i k := fun c i k a1 => u3 c i k (by omega)
    have e84 : ¬ (s 8 0 4 = 0) := by rw [r9 _ _ _ (by omega) (by omega) (by omega) (by omega), ← i1]; exact z
    have v2 : VM τ P' := VM_e k2 (fun k hk => k30 k (by omega))
    have w25 : σ 2 1 12 = kv σ 30 0 1 := k8.trans (kv_30 _ _ _).symm
    refine ⟨nI (P' 7 1), s, τ, ?_, ?_, ⟨P', T', M', ⟨?_, v2, k3, k4, ?_, TM_e k6 k7 (fun k _ hk => k30 k (by omega)), k7, ?_, fun k hk => ?_, ⟨t, ht, ?_, (k30 2 (by omega)).trans t2, fun k hk => ?_⟩, ⟨w, hw, ?_, (k30 3 (by omega)).trans w2, fun k hk => ?_⟩⟩⟩, ?_, fun i k => r9 _ _ _ (by omega) (by omega) (by omega) (by omega)⟩
    · unfold fA_restore
      rw [if_neg z, r1, zbd_s, r2.2.2.2.1]
    · have u1' : fM_copyAll_31_30 N s = some τ := u1
      unfold fM_restore
      rw [if_neg e84, u1', zbd_s, v2.2.2.2.1]
    · obtain ⟨h1, h2, h3, h4, h5⟩ := r2
      exact ⟨fun w i hw hi => by rw [g _ _ _ (by omega)]; exact h1 w i hw hi, fun j hj => by rw [g _ _ _ (by omega)]; exact h2 j hj, by rw [g _ _ _ (by omega)]; exact h3, by rw [g _ _ _ (by omega)]; exact h4, by rw [g _ _ _ (by omega)]; exact h5⟩
    · intro v hv
      obtain ⟨h1, h2, h3⟩ := r3 v hv
      exact ⟨by rw [g _ _ _ (by omega)]; exact h1, by rw [g _ _ _ (by omega)]; exact h2, fun k hk => by rw [g _ _ _ (by omega)]; exact h3 k hk⟩
    · rw [g _ _ _ (by omega), r4, k30 1 (by omega)]; exact w25
    · rw [f1 _ _ _ (by omega) (by omega) (by omega) (by omega) (by omega), f1 _ _ _ (by omega) (by omega) (by omega) (by omega) (by omega)]; exact c8 k hk
    · rw [g _ _ _ (by omega)]; exact r5
    · rw [g _ _ _ (by omega), k30 _ (by omega)]; exact (r6 k hk).trans (t3 k hk)
    · rw [g _ _ _ (by omega)]; exact r7
    · rw [g _ _ _ (by omega), k30 _ (by omega)]; exact (r8 k hk).trans (w3 k hk)
    · intro c i k a1 a2 a3 a4 a5 a6 a7 a8 a9 a10 a11
      by_cases q : c = 21
      · subst q
        rw [g _ _ _ (by omega)]
        exact r9 _ _ _ (by omega) (by omega) (by omega) (by omega)
      · exact f1 c i k (by omega) (by omega) (by omega) (by omega) (by omega)
