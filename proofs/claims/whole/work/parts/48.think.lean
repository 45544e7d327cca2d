/-! Pure mathematics: thoughts. -/
theorem R_copy {σ : zS} {P : zP} (h : VC 0 σ P) : ∃ σ', fR_copy 2 0 σ = some σ' ∧ VC 2 σ' P ∧ FZ 2 σ σ' := by
  have c0 : (0 : Int32).toNatClampNeg = 0 := rfl
  have c8 : (8 : Int32).toNatClampNeg = 8 := rfl
  have c6 : (6 : Int32).toNatClampNeg = 6 := rfl
  unfold fR_copy
  rw [zgd_t (by decide), zlt_eq, zgd_t (by decide), zlt_eq, zgd_t (by decide), zlt_eq, zgd_t (by decide), zlt_eq, zgd_t (by decide), zlt_eq, zgd_t (by decide), zlt_eq, zgd_t (by decide), zlt_eq, zlt_eq, zlt_eq, zlt_eq, zlt_eq, c0, c8, c6]
  obtain ⟨h1, h2, h3, h4, h5⟩ := h
  refine ⟨_, rfl, ⟨fun w i hw hi => ?_, fun j hj => ?_, ?_, ?_, ?_⟩, ?_⟩
  · rw [zup_o (by omega), zup_o (by omega), zup_o (by omega), zup_o (by omega), zcp_o (by omega)]
    rcases (show w = 0 ∨ w = 1 ∨ w = 2 ∨ w = 3 ∨ w = 4 ∨ w = 5 by omega) with q | q | q | q | q | q <;> subst q
    · rw [zcp_o (by omega), zcp_o (by omega), zcp_o (by omega), zcp_o (by omega), zcp_o (by omega), zcp_i (by omega) (by omega)]
      exact (congrArg (σ 14 0) (by omega)).trans (h1 0 i hw hi)
    · rw [zcp_o (by omega), zcp_o (by omega), zcp_o (by omega), zcp_o (by omega), zcp_i (by omega) (by omega), zcp_o (by omega)]
      exact (congrArg (σ 15 0) (by omega)).trans (h1 1 i hw hi)
    · rw [zcp_o (by omega), zcp_o (by omega), zcp_o (by omega), zcp_i (by omega) (by omega), zcp_o (by omega), zcp_o (by omega)]
      exact (congrArg (σ 16 0) (by omega)).trans (h1 2 i hw hi)
    · rw [zcp_o (by omega), zcp_o (by omega), zcp_i (by omega) (by omega), zcp_o (by omega), zcp_o (by omega), zcp_o (by omega)]
      exact (congrArg (σ 17 0) (by omega)).trans (h1 3 i hw hi)
    · rw [zcp_o (by omega), zcp_i (by omega) (by omega), zcp_o (by omega), zcp_o (by omega), zcp_o (by omega), zcp_o (by omega)]
      exact (congrArg (σ 18 0) (by omega)).trans (h1 4 i hw hi)
    · rw [zcp_i (by omega) (by omega), zcp_o (by omega), zcp_o (by omega), zcp_o (by omega), zcp_o (by omega), zcp_o (by omega)]
      exact (congrArg (σ 19 0) (by omega)).trans (h1 5 i hw hi)
  · rw [zup_o (by omega), zup_o (by omega), zup_o (by omega), zup_o (by omega), zcp_i (by omega) (by omega), zcp_o (by omega), zcp_o (by omega), zcp_o (by omega), zcp_o (by omega), zcp_o (by omega), zcp_o (by omega)]
    exact (congrArg (σ 20 0) (by omega)).trans (h2 j hj)
  · simp only [zup, zcp_o (show (2 : Nat) ≠ 14 ∨ _ from Or.inl (by omega)), zcp_o (show (2 : Nat) ≠ 15 ∨ _ from Or.inl (by omega)), zcp_o (show (2 : Nat) ≠ 16 ∨ _ from Or.inl (by omega)), zcp_o (show (2 : Nat) ≠ 17 ∨ _ from Or.inl (by omega)), zcp_o (show (2 : Nat) ≠ 18 ∨ _ from Or.inl (by omega)), zcp_o (show (2 : Nat) ≠ 19 ∨ _ from Or.inl (by omega)), zcp_o (show (2 : Nat) ≠ 20 ∨ _ from Or.inl (by omega))]
    simp [h3]
  · simp only [zup, zcp_o (show (2 : Nat) ≠ 14 ∨ _ from Or.inl (by omega)), zcp_o (show (2 : Nat) ≠ 15 ∨ _ from Or.inl (by omega)), zcp_o (show (2 : Nat) ≠ 16 ∨ _ from Or.inl (by omega)), zcp_o (show (2 : Nat) ≠ 17 ∨ _ from Or.inl (by omega)), zcp_o (show (2 : Nat) ≠ 18 ∨ _ from Or.inl (by omega)), zcp_o (show (2 : Nat) ≠ 19 ∨ _ from Or.inl (by omega)), zcp_o (show (2 : Nat) ≠ 20 ∨ _ from Or.inl (by omega))]
    simp [h4]
  · simp only [zup, zcp_o (show (2 : Nat) ≠ 14 ∨ _ from Or.inl (by omega)), zcp_o (show (2 : Nat) ≠ 15 ∨ _ from Or.inl (by omega)), zcp_o (show (2 : Nat) ≠ 16 ∨ _ from Or.inl (by omega)), zcp_o (show (2 : Nat) ≠ 17 ∨ _ from Or.inl (by omega)), zcp_o (show (2 : Nat) ≠ 18 ∨ _ from Or.inl (by omega)), zcp_o (show (2 : Nat) ≠ 19 ∨ _ from Or.inl (by omega)), zcp_o (show (2 : Nat) ≠ 20 ∨ _ from Or.inl (by omega))]
    simp [h5]
  · intro c i k a1 a2 a3
    have e : ∀ (s : zS) (k' : Nat) (v : Int32), zup s 2 2 k' v c i k = s c i k := fun s k' v => by unfold zup; rw [if_neg (by omega)]
    rw [e, e, e, e, zcp_o (by omega), zcp_o (by omega), zcp_o (by omega), zcp_o (by omega), zcp_o (by omega), zcp_o (by omega), zcp_o (by omega)]
theorem M_saves_L {N : Nat} : ∀ k j f σ, j + k = 60 → k < f → ∃ σ', fM_saves_L2 N f (nI j) σ = some σ' ∧ (∀ i, j ≤ i → i < 60 → σ' 32 0 i = σ 30 0 i) ∧ (∀ c i x, ¬ (c = 32 ∧ i = 0 ∧ j ≤ x) → σ' c i x = σ c i x)
  | k, j, 0, σ, h1, h2 => absurd h2 (by omega)
  | 0, j, f + 1, σ, h1, h2 => by
    have hq : (60 : Int32) ≤ nI j := (nI_leI (a := 60) (by omega) (by omega)).mpr (by omega)
    rw [fM_saves_L2, if_pos hq]
    exact ⟨σ, rfl, fun i a b => by omega, fun _ _ _ _ => rfl⟩
  | k + 1, j, f + 1, σ, h1, h2 => by
    have hq : ¬ ((60 : Int32) ≤ nI j) := fun r => absurd ((nI_leI (a := 60) (by omega) (by omega)).mp r) (by omega)
    rw [fM_saves_L2, if_neg hq]
    simp (disch := omega) only [zlt_eq, zgd_T, zin_T, zb2_s, zbd_s, n_cl, n_sub1, n_predm, n_sc, if_nle, if_nle0, if_nle1, if_le, if_true, if_false]
    obtain ⟨σ', r1, r2, r3⟩ := M_saves_L (N := N) k (j + 1) f (zup σ 32 0 j (σ 30 0 j)) (by omega) (by omega)
    refine ⟨σ', r1, fun i a b => ?_, fun c i x hc => ?_⟩
    · by_cases e : i = j
      · subst e
        rw [r3 _ _ _ (by omega), zup_s]
      · rw [r2 i (by omega) b, zup_o (by omega)]
    · rw [r3 c i x (by omega)]
      unfold zup
      rw [if_neg (by omega)]
theorem M_puts_L {N : Nat} : ∀ k j f σ, j + k = 60 → k < f → ∃ σ', fM_putsBack_L2 N f (nI j) σ = some σ' ∧ (∀ i, j ≤ i → i < 60 → σ' 30 0 i = σ 32 0 i) ∧ (∀ c i x, ¬ (c = 30 ∧ i = 0 ∧ j ≤ x ∧ x < 60) → σ' c i x = σ c i x)
  | k, j, 0, σ, h1, h2 => absurd h2 (by omega)
  | 0, j, f + 1, σ, h1, h2 => by
    have hq : (60 : Int32) ≤ nI j := (nI_leI (a := 60) (by omega) (by omega)).mpr (by omega)
    rw [fM_putsBack_L2, if_pos hq]
    exact ⟨σ, rfl, fun i a b => by omega, fun _ _ _ _ => rfl⟩
  | k + 1, j, f + 1, σ, h1, h2 => by
    have hq : ¬ ((60 : Int32) ≤ nI j) := fun r => absurd ((nI_leI (a := 60) (by omega) (by omega)).mp r) (by omega)
    rw [fM_putsBack_L2, if_neg hq]
    simp (disch := omega) only [zlt_eq, zgd_T, zin_T, zb2_s, zbd_s, n_cl, n_sub1, n_predm, n_sc, if_nle, if_nle0, if_nle1, if_le, if_true, if_false]
    obtain ⟨σ', r1, r2, r3⟩ := M_puts_L (N := N) k (j + 1) f (zup σ 30 0 j (σ 32 0 j)) (by omega) (by omega)
    refine ⟨σ', r1, fun i a b => ?_, fun c i x hc => ?_⟩
    · by_cases e : i = j
      · subst e
        rw [r3 _ _ _ (by omega), zup_s]
      · rw [r2 i (by omega) b, zup_o (by omega)]
    · rw [r3 c i x (by omega)]
      unfold zup
      rw [if_neg (by omega)]
/-- the reference's thought leaves its state as it was -/
def FT (σ τ : zS) : Prop := ∀ c i k, ¬ (c = 32 ∨ c = 33 ∨ c = 36 ∨ c = 37) → ¬ (c = 8 ∧ k = 13) → ¬ (c = 30 ∧ i ≠ 0) → τ c i k = σ c i k
theorem M_saves {N : Nat} (hN : 61 ≤ N) {σ : zS} {P : zP} (h : VM σ P) : ∃ s, fM_saves N σ = some s ∧ VM s P ∧ (∀ i, i < 60 → s 32 0 i = σ 30 0 i) ∧ (∀ c i x, c ≠ 32 → s c i x = σ c i x) := by
  obtain ⟨s, r1, r2, r3⟩ := M_saves_L (N := N) 60 0 N σ (by omega) (by omega)
  exact ⟨s, r1, VM_e h (fun k _ => r3 _ _ _ (by omega)), fun i hi => r2 i (by omega) hi, fun c i x hc => r3 c i x (by omega)⟩
theorem M_puts {N : Nat} (hN : 61 ≤ N) {σ s t : zS} (h2 : ∀ i, i < 60 → s 32 0 i = σ 30 0 i) (h3 : ∀ c i x, c ≠ 32 → s c i x = σ c i x) (hF : FM s t) : ∃ τ, fM_putsBack N t = some τ ∧ FT σ τ := by
  obtain ⟨τ, r1, r2, r3⟩ := M_puts_L (N := N) 60 0 N t (by omega) (by omega)
  refine ⟨τ, r1, fun c i k a1 a2 a3 => ?_⟩
  by_cases q : c = 30 ∧ i = 0 ∧ k < 60
  · obtain ⟨q1, q2, q3⟩ := q
    subst q1 q2
    rw [r2 k (by omega) q3, hF 32 0 k (by omega) (by omega) (by omega) (by omega) (by omega), h2 k q3]
  · rw [r3 c i k (by omega)]
    rw [hF c i k (by omega) (by omega) (by omega) (by omega) (by omega), h3 c i k (by omega)]
theorem CX_think {σ s τ : zS} {P : zP} {T : Nat → Nat → Int32} {M : Nat → Nat} (h : CX σ P T M) (hC : FZ 2 σ s) (hM : FT s τ) : CX τ P T M ∧ FR σ τ := by
  have e : ∀ c i k, ¬ (c = 11 ∨ c = 32 ∨ c = 33 ∨ c = 36 ∨ c = 37) → ¬ (c = 8 ∧ k = 13) → ¬ (c = 30 ∧ i ≠ 0) → ¬ ((c = 2 ∨ (14 ≤ c ∧ c ≤ 21)) ∧ i = 2) → τ c i k = σ c i k := fun c i k a1 a2 a3 a4 => (hM c i k (by omega) a2 a3).trans (hC c i k (by omega) (by omega) (by omega))
  obtain ⟨c1, c2, c3, c3', c4, c5, c6, c7, c8, c9, c10⟩ := h
  refine ⟨⟨?_, VM_e c2 (fun k _ => e _ _ _ (by omega) (by omega) (by omega) (by omega)), c3, c3', TC_e c4 (fun c i k hc => e _ _ _ (by omega) (by omega) (by omega) (by omega)), TM_e c5 c6 (fun k _ _ => e _ _ _ (by omega) (by omega) (by omega) (by omega)), c6, by rw [e _ _ _ (by omega) (by omega) (by omega) (by omega), e _ _ _ (by omega) (by omega) (by omega) (by omega)]; exact c7, fun k hk => by rw [e _ _ _ (by omega) (by omega) (by omega) (by omega), e _ _ _ (by omega) (by omega) (by omega) (by omega)]; exact c8 k hk, RW_e c9 (fun k => e _ _ _ (by omega) (by omega) (by omega) (by omega)) (fun k => e _ _ _ (by omega) (by omega) (by omega) (by omega)) (e _ _ _ (by omega) (by omega) (by omega) (by omega)) (fun k _ _ => e _ _ _ (by omega) (by omega) (by omega) (by omega)), RW_e c10 (fun k => e _ _ _ (by omega) (by omega) (by omega) (by omega)) (fun k => e _ _ _ (by omega) (by omega) (by omega) (by omega)) (e _ _ _ (by omega) (by omega) (by omega) (by omega)) (fun k _ _ => e _ _ _ (by omega) (by omega) (by omega) (by omega))⟩, ?_⟩
  · obtain ⟨h1, h2, h3, h4, h5⟩ := c1
    exact ⟨fun w i hw hi => by rw [e _ _ _ (by omega) (by omega) (by omega) (by omega)]; exact h1 w i hw hi, fun j hj => by rw [e _ _ _ (by omega) (by omega) (by omega) (by omega)]; exact h2 j hj, by rw [e _ _ _ (by omega) (by omega) (by omega) (by omega)]; exact h3, by rw [e _ _ _ (by omega) (by omega) (by omega) (by omega)]; exact h4, by rw [e _ _ _ (by omega) (by omega) (by omega) (by omega)]; exact h5⟩
  · intro c i k a1 a2 a3 a4 a5 a6 a7 a8 a9 a10 a11
    exact e c i k (by omega) (by omega) (by omega) (by omega)
theorem Pr_think {σ s τ : zS} {P : zP} {T : Nat → Nat → Int32} {M : Nat → Nat} (h : CX σ P T M) {fa fm : zS → Option (Int32 × zS)} {r : Int32} (ha : fa σ = some (r, s)) (hm : fm s = some (r, τ)) (hC : FZ 2 σ s) (hM : FT s τ) : Pr σ fa fm := by
  obtain ⟨a, b⟩ := CX_think h hC hM
  exact ⟨r, s, τ, ha, hm, ⟨P, T, M, a⟩, b, fun i k => hC _ _ _ (by omega) (by omega) (by omega)⟩
/-- the class thinks n days on -/
theorem R_think {N : Nat} (hN : 901 ≤ N) {σ : zS} {P : zP} {T : Nat → Nat → Int32} {M : Nat → Nat} (h : CX σ P T M) {n : Nat} (hn : n ≤ 60) : ∃ s s', fR_copy 2 0 σ = some s ∧ fR_pass N 2 (nI n) s = some s' ∧ VC 2 s' (sDays T M n P) ∧ FZ 2 σ s' := by
  obtain ⟨c1, c2, c3, c3', c4, c5, c6, c7, c8, c9, c10⟩ := h
  obtain ⟨s, r1, r2, r3⟩ := R_copy c1
  have t0 : TC (lw 2) s T M := TC_Z c4 r3
  obtain ⟨s', t1, t2, t3⟩ := R_pass (N := N) r2 c3 t0 c6 (by omega) (n := n) (by omega) (by omega) (by omega)
  exact ⟨s, s', r1, t1, t2, FZ_t r3 (FZ_C t3)⟩
theorem M_think {N : Nat} (hN : 901 ≤ N) {σ : zS} {P : zP} {T : Nat → Nat → Int32} {M : Nat → Nat} (h : VM σ P) (hP : PI P) (hd : P 7 1 ≤ 9999) (hT : TM σ T M) (hW : WT T M) {n : Nat} (hn : n ≤ 60) : ∃ s t τ, fM_saves N σ = some s ∧ fM_goesOn N (nI n) s = some t ∧ VM t (sDays T M n P) ∧ fM_putsBack N t = some τ ∧ FT σ τ := by
  obtain ⟨s, r1, r2, r3, r4⟩ := M_saves (N := N) (by omega) h
  have hT' : TM s T M := TM_e hT hW (fun k _ _ => r4 _ _ _ (by omega))
  obtain ⟨t, t1, t2, t3⟩ := M_goesOn (N := N) r2 hP hT' hW hN (n := n) (by omega) (by omega) (by omega)
  obtain ⟨τ, u1, u2⟩ := M_puts (N := N) (by omega) r3 r4 t3
  exact ⟨s, t, τ, r1, t1, t2, u1, u2⟩
theorem P_then {N : Nat} (hN : 901 ≤ N) {σ : zS} (h : Core σ) (x1 x2 : Int32) : Pr σ (fA_then N x1 x2) (fM_then N x1 x2) := by
  obtain ⟨P, T, M, c⟩ := h
  obtain ⟨c1, c2, c3, c3', c4, c5, c6, c7, c8, c9, c10⟩ := c
  have c : CX σ P T M := ⟨c1, c2, c3, c3', c4, c5, c6, c7, c8, c9, c10⟩
  have hn := c3.1
  by_cases q : thr P x1
  · have a1 := (A_there c1 c3).1 q
    have m1 := fun s (hs : VM s P) => (M_there hs c3).1 q
    have m2 := M_in (x := x2) (B := 60) (by omega)
    have a2 := A_within (x := x2) (B := 60) (by omega)
    by_cases q2 : wi x2 60
    · have m2 : fM_in x2 0 60 = some 1 := m2.1 q2
      have a2 : fA_within x2 60 = some 1 := a2.1 q2
      obtain ⟨i, hi, rfl⟩ := q
      obtain ⟨n, hk, rfl⟩ := q2
      have hi8 : i < 8 := by omega
      obtain ⟨s, s', r1, r2, r3, r4⟩ := R_think (N := N) hN c hk
      obtain ⟨s1, t, τ, t1, t2, t3, t4, t5⟩ := M_think (N := N) hN (VM_Z c2 r4) c3 c3'.1 (TM_Z c5 r4) c6 hk
      have e3 : s' 17 2 i = nI (sDays T M n P 3 i) := r3.1 3 i (by omega) hi8
      have e3' : fM_its (nI i) 3 t = some (nI (sDays T M n P 3 i)) := M_its t3 3 (by omega) hi8
      refine Pr_think c (r := nI (sDays T M n P 3 i)) (s := s') (τ := τ) ?_ ?_ r4 t5
      · unfold fA_then
        rw [a1, zbd_s, if_neg (by decide), a2, zbd_s, if_neg (by decide), r1, zbd_s, r2, zbd_s]
        simp (disch := omega) only [zlt_eq, zgd_T, zin_T, zb2_s, zbd_s, n_cl, n_sub1, n_predm, n_sc, if_nle, if_nle0, if_nle1, if_le, if_true, if_false, e3]
      · unfold fM_then
        rw [m1 _ (VM_Z c2 r4), zbd_s, if_neg (by decide), m2, zbd_s, if_neg (by decide), t1, zbd_s, t2, zbd_s, e3', zbd_s, t4, zbd_s]
    · have m2 : fM_in x2 0 60 = some 0 := m2.2 q2
      have a2 : fA_within x2 60 = some 0 := a2.2 q2
      refine Pr_err c (e := 1) (by omega) (by omega) ?_ ?_
      · unfold fA_then fA_then_J17
        rw [a1, zbd_s, if_neg (by decide), a2, zbd_s, if_pos rfl, zb2_id]
        rfl
      · unfold fM_then fM_then_J18
        rw [m1 _ (VM_26 c2), zbd_s, if_neg (by decide), m2, zbd_s, if_pos rfl, zb2_id]
        rfl
  · refine Pr_err c (e := 1) (by omega) (by omega) ?_ ?_
    · unfold fA_then fA_then_J17
      rw [(A_there c1 c3).2 q, zbd_s, if_pos rfl, zb2_id]
      rfl
    · unfold fM_then fM_then_J18
      rw [(M_there (VM_26 c2) c3).2 q, zbd_s, if_pos rfl, zb2_id]
      rfl
theorem P_strings {N : Nat} (hN : 901 ≤ N) {σ : zS} (h : Core σ) (x1 : Int32) : Pr σ (fA_strings N x1) (fM_strings N x1) := by
  obtain ⟨P, T, M, c⟩ := h
  obtain ⟨c1, c2, c3, c3', c4, c5, c6, c7, c8, c9, c10⟩ := c
  have c : CX σ P T M := ⟨c1, c2, c3, c3', c4, c5, c6, c7, c8, c9, c10⟩
  have hn := c3.1
  have m2 := M_in (x := x1) (B := 60) (by omega)
  have a2 := A_within (x := x1) (B := 60) (by omega)
  by_cases q2 : wi x1 60
  · have m2 : fM_in x1 0 60 = some 1 := m2.1 q2
    have a2 : fA_within x1 60 = some 1 := a2.1 q2
    obtain ⟨n, hk, rfl⟩ := q2
    obtain ⟨s, s', r1, r2, r3, r4⟩ := R_think (N := N) hN c hk
    obtain ⟨s1, t, τ, t1, t2, t3, t4, t5⟩ := M_think (N := N) hN (VM_Z c2 r4) c3 c3'.1 (TM_Z c5 r4) c6 hk
    obtain ⟨p1, p2, p3, p4⟩ := sDays_ok (T := T) (M := M) n P c3 (by omega)
    refine Pr_think c (r := nI (sTd (sDays T M n P) (sDays T M n P 7 0) 0 0)) (s := s') (τ := τ) ?_ ?_ r4 t5
    · unfold fA_strings
      rw [a2, zbd_s, if_neg (by decide), r1, zbd_s, r2, zbd_s, R_tiedAll r3 p1 (by omega), zbd_s]
    · unfold fM_strings
      rw [m2, zbd_s, if_neg (by decide), t1, zbd_s, t2, zbd_s, M_tiedAll t3 p1 (by omega), zbd_s, t4, zbd_s]
  · have m2 : fM_in x1 0 60 = some 0 := m2.2 q2
    have a2 : fA_within x1 60 = some 0 := a2.2 q2
    refine Pr_err c (e := 1) (by omega) (by omega) ?_ ?_
    · unfold fA_strings
      rw [a2, zbd_s, if_pos rfl, zb2_id]
      rfl
    · unfold fM_strings
      rw [m2, zbd_s, if_pos rfl, zb2_id]
      rfl
