/-! Pure mathematics: the public answers, fifth lot: tell, told, untell. -/
theorem CX_mk {σ τ : zS} {P : zP} {T T' : Nat → Nat → Int32} {M M' : Nat → Nat} (h : CX σ P T M) (hf : ∀ c i k, (c = 2 ∨ (14 ≤ c ∧ c ≤ 20) ∨ c = 26 ∨ c = 34 ∨ (c = 30 ∧ k < 60 ∧ k ≠ 2 ∧ k ≠ 3)) → τ c i k = σ c i k) (t1 : TC 0 τ T' M') (t2 : TM τ T' M') (t3 : WT T' M') (r1 : RW τ τ 0 60 2 310) (r2 : RW τ τ 1 24 3 370) : CX τ P T' M' := by
  obtain ⟨c1, c2, c3, c3', c4, c5, c6, c7, c8, c9, c10⟩ := h
  refine ⟨?_, ?_, c3, c3', t1, t2, t3, by rw [hf _ _ _ (by omega), hf _ _ _ (by omega)]; exact c7, fun k hk => by rw [hf _ _ _ (by omega), hf _ _ _ (by omega)]; exact c8 k hk, r1, r2⟩
  · obtain ⟨h1, h2, h3, h4, h5⟩ := c1
    exact ⟨fun w i hw hi => by rw [hf _ _ _ (by omega)]; exact h1 w i hw hi, fun j hj => by rw [hf _ _ _ (by omega)]; exact h2 j hj, by rw [hf _ _ _ (by omega)]; exact h3, by rw [hf _ _ _ (by omega)]; exact h4, by rw [hf _ _ _ (by omega)]; exact h5⟩
  · obtain ⟨h1, h2, h3, h4, h5⟩ := c2
    exact ⟨fun w i hw hi => by rw [hf _ _ _ (by omega)]; exact h1 w i hw hi, fun j hj => by rw [hf _ _ _ (by omega)]; exact h2 j hj, by rw [hf _ _ _ (by omega)]; exact h3, by rw [hf _ _ _ (by omega)]; exact h4, by rw [hf _ _ _ (by omega)]; exact h5⟩
theorem TC_e {b : Nat} {σ σ' : zS} {T : Nat → Nat → Int32} {M : Nat → Nat} (h : TC b σ T M) (e : ∀ c i k, (c = 0 ∨ c = 10) → σ' c i k = σ c i k) : TC b σ' T M := by
  intro u hu
  obtain ⟨h1, h2, h3⟩ := h u hu
  exact ⟨by rw [e _ _ _ (by omega)]; exact h1, by rw [e _ _ _ (by omega)]; exact h2, fun k hk => by rw [e _ _ _ (by omega)]; exact h3 k hk⟩
theorem TM_e {σ σ' : zS} {T : Nat → Nat → Int32} {M : Nat → Nat} (h : TM σ T M) (hW : WT T M) (e : ∀ k, 60 ≤ k → k < 310 → σ' 30 0 k = σ 30 0 k) : TM σ' T M := by
  intro u hu
  obtain ⟨h1, h3⟩ := h u hu
  have hM := (hW u hu).1
  refine ⟨by rw [e _ (by omega) (by omega)]; exact h1, fun k hk => ?_⟩
  rw [e _ (by omega) (by omega), e _ (by omega) (by omega)]
  exact h3 k hk
theorem P_told {σ : zS} (h : Core σ) (x1 : Int32) : Pr σ (fA_told x1) (fM_told x1) := by
  obtain ⟨P, T, M, c⟩ := h
  obtain ⟨c1, c2, c3, c3', c4, c5, c6, c7, c8, c9, c10⟩ := c
  have c : CX σ P T M := ⟨c1, c2, c3, c3', c4, c5, c6, c7, c8, c9, c10⟩
  have hn := c3.1
  have m1 := M_inr (x := x1) (a := 1) (b := 6) (by omega) (by omega)
  by_cases q1 : rng x1 1 6
  · have m1 : fM_in x1 1 6 = some 1 := m1.1 q1
    obtain ⟨k, hk1, hk, rfl⟩ := q1
    have n1 : ¬ (nI k < 1) := by rw [l1, n_lt (by omega) (by omega)]; omega
    have n2 : ¬ (6 < nI k) := fun q => absurd ((nI_ltI (a := 6) (by omega) (by omega)).mp q) (by omega)
    refine Pr_look c (r := σ 26 0 k) ?_ ?_
    · unfold fA_told
      rw [if_neg n1, if_neg n2]
      simp (disch := omega) only [zlt_eq, zgd_T, zin_T, zb2_s, zbd_s, n_cl, n_sub1, n_predm, n_sc, if_nle, if_nle0, if_nle1, if_le, if_true, if_false]
    · unfold fM_told
      rw [m1, zbd_s, if_neg (by decide)]
      simp (disch := omega) only [zlt_eq, zgd_T, zin_T, zb2_s, zbd_s, n_cl, n_sub1, n_predm, n_sc, if_nle, if_nle0, if_nle1, if_le, if_true, if_false, c8 k (by omega)]
  · have m1 : fM_in x1 1 6 = some 0 := m1.2 q1
    rw [rng_iff (by omega)] at q1
    have h1 : (1 : Int32).toInt = 1 := by decide
    have h6 : (6 : Int32).toInt = 6 := by decide
    refine Pr_err c (e := 1) (by omega) (by omega) ?_ ?_
    · have j : fA_told_J20 σ = fA_refuse (nI 1) σ := by unfold fA_told_J20; rw [zb2_id]; rfl
      unfold fA_told
      rw [j]
      by_cases z : x1 < 1
      · rw [if_pos z]
      · rw [if_neg z, if_pos]
        rw [i32_lt] at z ⊢
        omega
    · unfold fM_told
      rw [m1, zbd_s, if_pos rfl, zb2_id]
      rfl
theorem P_tell {σ : zS} (h : Core σ) (x1 : Int32) : Pr σ (fA_tell x1) (fM_tell x1) := by
  obtain ⟨P, T, M, c⟩ := h
  obtain ⟨c1, c2, c3, c3', c4, c5, c6, c7, c8, c9, c10⟩ := c
  have c : CX σ P T M := ⟨c1, c2, c3, c3', c4, c5, c6, c7, c8, c9, c10⟩
  have hn := c3.1
  obtain ⟨w, hw, w1, w2, w3⟩ := c10
  by_cases q : w = 24
  · subst q
    have n1 : ¬ (nI 24 < 24) := by decide
    refine Pr_err c (e := 4) (by omega) (by omega) ?_ ?_
    · unfold fA_tell
      rw [w1, if_neg n1, zb2_id]
      rfl
    · unfold fM_tell
      rw [zup_o (by omega), w2, if_pos (show nI 24 = 24 from rfl), zb2_id]
      rfl
  · have n1 : nI w < 24 := (nI_ltI (b := 24) (by omega) (by omega)).mpr (by omega)
    have n2 : ¬ (Int32.ofNat (if 1 % 2 = 0 then 60 else 24) ≤ nI w) := fun r => absurd ((nI_leI (a := 24) (by omega) (by omega)).mp r) (by omega)
    have n3 : ¬ (nI w = 24) := fun r => q ((nI_eq (b := 24) (by omega) (by omega)).mp r)
    have h370 : 370 + nI w = nI (370 + w) := n_add 370 w
    have e1 : (zup (zup σ 22 1 w x1) 3 1 1 (nI (w + 1))) 30 0 3 = nI w := by rw [zup_o (by omega), zup_o (by omega)]; exact w2
    have hA : fA_tell x1 σ = some (nI (w + 1), zup (zup σ 22 1 w x1) 3 1 1 (nI (w + 1))) := by
      unfold fA_tell fW_add
      rw [w1, if_pos n1, if_neg n2]
      have hz : zin (nI w) (if 1 % 2 = 0 then 60 else 24) := zin_n (n := 24) (by omega) (by omega)
      rw [zgd_t hz, zlt_eq, zlt_eq, n_cl (by omega), zup_o (by omega), w1, n_sc, zbd_s, zup_s]
    have e3 : (zup (zup (zup σ 22 1 w x1) 3 1 1 (nI (w + 1))) 30 0 (370 + w) x1) 30 0 3 = nI w := by rw [zup_k (by omega)]; exact e1
    have hM : fM_tell x1 (zup (zup σ 22 1 w x1) 3 1 1 (nI (w + 1))) = some (nI (w + 1), zup (zup (zup (zup σ 22 1 w x1) 3 1 1 (nI (w + 1))) 30 0 (370 + w) x1) 30 0 3 (nI (w + 1))) := by
      unfold fM_tell
      rw [e1, if_neg n3, h370, zgd_t (zin_n (by omega) (by omega)), zlt_eq, zlt_eq, n_cl (by omega), e3, n_sc, zup_s]
    refine ⟨_, _, _, hA, hM, ⟨P, T, M, ?_⟩, FR_t (FR_t (FR_u (by omega)) (FR_u (by omega))) (FR_t (FR_u (by omega)) (FR_u (by omega))), fun i k => (zup_o (by omega)).trans (zup_o (by omega))⟩
    have e : ∀ c i k, (c ≠ 22 ∨ i ≠ 1) → (c ≠ 3 ∨ i ≠ 1) → (c ≠ 30 ∨ (k ≠ 3 ∧ k ≠ 370 + w)) → (zup (zup (zup (zup σ 22 1 w x1) 3 1 1 (nI (w + 1))) 30 0 (370 + w) x1) 30 0 3 (nI (w + 1))) c i k = σ c i k := by
      intro c i k a1 a2 a3
      unfold zup
      rw [if_neg (by omega), if_neg (by omega), if_neg (by omega), if_neg (by omega)]
    refine CX_mk c (fun c i k hc => e c i k (by omega) (by omega) (by omega)) (TC_e c4 (fun c i k hc => e c i k (by omega) (by omega) (by omega))) (TM_e c5 c6 (fun k a b => e 30 0 k (by omega) (by omega) (by omega))) c6 (RW_e c9 (fun k => e _ _ _ (by omega) (by omega) (by omega)) (fun k => e _ _ _ (by omega) (by omega) (by omega)) (e _ _ _ (by omega) (by omega) (by omega)) (fun k _ _ => e _ _ _ (by omega) (by omega) (by omega))) ?_
    refine ⟨w + 1, by omega, ?_, ?_, fun k hk => ?_⟩
    · rw [zup_o (by omega), zup_o (by omega), zup_s]
    · rw [zup_s]
    · rw [zup_o (by omega), zup_o (by omega), zup_o (by omega), zup_k (c := 30) (by omega)]
      by_cases z : k = w
      · rw [z, zup_s, zup_s]
      · rw [zup_k z, zup_k (by omega), zup_o (by omega), zup_o (by omega)]
        exact w3 k (by omega)
theorem P_untell {σ : zS} (h : Core σ) (x1 : Int32) : Pr σ (fA_untell x1) (fM_untell x1) := by
  obtain ⟨P, T, M, c⟩ := h
  obtain ⟨c1, c2, c3, c3', c4, c5, c6, c7, c8, c9, c10⟩ := c
  have c : CX σ P T M := ⟨c1, c2, c3, c3', c4, c5, c6, c7, c8, c9, c10⟩
  have hn := c3.1
  have a1 := A_within (x := x1) (B := 1) (by omega)
  have m1 := M_in (x := x1) (B := 1) (by omega)
  by_cases q1 : wi x1 1
  · have a1 : fA_within x1 1 = some 1 := a1.1 q1
    have m1 : fM_in x1 0 1 = some 1 := m1.1 q1
    obtain ⟨u, hu, rfl⟩ := q1
    have hMu := (c6 u (by omega)).1
    have hl : fA_lawOf (nI u) σ = some u := by
      unfold fA_lawOf
      rcases (show u = 0 ∨ u = 1 by omega) with q | q <;> subst q
      · rfl
      · rfl
    have e1 : σ 0 u 1 = nI (M u) := by
      have := (c4 u (by omega)).1
      rw [Nat.zero_add] at this
      exact this
    have hA : fA_untell (nI u) σ = some ((if M u = 0 then 0 else 1), zup σ 0 u 1 0) := by
      unfold fA_untell fA_untell_J30
      rw [a1, zbd_s, if_neg (by decide), hl, zbd_s, e1, zbd_s, zlt_eq, zbd_s, zlt_eq]
      by_cases z : M u = 0
      · rw [if_pos z, z, if_pos (by decide)]
      · rw [if_neg z, if_nle0 (by omega) (by omega)]
    have e2 : (zup σ 0 u 1 0) 30 0 (60 + 125 * u) = nI (M u) := by rw [zup_o (by omega)]; exact (c5 u (by omega)).1
    have hq : 60 + 125 * nI u = nI (60 + 125 * u) := by rw [l60, l125, n_mul, n_add]
    have hM : fM_untell (nI u) (zup σ 0 u 1 0) = some ((if M u = 0 then 0 else 1), zup (zup σ 0 u 1 0) 30 0 (60 + 125 * u) 0) := by
      unfold fM_untell fM_untell_J28
      rw [m1, zbd_s, if_neg (by decide), M_hasText (by omega) hMu e2, zbd_s, hq, zgd_t (zin_n (by omega) (by omega)), zgd_t (zin_n (by omega) (by omega)), zlt_eq, zlt_eq, n_cl (by omega)]
      by_cases z : M u = 0
      · rw [if_pos z, if_pos rfl]
      · rw [if_neg z, if_neg (by decide)]
    have f : ∀ c i k, (c ≠ 0 ∨ i ≠ u ∨ k ≠ 1) → (c ≠ 30 ∨ k ≠ 60 + 125 * u) → (zup (zup σ 0 u 1 0) 30 0 (60 + 125 * u) 0) c i k = σ c i k := by
      intro c i k a1 a2
      unfold zup
      rw [if_neg (by omega), if_neg (by omega)]
    refine ⟨_, _, _, hA, hM, ⟨P, T, fun v => if v = u then 0 else M v, ?_⟩, FR_t (FR_u (by omega)) (FR_u (by omega)), fun i k => zup_o (by omega)⟩
    refine CX_mk c (fun c i k hc => f c i k (by omega) (by omega)) ?_ ?_ ?_ (RW_e c9 (fun k => f _ _ _ (by omega) (by omega)) (fun k => f _ _ _ (by omega) (by omega)) (f _ _ _ (by omega) (by omega)) (fun k _ _ => f _ _ _ (by omega) (by omega))) (RW_e c10 (fun k => f _ _ _ (by omega) (by omega)) (fun k => f _ _ _ (by omega) (by omega)) (f _ _ _ (by omega) (by omega)) (fun k _ _ => f _ _ _ (by omega) (by omega)))
    · intro v hv
      obtain ⟨h1, h2, h3⟩ := c4 v hv
      by_cases z : v = u
      · subst z
        refine ⟨?_, by rw [f _ _ _ (by omega) (by omega)]; exact h2, fun k hk => absurd (show k < (if v = v then 0 else M v) from hk) (by rw [if_pos rfl]; omega)⟩
        dsimp only
        rw [if_pos rfl, zup_o (by omega), Nat.zero_add, zup_s]
        rfl
      · dsimp only
        rw [if_neg z]
        exact ⟨by rw [f _ _ _ (by omega) (by omega)]; exact h1, by rw [f _ _ _ (by omega) (by omega)]; exact h2, fun k hk => by rw [f _ _ _ (by omega) (by omega)]; exact h3 k hk⟩
    · intro v hv
      obtain ⟨h1, h3⟩ := c5 v hv
      by_cases z : v = u
      · subst z
        refine ⟨?_, fun k hk => absurd (show k < (if v = v then 0 else M v) from hk) (by rw [if_pos rfl]; omega)⟩
        dsimp only
        rw [if_pos rfl, zup_s]
        rfl
      · have hMv := (c6 v hv).1
        dsimp only
        rw [if_neg z]
        refine ⟨by rw [f _ _ _ (by omega) (by omega)]; exact h1, fun k hk => ?_⟩
        rw [f _ _ _ (by omega) (by omega), f _ _ _ (by omega) (by omega)]
        exact h3 k hk
    · intro v hv
      by_cases z : v = u
      · dsimp only
        rw [if_pos z]
        exact ⟨by omega, fun r => absurd r (by omega)⟩
      · dsimp only
        rw [if_neg z]
        exact c6 v hv
  · have a1 : fA_within x1 1 = some 0 := a1.2 q1
    have m1 : fM_in x1 0 1 = some 0 := m1.2 q1
    refine Pr_err c (e := 1) (by omega) (by omega) ?_ ?_
    · unfold fA_untell
      rw [a1, zbd_s, if_pos rfl, zb2_id]
      rfl
    · unfold fM_untell
      rw [m1, zbd_s, if_pos rfl, zb2_id]
      rfl
