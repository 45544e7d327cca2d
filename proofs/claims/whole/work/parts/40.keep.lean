/-! Pure mathematics: strings that are gone stay gone, what nobody has nobody spares. -/
def PJ (P : zP) : Prop := ∀ i, P 2 i = 0 → P 5 i = 0
def Q (P0 P : zP) : Prop := (∀ i, P0 2 i = 0 → P 2 i = 0) ∧ (PJ P0 → PJ P)
theorem Q_r {P : zP} : Q P P := ⟨fun _ h => h, fun h => h⟩
theorem Q_t {P P' P'' : zP} (h : Q P P') (h' : Q P' P'') : Q P P'' := ⟨fun i q => h'.1 i (h.1 i q), fun q => h'.2 (h.2 q)⟩
theorem PJ_w {P : zP} {w i x : Nat} (h : PJ P) (hw : w ≠ 2 ∧ w ≠ 5) : PJ (pu P w i x) := by
  intro j hj
  rw [pu_w (by omega)] at hj ⊢
  exact h j hj
theorem PJ_5 {P : zP} {i x : Nat} (h : PJ P) (hi : P 2 i ≠ 0 ∨ x = 0) : PJ (pu P 5 i x) := by
  intro j hj
  rw [pu_w (by omega)] at hj
  unfold pu
  by_cases q : j = i
  · rw [if_pos ⟨rfl, q⟩]
    subst q
    rcases hi with hi | hi
    · exact absurd hj hi
    · exact hi
  · rw [if_neg (fun r => q r.2)]
    exact h j hj
theorem PJ_sev {P : zP} {i : Nat} (h : PJ P) : PJ (pu (pu (pu P 2 i 0) 4 i 0) 5 i 0) := by
  intro j hj
  rw [pu_w (by omega), pu_w (by omega)] at hj
  unfold pu at hj ⊢
  by_cases q : j = i
  · rw [if_pos ⟨rfl, q⟩]
  · rw [if_neg (fun r => q r.2)] at hj ⊢
    rw [if_neg (by omega), if_neg (by omega)]
    exact h j hj
theorem Q_w {P0 P : zP} {w i x : Nat} (h : Q P0 P) (hw : w ≠ 2 ∧ w ≠ 5) : Q P0 (pu P w i x) := ⟨fun j hj => by rw [pu_w (by omega)]; exact h.1 j hj, fun q => PJ_w (h.2 q) hw⟩
theorem Q_out {P0 P : zP} {i j : Nat} (h : Q P0 P) : Q P0 (sOut P i j) := by
  unfold sOut
  refine Q_w (Q_t h ⟨fun k hk => by rw [pu_w (by omega)]; exact hk, fun q => PJ_5 q ?_⟩) (by omega)
  by_cases z : P 2 j = 0
  · have := q j z
    right
    omega
  · exact Or.inl z
theorem Q_sev {P0 P : zP} {i : Nat} (h : Q P0 P) : Q P0 (sSev P i) := by
  unfold sSev
  refine Q_w (Q_t h ⟨fun k hk => ?_, fun q => PJ_sev q⟩) (by omega)
  rw [pu_w (by omega), pu_w (by omega)]
  unfold pu
  split
  · rfl
  · exact hk
theorem Q_turn {T : Nat → Nat → Int32} {M : Nat → Nat} {P0 P : zP} {m i : Nat} (h : Q P0 P) : Q P0 (sTurn T M P m i).2.1 := by
  unfold sTurn
  split
  · exact Q_out h
  · split
    · exact Q_sev h
    · split
      · exact h
      · unfold sPull
        split
        · exact Q_sev h
        · split
          · exact Q_out h
          · exact Q_w h (by omega)
theorem Q_lp {T : Nat → Nat → Int32} {M : Nat → Nat} {P0 : zP} : ∀ f P m, Q P0 P → Q P0 (sLp T M P0 f P m).2
  | 0, P, m, h => h
  | f + 1, P, m, h => by
    unfold sLp
    split
    · exact h
    · split
      · exact Q_r
      · exact Q_lp f _ _ (Q_turn h)
theorem Q_step {T : Nat → Nat → Int32} {M : Nat → Nat} {P : zP} {i way : Nat} : Q P (sStep T M P i way).2 := by
  unfold sStep
  split
  · split
    · exact Q_r
    · exact Q_lp _ _ _ (Q_w Q_r (by omega))
  · split
    · exact Q_r
    · exact Q_lp _ _ _ (Q_w Q_r (by omega))
theorem Q_ds {T : Nat → Nat → Int32} {M : Nat → Nat} {i way : Nat} : ∀ k P, Q P (sDs T M i way k P)
  | 0, P => Q_r
  | k + 1, P => by
    unfold sDs
    split
    · exact Q_step
    · exact Q_t Q_step (Q_ds k _)
theorem Q_day {T : Nat → Nat → Int32} {M : Nat → Nat} {P : zP} : Q P (sDay T M P) := by
  unfold sDay
  split
  · exact Q_w Q_r (by omega)
  · exact Q_w (Q_ds _ _) (by omega)
theorem Q_days {T : Nat → Nat → Int32} {M : Nat → Nat} : ∀ k P, Q P (sDays T M k P)
  | 0, P => Q_r
  | k + 1, P => by
    unfold sDays
    exact Q_t Q_day (Q_days k _)
