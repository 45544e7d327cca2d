/-! Pure mathematics: the turns end. -/
theorem PI_w {P : zP} (hP : PI P) {w i x : Nat} (h : (w = 2 ∧ x = 0) ∨ (w = 3 ∧ x ≤ 63) ∨ (w = 4 ∧ x ≤ 63) ∨ (w = 5 ∧ x ≤ 99)) : PI (pu P w i x) := by
  obtain ⟨h1, h2, h3, h4, h5, h6⟩ := hP
  have hw : w < 6 := by omega
  refine ⟨by rw [pu_w (by omega)]; exact h1, by rw [pu_w (by omega)]; exact h2, by rw [pu_w (by omega)]; exact h3, fun j hj => ?_, fun j hj => ?_, fun j hj => by rw [pu_w (by omega)]; exact h6 j hj⟩
  · have := h4 j hj
    rcases h with ⟨q, r⟩ | ⟨q, r⟩ | ⟨q, r⟩ | ⟨q, r⟩ <;> subst q <;> unfold pu <;> by_cases e : j = i <;> simp [e] <;> (try subst e) <;> omega
  · rw [pu_w (by omega)] at hj
    have := h5 j hj
    rcases h with ⟨q, r⟩ | ⟨q, r⟩ | ⟨q, r⟩ | ⟨q, r⟩ <;> subst q <;> unfold pu <;> by_cases e : j = i <;> simp [e] <;> (try subst e) <;> omega
theorem PI_7 {P : zP} (hP : PI P) {k x : Nat} (h : (k = 1 ∧ x ≤ 20000) ∨ (k = 2 ∧ x ≤ 9999)) : PI (pu P 7 k x) := by
  obtain ⟨h1, h2, h3, h4, h5, h6⟩ := hP
  have e : ∀ a c, a ≠ 7 → pu P 7 k x a c = P a c := fun a c h => pu_w h
  refine ⟨by rw [pu_i (by omega)]; exact h1, ?_, ?_, fun j hj => ?_, fun j hj => ?_, fun j hj => ?_⟩
  · unfold pu
    split <;> omega
  · unfold pu
    split <;> omega
  · rw [e _ _ (by omega), e _ _ (by omega), e _ _ (by omega), e _ _ (by omega), e _ _ (by omega), e _ _ (by omega)]
    exact h4 j hj
  · rw [pu_i (by omega)] at hj
    rw [e _ _ (by omega)]
    exact h5 j hj
  · rw [e _ _ (by omega)]
    exact h6 j hj
theorem SP_w {P P0 : zP} (h : SP P P0) {w i x : Nat} (hw : 2 ≤ w ∧ w ≤ 5) : SP (pu P w i x) P0 := by
  obtain ⟨h1, h2, h3, h4, h5⟩ := h
  exact ⟨fun j => by rw [pu_w (by omega)]; exact h1 j, fun j => by rw [pu_w (by omega)]; exact h2 j, fun j => by rw [pu_w (by omega)]; exact h3 j, by rw [pu_w (by omega)]; exact h4, by rw [pu_w (by omega)]; exact h5⟩
theorem SP_7 {P P0 : zP} (h : SP P P0) {x : Nat} : SP (pu P 7 2 x) P0 := by
  obtain ⟨h1, h2, h3, h4, h5⟩ := h
  exact ⟨fun j => by rw [pu_w (by omega)]; exact h1 j, fun j => by rw [pu_w (by omega)]; exact h2 j, fun j => by rw [pu_w (by omega)]; exact h3 j, by rw [pu_i (by omega)]; exact h4, by rw [pu_i (by omega)]; exact h5⟩
theorem SP_r {P : zP} : SP P P := ⟨fun _ => rfl, fun _ => rfl, fun _ => rfl, rfl, rfl⟩
def nS (f : Nat → Nat) : Nat := f 0 + f 1 + f 2 + f 3 + f 4 + f 5 + f 6 + f 7
theorem nS_lt {f g : Nat → Nat} {i : Nat} (hi : i < 8) (h : ∀ k, k < 8 → f k ≤ g k) (hl : f i < g i) : nS f < nS g := by
  unfold nS
  have a0 := h 0 (by omega)
  have a1 := h 1 (by omega)
  have a2 := h 2 (by omega)
  have a3 := h 3 (by omega)
  have a4 := h 4 (by omega)
  have a5 := h 5 (by omega)
  have a6 := h 6 (by omega)
  have a7 := h 7 (by omega)
  rcases (show i = 0 ∨ i = 1 ∨ i = 2 ∨ i = 3 ∨ i = 4 ∨ i = 5 ∨ i = 6 ∨ i = 7 by omega) with q | q | q | q | q | q | q | q <;> subst q <;> omega
def mu1 (P : zP) (m i : Nat) : Nat := P 5 i + (if P 2 i = 0 then 0 else 1) + (if m.testBit i then 0 else 1)
def mu (P : zP) (m : Nat) : Nat := nS (mu1 P m)
theorem mu_le {P : zP} (hP : PI P) (m : Nat) : mu P m ≤ 808 := by
  have h : ∀ i, i < 8 → mu1 P m i ≤ 101 := by
    intro i hi
    have := hP.2.2.2.1 i hi
    unfold mu1
    split <;> split <;> omega
  unfold mu nS
  have a0 := h 0 (by omega)
  have a1 := h 1 (by omega)
  have a2 := h 2 (by omega)
  have a3 := h 3 (by omega)
  have a4 := h 4 (by omega)
  have a5 := h 5 (by omega)
  have a6 := h 6 (by omega)
  have a7 := h 7 (by omega)
  omega
theorem mu_out {P : zP} {m i j : Nat} (hj : j < 8) (h5 : P 5 j ≠ 0) : mu (sOut P i j) m < mu P m := by
  have e5 : ∀ k, (sOut P i j) 5 k = if k = j then P 5 j - 1 else P 5 k := by
    intro k
    unfold sOut
    rw [pu_w (by omega)]
    unfold pu
    by_cases q : k = j <;> simp [q]
  have e2 : ∀ k, (sOut P i j) 2 k = P 2 k := fun k => by unfold sOut; rw [pu_w (by omega), pu_w (by omega)]
  refine nS_lt hj (fun k hk => ?_) ?_
  · unfold mu1
    rw [e5, e2]
    by_cases q : k = j
    · rw [if_pos q, q]; omega
    · rw [if_neg q]; omega
  · unfold mu1
    rw [e5, e2, if_pos rfl]
    omega
theorem mu_sev {P : zP} {m i : Nat} (hi : i < 8) (h2 : P 2 i ≠ 0) : mu (sSev P i) m < mu P m := by
  have e5 : ∀ k, (sSev P i) 5 k = if k = i then 0 else P 5 k := by
    intro k
    unfold sSev
    rw [pu_w (by omega)]
    unfold pu
    by_cases q : k = i <;> simp [q]
  have e2 : ∀ k, (sSev P i) 2 k = if k = i then 0 else P 2 k := by
    intro k
    unfold sSev
    rw [pu_w (by omega), pu_w (by omega), pu_w (by omega)]
    unfold pu
    by_cases q : k = i <;> simp [q]
  refine nS_lt hi (fun k hk => ?_) ?_
  · unfold mu1
    rw [e5, e2]
    by_cases q : k = i
    · rw [if_pos q, if_pos q, if_pos rfl]; omega
    · rw [if_neg q, if_neg q]; omega
  · unfold mu1
    rw [e5, e2, if_pos rfl, if_pos rfl, if_pos rfl, if_neg h2]
    omega
theorem mu_cm {P : zP} {m w x : Nat} (hw : w < 8) (hb : m.testBit w = false) : mu (pu P 3 w x) (m ||| 2 ^ w) < mu P m := by
  have e : ∀ k, (m ||| 2 ^ w).testBit k = (m.testBit k || decide (w = k)) := fun k => by rw [Nat.testBit_or, Nat.testBit_two_pow]
  refine nS_lt hw (fun k hk => ?_) ?_
  · unfold mu1
    rw [pu_w (by omega), pu_w (by omega), e]
    cases m.testBit k <;> simp
    split <;> omega
  · unfold mu1
    rw [pu_w (by omega), pu_w (by omega), e, hb]
    simp
theorem PI_out {P : zP} (hP : PI P) {i j : Nat} (hj : j < 8) (h : P 4 i < sA P i) (hi : i < 8) : PI (sOut P i j) := by
  have h1 := hP.2.2.2.1 j hj
  have h2 := sA_le hP hi
  exact PI_w (PI_w hP (by omega)) (by omega)
theorem PI_sev {P : zP} (hP : PI P) {i : Nat} : PI (sSev P i) := PI_7 (PI_w (PI_w (PI_w hP (by omega)) (by omega)) (by omega)) (by omega)
theorem PI_cm {P : zP} (hP : PI P) {i j : Nat} (hi : i < 8) (hj : j < 8) : PI (sCm P i j) := by
  have h1 := hP.2.2.2.1 j hj
  have h2 := hP.2.2.2.1 i hi
  unfold sCm
  refine PI_w hP ?_
  split <;> omega
theorem SP_out {P P0 : zP} (h : SP P P0) {i j : Nat} : SP (sOut P i j) P0 := SP_w (SP_w h (by omega)) (by omega)
theorem SP_sev {P P0 : zP} (h : SP P P0) {i : Nat} : SP (sSev P i) P0 := SP_7 (SP_w (SP_w (SP_w h (by omega)) (by omega)) (by omega))
theorem SP_cm {P P0 : zP} (h : SP P P0) {i j : Nat} : SP (sCm P i j) P0 := SP_w h (by omega)
theorem sUn_b {P : zP} {m i : Nat} (h2 : P 2 i ≠ 0) (h : sUn P m i ≠ 0) : m.testBit (sUn P m i - 1) = false := by
  unfold sUn at *
  by_cases q : m.testBit i = true
  · rw [if_pos q] at h ⊢
    by_cases q2 : m.testBit (P 2 i - 1) = true
    · rw [if_pos q2] at h; omega
    · rw [if_neg q2]
      simpa using q2
  · rw [if_neg q]
    simpa using q
theorem sTurn_ok {T : Nat → Nat → Int32} {M : Nat → Nat} {P P0 : zP} (hP : PI P) (hS : SP P P0) {i m : Nat} (hi : i < P 7 0) (hA : P 4 i < sA P i) (hm : m < 256) : (sTurn T M P m i).1 ≤ 1 ∧ PI (sTurn T M P m i).2.1 ∧ SP (sTurn T M P m i).2.1 P0 ∧ (sTurn T M P m i).2.2 < 256 ∧ ((sTurn T M P m i).1 ≠ 0 → mu (sTurn T M P m i).2.1 (sTurn T M P m i).2.2 < mu P m) := by
  have hn := hP.1
  have hi8 : i < 8 := by omega
  have hPi := hP.2.2.2.1 i hi8
  have hmo := hP.2.2.2.2.1 i hi
  obtain ⟨h2, hne⟩ := sA_ne hA
  unfold sTurn
  by_cases q5 : P 5 i = 0
  · rw [if_neg (show ¬ (P 5 i ≠ 0) by omega)]
    by_cases qu : sUn P m i = 0
    · rw [if_pos qu]
      exact ⟨by omega, PI_sev hP, SP_sev hS, hm, fun _ => mu_sev hi8 h2⟩
    · rw [if_neg qu]
      have hw := sUn_w h2 qu
      have hb := sUn_b h2 qu
      generalize sUn P m i - 1 = w at hw hb ⊢
      have hw8 : w < 8 := by omega
      by_cases d2 : sDo T M P w = 2
      · rw [if_pos d2]
        exact ⟨by omega, hP, hS, hm, fun q => absurd rfl q⟩
      · rw [if_neg d2]
        unfold sPull
        by_cases d1 : sDo T M P w = 1
        · rw [if_pos d1]
          exact ⟨by omega, PI_sev hP, SP_sev hS, hm, fun _ => mu_sev hi8 h2⟩
        · rw [if_neg d1]
          by_cases d3 : sDo T M P w = 3 ∧ w ≠ i ∧ P 5 w ≠ 0
          · rw [if_pos d3]
            exact ⟨by omega, PI_out hP hw8 hA hi8, SP_out hS, hm, fun _ => mu_out hw8 d3.2.2⟩
          · rw [if_neg d3]
            refine ⟨by omega, PI_cm hP hw8 ?_, SP_cm hS, b_ol hm hw8, fun _ => mu_cm hw8 hb⟩
            split <;> omega
  · rw [if_pos q5]
    exact ⟨by omega, PI_out hP hi8 hA hi8, SP_out hS, hm, fun _ => mu_out hi8 q5⟩
/-- all the turns of a step -/
def sLp (T : Nat → Nat → Int32) (M : Nat → Nat) (P0 : zP) : Nat → zP → Nat → Nat × zP
  | 0, P, _ => (1, P)
  | f + 1, P, m => if sL P = 0 then (1, P) else if (sTurn T M P m (sL P - 1)).1 = 0 then (0, P0) else sLp T M P0 f (sTurn T M P m (sL P - 1)).2.1 (sTurn T M P m (sL P - 1)).2.2
theorem sLp_ok {T : Nat → Nat → Int32} {M : Nat → Nat} {P0 : zP} (h0 : PI P0) : ∀ f P m, PI P → SP P P0 → m < 256 → (sLp T M P0 f P m).1 ≤ 1 ∧ PI (sLp T M P0 f P m).2 ∧ SP (sLp T M P0 f P m).2 P0
  | 0, P, m, hP, hS, hm => ⟨by unfold sLp; omega, hP, hS⟩
  | f + 1, P, m, hP, hS, hm => by
    unfold sLp
    by_cases q : sL P = 0
    · rw [if_pos q]
      exact ⟨by omega, hP, hS⟩
    · obtain ⟨a1, a2⟩ := sL_s q
      obtain ⟨t1, t2, t3, t4, t5⟩ := sTurn_ok (T := T) (M := M) hP hS a1 a2 hm
      rw [if_neg q]
      by_cases q2 : (sTurn T M P m (sL P - 1)).1 = 0
      · rw [if_pos q2]
        exact ⟨by omega, h0, SP_r⟩
      · rw [if_neg q2]
        exact sLp_ok h0 f _ _ t2 t3 t4
