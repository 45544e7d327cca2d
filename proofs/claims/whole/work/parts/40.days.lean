/-! Pure mathematics: days on both sides. -/
theorem R_passDay {N b : Nat} {σ : zS} {P : zP} {T : Nat → Nat → Int32} {M : Nat → Nat} (h : VC b σ P) (hP : PI P) (hT : TC (lw b) σ T M) (hW : WT T M) (hN : 900 ≤ N) : ∃ σ', fR_passDay N b σ = some σ' ∧ VC b σ' (sDay T M P) ∧ FC b σ σ' := by
  have hd := hP.2.1
  have hn := hP.1
  have hm : nI (P 7 1) - nI (P 7 1) / 6 * 6 = nI (P 7 1 % 6) := n_mod rfl (by omega) (by omega) (by omega)
  obtain ⟨h6, h6'⟩ := hP.2.2.2.2.2 (P 7 1 % 6) (by omega)
  have e6 := h.2.1 (P 7 1 % 6) (by omega)
  have hJ : ∀ s P', VC b s P' → FC b σ s → P' 7 1 = P 7 1 → ∃ σ', fR_passDay_J66 N b s = some σ' ∧ VC b σ' (pu P' 7 1 (P 7 1 + 1)) ∧ FC b σ σ' := by
    intro s P' hs hf h7
    unfold fR_passDay_J66
    rw [zlt_eq, hs.2.2.2.1, h7, n_sc]
    exact ⟨_, rfl, VC_7 1 hs (by omega), FC_t hf (FC_u (by omega))⟩
  unfold fR_passDay sDay
  rw [h.2.2.2.1, hm]
  simp (disch := omega) only [zlt_eq, zgd_T, zin_T, zb2_s, zbd_s, n_cl, n_sub1, n_predm, n_sc, if_nle, if_nle0, if_nle1, if_le, if_true, if_false, e6]
  have hdv : nI (P 6 (P 7 1 % 6)) / 10 = nI (P 6 (P 7 1 % 6) / 10) := n_div (d := 10) (by omega) (by omega) (by omega)
  rw [hdv, h.2.2.1]
  generalize P 6 (P 7 1 % 6) = pl at h6 h6' ⊢
  by_cases q : P 7 0 ≤ pl / 10
  · rw [if_pos q, if_le q (by omega)]
    exact hJ σ P h FC_r rfl
  · rw [if_neg q, if_nle (by omega) (by omega)]
    obtain ⟨s, r1, r2, r3⟩ := R_goesNow (N := N) h hP hT hW (by omega) (show pl / 10 < 8 by omega)
    rw [r1, zb2_s]
    have f1 : FC b σ s := FC_11 r3
    have hg := sGo_le T M P (pl / 10)
    obtain ⟨s', u1, u2, u3⟩ := R_day_L (N := N) (b := b) hW hN h6 h6' (show pl / 10 < 8 by omega) hg (sGo T M P (pl / 10)) 0 N P s (by omega) (by omega) r2 hP (TC_f hT f1)
    obtain ⟨a1, a2⟩ := sDs_ok (T := T) (M := M) (i := pl / 10) (way := pl % 10) (by omega) (sGo T M P (pl / 10)) P hP
    obtain ⟨σ', w1, w2, w3⟩ := hJ s' _ u2 (FC_t f1 u3) a2.2.2.2.2
    exact ⟨σ', u1.trans w1, w2, w3⟩
theorem M_day_L {N : Nat} {T : Nat → Nat → Int32} {M : Nat → Nat} (hW : WT T M) (hN : 901 ≤ N) {pl i n : Nat} (hpl : pl < 80) (hway : pl % 10 < 2) (hi : i < 8) (hn : n ≤ 9) : ∀ k j f P σ, j + k = n → k < f → VM σ P → PI P → TM σ T M → ∃ σ', fM_day1_L45 N f (nI pl) (nI i) (nI n) 1 (nI j) σ = fM_day1_J73 N σ' ∧ VM σ' (sDs T M i (pl % 10) k P) ∧ FM σ σ'
  | 0, j, 0, P, σ, h1, h2, h, hP, hT => absurd h2 (by omega)
  | k + 1, j, 0, P, σ, h1, h2, h, hP, hT => absurd h2 (by omega)
  | 0, j, f + 1, P, σ, h1, h2, h, hP, hT => by
    rw [fM_day1_L45, if_le (by omega) (by omega)]
    exact ⟨σ, rfl, h, FM_r⟩
  | k + 1, j, f + 1, P, σ, h1, h2, h, hP, hT => by
    rw [fM_day1_L45, if_nle (by omega) (by omega), if_neg (by decide)]
    have hm : nI pl - nI pl / 10 * 10 = nI (pl % 10) := n_mod rfl (by omega) (by omega) (by omega)
    obtain ⟨s, r1, r2, r3⟩ := M_oneStep h hP hT hW hN hi hway
    obtain ⟨a, b', c⟩ := sStep_ok (T := T) (M := M) (way := pl % 10) hP hi
    rw [hm, r1, zb2_s, n_sc]
    unfold sDs
    by_cases q : (sStep T M P i (pl % 10)).1 = 0
    · rw [if_pos q, q]
      cases f with
      | zero => omega
      | succ g =>
        rw [fM_day1_L45]
        by_cases q2 : nI n ≤ nI (j + 1)
        · rw [if_pos q2]
          exact ⟨s, rfl, r2, r3⟩
        · rw [if_neg q2, if_pos (show nI 0 = 0 from rfl)]
          exact ⟨s, rfl, r2, r3⟩
    · have h1' : (sStep T M P i (pl % 10)).1 = 1 := by omega
      rw [if_neg q, h1']
      obtain ⟨σ', u1, u2, u3⟩ := M_day_L hW hN hpl hway hi hn k (j + 1) f _ s (by omega) (by omega) r2 b' (TM_f hT r3)
      exact ⟨σ', u1, u2, FM_t r3 u3⟩
theorem M_day1 {N : Nat} {σ : zS} {P : zP} {T : Nat → Nat → Int32} {M : Nat → Nat} (h : VM σ P) (hP : PI P) (hT : TM σ T M) (hW : WT T M) (hN : 901 ≤ N) : ∃ σ', fM_day1 N σ = some σ' ∧ VM σ' (sDay T M P) ∧ FM σ σ' := by
  have hd := hP.2.1
  have hn := hP.1
  have hm : nI (P 7 1) - nI (P 7 1) / 6 * 6 = nI (P 7 1 % 6) := n_mod rfl (by omega) (by omega) (by omega)
  have hm6 : 6 + nI (P 7 1 % 6) = nI (6 + P 7 1 % 6) := n_add 6 _
  obtain ⟨h6, h6'⟩ := hP.2.2.2.2.2 (P 7 1 % 6) (by omega)
  have e6 := h.2.1 (P 7 1 % 6) (by omega)
  have hJ : ∀ s P', VM s P' → FM σ s → P' 7 1 = P 7 1 → ∃ σ', fM_day1_J73 N s = some σ' ∧ VM σ' (pu P' 7 1 (P 7 1 + 1)) ∧ FM σ σ' := by
    intro s P' hs hf h7
    unfold fM_day1_J73
    rw [zlt_eq, hs.2.2.2.1, h7, n_sc]
    exact ⟨_, rfl, VM_7 1 hs (by omega), FM_t hf (FM_u (by omega))⟩
  unfold fM_day1 sDay
  rw [h.2.2.2.1, hm, hm6]
  simp (disch := omega) only [zlt_eq, zgd_T, zin_T, zb2_s, zbd_s, n_cl, n_sub1, n_predm, n_sc, if_nle, if_nle0, if_nle1, if_le, if_true, if_false, e6]
  have hdv : nI (P 6 (P 7 1 % 6)) / 10 = nI (P 6 (P 7 1 % 6) / 10) := n_div (d := 10) (by omega) (by omega) (by omega)
  rw [hdv, h.2.2.1]
  generalize P 6 (P 7 1 % 6) = pl at h6 h6' ⊢
  by_cases q : P 7 0 ≤ pl / 10
  · rw [if_pos q, if_le q (by omega)]
    exact hJ σ P h FM_r rfl
  · rw [if_neg q, if_nle (by omega) (by omega)]
    obtain ⟨s, r1, r2, r3⟩ := M_goesNow (N := N) h hP hT hW (by omega) (show pl / 10 < 8 by omega)
    rw [r1, zb2_s]
    have f1 : FM σ s := FM_36 r3
    have hg := sGo_le T M P (pl / 10)
    obtain ⟨s', u1, u2, u3⟩ := M_day_L (N := N) hW hN h6 h6' (show pl / 10 < 8 by omega) hg (sGo T M P (pl / 10)) 0 N P s (by omega) (by omega) r2 hP (TM_f hT f1)
    obtain ⟨a1, a2⟩ := sDs_ok (T := T) (M := M) (i := pl / 10) (way := pl % 10) (by omega) (sGo T M P (pl / 10)) P hP
    obtain ⟨σ', w1, w2, w3⟩ := hJ s' _ u2 (FM_t f1 u3) a2.2.2.2.2
    exact ⟨σ', u1.trans w1, w2, w3⟩
/-- days in a row -/
def sDays (T : Nat → Nat → Int32) (M : Nat → Nat) : Nat → zP → zP
  | 0, P => P
  | k + 1, P => sDays T M k (sDay T M P)
theorem sDays_ok {T : Nat → Nat → Int32} {M : Nat → Nat} : ∀ k P, PI P → P 7 1 + k ≤ 20000 → PI (sDays T M k P) ∧ (sDays T M k P) 7 1 = P 7 1 + k ∧ (sDays T M k P) 7 0 = P 7 0 ∧ (∀ i, (sDays T M k P) 0 i = P 0 i ∧ (sDays T M k P) 1 i = P 1 i ∧ (sDays T M k P) 6 i = P 6 i)
  | 0, P, hP, hk => ⟨hP, rfl, rfl, fun _ => ⟨rfl, rfl, rfl⟩⟩
  | k + 1, P, hP, hk => by
    obtain ⟨a1, a2, a3, a4⟩ := sDay_ok (T := T) (M := M) hP (by omega)
    obtain ⟨b1, b2, b3, b4⟩ := sDays_ok (T := T) (M := M) k (sDay T M P) a1 (by omega)
    unfold sDays
    exact ⟨b1, by rw [b2, a2]; omega, by rw [b3, a3], fun i => ⟨(b4 i).1.trans (a4 i).1, (b4 i).2.1.trans (a4 i).2.1, (b4 i).2.2.trans (a4 i).2.2⟩⟩
theorem R_pass_L {N b : Nat} {T : Nat → Nat → Int32} {M : Nat → Nat} (hW : WT T M) (hN : 900 ≤ N) {n : Nat} (hn : n < 10000) : ∀ k j f P σ, j + k = n → k < f → VC b σ P → PI P → P 7 1 + k ≤ 20000 → TC (lw b) σ T M → ∃ σ', fR_pass_L2 N b f (nI n) (nI j) σ = some σ' ∧ VC b σ' (sDays T M k P) ∧ FC b σ σ'
  | 0, j, 0, P, σ, h1, h2, h, hP, hd, hT => absurd h2 (by omega)
  | k + 1, j, 0, P, σ, h1, h2, h, hP, hd, hT => absurd h2 (by omega)
  | 0, j, f + 1, P, σ, h1, h2, h, hP, hd, hT => by
    rw [fR_pass_L2, if_le (by omega) (by omega)]
    exact ⟨σ, rfl, h, FC_r⟩
  | k + 1, j, f + 1, P, σ, h1, h2, h, hP, hd, hT => by
    obtain ⟨s, r1, r2, r3⟩ := R_passDay (N := N) h hP hT hW hN
    obtain ⟨a1, a2, a3, a4⟩ := sDay_ok (T := T) (M := M) hP (by omega)
    rw [fR_pass_L2, if_nle (by omega) (by omega), r1, zbd_s, n_sc]
    obtain ⟨σ', u1, u2, u3⟩ := R_pass_L hW hN hn k (j + 1) f _ s (by omega) (by omega) r2 a1 (by omega) (TC_f hT r3)
    exact ⟨σ', u1, u2, FC_t r3 u3⟩
theorem R_pass {N b : Nat} {σ : zS} {P : zP} {T : Nat → Nat → Int32} {M : Nat → Nat} (h : VC b σ P) (hP : PI P) (hT : TC (lw b) σ T M) (hW : WT T M) (hN : 900 ≤ N) {n : Nat} (hn : n < N) (hn2 : n < 10000) (hd : P 7 1 + n ≤ 20000) : ∃ σ', fR_pass N b (nI n) σ = some σ' ∧ VC b σ' (sDays T M n P) ∧ FC b σ σ' := R_pass_L hW hN hn2 n 0 N P σ (by omega) hn h hP hd hT
theorem M_goes_L {N : Nat} {T : Nat → Nat → Int32} {M : Nat → Nat} (hW : WT T M) (hN : 901 ≤ N) {n : Nat} (hn : n < 10000) : ∀ k j f P σ, j + k = n → k < f → VM σ P → PI P → P 7 1 + k ≤ 20000 → TM σ T M → ∃ σ', fM_goesOn_L2 N f (nI n) (nI j) σ = some σ' ∧ VM σ' (sDays T M k P) ∧ FM σ σ'
  | 0, j, 0, P, σ, h1, h2, h, hP, hd, hT => absurd h2 (by omega)
  | k + 1, j, 0, P, σ, h1, h2, h, hP, hd, hT => absurd h2 (by omega)
  | 0, j, f + 1, P, σ, h1, h2, h, hP, hd, hT => by
    rw [fM_goesOn_L2, if_le (by omega) (by omega)]
    exact ⟨σ, rfl, h, FM_r⟩
  | k + 1, j, f + 1, P, σ, h1, h2, h, hP, hd, hT => by
    obtain ⟨s, r1, r2, r3⟩ := M_day1 (N := N) h hP hT hW hN
    obtain ⟨a1, a2, a3, a4⟩ := sDay_ok (T := T) (M := M) hP (by omega)
    rw [fM_goesOn_L2, if_nle (by omega) (by omega), r1, zbd_s, n_sc]
    obtain ⟨σ', u1, u2, u3⟩ := M_goes_L hW hN hn k (j + 1) f _ s (by omega) (by omega) r2 a1 (by omega) (TM_f hT r3)
    exact ⟨σ', u1, u2, FM_t r3 u3⟩
theorem M_goesOn {N : Nat} {σ : zS} {P : zP} {T : Nat → Nat → Int32} {M : Nat → Nat} (h : VM σ P) (hP : PI P) (hT : TM σ T M) (hW : WT T M) (hN : 901 ≤ N) {n : Nat} (hn : n < N) (hn2 : n < 10000) (hd : P 7 1 + n ≤ 20000) : ∃ σ', fM_goesOn N (nI n) σ = some σ' ∧ VM σ' (sDays T M n P) ∧ FM σ σ' := M_goes_L hW hN hn2 n 0 N P σ (by omega) hn h hP hd hT
