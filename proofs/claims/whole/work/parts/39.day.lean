/-! Pure mathematics: steps and days on both sides. -/
theorem R_turns {N b : Nat} {T : Nat → Nat → Int32} {M : Nat → Nat} {P0 : zP} (hW : WT T M) (hN : 61 ≤ N) : ∀ f n P m y σ, f ≤ n → y + f ≤ 10000 → mu P m < f → VC b σ P → PI P → SP P P0 → m < 256 → σ 2 b 14 = nI m → TC (lw b) σ T M → KP b σ P0 → ∃ σ', fR_step_L57 N b n (nI y) σ = some (nI (sLp T M P0 f P m).1, σ') ∧ VC b σ' (sLp T M P0 f P m).2 ∧ FC b σ σ'
  | 0, n, P, m, y, σ, h1, h2, h3, h, hP, hS, hm, hv, hT, hK => absurd h3 (by omega)
  | f + 1, 0, P, m, y, σ, h1, h2, h3, h, hP, hS, hm, hv, hT, hK => absurd h1 (by omega)
  | f + 1, n + 1, P, m, y, σ, h1, h2, h3, h, hP, hS, hm, hv, hT, hK => by
    have hn := hP.1
    have hlt : ¬ (10000 ≤ nI y) := fun q => absurd ((nI_leI (a := 10000) (by omega) (by omega)).mp q) (by omega)
    rw [fR_step_L57, if_neg hlt, R_least h hP (by omega), zbd_s]
    unfold sLp
    by_cases q : sL P = 0
    · rw [if_pos q, q, if_neg (by decide)]
      exact ⟨σ, rfl, h, FC_r⟩
    · rw [if_neg q]
      obtain ⟨a1, a2⟩ := sL_s q
      rw [nO_pos q]
      obtain ⟨t1, t2, t3, t4, t5⟩ := sTurn_ok (T := T) (M := M) hP hS a1 a2 hm
      generalize sL P - 1 = i at a1 a2 t1 t2 t3 t4 t5 ⊢
      have hi8 : i < 8 := by omega
      have hPi := hP.2.2.2.1 i hi8
      obtain ⟨g2, gne⟩ := sA_ne a2
      have e5 : σ 19 b i = nI (P 5 i) := h.1 5 i (by omega) hi8
      have hge : (0 : Int32) ≤ nI i := (nI_leI (a := 0) (by omega) (by omega)).mpr (by omega)
      rw [if_pos hge]
      simp (disch := omega) only [zlt_eq, zgd_T, zin_T, zb2_s, zbd_s, n_cl, n_sub1, n_predm, n_sc, if_nle, if_nle0, if_nle1, if_le, if_true, if_false, e5]
      -- what follows a turn that goes on
      have next : ∀ s P' m', (sTurn T M P m i) = (1, P', m') → VC b s P' → FL b σ s → s 2 b 14 = nI m' → ∃ σ', fR_step_L57 N b n (nI (y + 1)) s = some (nI (if (sTurn T M P m i).1 = 0 then (0, P0) else sLp T M P0 f (sTurn T M P m i).2.1 (sTurn T M P m i).2.2).1, σ') ∧ VC b σ' (if (sTurn T M P m i).1 = 0 then (0, P0) else sLp T M P0 f (sTurn T M P m i).2.1 (sTurn T M P m i).2.2).2 ∧ FC b σ σ' := by
        intro s P' m' ht hs hf hv'
        rw [ht] at t2 t3 t4 t5 ⊢
        dsimp only at t2 t3 t4 t5 ⊢
        have t5 := t5 (by omega)
        rw [if_neg (show ¬ (1 = 0) by omega)]
        obtain ⟨σ', r1, r2, r3⟩ := R_turns hW hN f n P' m' (y + 1) s (by omega) (by omega) (by omega) hs t2 t3 t4 hv' (TC_f hT hf.1) (KP_f hK hf.2)
        exact ⟨σ', r1, r2, FC_t hf.1 r3⟩
      by_cases q5 : P 5 i = 0
      · rw [q5, if_pos (by decide), R_unmoved h hP hi8 g2 hm hv, zbd_s]
        by_cases qu : sUn P m i = 0
        · rw [qu, if_neg (by decide)]
          obtain ⟨s, r1, r2, r3, r4⟩ := R_pull_1 h hP hi8 (nO 0) hv
          unfold fR_step_J122
          rw [if_neg (by decide), r1, zbd_s, n_sc]
          refine next s (sSev P i) m ?_ r2 r3 r4
          unfold sTurn
          rw [if_neg (show ¬ (P 5 i ≠ 0) by omega), if_pos qu]
        · have hw := sUn_w g2 qu
          have hmo := hP.2.2.2.2.1 i a1
          rw [nO_pos qu]
          have hT1 : sTurn T M P m i = if sDo T M P (sUn P m i - 1) = 2 then (0, P, m) else (1, sPull P m i (sUn P m i - 1) (sDo T M P (sUn P m i - 1))) := by
            unfold sTurn
            rw [if_neg (show ¬ (P 5 i ≠ 0) by omega), if_neg qu]
          generalize sUn P m i - 1 = w at hw hT1 ⊢
          have hw8 : w < 8 := by omega
          have hgw : (0 : Int32) ≤ nI w := (nI_leI (a := 0) (by omega) (by omega)).mpr (by omega)
          obtain ⟨s, r1, r2, r3⟩ := R_doesNow (N := N) h hP hT hW hN hw8
          have hd := sDo_le T M P w
          have hvs : s 2 b 14 = nI m := by rw [r3 _ _ _ (by omega)]; exact hv
          have hfs : FL b σ s := FL_11 r3
          rw [if_pos hgw, r1, zb2_s]
          unfold fR_step_J122
          by_cases d2 : sDo T M P w = 2
          · rw [d2, if_pos (show nI 2 = 2 from rfl)]
            obtain ⟨s', u1, u2, u3⟩ := R_putBack r2 (KP_f hK hfs.2) hS
            rw [hT1, if_pos d2, if_pos rfl, u1, zbd_s]
            exact ⟨s', rfl, u2, FC_t hfs.1 u3⟩
          · have hne2 : ¬ (nI (sDo T M P w) = 2) := by rw [n_eq2 (by omega)]; exact d2
            rw [if_neg hne2]
            obtain ⟨s', u1, u2, u3, u4⟩ := R_pull r2 hP (d := sDo T M P w) a1 a2 hw hd hm hvs
            rw [u1, zbd_s, n_sc]
            refine next s' (sPull P m i w (sDo T M P w)).1 (sPull P m i w (sDo T M P w)).2 ?_ u2 (FL_t hfs u3) u4
            rw [hT1, if_neg d2]
      · rw [if_nle0 (by omega) (by omega)]
        obtain ⟨s, r1, r2, r3, r4⟩ := R_letOut h (i := i) (j := i) hi8 hi8 q5
        rw [r1, zbd_s]
        refine next s (sOut P i i) m ?_ r2 r3 (r4.trans hv)
        unfold sTurn
        rw [if_pos q5]
/-- one step of a person -/
def sStep (T : Nat → Nat → Int32) (M : Nat → Nat) (P : zP) (i way : Nat) : Nat × zP := if way = 0 then (if P 3 i = 0 then (0, P) else sLp T M P 900 (pu P 3 i (P 3 i - 1)) (2 ^ i)) else (if P 3 i = 63 then (0, P) else sLp T M P 900 (pu P 3 i (P 3 i + 1)) (2 ^ i))
theorem R_step {N b : Nat} {σ : zS} {P : zP} {T : Nat → Nat → Int32} {M : Nat → Nat} (h : VC b σ P) (hP : PI P) (hT : TC (lw b) σ T M) (hW : WT T M) (hN : 900 ≤ N) {i way : Nat} (hi : i < 8) (hw : way < 2) : ∃ σ', fR_step N b (nI i) (nI way) σ = some (nI (sStep T M P i way).1, σ') ∧ VC b σ' (sStep T M P i way).2 ∧ FC b σ σ' := by
  have hPi := hP.2.2.2.1 i hi
  have e3 : σ 17 b i = nI (P 3 i) := h.1 3 i (by omega) hi
  have go : ∀ c, c ≤ 63 → ∃ σ', fR_step_J23 N b (nI i) (nI c) σ = some (nI (sLp T M P 900 (pu P 3 i c) (2 ^ i)).1, σ') ∧ VC b σ' (sLp T M P 900 (pu P 3 i c) (2 ^ i)).2 ∧ FC b σ σ' := by
    intro c hc
    obtain ⟨s, r1, r2, r3, r4, r5⟩ := R_keep h
    have g1 : VC b (zup (zup s 17 b i (nI c)) 2 b 14 (nI (2 ^ i))) (pu P 3 i c) := VC_x (VC_u 3 r2 (by omega) rfl) (by omega)
    have f1 : FL b s (zup (zup s 17 b i (nI c)) 2 b 14 (nI (2 ^ i))) := FL_t (FL_u (by omega)) (FL_u (by omega))
    have hP1 : PI (pu P 3 i c) := PI_w hP (by omega)
    obtain ⟨σ', u1, u2, u3⟩ := R_turns (N := N) (b := b) (T := T) (M := M) (P0 := P) hW (by omega) 900 N (pu P 3 i c) (2 ^ i) 0 (zup (zup s 17 b i (nI c)) 2 b 14 (nI (2 ^ i))) (by omega) (by omega) (by have := mu_le hP1 (2 ^ i); omega) g1 hP1 (SP_w SP_r (by omega)) (b_1l hi) zup_s (TC_f (TC_f hT r4) f1.1) (KP_f r3 f1.2)
    refine ⟨σ', ?_, u2, FC_t r4 (FC_t f1.1 u3)⟩
    unfold fR_step_J23
    have n1 : ¬ (nI c < 0) := by rw [l0, n_lt (by omega) (by omega)]; omega
    have n2 : nI c ≤ 63 := (nI_leI (b := 63) (by omega) (by omega)).mpr hc
    rw [if_neg n1, if_pos n2, r1, zbd_s, zgd_t (zin_n hi (by omega)), zlt_eq, zlt_eq, n_cl (by omega), b_1 hi]
    exact u1
  unfold fR_step sStep
  simp (disch := omega) only [zlt_eq, zgd_T, zin_T, zb2_s, zbd_s, n_cl, n_sub1, n_predm, n_sc, if_nle, if_nle0, if_nle1, if_le, if_true, if_false, e3]
  rcases (show way = 0 ∨ way = 1 by omega) with q | q <;> subst q
  · rw [if_pos (show nI 0 = 0 from rfl), if_pos rfl]
    by_cases qz : P 3 i = 0
    · rw [qz, if_pos rfl]
      unfold fR_step_J23
      rw [if_pos (by decide)]
      exact ⟨σ, rfl, h, FC_r⟩
    · rw [if_neg qz, n_sub1 (by omega)]
      exact go _ (by omega)
  · rw [if_neg (show ¬ (nI 1 = 0) by decide), if_neg (by decide)]
    by_cases qz : P 3 i = 63
    · rw [qz, if_pos rfl]
      unfold fR_step_J23
      rw [if_neg (by decide), if_neg (by decide)]
      exact ⟨σ, rfl, h, FC_r⟩
    · rw [if_neg qz]
      exact go _ (by omega)
/-! the reference's step -/
theorem VM_e {σ σ' : zS} {P : zP} (h : VM σ P) (hf : ∀ k, k < 60 → σ' 30 0 k = σ 30 0 k) : VM σ' P := by
  obtain ⟨h1, h2, h3, h4, h5⟩ := h
  exact ⟨fun w i hw hi => by rw [hf _ (by omega)]; exact h1 w i hw hi, fun j hj => by rw [hf _ (by omega)]; exact h2 j hj, by rw [hf _ (by omega)]; exact h3, by rw [hf _ (by omega)]; exact h4, by rw [hf _ (by omega)]; exact h5⟩
theorem M_back {N : Nat} : ∀ k j f σ, j + k = 60 → k < f → ∃ σ', fM_oneStep_L109 N f 0 (nI j) σ = some (0, σ') ∧ (∀ i, j ≤ i → i < 60 → σ' 30 0 i = σ 33 0 i) ∧ (∀ c i x, ¬ (c = 30 ∧ i = 0 ∧ j ≤ x ∧ x < 60) → σ' c i x = σ c i x)
  | 0, j, 0, σ, h1, h2 => absurd h2 (by omega)
  | k + 1, j, 0, σ, h1, h2 => absurd h2 (by omega)
  | 0, j, f + 1, σ, h1, h2 => by
    have hq : (60 : Int32) ≤ nI j := (nI_leI (a := 60) (by omega) (by omega)).mpr (by omega)
    rw [fM_oneStep_L109, if_pos hq, zgd_t (Or.inl rfl)]
    exact ⟨σ, rfl, fun i a b => by omega, fun _ _ _ _ => rfl⟩
  | k + 1, j, f + 1, σ, h1, h2 => by
    have hq : ¬ ((60 : Int32) ≤ nI j) := fun r => absurd ((nI_leI (a := 60) (by omega) (by omega)).mp r) (by omega)
    rw [fM_oneStep_L109, if_neg hq, if_pos rfl]
    simp (disch := omega) only [zlt_eq, zgd_T, zin_T, zb2_s, zbd_s, n_cl, n_sub1, n_predm, n_sc, if_nle, if_nle0, if_nle1, if_le, if_true, if_false]
    obtain ⟨σ', r1, r2, r3⟩ := M_back (N := N) k (j + 1) f (zup σ 30 0 j (σ 33 0 j)) (by omega) (by omega)
    refine ⟨σ', r1, fun i a b => ?_, fun c i x hc => ?_⟩
    · by_cases e : i = j
      · subst e
        rw [r3 _ _ _ (by omega), zup_s]
      · rw [r2 i (by omega) b, zup_o (by omega)]
    · rw [r3 c i x (by omega)]
      unfold zup
      rw [if_neg (by omega)]
theorem M_turns {N : Nat} {T : Nat → Nat → Int32} {M : Nat → Nat} {P0 : zP} {s0 : zS} (hW : WT T M) (hN : 61 ≤ N) (h0 : VM s0 P0) : ∀ f n P m σ, f + 1 ≤ n → mu P m < f → VM σ P → PI P → SP P P0 → m < 256 → σ 8 0 13 = nI m → TM σ T M → (∀ k, k < 60 → σ 33 0 k = s0 30 0 k) → FM s0 σ → ∃ σ', fM_oneStep_L79 N n 1 (nO (sL P)) σ = some (nI (sLp T M P0 f P m).1, σ') ∧ VM σ' (sLp T M P0 f P m).2 ∧ FM s0 σ'
  | 0, n, P, m, σ, h1, h3, h, hP, hS, hm, hv, hT, hK, hF => absurd h3 (by omega)
  | f + 1, 0, P, m, σ, h1, h3, h, hP, hS, hm, hv, hT, hK, hF => absurd h1 (by omega)
  | f + 1, n + 1, P, m, σ, h1, h3, h, hP, hS, hm, hv, hT, hK, hF => by
    have hn := hP.1
    have hl : sL P ≤ 8 := by have := sLf_le P (P 7 0) 0; unfold sL; omega
    rw [fM_oneStep_L79]
    unfold sLp
    by_cases q : sL P = 0
    · rw [if_pos q, q, if_pos (by decide)]
      have : fM_oneStep_L109 N N 1 0 σ = some (1, σ) := by
        cases N with
        | zero => omega
        | succ g => rw [fM_oneStep_L109, if_neg (by decide), if_neg (by decide), zgd_t (Or.inr rfl)]
      rw [this]
      exact ⟨σ, rfl, h, hF⟩
    · rw [if_neg q]
      obtain ⟨a1, a2⟩ := sL_s q
      have hlt : ¬ (nO (sL P) < 0) := by rw [l0, nO_lt (by omega)]; exact q
      rw [if_neg hlt, nO_pos q, if_neg (by decide)]
      obtain ⟨t1, t2, t3, t4, t5⟩ := sTurn_ok (T := T) (M := M) hP hS a1 a2 hm
      obtain ⟨s, r1, r2, r3, r4, r5⟩ := M_seesTo (N := N) h hP hT hW hN a1 a2 hm hv
      rw [r1, zb2_s, M_least r2 t2 (by omega), zbd_s]
      generalize hst : sTurn T M P m (sL P - 1) = t at t1 t2 t3 t4 t5 r1 r2 r4 ⊢
      by_cases q2 : t.1 = 0
      · rw [if_pos q2, q2]
        have hback : fM_oneStep_L79 N n (nI 0) (nO (sL t.2.1)) s = fM_oneStep_L109 N N 0 0 s := by
          cases n with
          | zero => omega
          | succ g =>
            rw [fM_oneStep_L79]
            by_cases e : nO (sL t.2.1) < 0
            · rw [if_pos e]; rfl
            · rw [if_neg e, if_pos (show nI 0 = 0 from rfl)]; rfl
        rw [hback]
        obtain ⟨σ', u1, u2, u3⟩ := M_back (N := N) 60 0 N s (by omega) (by omega)
        have e30 : ∀ k, k < 60 → σ' 30 0 k = s0 30 0 k := fun k hk => by rw [u2 k (by omega) hk, r5 k]; exact hK k hk
        refine ⟨σ', u1, VM_e h0 e30, ?_⟩
        intro c i k b1 b2 b3 b4 b5
        by_cases hc : c = 30 ∧ i = 0 ∧ k < 60
        · obtain ⟨c1, c2, c3⟩ := hc
          subst c1 c2
          exact e30 k c3
        · rw [u3 c i k (by omega)]
          exact (FM_t hF r3) c i k b1 b2 b3 b4 b5
      · have h1' : t.1 = 1 := by omega
        rw [if_neg q2, h1']
        exact M_turns hW hN h0 f n t.2.1 t.2.2 s (by omega) (by have := t5 q2; omega) r2 t2 t3 t4 r4 (TM_f hT r3) (fun k hk => (r5 k).trans (hK k hk)) (FM_t hF r3)
theorem M_copy {N : Nat} {x : Int32} {c : Int32} : ∀ k j f σ, j + k = 60 → k < f → ∃ σ', fM_oneStep_L29 N f x c (nI j) σ = (fM_lays1 x 3 c σ').bind (fun s10 => zlt (zup s10 8 0 13 (1 <<< (x &&& 31))) fun s11 => (fM_tooShort N s11).bind fun r13 => fM_oneStep_L79 N N 1 r13 s11) ∧ (∀ i, j ≤ i → i < 60 → σ' 33 0 i = σ 30 0 i) ∧ (∀ c i k, ¬ (c = 33 ∧ i = 0 ∧ j ≤ k) → σ' c i k = σ c i k)
  | 0, j, 0, σ, h1, h2 => absurd h2 (by omega)
  | k + 1, j, 0, σ, h1, h2 => absurd h2 (by omega)
  | 0, j, f + 1, σ, h1, h2 => by
    have hq : (60 : Int32) ≤ nI j := (nI_leI (a := 60) (by omega) (by omega)).mpr (by omega)
    rw [fM_oneStep_L29, if_pos hq]
    exact ⟨σ, rfl, fun i a b => by omega, fun _ _ _ _ => rfl⟩
  | k + 1, j, f + 1, σ, h1, h2 => by
    have hq : ¬ ((60 : Int32) ≤ nI j) := fun r => absurd ((nI_leI (a := 60) (by omega) (by omega)).mp r) (by omega)
    rw [fM_oneStep_L29, if_neg hq]
    simp (disch := omega) only [zlt_eq, zgd_T, zin_T, zb2_s, zbd_s, n_cl, n_sub1, n_predm, n_sc, if_nle, if_nle0, if_nle1, if_le, if_true, if_false]
    obtain ⟨σ', r1, r2, r3⟩ := M_copy (N := N) (x := x) (c := c) k (j + 1) f (zup σ 33 0 j (σ 30 0 j)) (by omega) (by omega)
    refine ⟨σ', r1, fun i a b => ?_, fun c i x hc => ?_⟩
    · by_cases e : i = j
      · subst e
        rw [r3 _ _ _ (by omega), zup_s]
      · rw [r2 i (by omega) b, zup_o (by omega)]
    · rw [r3 c i x (by omega)]
      unfold zup
      rw [if_neg (by omega)]
theorem M_oneStep {N : Nat} {σ : zS} {P : zP} {T : Nat → Nat → Int32} {M : Nat → Nat} (h : VM σ P) (hP : PI P) (hT : TM σ T M) (hW : WT T M) (hN : 901 ≤ N) {i way : Nat} (hi : i < 8) (hw : way < 2) : ∃ σ', fM_oneStep N (nI i) (nI way) σ = some (nI (sStep T M P i way).1, σ') ∧ VM σ' (sStep T M P i way).2 ∧ FM σ σ' := by
  have hPi := hP.2.2.2.1 i hi
  have e3 : fM_its (nI i) 3 σ = some (nI (P 3 i)) := M_its h 3 (by omega) hi
  have go : ∀ c, c ≤ 63 → ∃ σ', fM_oneStep_L29 N N (nI i) (nI c) 0 σ = some (nI (sLp T M P 900 (pu P 3 i c) (2 ^ i)).1, σ') ∧ VM σ' (sLp T M P 900 (pu P 3 i c) (2 ^ i)).2 ∧ FM σ σ' := by
    intro c hc
    obtain ⟨s, r1, r2, r3⟩ := M_copy (N := N) (x := nI i) (c := nI c) 60 0 N σ (by omega) (by omega)
    have hs : VM s P := VM_e h (fun k hk => r3 _ _ _ (by omega))
    have f0 : FM σ s := fun c i k b1 b2 b3 b4 b5 => r3 c i k (by omega)
    have l3' : fM_lays1 (nI i) 3 (nI c) s = some (zup s 30 0 (12 + 6 * i + 3) (nI c)) := M_lays 3 (by omega) hi
    have g1 : VM (zup (zup s 30 0 (12 + 6 * i + 3) (nI c)) 8 0 13 (nI (2 ^ i))) (pu P 3 i c) := VM_x (VM_u 3 hs (by omega) hi rfl) (by omega)
    have f1 : FM σ (zup (zup s 30 0 (12 + 6 * i + 3) (nI c)) 8 0 13 (nI (2 ^ i))) := FM_t f0 (FM_t (FM_u (by omega)) FM_8)
    have hP1 : PI (pu P 3 i c) := PI_w hP (by omega)
    have k1 : ∀ k, k < 60 → (zup (zup s 30 0 (12 + 6 * i + 3) (nI c)) 8 0 13 (nI (2 ^ i))) 33 0 k = σ 30 0 k := fun k hk => by rw [zup_o (by omega), zup_o (by omega)]; exact r2 k (by omega) hk
    obtain ⟨σ', u1, u2, u3⟩ := M_turns (N := N) (T := T) (M := M) (P0 := P) (s0 := σ) hW (by omega) h 900 N (pu P 3 i c) (2 ^ i) _ (by omega) (by have := mu_le hP1 (2 ^ i); omega) g1 hP1 (SP_w SP_r (by omega)) (b_1l hi) zup_s (TM_f hT f1) k1 f1
    refine ⟨σ', ?_, u2, u3⟩
    refine r1.trans ?_
    rw [l3', zbd_s, zlt_eq, b_1 hi, M_least g1 hP1 (by omega), zbd_s]
    exact u1
  have cell : ∀ c, c ≤ 63 → fM_isCell (nI c) = some 1 := by
    intro c hc
    unfold fM_isCell fM_in
    have n1 : ¬ (nI c < 0) := by rw [l0, n_lt (by omega) (by omega)]; omega
    have n2 : ¬ (63 < nI c) := fun q => absurd ((nI_ltI (a := 63) (by omega) (by omega)).mp q) (by omega)
    rw [if_neg n1, if_neg n2, zbd_s, zgd_t (Or.inr rfl)]
  unfold fM_oneStep sStep
  rw [e3, zbd_s]
  rcases (show way = 0 ∨ way = 1 by omega) with q | q <;> subst q
  · rw [if_pos (show nI 0 = 0 from rfl), if_pos rfl]
    unfold fM_oneStep_J15
    rw [zlt_eq]
    by_cases qz : P 3 i = 0
    · rw [qz, if_pos rfl]
      have : fM_isCell (nI 0 + -1) = some 0 := by decide +kernel
      rw [this, zbd_s, if_pos rfl]
      exact ⟨σ, rfl, h, FM_r⟩
    · rw [if_neg qz, n_predm (by omega), cell _ (by omega), zbd_s, if_neg (by decide)]
      exact go _ (by omega)
  · rw [if_neg (show ¬ (nI 1 = 0) by decide), if_neg (by decide)]
    unfold fM_oneStep_J15
    rw [zlt_eq]
    by_cases qz : P 3 i = 63
    · rw [qz, if_pos rfl]
      have : fM_isCell (nI 63 + 1) = some 0 := by decide +kernel
      rw [this, zbd_s, if_pos rfl]
      exact ⟨σ, rfl, h, FM_r⟩
    · rw [if_neg qz, n_sc, cell _ (by omega), zbd_s, if_neg (by decide)]
      exact go _ (by omega)
theorem sStep_ok {T : Nat → Nat → Int32} {M : Nat → Nat} {P : zP} (hP : PI P) {i way : Nat} (hi : i < 8) : (sStep T M P i way).1 ≤ 1 ∧ PI (sStep T M P i way).2 ∧ SP (sStep T M P i way).2 P := by
  have hPi := hP.2.2.2.1 i hi
  unfold sStep
  split
  · split
    · exact ⟨by omega, hP, SP_r⟩
    · exact sLp_ok hP _ _ _ (PI_w hP (by omega)) (SP_w SP_r (by omega)) (b_1l hi)
  · split
    · exact ⟨by omega, hP, SP_r⟩
    · exact sLp_ok hP _ _ _ (PI_w hP (by omega)) (SP_w SP_r (by omega)) (b_1l hi)
/-- a day's steps -/
def sDs (T : Nat → Nat → Int32) (M : Nat → Nat) (i way : Nat) : Nat → zP → zP
  | 0, P => P
  | k + 1, P => if (sStep T M P i way).1 = 0 then (sStep T M P i way).2 else sDs T M i way k (sStep T M P i way).2
def sDay (T : Nat → Nat → Int32) (M : Nat → Nat) (P : zP) : zP := if P 7 0 ≤ P 6 (P 7 1 % 6) / 10 then pu P 7 1 (P 7 1 + 1) else pu (sDs T M (P 6 (P 7 1 % 6) / 10) (P 6 (P 7 1 % 6) % 10) (sGo T M P (P 6 (P 7 1 % 6) / 10)) P) 7 1 (P 7 1 + 1)
theorem sDs_ok {T : Nat → Nat → Int32} {M : Nat → Nat} {i way : Nat} (hi : i < 8) : ∀ k P, PI P → PI (sDs T M i way k P) ∧ SP (sDs T M i way k P) P
  | 0, P, hP => ⟨hP, SP_r⟩
  | k + 1, P, hP => by
    obtain ⟨a, b, c⟩ := sStep_ok (T := T) (M := M) (way := way) hP hi
    unfold sDs
    split
    · exact ⟨b, c⟩
    · obtain ⟨d, e⟩ := sDs_ok (T := T) (M := M) (way := way) hi k _ b
      refine ⟨d, ⟨fun i => (e.1 i).trans (c.1 i), fun i => (e.2.1 i).trans (c.2.1 i), fun i => (e.2.2.1 i).trans (c.2.2.1 i), e.2.2.2.1.trans c.2.2.2.1, e.2.2.2.2.trans c.2.2.2.2⟩⟩
theorem sDay_ok {T : Nat → Nat → Int32} {M : Nat → Nat} {P : zP} (hP : PI P) (hd : P 7 1 < 20000) : PI (sDay T M P) ∧ (sDay T M P) 7 1 = P 7 1 + 1 ∧ (sDay T M P) 7 0 = P 7 0 ∧ (∀ i, (sDay T M P) 0 i = P 0 i ∧ (sDay T M P) 1 i = P 1 i ∧ (sDay T M P) 6 i = P 6 i) := by
  have h6 := hP.2.2.2.2.2 (P 7 1 % 6) (by omega)
  unfold sDay
  split
  · exact ⟨PI_7 hP (by omega), pu_s, by rw [pu_i (by omega)], fun i => ⟨by rw [pu_w (by omega)], by rw [pu_w (by omega)], by rw [pu_w (by omega)]⟩⟩
  · obtain ⟨a, b⟩ := sDs_ok (T := T) (M := M) (i := P 6 (P 7 1 % 6) / 10) (way := P 6 (P 7 1 % 6) % 10) (by omega) (sGo T M P (P 6 (P 7 1 % 6) / 10)) P hP
    exact ⟨PI_7 a (by omega), pu_s, by rw [pu_i (by omega)]; exact b.2.2.2.1, fun i => ⟨by rw [pu_w (by omega)]; exact b.1 i, by rw [pu_w (by omega)]; exact b.2.1 i, by rw [pu_w (by omega)]; exact b.2.2.1 i⟩⟩
theorem R_day_L {N b : Nat} {T : Nat → Nat → Int32} {M : Nat → Nat} (hW : WT T M) (hN : 900 ≤ N) {pl i n : Nat} (hpl : pl < 80) (hway : pl % 10 < 2) (hi : i < 8) (hn : n ≤ 9) : ∀ k j f P σ, j + k = n → k < f → VC b σ P → PI P → TC (lw b) σ T M → ∃ σ', fR_passDay_L38 N b f (nI pl) (nI i) (nI n) 1 (nI j) σ = fR_passDay_J66 N b σ' ∧ VC b σ' (sDs T M i (pl % 10) k P) ∧ FC b σ σ'
  | 0, j, 0, P, σ, h1, h2, h, hP, hT => absurd h2 (by omega)
  | k + 1, j, 0, P, σ, h1, h2, h, hP, hT => absurd h2 (by omega)
  | 0, j, f + 1, P, σ, h1, h2, h, hP, hT => by
    rw [fR_passDay_L38, if_le (by omega) (by omega)]
    exact ⟨σ, rfl, h, FC_r⟩
  | k + 1, j, f + 1, P, σ, h1, h2, h, hP, hT => by
    rw [fR_passDay_L38, if_nle (by omega) (by omega), if_neg (by decide)]
    have hm : nI pl - nI pl / 10 * 10 = nI (pl % 10) := n_mod rfl (by omega) (by omega) (by omega)
    obtain ⟨s, r1, r2, r3⟩ := R_step h hP hT hW hN hi hway
    obtain ⟨a, b', c⟩ := sStep_ok (T := T) (M := M) (way := pl % 10) hP hi
    rw [hm, r1, zb2_s, n_sc]
    unfold sDs
    by_cases q : (sStep T M P i (pl % 10)).1 = 0
    · rw [if_pos q, q]
      cases f with
      | zero => omega
      | succ g =>
        rw [fR_passDay_L38]
        by_cases q2 : nI n ≤ nI (j + 1)
        · rw [if_pos q2]
          exact ⟨s, rfl, r2, r3⟩
        · rw [if_neg q2, if_pos (show nI 0 = 0 from rfl)]
          exact ⟨s, rfl, r2, r3⟩
    · have h1' : (sStep T M P i (pl % 10)).1 = 1 := by omega
      rw [if_neg q, h1']
      obtain ⟨σ', u1, u2, u3⟩ := R_day_L hW hN hpl hway hi hn k (j + 1) f _ s (by omega) (by omega) r2 b' (TC_f hT r3)
      exact ⟨σ', u1, u2, FC_t r3 u3⟩
