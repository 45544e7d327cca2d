/-! Pure mathematics: fits; sheets made, put, moved. -/
def sFk (T : Nat → Nat → Int32) (M : Nat → Nat) (g : Nat → Int32) (i n : Nat) : Nat → Nat → zP → Nat
  | 0, _, _ => 1
  | k + 1, j, P => if n ≤ j then 1 else if g j = nI (P 3 i) then sFk T M g i n k (j + 1) (sDay T M P) else 0
theorem sFk_01 {T : Nat → Nat → Int32} {M : Nat → Nat} {g : Nat → Int32} {i n : Nat} : ∀ k j P, sFk T M g i n k j P = 0 ∨ sFk T M g i n k j P = 1
  | 0, j, P => Or.inr rfl
  | k + 1, j, P => by
    unfold sFk
    split
    · exact Or.inr rfl
    · split
      · exact sFk_01 k (j + 1) _
      · exact Or.inl rfl
theorem A_ws_L {N b n : Nat} {T : Nat → Nat → Int32} {M : Nat → Nat} {g : Nat → Int32} (hW : WT T M) (hN : 901 ≤ N) {i : Nat} (hi : i < 8) (hn : n ≤ 24) : ∀ k j f P s, j + k = 24 → k < f → VC 2 s P → PI P → P 7 1 + k ≤ 20000 → TC (lw 2) s T M → s 4 b 1 = nI n → (∀ i, s 23 b i = g i) → ∃ s', fA_wentSo_L24 N b f (nI i) (nI j) s = some (nI (sFk T M g i n k j P), s') ∧ FC 2 s s'
  | k, j, 0, P, s, h1, h2, h3, h4, h5, h6, h7, h8 => absurd h2 (by omega)
  | 0, j, f + 1, P, s, h1, h2, h3, h4, h5, h6, h7, h8 => by
    rw [fA_wentSo_L24, h7, if_le (by omega) (by omega)]
    exact ⟨s, rfl, FC_r⟩
  | k + 1, j, f + 1, P, s, h1, h2, h3, h4, h5, h6, h7, h8 => by
    have e3 : s 17 2 i = nI (P 3 i) := h3.1 3 i (by omega) hi
    rw [fA_wentSo_L24, h7]
    unfold sFk
    by_cases q1 : n ≤ j
    · rw [if_le q1 (by omega), if_pos q1]
      exact ⟨s, rfl, FC_r⟩
    · rw [if_nle (by omega) (by omega), if_neg q1]
      simp (disch := omega) only [zlt_eq, zgd_T, zin_T, zb2_s, zbd_s, n_cl, n_sub1, n_predm, n_sc, if_nle, if_nle0, if_nle1, if_le, if_true, if_false, h8, e3]
      by_cases q2 : g j = nI (P 3 i)
      · rw [if_pos q2, if_pos q2]
        obtain ⟨s', r1, r2, r3⟩ := R_passDay (N := N) h3 h4 h6 hW (by omega)
        obtain ⟨d1, d2, d3, d4⟩ := sDay_ok (T := T) (M := M) h4 (by omega)
        obtain ⟨s'', t1, t2⟩ := A_ws_L (T := T) (M := M) (b := b) (g := g) hW hN hi hn k (j + 1) f _ s' (by omega) (by omega) r2 d1 (by omega) (TC_f h6 r3) ((r3 4 b 1 (by omega) (by omega) (by omega)).trans h7) (fun i => (r3 23 b i (by omega) (by omega) (by omega)).trans (h8 i))
        rw [r1, zbd_s]
        exact ⟨s'', t1, FC_t r3 t2⟩
      · rw [if_neg q2, if_neg q2]
        exact ⟨s, rfl, FC_r⟩
def sFw (T : Nat → Nat → Int32) (M : Nat → Nat) (g : Nat → Int32) (P : zP) (i n kd : Nat) : Nat := sFk T M g i n 24 0 (pu P 0 i kd)
theorem A_ws {N b n : Nat} (hN : 901 ≤ N) {σ : zS} {P : zP} {T : Nat → Nat → Int32} {M : Nat → Nat} {g : Nat → Int32} (h : CX σ P T M) {i kd : Nat} (hi : i < 8) (hn : n ≤ 24) (hk : kd ≤ 6) (h7 : σ 4 b 1 = nI n) (h8 : ∀ i, σ 23 b i = g i) : ∃ s, fA_wentSo N b (nI i) (nI kd) σ = some (nI (sFw T M g P i n kd), s) ∧ FZ 2 σ s := by
  obtain ⟨s, r1, r2, r3, r4⟩ := R_begin h
  obtain ⟨c1, c2, c3, c3', c4, c5, c6, c7, c8, c9, c10⟩ := h
  have gg : VC 2 (zup s 14 2 i (nI kd)) (pu P 0 i kd) := VC_u 0 r2 (by omega) rfl
  have f : FC 2 s (zup s 14 2 i (nI kd)) := FC_u (by omega)
  obtain ⟨s', t1, t2⟩ := A_ws_L (N := N) (T := T) (M := M) (b := b) (g := g) c6 hN hi hn 24 0 N (pu P 0 i kd) (zup s 14 2 i (nI kd)) (by omega) (by omega) gg (PI_row c3 (by omega)) (by rw [pu_w (by omega)]; omega) (TC_f r4 f) (by rw [zup_o (by omega), r3 4 b 1 (by omega) (by omega) (by omega)]; exact h7) (fun i => by rw [zup_o (by omega), r3 23 b i (by omega) (by omega) (by omega)]; exact h8 i)
  refine ⟨s', ?_, FZ_t r3 (FZ_C (FC_t f t2))⟩
  unfold fA_wentSo
  rw [r1, zbd_s]
  simp (disch := omega) only [zlt_eq, zgd_T, zin_T, zb2_s, zbd_s, n_cl, n_sub1, n_predm, n_sc, if_nle, if_nle0, if_nle1, if_le, if_true, if_false]
  exact t1
def sFs (w : Nat → Nat) : Nat → Nat → Nat → Nat
  | 0, _, acc => acc
  | k + 1, kd, acc => sFs w k (kd + 1) (if w kd = 0 then acc else acc ||| 2 ^ kd)
theorem sFs_lt {w : Nat → Nat} : ∀ k kd acc, kd + k ≤ 8 → acc < 256 → sFs w k kd acc < 256
  | 0, kd, acc, h1, h2 => h2
  | k + 1, kd, acc, h1, h2 => by
    unfold sFs
    refine sFs_lt k (kd + 1) _ (by omega) ?_
    split
    · exact h2
    · exact b_ol h2 (by omega)
theorem sFw_01 {T : Nat → Nat → Int32} {M : Nat → Nat} {g : Nat → Int32} {P : zP} {i n kd : Nat} : sFw T M g P i n kd = 0 ∨ sFw T M g P i n kd = 1 := sFk_01 _ _ _
theorem R_ft_L {N b n : Nat} (hN : 901 ≤ N) {σ : zS} {P : zP} {T : Nat → Nat → Int32} {M : Nat → Nat} {g : Nat → Int32} (h : CX σ P T M) {i : Nat} {y : Int32} (hi : i < 8) (hn : n ≤ 24) (hb : b < 4) (h7 : σ 4 b 1 = nI n) (h8 : ∀ i, σ 23 b i = g i) : ∀ k kd acc f s, kd + k = 7 → k < f → acc < 256 → FZ 2 σ s → ∃ s', FZ 2 σ s' ∧ fA_fits_L53 N f (nI b) (nI i) y (nI acc) (nI kd) s = if y = 0 then some (nI (sFs (sFw T M g P i n) k kd acc), s') else some (nI (pc (sFs (sFw T M g P i n) k kd acc)), s')
  | k, kd, acc, 0, s, h1, h2, h3, h4 => absurd h2 (by omega)
  | 0, kd, acc, f + 1, s, h1, h2, h3, h4 => by
    have hq : (6 : Int32) < nI kd := (nI_ltI (a := 6) (by omega) (by omega)).mpr (by omega)
    refine ⟨s, h4, ?_⟩
    rw [fA_fits_L53, if_pos hq, J_bc h3, zbd_s]
    rfl
  | k + 1, kd, acc, f + 1, s, h1, h2, h3, h4 => by
    have hq : ¬ ((6 : Int32) < nI kd) := fun r => absurd ((nI_ltI (a := 6) (by omega) (by omega)).mp r) (by omega)
    obtain ⟨s1, r1, r2⟩ := A_ws (N := N) (b := b) (g := g) hN (CX_think h h4 FT_r).1 hi hn (kd := kd) (by omega) ((h4 4 b 1 (by omega) (by omega) (by omega)).trans h7) (fun i => (h4 23 b i (by omega) (by omega) (by omega)).trans (h8 i))
    rw [fA_fits_L53, if_neg hq]
    simp (disch := omega) only [zlt_eq, zgd_T, zin_T, zb2_s, zbd_s, n_cl, n_sub1, n_predm, n_sc, if_nle, if_nle0, if_nle1, if_le, if_true, if_false]
    rw [r1, zb2_s, b_o h3 (by omega)]
    unfold sFs
    rcases sFw_01 (T := T) (M := M) (g := g) (P := P) (i := i) (n := n) (kd := kd) with z | z
    · rw [z, if_pos (show nI 0 = 0 from rfl), if_pos rfl]
      exact R_ft_L hN h hi hn hb h7 h8 k (kd + 1) acc f s1 (by omega) (by omega) h3 (FZ_t h4 r2)
    · rw [z, if_neg (by decide), if_neg (by omega)]
      exact R_ft_L hN h hi hn hb h7 h8 k (kd + 1) _ f s1 (by omega) (by omega) (b_ol h3 (by omega)) (FZ_t h4 r2)
theorem M_f76 {N b n : Nat} {T : Nat → Nat → Int32} {M : Nat → Nat} {g : Nat → Int32} (hW : WT T M) (hN : 901 ≤ N) {i : Nat} {y acc kd : Int32} (hi : i < 8) (hn : n ≤ 24) (hb : b < 4) (K : Int32 → Int32 → Int32 → Int32 → Int32 → zS → Option (Int32 × zS)) : ∀ k j f P s, j + k = 24 → k + 1 < f → VM s P → PI P → P 7 1 + k ≤ 20000 → TM s T M → s 40 0 b = nI n → (∀ i, i < 24 → NR (g i) (s 41 0 (24 * b + i))) → ∃ t, FM s t ∧ fM_fits_L76 N K f (nI b) (nI i) y acc kd 1 (nI j) s = fM_fits_J130 N K (nI b) (nI i) y acc kd (nI (sFk T M g i n k j P)) t
  | k, j, 0, P, s, h1, h2, h3, h4, h5, h6, h7, h8 => absurd h2 (by omega)
  | 0, j, f + 1, P, s, h1, h2, h3, h4, h5, h6, h7, h8 => by
    rw [fM_fits_L76]
    simp (disch := omega) only [zlt_eq, zgd_T, zin_T, zb2_s, zbd_s, n_cl, n_sub1, n_predm, n_sc, if_nle, if_nle0, if_nle1, if_le, if_true, if_false, h7]
    exact ⟨s, FM_r, rfl⟩
  | k + 1, j, f + 1, P, s, h1, h2, h3, h4, h5, h6, h7, h8 => by
    have e3 : fM_its (nI i) 3 s = some (nI (P 3 i)) := M_its h3 3 (by omega) hi
    have hx : 24 * nI b + nI j = nI (24 * b + j) := by rw [l24, n_mul, n_add]
    have hc := (h4.2.2.2.1 i hi).2.2.2.1
    rw [fM_fits_L76, hx]
    unfold sFk
    simp (disch := omega) only [zlt_eq, zgd_T, zin_T, zb2_s, zbd_s, n_cl, n_sub1, n_predm, n_sc, if_nle, if_nle0, if_nle1, if_le, if_true, if_false, h7]
    by_cases q1 : n ≤ j
    · rw [if_le q1 (by omega), if_pos q1]
      exact ⟨s, FM_r, rfl⟩
    · obtain ⟨s', r1, r2, r3⟩ := M_day1 (N := N) h3 h4 h6 hW hN
      obtain ⟨d1, d2, d3, d4⟩ := sDay_ok (T := T) (M := M) h4 (by omega)
      have h7' : s' 40 0 b = nI n := (r3 40 0 b (by omega) (by omega) (by omega) (by omega) (by omega)).trans h7
      rw [if_nle (by omega) (by omega), if_neg q1, if_neg (by decide), e3, zbd_s]
      unfold fM_fits_J118
      dsimp only
      rw [r1, zbd_s, zbd_s, n_sc]
      have hh := NR_eq (h8 j (by omega)) (q := P 3 i) (by omega)
      by_cases q2 : g j = nI (P 3 i)
      · rw [if_pos (hh.mp q2), if_pos q2]
        obtain ⟨t, t1, t2⟩ := M_f76 (T := T) (M := M) (g := g) (y := y) (acc := acc) (kd := kd) hW hN hi hn hb K k (j + 1) f _ s' (by omega) (by omega) r2 d1 (by omega) (TM_f h6 r3) h7' (fun i hi => by rw [r3 41 0 _ (by omega) (by omega) (by omega) (by omega) (by omega)]; exact h8 i hi)
        exact ⟨t, FM_t r3 t1, t2⟩
      · rw [if_neg (fun r => q2 (hh.mpr r)), if_neg q2]
        refine ⟨s', r3, ?_⟩
        obtain ⟨f', rfl⟩ : ∃ f', f = f' + 1 := ⟨f - 1, by omega⟩
        rw [fM_fits_L76]
        simp (disch := omega) only [zlt_eq, zgd_T, zin_T, zb2_s, zbd_s, n_cl, n_sub1, n_predm, n_sc, if_nle, if_nle0, if_nle1, if_le, if_true, if_false, h7']
        by_cases q3 : n ≤ j + 1
        · rw [if_le q3 (by omega)]
          rfl
        · rw [if_nle (by omega) (by omega)]
          rfl
theorem M_ft_L {N b n : Nat} (hN : 901 ≤ N) {σ : zS} {P : zP} {T : Nat → Nat → Int32} {M : Nat → Nat} {g : Nat → Int32} (h : VM σ P) (hP : PI P) (hd : P 7 1 ≤ 9999) (hT : TM σ T M) (hW : WT T M) {i : Nat} {y : Int32} (hi : i < 8) (hn : n ≤ 24) (hb : b < 4) (h7 : σ 40 0 b = nI n) (h8 : ∀ i, i < 24 → NR (g i) (σ 41 0 (24 * b + i))) : ∀ k kd acc f s, kd + k = 7 → k < f → acc < 256 → BK σ s → ∃ s', BK σ s' ∧ fM_fits_L55 N f (nI b) (nI i) y (nI acc) (nI kd) s = if y = 0 then some (nI (sFs (sFw T M g P i n) k kd acc), s') else some (nI (pc (sFs (sFw T M g P i n) k kd acc)), s')
  | k, kd, acc, 0, s, h1, h2, h3, h4 => absurd h2 (by omega)
  | 0, kd, acc, f + 1, s, h1, h2, h3, h4 => by
    have hq : (6 : Int32) < nI kd := (nI_ltI (a := 6) (by omega) (by omega)).mpr (by omega)
    refine ⟨s, h4, ?_⟩
    rw [fM_fits_L55, if_pos hq, M_ones (by omega) h3, zbd_s]
    rfl
  | k + 1, kd, acc, f + 1, s, h1, h2, h3, h4 => by
    have hq : ¬ ((6 : Int32) < nI kd) := fun r => absurd ((nI_ltI (a := 6) (by omega) (by omega)).mp r) (by omega)
    have l0' : ∀ v s, fM_lays1 (nI i) 0 v s = some (zup s 30 0 (12 + 6 * i + 0) v) := fun v s => M_lays 0 (by omega) hi
    have gg : VM (zup s 30 0 (12 + 6 * i + 0) (nI kd)) (pu P 0 i kd) := VM_u 0 (VM_B h h4) (by omega) hi rfl
    have f1 : FM s (zup s 30 0 (12 + 6 * i + 0) (nI kd)) := FM_u (by omega)
    obtain ⟨t, t1, t2⟩ := M_f76 (N := N) (b := b) (n := n) (g := g) (y := y) (acc := nI acc) (kd := nI kd) hW hN hi hn hb (fun y1 y2 y3 y4 y5 σ => fM_fits_L55 N f y1 y2 y3 y4 y5 σ) 24 0 N (pu P 0 i kd) (zup s 30 0 (12 + 6 * i + 0) (nI kd)) (by omega) (by omega) gg (PI_row hP (by omega)) (by rw [pu_w (by omega)]; omega) (TM_f (TM_B hT hW h4) f1) (by rw [zup_o (by omega), h4.1 40 0 b (by omega) (by omega) (by omega)]; exact h7) (fun i hi => by rw [zup_o (by omega), h4.1 41 0 _ (by omega) (by omega) (by omega)]; exact h8 i hi)
    obtain ⟨s1, u1, u2⟩ := M_put3 (N := N) (by omega) h4 (FM_t f1 t1)
    rw [fM_fits_L55, if_neg hq, l0', zbd_s]
    have t2' : fM_fits_L76 N (fun y1 y2 y3 y4 y5 σ => fM_fits_L55 N f y1 y2 y3 y4 y5 σ) N (nI b) (nI i) y (nI acc) (nI kd) 1 0 (zup s 30 0 (12 + 6 * i + 0) (nI kd)) = fM_fits_J130 N (fun y1 y2 y3 y4 y5 σ => fM_fits_L55 N f y1 y2 y3 y4 y5 σ) (nI b) (nI i) y (nI acc) (nI kd) (nI (sFw T M g P i n kd)) t := t2
    rw [t2']
    unfold fM_fits_J130
    dsimp only
    rw [u1, zbd_s, b_o h3 (by omega), n_sc, zlt_eq, zlt_eq, n_or0]
    unfold sFs
    rcases sFw_01 (T := T) (M := M) (g := g) (P := P) (i := i) (n := n) (kd := kd) with z | z
    · rw [z, if_pos (show nI 0 = 0 from rfl), if_pos rfl]
      exact M_ft_L hN h hP hd hT hW hi hn hb h7 h8 k (kd + 1) acc f s1 (by omega) (by omega) h3 u2
    · rw [z, if_neg (by decide), if_neg (by omega)]
      exact M_ft_L hN h hP hd hT hW hi hn hb h7 h8 k (kd + 1) _ f s1 (by omega) (by omega) (b_ol h3 (by omega)) u2
theorem P_fits {N : Nat} (hN : 901 ≤ N) {σ : zS} (h : Core σ) (hS : SH σ) (x1 x2 x3 : Int32) : Pr σ (fA_fits N x1 x2 x3) (fM_fits N x1 x2 x3) := by
  obtain ⟨P, T, M, c⟩ := h
  obtain ⟨c1, c2, c3, c3', c4, c5, c6, c7, c8, c9, c10⟩ := c
  have c : CX σ P T M := ⟨c1, c2, c3, c3', c4, c5, c6, c7, c8, c9, c10⟩
  have hn := c3.1
  by_cases q1 : wi x1 3
  · have a1 := (A_isSheet (x := x1)).1 q1
    have m1 := (M_isSheet (x := x1)).1 q1
    by_cases q2 : thr P x2
    · have a2 := (A_there c1 c3).1 q2
      have m2 := fun s (hs : VM s P) => (M_there hs c3).1 q2
      have a3 := A_within (x := x3) (B := 1) (by omega)
      have m3 := M_in (x := x3) (B := 1) (by omega)
      by_cases q3 : wi x3 1
      · have a3 : fA_within x3 1 = some 1 := a3.1 q3
        have m3 : fM_in x3 0 1 = some 1 := m3.1 q3
        obtain ⟨b, hb, rfl⟩ := q1
        obtain ⟨i, hi, rfl⟩ := q2
        have hi8 : i < 8 := by omega
        obtain ⟨⟨bt, g1, g2, g3⟩, ⟨n, g4, g5, g6⟩, g7⟩ := hS b (by omega)
        by_cases z : bt = 0
        · refine Pr_err c (e := 2) (by omega) (by omega) ?_ ?_
          · unfold fA_fits
            rw [a1, zbd_s, if_neg (by decide), a2, zbd_s, if_neg (by decide), a3, zbd_s, if_neg (by decide)]
            simp (disch := omega) only [zlt_eq, zgd_T, zin_T, zb2_s, zbd_s, n_cl, n_sub1, n_predm, n_sc, if_nle, if_nle0, if_nle1, if_le, if_true, if_false]
            rw [H_miss (by omega) g2, zbd_s, if_pos z, if_neg (by decide), zb2_id]
            rfl
          · have e39 : (zup σ 26 0 2 (σ 26 0 2 + 1)) 39 0 b = 0 := by rw [zup_o (by omega), g3, z]; rfl
            unfold fM_fits
            rw [m1, zbd_s, if_neg (by decide), m2 _ (VM_26 c2), zbd_s, if_neg (by decide), m3, zbd_s, if_neg (by decide)]
            simp (disch := omega) only [zlt_eq, zgd_T, zin_T, zb2_s, zbd_s, n_cl, n_sub1, n_predm, n_sc, if_nle, if_nle0, if_nle1, if_le, if_true, if_false]
            rw [e39, if_pos rfl, zb2_id]
            rfl
        · obtain ⟨s, r1, r2⟩ := R_ft_L (N := N) (b := b) (g := σ 23 b) (y := x3) hN c hi8 g4 (by omega) g5 (fun _ => rfl) 7 0 0 N σ (by omega) (by omega) (by omega) FZ_r
          obtain ⟨s2, u1, u2⟩ := M_savesB (N := N) (by omega) (VM_Z c2 r1)
          obtain ⟨t, t1, t2⟩ := M_ft_L (N := N) (b := b) (n := n) (g := σ 23 b) (y := x3) hN (VM_Z c2 r1) c3 c3'.1 (TM_Z c5 r1) c6 hi8 g4 (by omega) ((r1 40 0 b (by omega) (by omega) (by omega)).trans g6) (fun i hi => by rw [r1 41 0 _ (by omega) (by omega) (by omega)]; exact g7 i hi) 7 0 0 N s2 (by omega) (by omega) (by omega) u2
          have e39 : ¬ (s 39 0 b = 0) := by rw [r1 39 0 b (by omega) (by omega) (by omega), g3]; exact fun r => z ((nI_eq (b := 0) (by omega) (by omega)).mp r)
          refine Pr_think c (r := if x3 = 0 then nI (sFs (sFw T M (σ 23 b) P i n) 7 0 0) else nI (pc (sFs (sFw T M (σ 23 b) P i n) 7 0 0))) (s := s) (τ := t) ?_ ?_ r1 t1.1
          · unfold fA_fits
            rw [a1, zbd_s, if_neg (by decide), a2, zbd_s, if_neg (by decide), a3, zbd_s, if_neg (by decide)]
            simp (disch := omega) only [zlt_eq, zgd_T, zin_T, zb2_s, zbd_s, n_cl, n_sub1, n_predm, n_sc, if_nle, if_nle0, if_nle1, if_le, if_true, if_false]
            rw [H_miss (by omega) g2, zbd_s, if_neg z, if_pos rfl]
            refine r2.trans ?_
            split <;> rfl
          · unfold fM_fits
            rw [m1, zbd_s, if_neg (by decide), m2 _ (VM_Z c2 r1), zbd_s, if_neg (by decide), m3, zbd_s, if_neg (by decide)]
            simp (disch := omega) only [zlt_eq, zgd_T, zin_T, zb2_s, zbd_s, n_cl, n_sub1, n_predm, n_sc, if_nle, if_nle0, if_nle1, if_le, if_true, if_false]
            rw [if_neg e39, u1, zbd_s]
            refine t2.trans ?_
            split <;> rfl
      · have a3 : fA_within x3 1 = some 0 := a3.2 q3
        have m3 : fM_in x3 0 1 = some 0 := m3.2 q3
        refine Pr_err c (e := 1) (by omega) (by omega) ?_ ?_
        · unfold fA_fits fA_fits_J23
          rw [a1, zbd_s, if_neg (by decide), a2, zbd_s, if_neg (by decide), a3, zbd_s, if_pos rfl, zb2_id]
          rfl
        · unfold fM_fits fM_fits_J24
          rw [m1, zbd_s, if_neg (by decide), m2 _ (VM_26 c2), zbd_s, if_neg (by decide), m3, zbd_s, if_pos rfl, zb2_id]
          rfl
    · refine Pr_err c (e := 1) (by omega) (by omega) ?_ ?_
      · unfold fA_fits fA_fits_J23
        rw [a1, zbd_s, if_neg (by decide), (A_there c1 c3).2 q2, zbd_s, if_pos rfl, zb2_id]
        rfl
      · unfold fM_fits fM_fits_J24
        rw [m1, zbd_s, if_neg (by decide), (M_there (VM_26 c2) c3).2 q2, zbd_s, if_pos rfl, zb2_id]
        rfl
  · have a1 := (A_isSheet (x := x1)).2 q1
    have m1 := (M_isSheet (x := x1)).2 q1
    refine Pr_err c (e := 1) (by omega) (by omega) ?_ ?_
    · unfold fA_fits fA_fits_J23
      rw [a1, zbd_s, if_pos rfl, zb2_id]
      rfl
    · unfold fM_fits fM_fits_J24
      rw [m1, zbd_s, if_pos rfl, zb2_id]
      rfl
/-- work on the sheets alone -/
theorem PrF_sh {σ s τ : zS} (h : Full σ) {fa fm : zS → Option (Int32 × zS)} {r : Int32} (ha : fa σ = some (r, s)) (hm : fm s = some (r, τ)) (hS : SH τ) (e : ∀ c i k, ¬ (c = 4 ∨ c = 23 ∨ c = 39 ∨ c = 40 ∨ c = 41 ∨ c = 42) → τ c i k = σ c i k) (es : SC σ s) : PrF σ fa fm := by
  obtain ⟨⟨P, T, M, h1⟩, h2, h3, h4, h5⟩ := h
  exact ⟨r, s, τ, ha, hm, ⟨⟨P, T, M, CX_o h1 (fun c i k q => e c i k (by omega))⟩, hS, TR_e h3 (fun c i k q => e c i k (by omega)), IM_e h4 (fun c i k q => e c i k (by omega)), TB_e h5 (fun c i k q => e c i k (by omega))⟩, fun i k => e _ _ _ (by omega), es⟩
theorem R_clear_L {N b : Nat} : ∀ k j f σ, j + k = 24 → k < f → ∃ σ', fH_clear_L12 N b f (nI j) σ = some σ' ∧ (∀ i, j ≤ i → i < 24 → σ' 23 b i = 0) ∧ (∀ c i x, ¬ (c = 23 ∧ i = b ∧ j ≤ x ∧ x < 24) → σ' c i x = σ c i x)
  | k, j, 0, σ, h1, h2 => absurd h2 (by omega)
  | 0, j, f + 1, σ, h1, h2 => by
    have hq : (24 : Int32) ≤ nI j := (nI_leI (a := 24) (by omega) (by omega)).mpr (by omega)
    rw [fH_clear_L12, if_pos hq]
    exact ⟨σ, rfl, fun i a b => by omega, fun _ _ _ _ => rfl⟩
  | k + 1, j, f + 1, σ, h1, h2 => by
    have hq : ¬ ((24 : Int32) ≤ nI j) := fun r => absurd ((nI_leI (a := 24) (by omega) (by omega)).mp r) (by omega)
    rw [fH_clear_L12, if_neg hq]
    simp (disch := omega) only [zlt_eq, zgd_T, zin_T, zb2_s, zbd_s, n_cl, n_sub1, n_predm, n_sc, if_nle, if_nle0, if_nle1, if_le, if_true, if_false]
    obtain ⟨σ', r1, r2, r3⟩ := R_clear_L (N := N) (b := b) k (j + 1) f (zup σ 23 b j 0) (by omega) (by omega)
    refine ⟨σ', r1, fun i a b => ?_, fun c i x hc => ?_⟩
    · by_cases e : i = j
      · subst e
        rw [r3 _ _ _ (by omega), zup_s]
      · exact r2 i (by omega) b
    · rw [r3 c i x (by omega)]
      unfold zup
      rw [if_neg (by omega)]
theorem R_clear {N b : Nat} (hN : 25 ≤ N) {x y : Int32} {σ : zS} : ∃ σ', fH_clear N b x y σ = some σ' ∧ σ' 4 b 2 = x ∧ σ' 4 b 1 = y ∧ (∀ i, i < 24 → σ' 23 b i = 0) ∧ (∀ c i k, ¬ ((c = 4 ∨ c = 23) ∧ i = b) → σ' c i k = σ c i k) := by
  obtain ⟨σ', r1, r2, r3⟩ := R_clear_L (N := N) (b := b) 24 0 N (zup (zup σ 4 b 2 x) 4 b 1 y) (by omega) (by omega)
  refine ⟨σ', ?_, ?_, ?_, fun i hi => r2 i (by omega) hi, fun c i k hc => ?_⟩
  · unfold fH_clear
    rw [zlt_eq, zlt_eq]
    exact r1
  · rw [r3 _ _ _ (by omega), zup_k (by omega), zup_s]
  · rw [r3 _ _ _ (by omega), zup_s]
  · rw [r3 _ _ _ (by omega)]
    unfold zup
    rw [if_neg (by omega), if_neg (by omega)]
theorem M_clear_L {N b : Nat} (hb : b < 4) : ∀ k j f σ, j + k = 24 → k < f → ∃ σ', fM_sheet_L90 N f (nI b) (nI j) σ = some (1, σ') ∧ (∀ i, j ≤ i → i < 24 → σ' 41 0 (24 * b + i) = 0) ∧ (∀ c i x, ¬ (c = 41 ∧ i = 0 ∧ 24 * b + j ≤ x ∧ x < 24 * b + 24) → σ' c i x = σ c i x)
  | k, j, 0, σ, h1, h2 => absurd h2 (by omega)
  | 0, j, f + 1, σ, h1, h2 => by
    have hq : (24 : Int32) ≤ nI j := (nI_leI (a := 24) (by omega) (by omega)).mpr (by omega)
    rw [fM_sheet_L90, if_pos hq]
    exact ⟨σ, rfl, fun i a b => by omega, fun _ _ _ _ => rfl⟩
  | k + 1, j, f + 1, σ, h1, h2 => by
    have hq : ¬ ((24 : Int32) ≤ nI j) := fun r => absurd ((nI_leI (a := 24) (by omega) (by omega)).mp r) (by omega)
    have hx : 24 * nI b + nI j = nI (24 * b + j) := by rw [l24, n_mul, n_add]
    rw [fM_sheet_L90, if_neg hq, hx]
    simp (disch := omega) only [zlt_eq, zgd_T, zin_T, zb2_s, zbd_s, n_cl, n_sub1, n_predm, n_sc, if_nle, if_nle0, if_nle1, if_le, if_true, if_false]
    obtain ⟨σ', r1, r2, r3⟩ := M_clear_L (N := N) hb k (j + 1) f (zup σ 41 0 (24 * b + j) 0) (by omega) (by omega)
    refine ⟨σ', r1, fun i a b => ?_, fun c i x hc => ?_⟩
    · by_cases e : i = j
      · subst e
        rw [r3 _ _ _ (by omega), zup_s]
      · exact r2 i (by omega) b
    · rw [r3 c i x (by omega)]
      unfold zup
      rw [if_neg (by omega)]
theorem M_clear {N b : Nat} (hN : 25 ≤ N) (hb : b < 4) {x y n : Int32} {σ : zS} (hn : n = if x = 0 then 0 else y) : ∃ σ', fM_sheet_J65 N (nI b) x y σ = some (1, σ') ∧ σ' 39 0 b = x ∧ σ' 40 0 b = n ∧ (∀ i, i < 24 → σ' 41 0 (24 * b + i) = 0) ∧ (∀ c i k, ¬ ((c = 39 ∨ c = 40) ∧ i = 0 ∧ k = b) → ¬ (c = 41 ∧ i = 0 ∧ 24 * b ≤ k ∧ k < 24 * b + 24) → σ' c i k = σ c i k) := by
  obtain ⟨σ', r1, r2, r3⟩ := M_clear_L (N := N) hb 24 0 N (zup (zup σ 39 0 b x) 40 0 b n) (by omega) (by omega)
  refine ⟨σ', ?_, ?_, ?_, fun i hi => r2 i (by omega) hi, fun c i k hc hc2 => ?_⟩
  · unfold fM_sheet_J65 fM_sheet_J86
    simp (disch := omega) only [zlt_eq, zgd_T, zin_T, zb2_s, zbd_s, n_cl, n_sub1, n_predm, n_sc, if_nle, if_nle0, if_nle1, if_le, if_true, if_false]
    subst hn
    by_cases q : x = 0
    · rw [if_pos q]
      rw [if_pos q] at r1
      exact r1
    · rw [if_neg q]
      rw [if_neg q] at r1
      exact r1
  · rw [r3 _ _ _ (by omega), zup_o (by omega), zup_s]
  · rw [r3 _ _ _ (by omega), zup_s]
  · rw [r3 _ _ _ (by omega)]
    unfold zup
    rw [if_neg (by omega), if_neg (by omega)]
theorem SH_made {σ τ : zS} (h : SH σ) {b bt n : Nat} (hb : b < 4) (hbt : bt = 0 ∨ bt = 8 ∨ bt = 16 ∨ bt = 32) (hn : n ≤ 24) (h1 : τ 4 b 2 = nI bt) (h2 : τ 39 0 b = nI bt) (h3 : τ 4 b 1 = nI n) (h4 : τ 40 0 b = nI n) (h5 : ∀ i, i < 24 → τ 23 b i = 0 ∧ τ 41 0 (24 * b + i) = 0) (e : ∀ c i k, ((c = 4 ∨ c = 23) ∧ i ≠ b) ∨ ((c = 39 ∨ c = 40) ∧ i = 0 ∧ k ≠ b) ∨ (c = 41 ∧ i = 0 ∧ ¬ (24 * b ≤ k ∧ k < 24 * b + 24)) → τ c i k = σ c i k) : SH τ := by
  intro b' hb'
  by_cases q : b' = b
  · subst q
    refine ⟨⟨bt, hbt, h1, h2⟩, ⟨n, hn, h3, h4⟩, fun i hi => Or.inl ?_⟩
    rw [(h5 i hi).1, (h5 i hi).2]
  · obtain ⟨⟨bt', g1, g2, g3⟩, ⟨n', g4, g5, g6⟩, g7⟩ := h b' hb'
    refine ⟨⟨bt', g1, by rw [e _ _ _ (by omega)]; exact g2, by rw [e _ _ _ (by omega)]; exact g3⟩, ⟨n', g4, by rw [e _ _ _ (by omega)]; exact g5, by rw [e _ _ _ (by omega)]; exact g6⟩, fun i hi => ?_⟩
    rw [e _ _ _ (by omega), e _ _ _ (by omega)]
    exact g7 i hi
theorem P_sheet {N : Nat} (hN : 901 ≤ N) {σ : zS} (h : Full σ) (x1 x2 x3 : Int32) : PrF σ (fA_sheet N x1 x2 x3) (fM_sheet N x1 x2 x3) := by
  have hF := h
  obtain ⟨⟨P, T, M, c⟩, hS, -, -, -⟩ := h
  by_cases q1 : wi x1 3
  · have a1 := (A_isSheet (x := x1)).1 q1
    have m1 := (M_isSheet (x := x1)).1 q1
    obtain ⟨b, hb, rfl⟩ := q1
    by_cases q2 : x2 = 0 ∨ x2 = 8 ∨ x2 = 16 ∨ x2 = 32
    · have hA : ∀ s, fA_sheet N (nI b) x2 x3 s = fA_sheet_J35 N (nI b) x2 x3 s := by
        intro s
        unfold fA_sheet
        rw [a1, zbd_s, if_neg (by decide)]
        rcases q2 with q | q | q | q <;> subst q <;> rfl
      have hM : ∀ s, fM_sheet N (nI b) x2 x3 s = fM_sheet_J35 N (nI b) x2 x3 s := by
        intro s
        unfold fM_sheet
        rw [m1, zbd_s, if_neg (by decide)]
        rcases q2 with q | q | q | q <;> subst q <;> rfl
      have hbt : ∃ bt, (bt = 0 ∨ bt = 8 ∨ bt = 16 ∨ bt = 32) ∧ x2 = nI bt := by
        rcases q2 with q | q | q | q
        · exact ⟨0, by omega, q⟩
        · exact ⟨8, by omega, q⟩
        · exact ⟨16, by omega, q⟩
        · exact ⟨32, by omega, q⟩
      obtain ⟨bt, hbt, hx2⟩ := hbt
      have go : ∀ n, n ≤ 24 → (fA_sheet_J35 N (nI b) x2 x3 σ = (fH_clear N b x2 (nI n) σ).bind fun s14 => some (1, s14)) → (∀ s, fM_sheet_J35 N (nI b) x2 x3 s = fM_sheet_J65 N (nI b) x2 x3 s) → nI n = (if x2 = 0 then 0 else x3) → PrF σ (fA_sheet N (nI b) x2 x3) (fM_sheet N (nI b) x2 x3) := by
        intro n hn g1 g2 g3
        obtain ⟨s, r1, r2, r3, r4, r5⟩ := R_clear (N := N) (b := b) (by omega) (x := x2) (y := nI n) (σ := σ)
        obtain ⟨τ, t1, t2, t3, t4, t5⟩ := M_clear (N := N) (b := b) (by omega) (by omega) (x := x2) (y := x3) (σ := s) g3
        refine PrF_sh hF (r := 1) (s := s) (τ := τ) ?_ ?_ (SH_made hS (by omega) hbt hn ?_ (t2.trans hx2) ?_ t3 (fun i hi => ⟨?_, t4 i hi⟩) (fun c i k hc => ?_)) (fun c i k hc => ?_) (fun i k => r5 _ _ _ (by omega))
        · rw [hA, g1, r1, zbd_s]
        · rw [hM, g2, t1]
        · rw [t5 _ _ _ (by omega) (by omega), r2, hx2]
        · rw [t5 _ _ _ (by omega) (by omega), r3]
        · rw [t5 _ _ _ (by omega) (by omega), r4 i hi]
        · rw [t5 c i k (by omega) (by omega), r5 c i k (by omega)]
        · rw [t5 c i k (by omega) (by omega), r5 c i k (by omega)]
      by_cases z : x2 = 0
      · refine go 0 (by omega) ?_ (fun s => ?_) (by rw [if_pos z]; rfl)
        · unfold fA_sheet_J35
          rw [if_pos z]
          simp (disch := omega) only [zlt_eq, zgd_T, zin_T, zb2_s, zbd_s, n_cl, n_sub1, n_predm, n_sc, if_nle, if_nle0, if_nle1, if_le, if_true, if_false]
          rw [z]
          rfl
        · unfold fM_sheet_J35 fM_sheet_J49
          rw [if_pos z, if_pos z]
      · by_cases z1 : 0 ≤ x3
        · by_cases z2 : x3 ≤ 24
          · have hx3 : ∃ n, n ≤ 24 ∧ x3 = nI n := by
              have h0 : (0 : Int32).toInt = 0 := by decide
              have h24 : (24 : Int32).toInt = 24 := by decide
              rw [i32_le] at z1 z2
              exact ⟨x3.toInt.toNat, by omega, i32_nat (by omega)⟩
            obtain ⟨n, hn, hx3⟩ := hx3
            refine go n hn ?_ (fun s => ?_) (by rw [if_neg z, hx3])
            · unfold fA_sheet_J35
              rw [if_neg z, if_pos z1, if_pos z2]
              simp (disch := omega) only [zlt_eq, zgd_T, zin_T, zb2_s, zbd_s, n_cl, n_sub1, n_predm, n_sc, if_nle, if_nle0, if_nle1, if_le, if_true, if_false]
              rw [hx3]
            · unfold fM_sheet_J35 fM_sheet_J49
              rw [if_neg z, if_neg z, if_pos z1, if_pos z2]
          · refine PrF_of hF (Pr_err c (e := 1) (by omega) (by omega) ?_ ?_)
            · rw [hA]
              unfold fA_sheet_J35
              rw [if_neg z, if_pos z1, if_neg z2, zb2_id]
              rfl
            · rw [hM]
              unfold fM_sheet_J35 fM_sheet_J49
              rw [if_neg z, if_pos z1, if_neg z, if_neg z2, zb2_id]
              rfl
        · refine PrF_of hF (Pr_err c (e := 3) (by omega) (by omega) ?_ ?_)
          · rw [hA]
            unfold fA_sheet_J35
            rw [if_neg z, if_neg z1, zb2_id]
            rfl
          · rw [hM]
            unfold fM_sheet_J35
            rw [if_neg z, if_neg z1, zb2_id]
            rfl
    · have k0 : ¬ x2 = 0 := fun r => q2 (Or.inl r)
      have k1 : ¬ x2 = 8 := fun r => q2 (Or.inr (Or.inl r))
      have k2 : ¬ x2 = 16 := fun r => q2 (Or.inr (Or.inr (Or.inl r)))
      have k3 : ¬ x2 = 32 := fun r => q2 (Or.inr (Or.inr (Or.inr r)))
      refine PrF_of hF (Pr_err c (e := 1) (by omega) (by omega) ?_ ?_)
      · unfold fA_sheet fA_sheet_J29
        rw [a1, zbd_s, if_neg (by decide), if_neg k0, if_neg k1, if_neg k2, if_neg k3, zb2_id]
        rfl
      · unfold fM_sheet fM_sheet_J29
        rw [m1, zbd_s, if_neg (by decide), if_neg k0, if_neg k1, if_neg k2, if_neg k3, zb2_id]
        rfl
  · have a1 := (A_isSheet (x := x1)).2 q1
    have m1 := (M_isSheet (x := x1)).2 q1
    refine PrF_of hF (Pr_err c (e := 1) (by omega) (by omega) ?_ ?_)
    · unfold fA_sheet fA_sheet_J29
      rw [a1, zbd_s, if_pos rfl, zb2_id]
      rfl
    · unfold fM_sheet fM_sheet_J29
      rw [m1, zbd_s, if_pos rfl, zb2_id]
      rfl
