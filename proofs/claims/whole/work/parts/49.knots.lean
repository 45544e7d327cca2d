/-! Pure mathematics: between, knots, crossings. -/
theorem n_and (a b : Nat) : nI a &&& nI b = nI (a &&& b) := by
  apply Int32.toBitVec_inj.mp
  show BitVec.ofNat 32 a &&& BitVec.ofNat 32 b = BitVec.ofNat 32 (a &&& b)
  rw [BitVec.ofNat_and]
def sUp (P : zP) : Nat → Nat → Nat → Nat → Nat
  | 0, _, acc, _ => acc
  | f + 1, s, acc, c => if c = 0 then acc else if s.testBit (c - 1) then acc else sUp P f s (acc + P 4 (c - 1)) (P 2 (c - 1))
theorem R_up_L {N b : Nat} {σ : zS} {P : zP} (h : VC b σ P) (hP : PI P) {s : Nat} (hs : s < 256) : ∀ f acc c y g, y + f = 8 → f < g → c ≤ 8 → fR_outUpTo_L8 N b g (nI s) (nI acc) (nO c) (nI y) σ = some (nI (sUp P f s acc c))
  | f, acc, c, y, 0, h1, h2, h3 => absurd h2 (by omega)
  | 0, acc, c, y, g + 1, h1, h2, h3 => by
    have h8 : (8 : Int32) ≤ nI y := (nI_leI (a := 8) (by omega) (by omega)).mpr (by omega)
    rw [fR_outUpTo_L8, if_pos h8]
    rfl
  | f + 1, acc, c, y, g + 1, h1, h2, h3 => by
    have h8 : ¬ ((8 : Int32) ≤ nI y) := fun r => absurd ((nI_leI (a := 8) (by omega) (by omega)).mp r) (by omega)
    rw [fR_outUpTo_L8, if_neg h8]
    unfold sUp
    by_cases q : c = 0
    · have : nO c < 0 := by rw [q]; decide
      rw [if_pos this, if_pos q]
    · have hlt : ¬ (nO c < 0) := by rw [l0, nO_lt (by omega)]; exact q
      have hm := hP.2.2.2.1 (c - 1) (by omega)
      have e2 : σ 16 b (c - 1) = nO (P 2 (c - 1)) := h.1 2 (c - 1) (by omega) (by omega)
      have e4 : σ 18 b (c - 1) = nI (P 4 (c - 1)) := h.1 4 (c - 1) (by omega) (by omega)
      rw [if_neg hlt, if_neg q, nO_pos q, b_r hs (by omega)]
      by_cases t : s.testBit (c - 1) = true
      · rw [if_pos t, if_pos t, if_neg (by decide)]
      · rw [if_neg t, if_neg t, if_pos (show nI 0 = 0 from rfl)]
        simp (disch := omega) only [zlt_eq, zgd_T, zin_T, zb2_s, zbd_s, n_cl, n_sub1, n_predm, n_sc, if_nle, if_nle0, if_nle1, if_le, if_true, if_false, e2, e4, n_add]
        exact R_up_L h hP hs f _ _ (y + 1) g (by omega) (by omega) (by omega)
theorem M_up_L {N : Nat} {σ : zS} {P : zP} (h : VM σ P) (hP : PI P) {s : Nat} (hs : s < 256) : ∀ f acc c g a, f < g → c ≤ 8 → (∃ j, s.testBit j = true ∧ (sLn P f a c).testBit j = true ∧ a.testBit j = false) → fM_outTo_L5 N g (nI s) (nI acc) (nO c) σ = some (nI (sUp P f s acc c))
  | f, acc, c, 0, a, h2, h3, hj => absurd h2 (by omega)
  | 0, acc, c, g + 1, a, h2, h3, hj => by
    obtain ⟨j, j1, j2, j3⟩ := hj
    unfold sLn at j2
    rw [j2] at j3
    cases j3
  | f + 1, acc, c, g + 1, a, h2, h3, hj => by
    obtain ⟨j, j1, j2, j3⟩ := hj
    rw [fM_outTo_L5]
    unfold sLn at j2
    unfold sUp
    by_cases q : c = 0
    · rw [if_pos q] at j2
      rw [j2] at j3
      cases j3
    · rw [if_neg q] at j2
      have hm := hP.2.2.2.1 (c - 1) (by omega)
      have e2 : fM_its (nI (c - 1)) 2 σ = some (nO (P 2 (c - 1))) := M_its h 2 (by omega) (by omega)
      have e4 : fM_its (nI (c - 1)) 4 σ = some (nI (P 4 (c - 1))) := M_its h 4 (by omega) (by omega)
      rw [if_neg q, nO_pos q, b_r hs (by omega)]
      by_cases t : s.testBit (c - 1) = true
      · rw [if_pos t, if_pos t, if_neg (by decide)]
      · rw [if_neg t, if_neg t, if_pos (show nI 0 = 0 from rfl), e4, zbd_s, zlt_eq, e2, zbd_s, n_add]
        refine M_up_L h hP hs f _ _ g _ (by omega) (by omega) ⟨j, j1, j2, ?_⟩
        rw [Nat.testBit_or, j3, Nat.testBit_two_pow]
        have : c - 1 ≠ j := fun r => t (by rw [r]; exact j1)
        simp [this]
theorem P_between {N : Nat} (hN : 901 ≤ N) {σ : zS} (h : Core σ) (x1 x2 : Int32) : Pr σ (fA_between N x1 x2) (fM_between N x1 x2) := by
  obtain ⟨P, T, M, c⟩ := h
  obtain ⟨c1, c2, c3, c3', c4, c5, c6, c7, c8, c9, c10⟩ := c
  have c : CX σ P T M := ⟨c1, c2, c3, c3', c4, c5, c6, c7, c8, c9, c10⟩
  have hn := c3.1
  by_cases q : thr P x1
  · have a1 := (A_there c1 c3).1 q
    have m1 := fun s (hs : VM s P) => (M_there hs c3).1 q
    by_cases q2 : thr P x2
    · have a2 := (A_there c1 c3).1 q2
      have m2 := fun s (hs : VM s P) => (M_there hs c3).1 q2
      obtain ⟨i, hi, rfl⟩ := q
      obtain ⟨j, hj, rfl⟩ := q2
      have b1 : sLine P i < 256 := sLn_lt c3 _ _ _ (by omega) (by omega)
      have b2 : sLine P j < 256 := sLn_lt c3 _ _ _ (by omega) (by omega)
      have b3 : sLine P i &&& sLine P j < 256 := by have := @Nat.and_le_left (sLine P i) (sLine P j); omega
      by_cases z : sLine P i &&& sLine P j = 0
      · refine Pr_err c (e := 2) (by omega) (by omega) ?_ ?_
        · unfold fA_between
          rw [a1, zbd_s, if_neg (by decide), a2, zbd_s, if_neg (by decide), R_line c1 c3 (by omega) hi, zbd_s, R_line c1 c3 (by omega) hj, zbd_s, zlt_eq, n_and, z, if_pos (show nI 0 = 0 from rfl), zb2_id]
          rfl
        · unfold fM_between
          rw [m1 _ (VM_26 c2), zbd_s, if_neg (by decide), m2 _ (VM_26 c2), zbd_s, if_neg (by decide), M_line (VM_26 c2) c3 (by omega) hi, zbd_s, M_line (VM_26 c2) c3 (by omega) hj, zbd_s, zlt_eq, n_and, z, if_pos (show nI 0 = 0 from rfl), zb2_id]
          rfl
      · have hz : ¬ (nI (sLine P i &&& sLine P j) = 0) := fun r => z ((nI_eq (b := 0) (by omega) (by omega)).mp r)
        obtain ⟨k, hk⟩ := Nat.exists_testBit_of_ne_zero z
        rw [Nat.testBit_and, Bool.and_eq_true] at hk
        have hk3 : (sLine P i &&& sLine P j).testBit k = true := by rw [Nat.testBit_and, hk.1, hk.2]; rfl
        have u1 : fR_outUpTo N 0 (nI i) (nI (sLine P i &&& sLine P j)) σ = some (nI (sUp P 8 (sLine P i &&& sLine P j) 0 (i + 1))) := by
          unfold fR_outUpTo
          rw [← nO_s]
          exact R_up_L c1 c3 b3 8 0 (i + 1) 0 N (by omega) (by omega) (by omega)
        have u2 : fR_outUpTo N 0 (nI j) (nI (sLine P i &&& sLine P j)) σ = some (nI (sUp P 8 (sLine P i &&& sLine P j) 0 (j + 1))) := by
          unfold fR_outUpTo
          rw [← nO_s]
          exact R_up_L c1 c3 b3 8 0 (j + 1) 0 N (by omega) (by omega) (by omega)
        have v1 : fM_outTo N (nI i) (nI (sLine P i &&& sLine P j)) σ = some (nI (sUp P 8 (sLine P i &&& sLine P j) 0 (i + 1))) := by
          unfold fM_outTo
          rw [← nO_s]
          exact M_up_L c2 c3 b3 8 0 (i + 1) N 0 (by omega) (by omega) ⟨k, hk3, hk.1, Nat.zero_testBit k⟩
        have v2 : fM_outTo N (nI j) (nI (sLine P i &&& sLine P j)) σ = some (nI (sUp P 8 (sLine P i &&& sLine P j) 0 (j + 1))) := by
          unfold fM_outTo
          rw [← nO_s]
          exact M_up_L c2 c3 b3 8 0 (j + 1) N 0 (by omega) (by omega) ⟨k, hk3, hk.2, Nat.zero_testBit k⟩
        refine Pr_look c (r := nI (sUp P 8 (sLine P i &&& sLine P j) 0 (i + 1)) + nI (sUp P 8 (sLine P i &&& sLine P j) 0 (j + 1))) ?_ ?_
        · unfold fA_between
          rw [a1, zbd_s, if_neg (by decide), a2, zbd_s, if_neg (by decide), R_line c1 c3 (by omega) hi, zbd_s, R_line c1 c3 (by omega) hj, zbd_s, zlt_eq, n_and, if_neg hz, u1, zbd_s, u2, zbd_s]
        · unfold fM_between
          rw [m1 _ c2, zbd_s, if_neg (by decide), m2 _ c2, zbd_s, if_neg (by decide), M_line c2 c3 (by omega) hi, zbd_s, M_line c2 c3 (by omega) hj, zbd_s, zlt_eq, n_and, if_neg hz, v1, zbd_s, v2, zbd_s]
    · refine Pr_err c (e := 1) (by omega) (by omega) ?_ ?_
      · unfold fA_between fA_between_J16
        rw [a1, zbd_s, if_neg (by decide), (A_there c1 c3).2 q2, zbd_s, if_pos rfl, zb2_id]
        rfl
      · unfold fM_between fM_between_J16
        rw [m1 _ (VM_26 c2), zbd_s, if_neg (by decide), (M_there (VM_26 c2) c3).2 q2, zbd_s, if_pos rfl, zb2_id]
        rfl
  · refine Pr_err c (e := 1) (by omega) (by omega) ?_ ?_
    · unfold fA_between fA_between_J16
      rw [(A_there c1 c3).2 q, zbd_s, if_pos rfl, zb2_id]
      rfl
    · unfold fM_between fM_between_J16
      rw [(M_there (VM_26 c2) c3).2 q, zbd_s, if_pos rfl, zb2_id]
      rfl
/-! how many bits -/
def pcb : Nat → Nat → Nat
  | 0, _ => 0
  | k + 1, s => s % 2 + pcb k (s / 2)
def pc (s : Nat) : Nat := pcb 8 s
theorem pcb_le : ∀ k s, pcb k s ≤ k
  | 0, s => Nat.le_refl 0
  | k + 1, s => by
    have := pcb_le k (s / 2)
    unfold pcb
    omega
theorem pc_le (s : Nat) : pc s ≤ 8 := pcb_le 8 s
theorem J_bc_all : ∀ s : Fin 256, fJ_bitCount (nI s.1) = some (nI (pc s.1)) := by decide +kernel
theorem J_bc {s : Nat} (h : s < 256) : fJ_bitCount (nI s) = some (nI (pc s)) := J_bc_all ⟨s, h⟩
theorem M_ones_mono {N : Nat} : ∀ f k a b r, fM_ones_L4 0 f a b = some r → fM_ones_L4 N (f + k) a b = some r
  | 0, k, a, b, r, h => by cases h
  | f + 1, k, a, b, r, h => by
    have e : f + 1 + k = (f + k) + 1 := by omega
    rw [e]
    rw [fM_ones_L4] at h ⊢
    by_cases q : b = 0
    · rw [if_pos q] at h ⊢
      exact h
    · rw [if_neg q, zlt_eq] at h ⊢
      exact M_ones_mono f k _ _ r h
theorem M_ones_all : ∀ s : Fin 256, fM_ones_L4 0 9 0 (nI s.1) = some (nI (pc s.1)) := by decide +kernel
theorem M_ones {N : Nat} (hN : 9 ≤ N) {s : Nat} (h : s < 256) : fM_ones N (nI s) = some (nI (pc s)) := by
  unfold fM_ones
  obtain ⟨k, rfl⟩ := Nat.exists_eq_add_of_le hN
  exact M_ones_mono 9 k _ _ _ (M_ones_all ⟨s, h⟩)
/-! the knot -/
def sOw (P : zP) (x : Nat) : Nat := sOv P x (P 7 0) 0 0
theorem sOw_lt {P : zP} (hP : PI P) (x : Nat) : sOw P x < 256 := sOv_lt _ _ _ (by have := hP.1; omega) (by omega)
def sKn (P : zP) : Nat → Nat → Nat → Nat → Nat × Nat
  | 0, _, w, m => (w, m)
  | k + 1, c, w, m => if pc (sOw P c) ≤ m then sKn P k (c + 1) w m else sKn P k (c + 1) c (pc (sOw P c))
theorem R_knot_L {N : Nat} (hN : 9 ≤ N) {σ : zS} {P : zP} (h : VC 0 σ P) (hP : PI P) {x : Int32} : ∀ k c w m f, c + k = 64 → k < f → m ≤ 8 → fA_knot_L21 N f x (nI w) (nI m) (nI c) σ = if x = 0 then some (nI (sKn P k c w m).1, σ) else some (nI (sKn P k c w m).2, σ)
  | k, c, w, m, 0, h1, h2, h3 => absurd h2 (by omega)
  | 0, c, w, m, f + 1, h1, h2, h3 => by
    have hq : (63 : Int32) < nI c := (nI_ltI (a := 63) (by omega) (by omega)).mpr (by omega)
    rw [fA_knot_L21, if_pos hq]
    rfl
  | k + 1, c, w, m, f + 1, h1, h2, h3 => by
    have hq : ¬ ((63 : Int32) < nI c) := fun r => absurd ((nI_ltI (a := 63) (by omega) (by omega)).mp r) (by omega)
    have hp := pc_le (sOw P c)
    have ho : fR_stringsOver N 0 (nI c) σ = some (nI (sOw P c)) := R_over h hP hN (by omega)
    rw [fA_knot_L21, if_neg hq, ho, zbd_s, J_bc (sOw_lt hP c), zbd_s, n_sc]
    unfold sKn
    by_cases z : pc (sOw P c) ≤ m
    · rw [if_le z (by omega), if_pos z]
      exact R_knot_L hN h hP k (c + 1) w m f (by omega) (by omega) h3
    · rw [if_nle (by omega) (by omega), if_neg z]
      exact R_knot_L hN h hP k (c + 1) c _ f (by omega) (by omega) (by omega)
theorem M_knot_L {N : Nat} (hN : 9 ≤ N) {σ : zS} {P : zP} (h : VM σ P) (hP : PI P) {x : Int32} : ∀ k c w m f, c + k = 64 → k < f → m ≤ 8 → fM_knot_L22 N f x (nI w) (nI m) (nI c) σ = if x = 0 then some (nI (sKn P k c w m).1, σ) else some (nI (sKn P k c w m).2, σ)
  | k, c, w, m, 0, h1, h2, h3 => absurd h2 (by omega)
  | 0, c, w, m, f + 1, h1, h2, h3 => by
    have hq : (64 : Int32) ≤ nI c := (nI_leI (a := 64) (by omega) (by omega)).mpr (by omega)
    rw [fM_knot_L22, if_pos hq]
    rfl
  | k + 1, c, w, m, f + 1, h1, h2, h3 => by
    have hq : ¬ ((64 : Int32) ≤ nI c) := fun r => absurd ((nI_leI (a := 64) (by omega) (by omega)).mp r) (by omega)
    have hp := pc_le (sOw P c)
    have ho : fM_overAt N (nI c) σ = some (nI (sOw P c)) := M_over h hP hN (by omega)
    rw [fM_knot_L22, if_neg hq, ho, zbd_s, M_ones hN (sOw_lt hP c), zbd_s]
    unfold sKn fM_knot_J52
    dsimp only
    rw [n_sc]
    by_cases z : pc (sOw P c) ≤ m
    · rw [if_le z (by omega), if_le z (by omega), if_pos z]
      exact M_knot_L hN h hP k (c + 1) w m f (by omega) (by omega) h3
    · rw [if_nle (by omega) (by omega), if_nle (by omega) (by omega), if_neg z]
      exact M_knot_L hN h hP k (c + 1) c _ f (by omega) (by omega) (by omega)
theorem P_knot {N : Nat} (hN : 901 ≤ N) {σ : zS} (h : Core σ) (x1 : Int32) : Pr σ (fA_knot N x1) (fM_knot N x1) := by
  obtain ⟨P, T, M, c⟩ := h
  obtain ⟨c1, c2, c3, c3', c4, c5, c6, c7, c8, c9, c10⟩ := c
  have c : CX σ P T M := ⟨c1, c2, c3, c3', c4, c5, c6, c7, c8, c9, c10⟩
  have hn := c3.1
  have a1 := A_within (x := x1) (B := 1) (by omega)
  have m1 := M_in (x := x1) (B := 1) (by omega)
  by_cases q1 : wi x1 1
  · have a1 : fA_within x1 1 = some 1 := a1.1 q1
    have m1 : fM_in x1 0 1 = some 1 := m1.1 q1
    refine Pr_look c (r := if x1 = 0 then nI (sKn P 64 0 0 0).1 else nI (sKn P 64 0 0 0).2) ?_ ?_
    · unfold fA_knot
      rw [a1, zbd_s, if_neg (by decide)]
      refine (R_knot_L (N := N) (by omega) c1 c3 64 0 0 0 N (by omega) (by omega) (by omega)).trans ?_
      split <;> rfl
    · unfold fM_knot
      rw [m1, zbd_s, if_neg (by decide)]
      refine (M_knot_L (N := N) (by omega) c2 c3 64 0 0 0 N (by omega) (by omega) (by omega)).trans ?_
      split <;> rfl
  · have a1 : fA_within x1 1 = some 0 := a1.2 q1
    have m1 : fM_in x1 0 1 = some 0 := m1.2 q1
    refine Pr_err c (e := 1) (by omega) (by omega) ?_ ?_
    · unfold fA_knot
      rw [a1, zbd_s, if_pos rfl, zb2_id]
      rfl
    · unfold fM_knot
      rw [m1, zbd_s, if_pos rfl, zb2_id]
      rfl
/-! crossings -/
def sr (f : Nat → Nat) : Nat → Nat → Nat
  | 0, _ => 0
  | k + 1, j => f j + sr f k (j + 1)
theorem sr_snoc (f : Nat → Nat) : ∀ k j, sr f (k + 1) j = sr f k j + f (j + k)
  | 0, j => by
    show f j + 0 = 0 + f (j + 0)
    rw [Nat.add_zero, Nat.add_zero, Nat.zero_add]
  | k + 1, j => by
    have := sr_snoc f k (j + 1)
    unfold sr
    rw [this, show j + 1 + k = j + (k + 1) by omega]
    omega
theorem sr_add (f g : Nat → Nat) : ∀ k j, sr (fun i => f i + g i) k j = sr f k j + sr g k j
  | 0, j => rfl
  | k + 1, j => by
    have := sr_add f g k (j + 1)
    unfold sr
    rw [this]
    omega
theorem sr_c {f g : Nat → Nat} : ∀ k j, (∀ i, j ≤ i → i < j + k → f i = g i) → sr f k j = sr g k j
  | 0, j, h => rfl
  | k + 1, j, h => by
    unfold sr
    rw [h j (by omega) (by omega), sr_c k (j + 1) (fun i a b => h i (by omega) (by omega))]
theorem sr_le {f : Nat → Nat} {m : Nat} : ∀ k j, (∀ i, f i ≤ m) → sr f k j ≤ k * m
  | 0, j, h => Nat.zero_le _
  | k + 1, j, h => by
    have := sr_le k (j + 1) h
    have h0 := h j
    unfold sr
    rw [Nat.succ_mul]
    omega
theorem sr_swap (X : Nat → Nat → Nat) (hX : ∀ a, X a a = 0) : ∀ n, sr (fun a => sr (X a) n 0) n 0 = sr (fun a => sr (fun b => X a b + X b a) a 0) n 0
  | 0 => rfl
  | n + 1 => by
    have ih := sr_swap X hX n
    rw [sr_snoc, sr_snoc, Nat.zero_add]
    have e1 : sr (fun a => sr (X a) (n + 1) 0) n 0 = sr (fun a => sr (X a) n 0) n 0 + sr (fun a => X a n) n 0 := by
      rw [← sr_add]
      exact sr_c _ _ (fun i _ _ => by rw [sr_snoc, Nat.zero_add])
    rw [e1, sr_snoc, sr_add, ih, Nat.zero_add, hX]
    omega
def sHi (P : zP) (i : Nat) : Nat := sLow P i + sA P i
def sX (P : zP) (a b : Nat) : Nat := if P 2 a ≠ 0 ∧ P 2 b ≠ 0 ∧ sLow P a < sLow P b ∧ sLow P b < sHi P a ∧ sHi P a < sHi P b then 1 else 0
theorem sX_s (P : zP) (a : Nat) : sX P a a = 0 := if_neg (by omega)
theorem R_high {b : Nat} {σ : zS} {P : zP} (h : VC b σ P) (hP : PI P) {i : Nat} (hi : i < 8) (h2 : P 2 i ≠ 0) : fR_high b (nI i) σ = some (nI (sHi P i)) := by
  unfold fR_high
  rw [R_low h hP hi h2, zbd_s, R_apart h hP hi, zbd_s, n_add]
  rfl
theorem M_high {σ : zS} {P : zP} (h : VM σ P) (hP : PI P) {i : Nat} (hi : i < 8) (h2 : P 2 i ≠ 0) : fM_highEnd (nI i) σ = some (nI (sHi P i)) := by
  unfold fM_highEnd
  rw [M_low h hP hi h2, zbd_s, M_apart h hP hi, zbd_s, n_add]
  rfl
theorem sHi_le {P : zP} (hP : PI P) {i : Nat} (hi : i < 8) : sHi P i ≤ 126 := by
  have h1 := sLow_le hP hi
  have h2 := sA_le hP hi
  unfold sHi
  omega
theorem R_cross {σ : zS} {P : zP} (h : VC 0 σ P) (hP : PI P) {i j : Nat} (hi : i < 8) (hj : j < 8) : fR_cross 0 (nI i) (nI j) σ = some (nI (sX P i j + sX P j i)) := by
  unfold fR_cross
  by_cases q : P 2 i = 0
  · rw [A_tied h hP hi, zbd_s, if_pos q, if_pos rfl]
    have e1 : sX P i j = 0 := if_neg (by omega)
    have e2 : sX P j i = 0 := if_neg (by omega)
    rw [e1, e2]
    rfl
  · rw [A_tied h hP hi, zbd_s, if_neg q, if_neg (by decide)]
    by_cases q2 : P 2 j = 0
    · rw [A_tied h hP hj, zbd_s, if_pos q2, if_pos rfl]
      have e1 : sX P i j = 0 := if_neg (by omega)
      have e2 : sX P j i = 0 := if_neg (by omega)
      rw [e1, e2]
      rfl
    · rw [A_tied h hP hj, zbd_s, if_neg q2, if_neg (by decide)]
      have a1 := R_low h hP hi q
      have a2 := R_low h hP hj q2
      have a3 := R_high h hP hi q
      have a4 := R_high h hP hj q2
      have b1 := sLow_le hP hi
      have b2 := sLow_le hP hj
      have b3 := sHi_le hP hi
      have b4 := sHi_le hP hj
      have J62 : ∀ u : Int32, fR_cross_J62 0 (nI i) (nI j) u σ = fR_cross_J107 0 u (nI (sX P j i)) σ := by
        intro u
        unfold fR_cross_J62 fR_cross_J106 sX
        rw [a1, a2, a3, a4, zbd_s, zbd_s, zbd_s, zbd_s, zbd_s, zbd_s]
        by_cases p1 : sLow P i ≤ sLow P j
        · rw [if_le p1 (by omega), if_neg (by omega)]
          rfl
        · rw [if_nle (by omega) (by omega)]
          by_cases p2 : sHi P j ≤ sLow P i
          · rw [if_le p2 (by omega), if_neg (by omega)]
            rfl
          · rw [if_nle (by omega) (by omega)]
            by_cases p3 : sHi P i ≤ sHi P j
            · rw [if_le p3 (by omega), if_neg (by omega)]
              rfl
            · rw [if_nle (by omega) (by omega), if_pos (by omega)]
              rfl
      have Je : ∀ u v, (u = 0 ∨ u = 1) → (v = 0 ∨ v = 1) → (u + v ≤ 1) → fR_cross_J107 0 (nI u) (nI v) σ = some (nI (u + v)) := by
        intro u v hu hv huv
        unfold fR_cross_J107
        rcases hu with rfl | rfl <;> rcases hv with rfl | rfl
        · rfl
        · rfl
        · rfl
        · omega
      have x01 : ∀ a b, sX P a b = 0 ∨ sX P a b = 1 := by
        intro a b
        unfold sX
        split
        · exact Or.inr rfl
        · exact Or.inl rfl
      rw [a1, a2, a3, a4, zbd_s, zbd_s, zbd_s, zbd_s, zbd_s, zbd_s]
      have J61 : fR_cross_J61 0 (nI i) (nI j) σ = some (nI (0 + sX P j i)) := by
        unfold fR_cross_J61
        rw [J62]
        exact Je 0 _ (Or.inl rfl) (x01 j i) (by have := x01 j i; omega)
      by_cases p1 : sLow P j ≤ sLow P i
      · have e1 : sX P i j = 0 := if_neg (by omega)
        rw [if_le p1 (by omega), J61, e1]
      · rw [if_nle (by omega) (by omega)]
        have e2 : sX P j i = 0 := if_neg (by omega)
        by_cases p2 : sHi P i ≤ sLow P j
        · have e1 : sX P i j = 0 := if_neg (by omega)
          rw [if_le p2 (by omega), J61, e1]
        · rw [if_nle (by omega) (by omega)]
          by_cases p3 : sHi P j ≤ sHi P i
          · have e1 : sX P i j = 0 := if_neg (by omega)
            rw [if_le p3 (by omega), J61, e1]
          · have e1 : sX P i j = 1 := if_pos (by omega)
            rw [if_nle (by omega) (by omega), J62, e1, e2]
            exact Je 1 0 (Or.inr rfl) (Or.inl rfl) (by omega)
theorem M_cross {σ : zS} {P : zP} (h : VM σ P) (hP : PI P) {i j : Nat} (hi : i < 8) (hj : j < 8) (q : P 2 i ≠ 0) (q2 : P 2 j ≠ 0) : fM_doCross (nI i) (nI j) σ = some (nI (sX P i j)) := by
  have a1 := M_low h hP hi q
  have a2 := M_low h hP hj q2
  have a3 := M_high h hP hi q
  have a4 := M_high h hP hj q2
  have b1 := sLow_le hP hi
  have b2 := sLow_le hP hj
  have b3 := sHi_le hP hi
  have b4 := sHi_le hP hj
  unfold fM_doCross sX
  rw [a1, a2, a3, a4, zbd_s, zbd_s, zbd_s, zbd_s, zbd_s, zbd_s]
  by_cases p1 : sLow P j ≤ sLow P i
  · rw [if_le p1 (by omega), if_neg (by omega)]
    rfl
  · rw [if_nle (by omega) (by omega)]
    by_cases p2 : sHi P i ≤ sLow P j
    · rw [if_le p2 (by omega), if_neg (by omega)]
      rfl
    · rw [if_nle (by omega) (by omega)]
      by_cases p3 : sHi P j ≤ sHi P i
      · rw [if_le p3 (by omega), if_neg (by omega)]
        rfl
      · rw [if_nle (by omega) (by omega), if_pos (by omega)]
        rfl
theorem R_cr17 {N : Nat} {σ : zS} {P : zP} (h : VC 0 σ P) (hP : PI P) (K : Int32 → Int32 → zS → Option Int32) {a : Nat} (ha : a < 8) : ∀ k j acc f, j + k = a → k < f → fA_crossings_L17 N K f (nI acc) (nI a) (nI j) σ = K (nI (acc + sr (fun b => sX P a b + sX P b a) k j)) (nI (a + 1)) σ
  | k, j, acc, 0, h1, h2 => absurd h2 (by omega)
  | 0, j, acc, f + 1, h1, h2 => by
    rw [fA_crossings_L17, if_le (by omega) (by omega), n_sc]
    rfl
  | k + 1, j, acc, f + 1, h1, h2 => by
    rw [fA_crossings_L17, if_nle (by omega) (by omega), R_cross h hP ha (by omega), zbd_s, n_sc, n_sc]
    have e : sr (fun b => sX P a b + sX P b a) (k + 1) j = (sX P a j + sX P j a) + sr (fun b => sX P a b + sX P b a) k (j + 1) := rfl
    rw [e]
    have hle : sX P a j + sX P j a = 0 ∨ sX P a j + sX P j a = 1 := by
      unfold sX
      split <;> split <;> omega
    rcases hle with z | z
    · rw [z, if_pos (show nI 0 = 0 from rfl), Nat.zero_add]
      exact R_cr17 h hP K ha k (j + 1) acc f (by omega) (by omega)
    · rw [z, if_neg (by decide), ← Nat.add_assoc]
      exact R_cr17 h hP K ha k (j + 1) (acc + 1) f (by omega) (by omega)
theorem R_cr4 {N : Nat} (hN : 9 ≤ N) {σ : zS} {P : zP} (h : VC 0 σ P) (hP : PI P) : ∀ k j acc f, j + k = P 7 0 → k < f → fA_crossings_L4 N f (nI acc) (nI j) σ = some (nI (acc + sr (fun a => sr (fun b => sX P a b + sX P b a) a 0) k j))
  | k, j, acc, 0, h1, h2 => absurd h2 (by omega)
  | 0, j, acc, f + 1, h1, h2 => by
    have hn := hP.1
    rw [fA_crossings_L4, h.2.2.1, if_le (by omega) (by omega)]
    rfl
  | k + 1, j, acc, f + 1, h1, h2 => by
    have hn := hP.1
    rw [fA_crossings_L4, h.2.2.1, if_nle (by omega) (by omega)]
    refine (R_cr17 h hP _ (a := j) (by omega) j 0 acc N (by omega) (by omega)).trans ?_
    rw [R_cr4 hN h hP k (j + 1) _ f (by omega) (by omega), Nat.add_assoc]
    rfl
theorem M_cr16 {N : Nat} {σ : zS} {P : zP} (h : VM σ P) (hP : PI P) (K : Int32 → Int32 → zS → Option Int32) {a : Nat} (ha : a < 8) : ∀ k j acc f, j + k = P 7 0 → k < f → fM_crossings_L16 N K f (nI acc) (nI a) (nI j) σ = K (nI (acc + sr (sX P a) k j)) (nI (a + 1)) σ
  | k, j, acc, 0, h1, h2 => absurd h2 (by omega)
  | 0, j, acc, f + 1, h1, h2 => by
    have hn := hP.1
    rw [fM_crossings_L16, h.2.2.1, if_le (by omega) (by omega), n_sc]
    rfl
  | k + 1, j, acc, f + 1, h1, h2 => by
    have hn := hP.1
    have hj : j < 8 := by omega
    have e : sr (sX P a) (k + 1) j = sX P a j + sr (sX P a) k (j + 1) := rfl
    have hJ : fM_crossings_J56 N K (fun y1 y2 y3 σ => fM_crossings_L16 N K f y1 y2 y3 σ) (nI a) (nI j) (nI acc) σ = K (nI (acc + (0 + sr (sX P a) k (j + 1)))) (nI (a + 1)) σ := by
      unfold fM_crossings_J56
      rw [zlt_eq, n_sc, l0, n_add, Nat.zero_add]
      exact M_cr16 h hP K ha k (j + 1) acc f (by omega) (by omega)
    rw [fM_crossings_L16, h.2.2.1, if_nle (by omega) (by omega), M_tied h hP ha, zbd_s, e]
    by_cases q : P 2 a = 0
    · have z : sX P a j = 0 := if_neg (by omega)
      rw [if_pos q, if_pos rfl, hJ, z]
    · rw [if_neg q, if_neg (by decide), M_tied h hP hj, zbd_s]
      by_cases q2 : P 2 j = 0
      · have z : sX P a j = 0 := if_neg (by omega)
        rw [if_pos q2, if_pos rfl, hJ, z]
      · rw [if_neg q2, if_neg (by decide), M_cross h hP ha hj q q2, zbd_s]
        have hle : sX P a j = 0 ∨ sX P a j = 1 := by
          unfold sX
          split <;> omega
        rcases hle with z | z
        · rw [z, if_pos (show nI 0 = 0 from rfl), hJ]
        · rw [z, if_neg (by decide), zlt_eq, n_sc, n_sc, ← Nat.add_assoc]
          exact M_cr16 h hP K ha k (j + 1) (acc + 1) f (by omega) (by omega)
theorem M_cr4 {N : Nat} (hN : 9 ≤ N) {σ : zS} {P : zP} (h : VM σ P) (hP : PI P) : ∀ k j acc f, j + k = P 7 0 → k < f → fM_crossings_L4 N f (nI acc) (nI j) σ = some (nI (acc + sr (fun a => sr (sX P a) (P 7 0) 0) k j))
  | k, j, acc, 0, h1, h2 => absurd h2 (by omega)
  | 0, j, acc, f + 1, h1, h2 => by
    have hn := hP.1
    rw [fM_crossings_L4, h.2.2.1, if_le (by omega) (by omega)]
    rfl
  | k + 1, j, acc, f + 1, h1, h2 => by
    have hn := hP.1
    rw [fM_crossings_L4, h.2.2.1, if_nle (by omega) (by omega)]
    refine (M_cr16 h hP _ (a := j) (by omega) (P 7 0) 0 acc N (by omega) (by omega)).trans ?_
    rw [M_cr4 hN h hP k (j + 1) _ f (by omega) (by omega), Nat.add_assoc]
    rfl
/-- an answer out of a reader -/
def rd (f : zS → Option Int32) : zS → Option (Int32 × zS) := fun σ => (f σ).bind fun r => some (r, σ)
theorem P_crossings {N : Nat} (hN : 901 ≤ N) {σ : zS} (h : Core σ) : Pr σ (rd (fA_crossings N)) (rd (fM_crossings N)) := by
  obtain ⟨P, T, M, c⟩ := h
  obtain ⟨c1, c2, c3, c3', c4, c5, c6, c7, c8, c9, c10⟩ := c
  have c : CX σ P T M := ⟨c1, c2, c3, c3', c4, c5, c6, c7, c8, c9, c10⟩
  have hn := c3.1
  refine Pr_look c (r := nI (0 + sr (fun a => sr (sX P a) (P 7 0) 0) (P 7 0) 0)) ?_ ?_
  · unfold rd
    have := R_cr4 (N := N) (by omega) c1 c3 (P 7 0) 0 0 N (by omega) (by omega)
    rw [← sr_swap _ (sX_s P)] at this
    have h2 : fA_crossings N σ = _ := this
    rw [h2, zbd_s]
  · unfold rd
    have h2 : fM_crossings N σ = _ := M_cr4 (N := N) (by omega) c2 c3 (P 7 0) 0 0 N (by omega) (by omega)
    rw [h2, zbd_s]
