/-! Pure mathematics: the fewest strings. -/
def tu (P : zP) (j : Nat) : zP := pu (pu (pu P 2 j 0) 4 j 0) 5 j 0
def sUs (s : Nat) : Nat → Nat → zP → zP
  | 0, _, P => P
  | k + 1, j, P => sUs s k (j + 1) (if s.testBit j = true then tu P j else P)
theorem PI_tu {P : zP} (hP : PI P) {j : Nat} : PI (tu P j) := PI_w (PI_w (PI_w hP (by omega)) (by omega)) (by omega)
theorem tu_7 {P : zP} {j w x : Nat} (hw : w ≠ 2 ∧ w ≠ 4 ∧ w ≠ 5) : (tu P j) w x = P w x := by
  unfold tu
  rw [pu_w (by omega), pu_w (by omega), pu_w (by omega)]
theorem sUs_ok {s : Nat} : ∀ k j P, PI P → PI (sUs s k j P) ∧ (sUs s k j P) 7 0 = P 7 0 ∧ (sUs s k j P) 7 1 = P 7 1
  | 0, j, P, h => ⟨h, rfl, rfl⟩
  | k + 1, j, P, h => by
    unfold sUs
    split
    · obtain ⟨a, b, c⟩ := sUs_ok (s := s) k (j + 1) (tu P j) (PI_tu h)
      rw [tu_7 (by omega)] at b c
      exact ⟨a, b, c⟩
    · exact sUs_ok k (j + 1) P h
theorem R_untie {b : Nat} {σ : zS} {P : zP} (h : VC b σ P) {i : Nat} (hi : i < 8) : ∃ σ', fR_untie b (nI i) σ = some σ' ∧ VC b σ' (tu P i) ∧ FC b σ σ' := by
  refine ⟨zup (zup (zup σ 16 b i (-1)) 18 b i 0) 19 b i 0, ?_, VC_u 5 (VC_u 4 (VC_u 2 h (by omega) rfl) (by omega) rfl) (by omega) rfl, FC_t (FC_t (FC_u (by omega)) (FC_u (by omega))) (FC_u (by omega))⟩
  unfold fR_untie
  simp (disch := omega) only [zlt_eq, zgd_T, zin_T, zb2_s, zbd_s, n_cl, n_sub1, n_predm, n_sc, if_nle, if_nle0, if_nle1, if_le, if_true, if_false]
theorem M_unties {σ : zS} {P : zP} (h : VM σ P) {i : Nat} (hi : i < 8) : ∃ σ', fM_unties (nI i) σ = some σ' ∧ VM σ' (tu P i) ∧ FM σ σ' := by
  have l1' : ∀ s, fM_lays1 (nI i) 2 (-1) s = _ := fun s => M_lays 2 (by omega) hi
  have l2' : ∀ s, fM_lays1 (nI i) 4 0 s = _ := fun s => M_lays 4 (by omega) hi
  have l3' : ∀ s, fM_lays1 (nI i) 5 0 s = _ := fun s => M_lays 5 (by omega) hi
  refine ⟨zup (zup (zup σ 30 0 (12 + 6 * i + 2) (-1)) 30 0 (12 + 6 * i + 4) 0) 30 0 (12 + 6 * i + 5) 0, ?_, VM_u 5 (VM_u 4 (VM_u 2 h (by omega) hi rfl) (by omega) hi rfl) (by omega) hi rfl, FM_t (FM_t (FM_u (by omega)) (FM_u (by omega))) (FM_u (by omega))⟩
  unfold fM_unties
  rw [l1', zbd_s, l2', zbd_s, l3', zbd_s]
def sWo (T : Nat → Nat → Int32) (M : Nat → Nat) (P : zP) (s i n : Nat) : Nat := (sDays T M n (sUs s (P 7 0) 0 P)) 3 i
theorem A_cw2 {N : Nat} {T : Nat → Nat → Int32} {M : Nat → Nat} (hW : WT T M) (hN : 901 ≤ N) {i n : Nat} (hi : i < 8) (hn : n ≤ 60) : ∀ k j f P s, j + k = n → k < f → VC 2 s P → PI P → P 7 1 + k ≤ 20000 → TC (lw 2) s T M → ∃ s', fA_cellWithout_L53 N f (nI i) (nI n) (nI j) s = some (nI ((sDays T M k P) 3 i), s') ∧ FC 2 s s'
  | k, j, 0, P, s, h1, h2, h3, h4, h5, h6 => absurd h2 (by omega)
  | 0, j, f + 1, P, s, h1, h2, h3, h4, h5, h6 => by
    have e3 : s 17 2 i = nI (P 3 i) := h3.1 3 i (by omega) hi
    rw [fA_cellWithout_L53, if_le (by omega) (by omega)]
    simp (disch := omega) only [zlt_eq, zgd_T, zin_T, zb2_s, zbd_s, n_cl, n_sub1, n_predm, n_sc, if_nle, if_nle0, if_nle1, if_le, if_true, if_false, e3]
    exact ⟨s, rfl, FC_r⟩
  | k + 1, j, f + 1, P, s, h1, h2, h3, h4, h5, h6 => by
    rw [fA_cellWithout_L53, if_nle (by omega) (by omega), n_sc]
    obtain ⟨s', r1, r2, r3⟩ := R_passDay (N := N) h3 h4 h6 hW (by omega)
    obtain ⟨d1, d2, d3, d4⟩ := sDay_ok (T := T) (M := M) h4 (by omega)
    obtain ⟨s'', t1, t2⟩ := A_cw2 (T := T) (M := M) hW hN hi hn k (j + 1) f _ s' (by omega) (by omega) r2 d1 (by omega) (TC_f h6 r3)
    rw [r1, zbd_s]
    exact ⟨s'', t1, FC_t r3 t2⟩
theorem A_cw1 {N : Nat} {x n : Int32} {q : Nat} (hq : q < 256) : ∀ k j f P s, j + k = P 7 0 → k < f → VC 2 s P → PI P → ∃ s', fA_cellWithout_L14 N f (nI q) x n (nI j) s = fA_cellWithout_L53 N N x n 0 s' ∧ VC 2 s' (sUs q k j P) ∧ FC 2 s s'
  | k, j, 0, P, s, h1, h2, h3, h4 => absurd h2 (by omega)
  | 0, j, f + 1, P, s, h1, h2, h3, h4 => by
    have hn := h4.1
    rw [fA_cellWithout_L14, h3.2.2.1, if_le (by omega) (by omega)]
    exact ⟨s, rfl, h3, FC_r⟩
  | k + 1, j, f + 1, P, s, h1, h2, h3, h4 => by
    have hn := h4.1
    rw [fA_cellWithout_L14, h3.2.2.1, if_nle (by omega) (by omega), b_r hq (by omega), n_sc]
    unfold sUs
    by_cases z : q.testBit j = true
    · obtain ⟨s', r1, r2, r3⟩ := R_untie h3 (i := j) (by omega)
      obtain ⟨s'', t1, t2, t3⟩ := A_cw1 (N := N) (x := x) (n := n) hq k (j + 1) f (tu P j) s' (by rw [tu_7 (by omega)]; omega) (by omega) r2 (PI_tu h4)
      rw [if_pos z, if_pos z, if_neg (by decide), r1, zbd_s]
      exact ⟨s'', t1, t2, FC_t r3 t3⟩
    · rw [if_neg z, if_neg z, if_pos (show nI 0 = 0 from rfl)]
      exact A_cw1 (N := N) (x := x) (n := n) hq k (j + 1) f P s (by omega) (by omega) h3 h4
theorem A_cw {N : Nat} (hN : 901 ≤ N) {σ : zS} {P : zP} {T : Nat → Nat → Int32} {M : Nat → Nat} (h : CX σ P T M) {i n q : Nat} (hi : i < 8) (hn : n ≤ 60) (hq : q < 256) : ∃ s, fA_cellWithout N (nI q) (nI i) (nI n) σ = some (nI (sWo T M P q i n), s) ∧ FZ 2 σ s := by
  obtain ⟨s, r1, r2, r3, r4⟩ := R_begin h
  obtain ⟨c1, c2, c3, c3', c4, c5, c6, c7, c8, c9, c10⟩ := h
  have hn8 := c3.1
  obtain ⟨s', t1, t2, t3⟩ := A_cw1 (N := N) (x := nI i) (n := nI n) hq (P 7 0) 0 N P s (by omega) (by omega) r2 c3
  obtain ⟨p1, p2, p3⟩ := sUs_ok (s := q) (P 7 0) 0 P c3
  obtain ⟨s'', u1, u2⟩ := A_cw2 (N := N) (T := T) (M := M) c6 hN hi hn n 0 N _ s' (by omega) (by omega) t2 p1 (by omega) (TC_f r4 t3)
  refine ⟨s'', ?_, FZ_t r3 (FZ_C (FC_t t3 u2))⟩
  unfold fA_cellWithout
  rw [r1, zbd_s]
  exact t1.trans u1
theorem M_sw1 {N : Nat} {q : Nat} (hq : q < 256) {i n : Nat} {y : Int32} : ∀ k j f P s, j + k = P 7 0 → k < f → VM s P → PI P → ∃ s', fM_staysWithout_L11 N f (nI i) (nI q) (nI n) y (nI j) s = ((fM_goesOn N (nI n) s').bind fun s5 => (fM_its (nI i) 3 s5).bind fun r7 => (if r7 = y then fM_staysWithout_J65 N 1 s5 else fM_staysWithout_J65 N 0 s5)) ∧ VM s' (sUs q k j P) ∧ FM s s'
  | k, j, 0, P, s, h1, h2, h3, h4 => absurd h2 (by omega)
  | 0, j, f + 1, P, s, h1, h2, h3, h4 => by
    have hn := h4.1
    rw [fM_staysWithout_L11, h3.2.2.1, if_le (by omega) (by omega)]
    exact ⟨s, rfl, h3, FM_r⟩
  | k + 1, j, f + 1, P, s, h1, h2, h3, h4 => by
    have hn := h4.1
    rw [fM_staysWithout_L11, h3.2.2.1, if_nle (by omega) (by omega), b_r hq (by omega), n_sc]
    unfold sUs
    by_cases z : q.testBit j = true
    · obtain ⟨s', r1, r2, r3⟩ := M_unties h3 (i := j) (by omega)
      obtain ⟨s'', t1, t2, t3⟩ := M_sw1 (N := N) (y := y) (i := i) (n := n) hq k (j + 1) f (tu P j) s' (by rw [tu_7 (by omega)]; omega) (by omega) r2 (PI_tu h4)
      rw [if_pos z, if_pos z, if_pos (show nI 1 = 1 from rfl), r1, zbd_s]
      exact ⟨s'', t1, t2, FM_t r3 t3⟩
    · rw [if_neg z, if_neg z, if_neg (by decide)]
      exact M_sw1 (N := N) (y := y) (i := i) (n := n) hq k (j + 1) f P s (by omega) (by omega) h3 h4
theorem M_sw {N : Nat} (hN : 901 ≤ N) {σ s : zS} {P : zP} {T : Nat → Nat → Int32} {M : Nat → Nat} (h : VM σ P) (hP : PI P) (hd : P 7 1 ≤ 9999) (hT : TM σ T M) (hW : WT T M) (hB : BK σ s) {i n q : Nat} (hi : i < 8) (hn : n ≤ 60) (hq : q < 256) : ∃ τ, fM_staysWithout N (nI i) (nI q) (nI n) s = some (nI (if sWo T M P q i n = P 3 i then 1 else 0), τ) ∧ BK σ τ := by
  have hn8 := hP.1
  have v0 := VM_B h hB
  have e3 : fM_its (nI i) 3 s = some (nI (P 3 i)) := M_its v0 3 (by omega) hi
  obtain ⟨s1, t1, t2, t3⟩ := M_sw1 (N := N) (i := i) (n := n) (y := nI (P 3 i)) hq (P 7 0) 0 N P s (by omega) (by omega) v0 hP
  obtain ⟨p1, p2, p3⟩ := sUs_ok (s := q) (P 7 0) 0 P hP
  obtain ⟨t, u1, u2, u3⟩ := M_goesOn (N := N) t2 p1 (TM_f (TM_B hT hW hB) t3) hW hN (n := n) (by omega) (by omega) (by omega)
  obtain ⟨d1, d2, d3, d4⟩ := sDays_ok (T := T) (M := M) n _ p1 (by omega)
  have e4 : fM_its (nI i) 3 t = some (nI (sWo T M P q i n)) := M_its u2 3 (by omega) hi
  obtain ⟨τ, w1, w2⟩ := M_put3 (N := N) (by omega) hB (FM_t t3 u3)
  have b1 := (hP.2.2.2.1 i hi).2.2.2.1
  have b2 : sWo T M P q i n ≤ 63 := (d1.2.2.2.1 i hi).2.2.2.1
  refine ⟨τ, ?_, w2⟩
  unfold fM_staysWithout
  rw [e3, zbd_s]
  refine t1.trans ?_
  rw [u1, zbd_s, e4, zbd_s]
  unfold fM_staysWithout_J65
  rw [w1, zbd_s, zbd_s]
  by_cases z : sWo T M P q i n = P 3 i
  · rw [z, if_pos rfl, if_pos rfl, zgd_t (Or.inr rfl)]
    rfl
  · rw [if_neg (fun r => z ((nI_eq (by omega) (by omega)).mp r)), if_neg z, zgd_t (Or.inl rfl)]
    rfl
/-! the best of the sets -/
def cI (w : Nat → Bool) (z : Nat) : Nat → Nat → Nat
  | 0, _ => 0
  | k + 1, j => if w j = true ∧ pc j = z then j + 1 else cI w z k (j + 1)
def cO (w : Nat → Bool) (m : Nat) : Nat → Nat → Nat
  | 0, _ => 0
  | k + 1, z => if cI w z m 0 = 0 then cO w m k (z + 1) else cI w z m 0
def mR (w : Nat → Bool) : Nat → Nat → Nat → Nat
  | 0, _, b => b
  | k + 1, j, b => if w j = true ∧ (b = 0 ∨ pc j < pc (b - 1)) then mR w k (j + 1) (j + 1) else mR w k (j + 1) b
def isB (w : Nat → Bool) (m r : Nat) : Prop := (r = 0 ∧ ∀ j, j < m → ¬ w j = true) ∨ (1 ≤ r ∧ r ≤ m ∧ w (r - 1) = true ∧ ∀ j, j < m → w j = true → (pc (r - 1) < pc j ∨ (pc (r - 1) = pc j ∧ r - 1 ≤ j)))
theorem isB_u {w : Nat → Bool} {m r r' : Nat} (h : isB w m r) (h' : isB w m r') : r = r' := by
  rcases h with ⟨a, b⟩ | ⟨a, b, c, d⟩ <;> rcases h' with ⟨a', b'⟩ | ⟨a', b', c', d'⟩
  · omega
  · exact absurd c' (b _ (by omega))
  · exact absurd c (b' _ (by omega))
  · have e1 := d _ (by omega) c'
    have e2 := d' _ (by omega) c
    omega
theorem mR_s {w : Nat → Bool} : ∀ k j b, isB w j b → isB w (j + k) (mR w k j b)
  | 0, j, b, h => h
  | k + 1, j, b, h => by
    have e : j + (k + 1) = (j + 1) + k := by omega
    rw [e]
    unfold mR
    by_cases q : w j = true ∧ (b = 0 ∨ pc j < pc (b - 1))
    · rw [if_pos q]
      refine mR_s k (j + 1) (j + 1) (Or.inr ⟨by omega, by omega, q.1, fun i hi hw => ?_⟩)
      have e1 : j + 1 - 1 = j := by omega
      rw [e1]
      by_cases z : i = j
      · subst z
        omega
      · rcases h with ⟨a, b'⟩ | ⟨a, b', c, d⟩
        · exact absurd hw (b' i (by omega))
        · have := d i (by omega) hw
          omega
    · rw [if_neg q]
      refine mR_s k (j + 1) b ?_
      rcases h with ⟨a, b'⟩ | ⟨a, b', c, d⟩
      · refine Or.inl ⟨a, fun i hi hw => ?_⟩
        by_cases z : i = j
        · subst z
          exact q ⟨hw, Or.inl a⟩
        · exact b' i (by omega) hw
      · refine Or.inr ⟨a, by omega, c, fun i hi hw => ?_⟩
        by_cases z : i = j
        · subst z
          have : ¬ (pc i < pc (b - 1)) := fun r => q ⟨hw, Or.inr r⟩
          omega
        · exact d i (by omega) hw
theorem cI_s {w : Nat → Bool} {z : Nat} : ∀ k j, (cI w z k j = 0 ∧ ∀ i, j ≤ i → i < j + k → w i = true → pc i ≠ z) ∨ (j < cI w z k j ∧ cI w z k j ≤ j + k ∧ w (cI w z k j - 1) = true ∧ pc (cI w z k j - 1) = z ∧ ∀ i, j ≤ i → i < cI w z k j - 1 → w i = true → pc i ≠ z)
  | 0, j => Or.inl ⟨rfl, fun i h1 h2 => absurd h2 (by omega)⟩
  | k + 1, j => by
    unfold cI
    by_cases q : w j = true ∧ pc j = z
    · rw [if_pos q]
      exact Or.inr ⟨by omega, by omega, q.1, q.2, fun i h1 h2 => absurd h2 (by omega)⟩
    · rw [if_neg q]
      rcases cI_s (w := w) (z := z) k (j + 1) with ⟨a, b⟩ | ⟨a, b, c, d, e⟩
      · refine Or.inl ⟨a, fun i h1 h2 hw hz => ?_⟩
        by_cases y : i = j
        · subst y
          exact q ⟨hw, hz⟩
        · exact b i (by omega) (by omega) hw hz
      · refine Or.inr ⟨by omega, by omega, c, d, fun i h1 h2 hw hz => ?_⟩
        by_cases y : i = j
        · subst y
          exact q ⟨hw, hz⟩
        · exact e i (by omega) h2 hw hz
theorem cO_s {w : Nat → Bool} {m S : Nat} (hS : ∀ j, j < m → w j = true → pc j ≤ S) : ∀ k z, z + k = S + 1 → (∀ j, j < m → w j = true → z ≤ pc j) → isB w m (cO w m k z)
  | 0, z, h1, h2 => Or.inl ⟨rfl, fun j hj hw => by have := hS j hj hw; have := h2 j hj hw; omega⟩
  | k + 1, z, h1, h2 => by
    unfold cO
    rcases cI_s (w := w) (z := z) m 0 with ⟨a, b⟩ | ⟨a, b, c, d, e⟩
    · rw [if_pos a]
      refine cO_s hS k (z + 1) (by omega) (fun j hj hw => ?_)
      have := h2 j hj hw
      have := b j (by omega) (by omega) hw
      omega
    · rw [if_neg (by omega)]
      refine Or.inr ⟨by omega, by omega, c, fun j hj hw => ?_⟩
      have h3 := h2 j hj hw
      by_cases y : pc j = z
      · right
        refine ⟨by omega, ?_⟩
        by_cases y2 : j < cI w z m 0 - 1
        · exact absurd y (e j (by omega) y2 hw)
        · omega
      · omega
theorem pcb_mono : ∀ k a b, (∀ i, a.testBit i = true → b.testBit i = true) → pcb k a ≤ pcb k b
  | 0, a, b, h => Nat.le_refl _
  | k + 1, a, b, h => by
    have h0 := h 0
    rw [Nat.testBit_zero, Nat.testBit_zero, decide_eq_true_iff, decide_eq_true_iff] at h0
    have := pcb_mono k (a / 2) (b / 2) (fun i hi => by
      have := h (i + 1)
      rw [Nat.testBit_succ, Nat.testBit_succ] at this
      exact this hi)
    unfold pcb
    omega
theorem sub_pc {a b : Nat} (ha : a < 256) (hb : b < 256) (h : (nI a &&& (nI b ^^^ (-1))) = 0) : pc a ≤ pc b := by
  refine pcb_mono 8 a b (fun i hi => ?_)
  have h1 : (BitVec.ofNat 32 a &&& (BitVec.ofNat 32 b ^^^ (-1#32))) = 0#32 := congrArg Int32.toBitVec h
  have h8 : i < 8 := by
    apply Nat.lt_of_not_le
    intro r
    have : 256 ≤ 2 ^ i := Nat.pow_le_pow_right (n := 2) (i := 8) (by omega) r
    rw [Nat.testBit_lt_two_pow (Nat.lt_of_lt_of_le ha this)] at hi
    cases hi
  have h2 := congrArg (fun v => v.getLsbD i) h1
  have h3 : (-1#32 : BitVec 32).getLsbD i = true := by
    rw [BitVec.neg_one_eq_allOnes, BitVec.getLsbD_allOnes]
    exact decide_eq_true (by omega)
  simp only [BitVec.getLsbD_and, BitVec.getLsbD_xor, h3, BitVec.getLsbD_ofNat, hi, BitVec.getLsbD_zero, Nat.zero_testBit, Bool.and_false] at h2
  have h4 : decide (i < 32) = true := decide_eq_true (by omega)
  rw [h4] at h2
  cases hq : b.testBit i with
  | true => rfl
  | false => rw [hq] at h2; cases h2
def sW (T : Nat → Nat → Int32) (M : Nat → Nat) (P : zP) (t i n j : Nat) : Bool := decide ((nI j &&& (nI t ^^^ (-1))) = 0) && decide (sWo T M P j i n = P 3 i)
theorem sW_i {T : Nat → Nat → Int32} {M : Nat → Nat} {P : zP} {t i n j : Nat} : sW T M P t i n j = true ↔ ((nI j &&& (nI t ^^^ (-1))) = 0 ∧ sWo T M P j i n = P 3 i) := by
  unfold sW
  rw [Bool.and_eq_true, decide_eq_true_iff, decide_eq_true_iff]
theorem R_ff_in {N : Nat} (hN : 901 ≤ N) {σ : zS} {P : zP} {T : Nat → Nat → Int32} {M : Nat → Nat} (h : CX σ P T M) {i n t z : Nat} (hi : i < 8) (hn : n ≤ 60) (ht : t < 256) (hz : z < 10) (K : Int32 → Int32 → Int32 → Int32 → zS → Option (Int32 × zS)) : ∀ k j f s, j + k = t + 1 → k < f → FZ 2 σ s → ∃ s', FZ 2 σ s' ∧ fA_freeFor_L46 N K f (nI i) (nI n) (nI t) (nI z) (nI j) s = if cI (sW T M P t i n) z k j = 0 then K (nI i) (nI n) (nI t) (nI (z + 1)) s' else some (nI (cI (sW T M P t i n) z k j - 1), s')
  | k, j, 0, s, h1, h2, h3 => absurd h2 (by omega)
  | 0, j, f + 1, s, h1, h2, h3 => by
    have hq : nI t < nI j := (nI_ltI (by omega) (by omega)).mpr (by omega)
    rw [fA_freeFor_L46, if_pos hq, n_sc]
    unfold cI
    exact ⟨s, h3, by rw [if_pos rfl]⟩
  | k + 1, j, f + 1, s, h1, h2, h3 => by
    have hq : ¬ (nI t < nI j) := fun r => absurd ((nI_ltI (by omega) (by omega)).mp r) (by omega)
    have hp := pc_le j
    rw [fA_freeFor_L46, if_neg hq]
    unfold fA_freeFor_J75 fA_freeFor_J76
    dsimp only
    rw [if_pos (show (0 : Int32) = 0 from rfl), n_sc]
    unfold cI
    by_cases q1 : (nI j &&& (nI t ^^^ (-1))) = 0
    · rw [if_pos q1, J_bc (by omega), zbd_s]
      by_cases q2 : pc j = z
      · rw [if_pos (by rw [q2]), if_neg (by decide)]
        have cs := (CX_think h h3 FT_r).1
        obtain ⟨s1, r1, r2⟩ := A_cw (N := N) hN cs hi hn (q := j) (by omega)
        have e3 : s1 17 0 i = nI (P 3 i) := ((r2 17 0 i (by omega) (by omega) (by omega)).trans (cs.1.1 3 i (by omega) hi))
        have b1 := (h.2.2.1.2.2.2.1 i hi).2.2.2.1
        rw [r1, zb2_s]
        simp (disch := omega) only [zlt_eq, zgd_T, zin_T, zb2_s, zbd_s, n_cl, n_sub1, n_predm, n_sc, if_nle, if_nle0, if_nle1, if_le, if_true, if_false, e3]
        have b2 : sWo T M P j i n ≤ 63 := by
          obtain ⟨p1, p2, p3⟩ := sUs_ok (s := j) (P 7 0) 0 P h.2.2.1
          have hd := h.2.2.2.1.1
          obtain ⟨d1, d2, d3, d4⟩ := sDays_ok (T := T) (M := M) n _ p1 (by omega)
          exact (d1.2.2.2.1 i hi).2.2.2.1
        by_cases q3 : sWo T M P j i n = P 3 i
        · rw [if_pos (by rw [q3]), if_pos ⟨sW_i.mpr ⟨q1, q3⟩, q2⟩]
          exact ⟨s1, FZ_t h3 r2, by rw [if_neg (by omega)]; rfl⟩
        · rw [if_neg (fun r => q3 ((nI_eq (by omega) (by omega)).mp r)), if_neg (fun r => q3 (sW_i.mp r.1).2)]
          exact R_ff_in hN h hi hn ht hz K k (j + 1) f s1 (by omega) (by omega) (FZ_t h3 r2)
      · rw [if_neg (fun r => q2 ((nI_eq (by omega) (by omega)).mp r)), if_neg (fun r => q2 r.2)]
        exact R_ff_in hN h hi hn ht hz K k (j + 1) f s (by omega) (by omega) h3
    · rw [if_neg q1, if_neg (fun r => q1 (sW_i.mp r.1).1)]
      exact R_ff_in hN h hi hn ht hz K k (j + 1) f s (by omega) (by omega) h3
theorem R_ff_out {N : Nat} (hN : 901 ≤ N) {σ : zS} {P : zP} {T : Nat → Nat → Int32} {M : Nat → Nat} (h : CX σ P T M) {i n t : Nat} (hi : i < 8) (hn : n ≤ 60) (ht : t < 256) : ∀ k z f s, z + k = pc t + 1 → k < f → FZ 2 σ s → ∃ s', FZ 2 σ s' ∧ fA_freeFor_L34 N f (nI i) (nI n) (nI t) (nI z) s = if cO (sW T M P t i n) (t + 1) k z = 0 then zb2 (fA_refuse 2 s') fun r17 s16 => some (r17, s16) else some (nI (cO (sW T M P t i n) (t + 1) k z - 1), s')
  | k, z, 0, s, h1, h2, h3 => absurd h2 (by omega)
  | 0, z, f + 1, s, h1, h2, h3 => by
    have hp := pc_le t
    have hq : nI (pc t) < nI z := (nI_ltI (by omega) (by omega)).mpr (by omega)
    rw [fA_freeFor_L34, J_bc ht, zbd_s, if_pos hq]
    unfold cO
    exact ⟨s, h3, by rw [if_pos rfl]⟩
  | k + 1, z, f + 1, s, h1, h2, h3 => by
    have hp := pc_le t
    have hq : ¬ (nI (pc t) < nI z) := fun r => absurd ((nI_ltI (by omega) (by omega)).mp r) (by omega)
    obtain ⟨s1, r1, r2⟩ := R_ff_in (N := N) (z := z) hN h hi hn ht (by omega) (fun y1 y2 y3 y4 σ => fA_freeFor_L34 N f y1 y2 y3 y4 σ) (t + 1) 0 N s (by omega) (by omega) h3
    have r2' : fA_freeFor_L46 N (fun y1 y2 y3 y4 σ => fA_freeFor_L34 N f y1 y2 y3 y4 σ) N (nI i) (nI n) (nI t) (nI z) 0 s = _ := r2
    rw [fA_freeFor_L34, J_bc ht, zbd_s, if_neg hq, r2']
    unfold cO
    by_cases y : cI (sW T M P t i n) z (t + 1) 0 = 0
    · rw [if_pos y, if_pos y]
      exact R_ff_out hN h hi hn ht k (z + 1) f s1 (by omega) (by omega) r1
    · rw [if_neg y, if_neg y]
      exact ⟨s1, r1, by rw [if_neg y]⟩
theorem M_ff {N : Nat} (hN : 901 ≤ N) {σ : zS} {P : zP} {T : Nat → Nat → Int32} {M : Nat → Nat} (h : VM σ P) (hP : PI P) (hd : P 7 1 ≤ 9999) (hT : TM σ T M) (hW : WT T M) {i n t : Nat} (hi : i < 8) (hn : n ≤ 60) (ht : t < 256) : ∀ k j b f s, j + k = t + 1 → k < f → b ≤ j → BK σ s → ∃ s', BK σ s' ∧ fM_freeFor_L39 N f (nI i) (nI n) (nI t) (nO b) (nI j) s = if mR (sW T M P t i n) k j b = 0 then zb2 (fM_error 2 s') fun r18 s17 => some (r18, s17) else some (nI (mR (sW T M P t i n) k j b - 1), s')
  | k, j, b, 0, s, h1, h2, h3, h4 => absurd h2 (by omega)
  | 0, j, b, f + 1, s, h1, h2, h3, h4 => by
    have hq : nI t < nI j := (nI_ltI (by omega) (by omega)).mpr (by omega)
    rw [fM_freeFor_L39, if_pos hq]
    unfold mR
    by_cases z : b = 0
    · have : ¬ (0 ≤ nO b) := by rw [z]; decide
      rw [if_neg this]
      exact ⟨s, h4, by rw [if_pos z]⟩
    · have : 0 ≤ nO b := by rw [l0, nO_le (by omega)]; exact z
      rw [if_pos this, nO_pos z]
      exact ⟨s, h4, by rw [if_neg z]⟩
  | k + 1, j, b, f + 1, s, h1, h2, h3, h4 => by
    have hq : ¬ (nI t < nI j) := fun r => absurd ((nI_ltI (by omega) (by omega)).mp r) (by omega)
    have hp := pc_le j
    have hp2 := pc_le (b - 1)
    rw [fM_freeFor_L39, if_neg hq]
    unfold fM_freeFor_J72 fM_freeFor_J76 fM_freeFor_J77 fM_freeFor_J100
    dsimp only
    rw [if_pos (show (0 : Int32) = 0 from rfl), if_neg (show ¬ ((1 : Int32) = 0) by decide), n_sc]
    unfold mR
    have keep : ¬ (sW T M P t i n j = true ∧ (b = 0 ∨ pc j < pc (b - 1))) → ∀ s2, BK σ s2 → ∃ s', BK σ s' ∧ fM_freeFor_L39 N f (nI i) (nI n) (nI t) (nO b) (nI (j + 1)) s2 = if (if sW T M P t i n j = true ∧ (b = 0 ∨ pc j < pc (b - 1)) then mR (sW T M P t i n) k (j + 1) (j + 1) else mR (sW T M P t i n) k (j + 1) b) = 0 then zb2 (fM_error 2 s') fun r18 s17 => some (r18, s17) else some (nI ((if sW T M P t i n j = true ∧ (b = 0 ∨ pc j < pc (b - 1)) then mR (sW T M P t i n) k (j + 1) (j + 1) else mR (sW T M P t i n) k (j + 1) b) - 1), s') := by
      intro hk s2 hs
      rw [if_neg hk]
      exact M_ff hN h hP hd hT hW hi hn ht k (j + 1) b f s2 (by omega) (by omega) (by omega) hs
    have try1 : (nI j &&& (nI t ^^^ (-1))) = 0 → (b = 0 ∨ pc j < pc (b - 1)) → ∃ s', BK σ s' ∧ (zb2 (fM_staysWithout N (nI i) (nI j) (nI n) s) fun r29 s28 => (if r29 = 0 then fM_freeFor_L39 N f (nI i) (nI n) (nI t) (nO b) (nI (j + 1)) s28 else fM_freeFor_L39 N f (nI i) (nI n) (nI t) (nI j) (nI (j + 1)) s28)) = if (if sW T M P t i n j = true ∧ (b = 0 ∨ pc j < pc (b - 1)) then mR (sW T M P t i n) k (j + 1) (j + 1) else mR (sW T M P t i n) k (j + 1) b) = 0 then zb2 (fM_error 2 s') fun r18 s17 => some (r18, s17) else some (nI ((if sW T M P t i n j = true ∧ (b = 0 ∨ pc j < pc (b - 1)) then mR (sW T M P t i n) k (j + 1) (j + 1) else mR (sW T M P t i n) k (j + 1) b) - 1), s') := by
      intro q1 q2
      obtain ⟨s1, r1, r2⟩ := M_sw (N := N) hN h hP hd hT hW h4 hi hn (q := j) (by omega)
      rw [r1, zb2_s]
      by_cases q3 : sWo T M P j i n = P 3 i
      · rw [if_pos q3, if_neg (by decide), if_pos ⟨sW_i.mpr ⟨q1, q3⟩, q2⟩]
        have := M_ff hN h hP hd hT hW hi hn ht k (j + 1) (j + 1) f s1 (by omega) (by omega) (by omega) r2
        rw [nO_s] at this
        exact this
      · rw [if_neg q3, if_pos (show nI 0 = 0 from rfl)]
        exact keep (fun r => q3 (sW_i.mp r.1).2) s1 r2
    by_cases q1 : (nI j &&& (nI t ^^^ (-1))) = 0
    · rw [if_pos q1]
      by_cases z : b = 0
      · have : nO b < 0 := by rw [z]; decide
        rw [if_pos this]
        exact try1 q1 (Or.inl z)
      · have hlt : ¬ (nO b < 0) := by rw [l0, nO_lt (by omega)]; exact z
        have o2 : fM_ones N (nO b) = some (nI (pc (b - 1))) := by rw [nO_pos z]; exact M_ones (by omega) (by omega)
        rw [if_neg hlt, M_ones (N := N) (s := j) (by omega) (by omega), zbd_s, o2, zbd_s]
        by_cases q2 : pc (b - 1) ≤ pc j
        · rw [if_le q2 (by omega)]
          exact keep (fun r => by omega) s h4
        · rw [if_nle (by omega) (by omega)]
          exact try1 q1 (Or.inr (by omega))
    · rw [if_neg q1]
      exact keep (fun r => q1 (sW_i.mp r.1).1) s h4
theorem sTd_lt {P : zP} : ∀ k j acc, j + k ≤ 8 → acc < 256 → sTd P k j acc < 256
  | 0, j, acc, h1, h2 => h2
  | k + 1, j, acc, h1, h2 => by
    unfold sTd
    refine sTd_lt k (j + 1) _ (by omega) ?_
    split
    · exact h2
    · exact b_ol h2 (by omega)
theorem P_freeFor {N : Nat} (hN : 901 ≤ N) {σ : zS} (h : Core σ) (x1 x2 : Int32) : Pr σ (fA_freeFor N x1 x2) (fM_freeFor N x1 x2) := by
  obtain ⟨P, T, M, c⟩ := h
  obtain ⟨c1, c2, c3, c3', c4, c5, c6, c7, c8, c9, c10⟩ := c
  have c : CX σ P T M := ⟨c1, c2, c3, c3', c4, c5, c6, c7, c8, c9, c10⟩
  have hn := c3.1
  by_cases q : thr P x1
  · have a1 := (A_there c1 c3).1 q
    have m1 := fun s (hs : VM s P) => (M_there hs c3).1 q
    have m2 := M_in (x := x2) (B := 40) (by omega)
    have a2 := A_within (x := x2) (B := 40) (by omega)
    by_cases q2 : wi x2 40
    · have m2 : fM_in x2 0 40 = some 1 := m2.1 q2
      have a2 : fA_within x2 40 = some 1 := a2.1 q2
      obtain ⟨i, hi, rfl⟩ := q
      obtain ⟨n, hk, rfl⟩ := q2
      have hi8 : i < 8 := by omega
      have ht : sTd P (P 7 0) 0 0 < 256 := sTd_lt _ _ _ (by omega) (by omega)
      have rt := R_tiedAll (N := N) c1 c3 (by omega)
      have mt := fun s (hs : VM s P) => M_tiedAll (N := N) hs c3 (by omega)
      generalize sTd P (P 7 0) 0 0 = t at ht rt mt
      have hp := pc_le t
      obtain ⟨s', r5, r6⟩ := R_ff_out (N := N) hN c hi8 (n := n) (t := t) (by omega) ht (pc t + 1) 0 N σ (by omega) (by omega) FZ_r
      have heq : cO (sW T M P t i n) (t + 1) (pc t + 1) 0 = mR (sW T M P t i n) (t + 1) 0 0 := isB_u (cO_s (S := pc t) (fun j hj hw => sub_pc (by omega) ht (sW_i.mp hw).1) _ _ (by omega) (fun j _ _ => by omega)) (by
        have := mR_s (w := sW T M P t i n) (t + 1) 0 0 (Or.inl ⟨rfl, fun j hj => absurd hj (by omega)⟩)
        rw [Nat.zero_add] at this
        exact this)
      have hA : fA_freeFor N (nI i) (nI n) σ = if mR (sW T M P t i n) (t + 1) 0 0 = 0 then zb2 (fA_refuse 2 s') fun r17 s16 => some (r17, s16) else some (nI (mR (sW T M P t i n) (t + 1) 0 0 - 1), s') := by
        unfold fA_freeFor
        rw [a1, zbd_s, if_neg (by decide), a2, zbd_s, if_neg (by decide), rt, zbd_s, ← heq]
        exact r6
      have hM : ∀ s1, VM s1 P → TM s1 T M → ∃ u, FT s1 u ∧ fM_freeFor N (nI i) (nI n) s1 = if mR (sW T M P t i n) (t + 1) 0 0 = 0 then zb2 (fM_error 2 u) fun r18 s17 => some (r18, s17) else some (nI (mR (sW T M P t i n) (t + 1) 0 0 - 1), u) := by
        intro s1 v1 t1
        obtain ⟨s2, u1, u2⟩ := M_savesB (N := N) (by omega) v1
        obtain ⟨u, u3, u4⟩ := M_ff (N := N) hN v1 c3 c3'.1 t1 c6 hi8 (n := n) (t := t) (by omega) ht (t + 1) 0 0 N s2 (by omega) (by omega) (by omega) u2
        refine ⟨u, u3.1, ?_⟩
        unfold fM_freeFor
        rw [m1 _ v1, zbd_s, if_neg (by decide), m2, zbd_s, if_neg (by decide), u1, zbd_s, mt _ (VM_B v1 u2), zbd_s]
        exact u4
      by_cases z : mR (sW T M P t i n) (t + 1) 0 0 = 0
      · rw [if_pos z, zb2_id] at hA
        refine Pr_terr c (e := 2) (by omega) (by omega) r5 hA ?_
        obtain ⟨u, u1, u2⟩ := hM (zup s' 26 0 2 (s' 26 0 2 + 1)) (VM_26Z c2 r5) (TM_26Z c5 c6 r5)
        rw [if_pos z, zb2_id] at u2
        exact ⟨u, u1, u2⟩
      · rw [if_neg z] at hA
        obtain ⟨u, u1, u2⟩ := hM s' (VM_Z c2 r5) (TM_Z c5 r5)
        rw [if_neg z] at u2
        exact Pr_think c hA u2 r5 u1
    · have m2 : fM_in x2 0 40 = some 0 := m2.2 q2
      have a2 : fA_within x2 40 = some 0 := a2.2 q2
      refine Pr_err c (e := 1) (by omega) (by omega) ?_ ?_
      · unfold fA_freeFor fA_freeFor_J17
        rw [a1, zbd_s, if_neg (by decide), a2, zbd_s, if_pos rfl, zb2_id]
        rfl
      · unfold fM_freeFor fM_freeFor_J18
        rw [m1 _ (VM_26 c2), zbd_s, if_neg (by decide), m2, zbd_s, if_pos rfl, zb2_id]
        rfl
  · refine Pr_err c (e := 1) (by omega) (by omega) ?_ ?_
    · unfold fA_freeFor fA_freeFor_J17
      rw [(A_there c1 c3).2 q, zbd_s, if_pos rfl, zb2_id]
      rfl
    · unfold fM_freeFor fM_freeFor_J18
      rw [(M_there (VM_26 c2) c3).2 q, zbd_s, if_pos rfl, zb2_id]
      rfl
