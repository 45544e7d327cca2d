/-! Pure mathematics: put, move. -/
theorem n_subg {n : Nat} (hn : n < 1000) {x : Int32} (hx : 0 ≤ x.toInt) : (nI n - x).toInt = (n : Int) - x.toInt := by
  have h1 := x.toInt_lt
  rw [Int32.toInt_sub, n_toInt (by omega), Int.bmod_eq_of_le (by omega) (by omega)]
theorem M_inn {x : Int32} {n : Nat} (hn : n < 1000) : (0 ≤ x.toInt ∧ x.toInt < n → fM_in x 0 (nI n - 1) = some 1) ∧ (¬ (0 ≤ x.toInt ∧ x.toInt < n) → fM_in x 0 (nI n - 1) = some 0) := by
  unfold fM_in
  have h0 : (0 : Int32).toInt = 0 := by decide
  have h1 : (1 : Int32).toInt = 1 := by decide
  have hb := n_subg hn (x := 1) (by omega)
  rw [h1] at hb
  constructor
  · intro ⟨h1, h2⟩
    rw [if_neg (by rw [i32_lt]; omega), if_neg (by rw [i32_lt]; omega)]
  · intro h
    by_cases q : x < 0
    · rw [if_pos q]
    · rw [if_neg q, if_pos]
      rw [i32_lt] at q ⊢
      omega
theorem ar8 {w : Nat} (h : w < 256) : (w < 128 → (if 2 * (w * 16777216) < 4294967296 then ((w * 16777216 : Nat) : Int) else ((w * 16777216 : Nat) : Int) - 4294967296) / 16777216 = (w : Int)) ∧ (128 ≤ w → (if 2 * (w * 16777216) < 4294967296 then ((w * 16777216 : Nat) : Int) else ((w * 16777216 : Nat) : Int) - 4294967296) / 16777216 < 0) := by
  constructor
  · intro q
    rw [if_pos (by omega)]
    omega
  · intro q
    rw [if_neg (by omega)]
    omega
theorem NR_8 (v : Int32) : NR (v &&& 255) ((v <<< 24) >>> 24) := by
  have h1 := pk_and v (m := 255) 8 (by decide)
  have h2 := pk_shl v 24 24 (by decide)
  have h3 := pk_shr (v <<< 24) 24 24 (by decide)
  have h4 : (v <<< 24 : Int32).toInt = if 2 * (v <<< 24 : Int32).toBitVec.toNat < 2 ^ 32 then ((v <<< 24 : Int32).toBitVec.toNat : Int) else ((v <<< 24 : Int32).toBitVec.toNat : Int) - ((2 ^ 32 : Nat) : Int) := BitVec.toInt_eq_toNat_cond _
  have h5 : v.toBitVec.toNat * 2 ^ 24 % 2 ^ 32 = (v.toBitVec.toNat % 256) * 16777216 := Nat.mul_mod_mul_right 16777216 v.toBitVec.toNat 256
  have h6 : v &&& 255 = nI (v.toBitVec.toNat % 256) := h1
  have hw : v.toBitVec.toNat % 256 < 256 := Nat.mod_lt _ (by decide)
  rw [h2, h5] at h4
  rw [Int.shiftRight_eq_div_pow, h4] at h3
  generalize v.toBitVec.toNat % 256 = w at h3 h6 hw
  have h7 : ((v <<< 24) >>> 24 : Int32).toInt = (if 2 * (w * 16777216) < 4294967296 then ((w * 16777216 : Nat) : Int) else ((w * 16777216 : Nat) : Int) - 4294967296) / 16777216 := h3
  have ar := ar8 hw
  by_cases q : w < 128
  · left
    rw [h6, i32_eq, n_toInt (by omega), h7, ar.1 q]
  · right
    refine ⟨by rw [h6, n_toInt (by omega)]; omega, ?_⟩
    rw [h7]
    exact ar.2 (by omega)
theorem ar16 {w : Nat} (h : w < 65536) : (w < 32768 → (if 2 * (w * 65536) < 4294967296 then ((w * 65536 : Nat) : Int) else ((w * 65536 : Nat) : Int) - 4294967296) / 65536 = (w : Int)) ∧ (32768 ≤ w → (if 2 * (w * 65536) < 4294967296 then ((w * 65536 : Nat) : Int) else ((w * 65536 : Nat) : Int) - 4294967296) / 65536 < 0) := by
  constructor
  · intro q
    rw [if_pos (by omega)]
    omega
  · intro q
    rw [if_neg (by omega)]
    omega
theorem NR_16 (v : Int32) : NR (v &&& 65535) ((v <<< 16) >>> 16) := by
  have h1 := pk_and v (m := 65535) 16 (by decide)
  have h2 := pk_shl v 16 16 (by decide)
  have h3 := pk_shr (v <<< 16) 16 16 (by decide)
  have h4 : (v <<< 16 : Int32).toInt = if 2 * (v <<< 16 : Int32).toBitVec.toNat < 2 ^ 32 then ((v <<< 16 : Int32).toBitVec.toNat : Int) else ((v <<< 16 : Int32).toBitVec.toNat : Int) - ((2 ^ 32 : Nat) : Int) := BitVec.toInt_eq_toNat_cond _
  have h5 : v.toBitVec.toNat * 2 ^ 16 % 2 ^ 32 = (v.toBitVec.toNat % 65536) * 65536 := Nat.mul_mod_mul_right 65536 v.toBitVec.toNat 65536
  have h6 : v &&& 65535 = nI (v.toBitVec.toNat % 65536) := h1
  have hw : v.toBitVec.toNat % 65536 < 65536 := Nat.mod_lt _ (by decide)
  rw [h2, h5] at h4
  rw [Int.shiftRight_eq_div_pow, h4] at h3
  generalize v.toBitVec.toNat % 65536 = w at h3 h6 hw
  have h7 : ((v <<< 16) >>> 16 : Int32).toInt = (if 2 * (w * 65536) < 4294967296 then ((w * 65536 : Nat) : Int) else ((w * 65536 : Nat) : Int) - 4294967296) / 65536 := h3
  have ar := ar16 hw
  by_cases q : w < 32768
  · left
    rw [h6, i32_eq, n_toInt (by omega), h7, ar.1 q]
  · right
    refine ⟨by rw [h6, n_toInt (by omega)]; omega, ?_⟩
    rw [h7]
    exact ar.2 (by omega)
theorem NR_32 (v : Int32) : NR v ((v <<< 0) >>> 0) := by
  have h2 := pk_shl v 0 0 (by decide)
  have h3 := pk_shr (v <<< 0) 0 0 (by decide)
  have h4 : (v <<< 0 : Int32).toBitVec = v.toBitVec := by
    apply BitVec.eq_of_toNat_eq
    rw [h2]
    have hu := v.toBitVec.isLt
    omega
  have h5 : (v <<< 0 : Int32) = v := Int32.toBitVec_inj.mp h4
  left
  rw [i32_eq, h3, h5, Int.shiftRight_eq_div_pow]
  omega
theorem H_write {b bt i : Nat} {σ : zS} {v : Int32} (hbt : bt = 8 ∨ bt = 16 ∨ bt = 32) (hi : i < 24) (h : σ 4 b 2 = nI bt) : ∃ c, fH_write b (nI i) v σ = some (zup σ 23 b i c) ∧ NR c ((v <<< ((32 - nI bt) &&& 31)) >>> ((32 - nI bt) &&& 31)) := by
  unfold fH_write fH_write_J28
  rw [h]
  rcases hbt with q | q | q <;> subst q
  · refine ⟨v &&& 255, ?_, NR_8 v⟩
    rw [if_neg (by decide)]
    simp (disch := omega) only [zlt_eq, zgd_T, zin_T, zb2_s, zbd_s, n_cl, n_sub1, n_predm, n_sc, if_nle, if_nle0, if_nle1, if_le, if_true, if_false]
    rfl
  · refine ⟨v &&& 65535, ?_, NR_16 v⟩
    rw [if_neg (by decide)]
    simp (disch := omega) only [zlt_eq, zgd_T, zin_T, zb2_s, zbd_s, n_cl, n_sub1, n_predm, n_sc, if_nle, if_nle0, if_nle1, if_le, if_true, if_false]
    rfl
  · refine ⟨v, ?_, NR_32 v⟩
    rw [if_pos (show nI 32 = 32 from rfl)]
    simp (disch := omega) only [zlt_eq, zgd_T, zin_T, zb2_s, zbd_s, n_cl, n_sub1, n_predm, n_sc, if_nle, if_nle0, if_nle1, if_le, if_true, if_false]
theorem P_put {σ : zS} (h : Full σ) (x1 x2 x3 : Int32) : PrF σ (fA_put x1 x2 x3) (fM_put x1 x2 x3) := by
  have hF := h
  obtain ⟨⟨P, T, M, c⟩, hS, -, -, -⟩ := h
  by_cases q1 : wi x1 3
  · have a1 := (A_isSheet (x := x1)).1 q1
    have m1 := (M_isSheet (x := x1)).1 q1
    obtain ⟨b, hb, rfl⟩ := q1
    obtain ⟨⟨bt, g1, g2, g3⟩, ⟨n, g4, g5, g6⟩, g7⟩ := hS b (by omega)
    by_cases z : bt = 0
    · refine PrF_of hF (Pr_err c (e := 2) (by omega) (by omega) ?_ ?_)
      · unfold fA_put
        rw [a1, zbd_s, if_neg (by decide)]
        simp (disch := omega) only [zlt_eq, zgd_T, zin_T, zb2_s, zbd_s, n_cl, n_sub1, n_predm, n_sc, if_nle, if_nle0, if_nle1, if_le, if_true, if_false]
        rw [H_miss (by omega) g2, zbd_s, if_pos z, if_neg (by decide), zb2_id]
        rfl
      · have e39 : (zup σ 26 0 2 (σ 26 0 2 + 1)) 39 0 b = 0 := by rw [zup_o (by omega), g3, z]; rfl
        unfold fM_put
        rw [m1, zbd_s, if_neg (by decide)]
        simp (disch := omega) only [zlt_eq, zgd_T, zin_T, zb2_s, zbd_s, n_cl, n_sub1, n_predm, n_sc, if_nle, if_nle0, if_nle1, if_le, if_true, if_false]
        rw [e39, if_pos rfl, zb2_id]
        rfl
    · have e39 : ¬ (nI bt = 0) := fun r => z ((nI_eq (b := 0) (by omega) (by omega)).mp r)
      have hin := M_inn (x := x2) (n := n) (by omega)
      have h0 : (0 : Int32).toInt = 0 := by decide
      have hnn := n_toInt (a := n) (by omega)
      by_cases q2 : 0 ≤ x2.toInt ∧ x2.toInt < n
      · have hx2 : ∃ i, i < n ∧ x2 = nI i := ⟨x2.toInt.toNat, by omega, i32_nat q2.1⟩
        have m2 := hin.1 q2
        have l1 : ¬ (x2 < 0) := by rw [i32_lt]; omega
        have l2 : x2 < nI n := by rw [i32_lt]; omega
        obtain ⟨i, hi, rfl⟩ := hx2
        obtain ⟨cc, w1, w2⟩ := H_write (b := b) (i := i) (v := x3) (show bt = 8 ∨ bt = 16 ∨ bt = 32 by omega) (by omega) g2
        have hx : 24 * nI b + nI i = nI (24 * b + i) := by rw [l24, n_mul, n_add]
        refine PrF_sh hF (r := 1) (s := zup σ 23 b i cc) (τ := zup (zup σ 23 b i cc) 41 0 (24 * b + i) ((x3 <<< ((32 - nI bt) &&& 31)) >>> ((32 - nI bt) &&& 31))) ?_ ?_ ?_ (fun c i k hc => ?_) (fun i k => zup_o (by omega))
        · unfold fA_put
          rw [a1, zbd_s, if_neg (by decide)]
          simp (disch := omega) only [zlt_eq, zgd_T, zin_T, zb2_s, zbd_s, n_cl, n_sub1, n_predm, n_sc, if_nle, if_nle0, if_nle1, if_le, if_true, if_false]
          rw [H_miss (by omega) g2, zbd_s, if_neg z, if_pos rfl, if_neg l1, g5, if_pos l2, w1, zbd_s]
        · have e3 : (zup σ 23 b i cc) 39 0 b = nI bt := by rw [zup_o (by omega)]; exact g3
          have e4 : (zup σ 23 b i cc) 40 0 b = nI n := by rw [zup_o (by omega)]; exact g6
          unfold fM_put
          rw [m1, zbd_s, if_neg (by decide), hx]
          simp (disch := omega) only [zlt_eq, zgd_T, zin_T, zb2_s, zbd_s, n_cl, n_sub1, n_predm, n_sc, if_nle, if_nle0, if_nle1, if_le, if_true, if_false, e3]
          rw [if_neg e39, e4, m2, zbd_s, if_neg (by decide)]
        · intro b' hb'
          obtain ⟨⟨bt', k1, k2, k3⟩, ⟨n', k4, k5, k6⟩, k7⟩ := hS b' hb'
          refine ⟨⟨bt', k1, by rw [zup_o (by omega), zup_o (by omega)]; exact k2, by rw [zup_o (by omega), zup_o (by omega)]; exact k3⟩, ⟨n', k4, by rw [zup_o (by omega), zup_o (by omega)]; exact k5, by rw [zup_o (by omega), zup_o (by omega)]; exact k6⟩, fun i' hi' => ?_⟩
          by_cases y : b' = b ∧ i' = i
          · rw [y.1, y.2, zup_s, zup_o (by omega), zup_s]
            exact w2
          · have e1 : (zup (zup σ 23 b i cc) 41 0 (24 * b + i) ((x3 <<< ((32 - nI bt) &&& 31)) >>> ((32 - nI bt) &&& 31))) 23 b' i' = σ 23 b' i' := by
              rw [zup_o (by omega)]
              unfold zup
              rw [if_neg (by omega)]
            have e2 : (zup (zup σ 23 b i cc) 41 0 (24 * b + i) ((x3 <<< ((32 - nI bt) &&& 31)) >>> ((32 - nI bt) &&& 31))) 41 0 (24 * b' + i') = σ 41 0 (24 * b' + i') := by
              rw [zup_k (by omega), zup_o (by omega)]
            rw [e1, e2]
            exact k7 i' hi'
        · rw [zup_o (by omega), zup_o (by omega)]
      · have m2 := hin.2 q2
        refine PrF_of hF (Pr_err c (e := 1) (by omega) (by omega) ?_ ?_)
        · unfold fA_put fA_put_J48
          rw [a1, zbd_s, if_neg (by decide)]
          simp (disch := omega) only [zlt_eq, zgd_T, zin_T, zb2_s, zbd_s, n_cl, n_sub1, n_predm, n_sc, if_nle, if_nle0, if_nle1, if_le, if_true, if_false]
          rw [H_miss (by omega) g2, zbd_s, if_neg z, if_pos rfl, zb2_id, g5]
          by_cases y : x2 < 0
          · rw [if_pos y]
            rfl
          · have : ¬ (x2 < nI n) := by rw [i32_lt] at y ⊢; omega
            rw [if_neg y, if_neg this]
            rfl
        · have e3 : (zup σ 26 0 1 (σ 26 0 1 + 1)) 39 0 b = nI bt := by rw [zup_o (by omega)]; exact g3
          have e4 : (zup σ 26 0 1 (σ 26 0 1 + 1)) 40 0 b = nI n := by rw [zup_o (by omega)]; exact g6
          unfold fM_put
          rw [m1, zbd_s, if_neg (by decide)]
          simp (disch := omega) only [zlt_eq, zgd_T, zin_T, zb2_s, zbd_s, n_cl, n_sub1, n_predm, n_sc, if_nle, if_nle0, if_nle1, if_le, if_true, if_false, e3]
          rw [if_neg e39, e4, m2, zbd_s, if_pos rfl, zb2_id]
          rfl
  · have a1 := (A_isSheet (x := x1)).2 q1
    have m1 := (M_isSheet (x := x1)).2 q1
    refine PrF_of hF (Pr_err c (e := 1) (by omega) (by omega) ?_ ?_)
    · unfold fA_put
      rw [a1, zbd_s, if_pos rfl, zb2_id]
      rfl
    · unfold fM_put
      rw [m1, zbd_s, if_pos rfl, zb2_id]
      rfl
/-! move -/
theorem H_run {b n : Nat} {σ : zS} {x y : Int32} (hn : n ≤ 24) (h : σ 4 b 1 = nI n) : (0 ≤ y.toInt ∧ 0 ≤ x.toInt ∧ x.toInt + y.toInt ≤ n → fH_hasRun b x y σ = some 1) ∧ (¬ (0 ≤ y.toInt ∧ 0 ≤ x.toInt ∧ x.toInt + y.toInt ≤ n) → fH_hasRun b x y σ = some 0) := by
  have h0 : (0 : Int32).toInt = 0 := by decide
  have hnn := n_toInt (a := n) (by omega)
  unfold fH_hasRun
  rw [h]
  constructor
  · intro ⟨a1, a2, a3⟩
    have hs := n_subg (n := n) (by omega) a2
    rw [if_neg (by rw [i32_lt]; omega), if_neg (by rw [i32_lt]; omega), if_neg (by rw [i32_lt]; omega), if_neg (by rw [i32_lt]; omega)]
  · intro a
    by_cases q1 : y < 0
    · rw [if_pos q1]
    · rw [if_neg q1]
      by_cases q2 : x < 0
      · rw [if_pos q2]
      · rw [if_neg q2]
        by_cases q3 : nI n < x
        · rw [if_pos q3]
        · rw [if_neg q3, if_pos]
          rw [i32_lt] at q1 q2 q3 ⊢
          have hs := n_subg (n := n) (by omega) (x := x) (by omega)
          omega
theorem M_mv1 {N b1 i b2 j m : Nat} (hb : b1 < 4) (hm : i + m ≤ 24) : ∀ k t f s, t + k = m → k < f → ∃ s', fM_move_L115 N f (nI b1) (nI i) (nI b2) (nI j) (nI m) (nI t) s = fM_move_L152 N N (nI b2) (nI j) (nI m) 0 s' ∧ (∀ x, t ≤ x → x < m → s' 42 0 x = s 41 0 (24 * b1 + i + x)) ∧ (∀ c i x, ¬ (c = 42 ∧ t ≤ x) → s' c i x = s c i x)
  | k, t, 0, s, h1, h2 => absurd h2 (by omega)
  | 0, t, f + 1, s, h1, h2 => by
    rw [fM_move_L115, if_le (by omega) (by omega)]
    exact ⟨s, rfl, fun x a b => by omega, fun _ _ _ _ => rfl⟩
  | k + 1, t, f + 1, s, h1, h2 => by
    have hx : 24 * nI b1 + nI i + nI t = nI (24 * b1 + i + t) := by rw [l24, n_mul, n_add, n_add]
    rw [fM_move_L115, if_nle (by omega) (by omega), hx]
    simp (disch := omega) only [zlt_eq, zgd_T, zin_T, zb2_s, zbd_s, n_cl, n_sub1, n_predm, n_sc, if_nle, if_nle0, if_nle1, if_le, if_true, if_false]
    obtain ⟨s', r1, r2, r3⟩ := M_mv1 (N := N) (b2 := b2) (j := j) hb hm k (t + 1) f (zup s 42 0 t (s 41 0 (24 * b1 + i + t))) (by omega) (by omega)
    refine ⟨s', r1, fun x a b => ?_, fun c i x hc => ?_⟩
    · by_cases e : x = t
      · subst e
        rw [r3 _ _ _ (by omega), zup_s]
      · rw [r2 x (by omega) b, zup_o (by omega)]
    · rw [r3 c i x (by omega)]
      unfold zup
      rw [if_neg (by omega)]
theorem M_mv2 {N b2 j m : Nat} (hb : b2 < 4) (hm : j + m ≤ 24) : ∀ k t f s, t + k = m → k < f → ∃ s', fM_move_L152 N f (nI b2) (nI j) (nI m) (nI t) s = some (nI m, s') ∧ (∀ x, t ≤ x → x < m → s' 41 0 (24 * b2 + j + x) = s 42 0 x) ∧ (∀ c i' x, ¬ (c = 41 ∧ i' = 0 ∧ 24 * b2 + j + t ≤ x ∧ x < 24 * b2 + j + m) → s' c i' x = s c i' x)
  | k, t, 0, s, h1, h2 => absurd h2 (by omega)
  | 0, t, f + 1, s, h1, h2 => by
    rw [fM_move_L152, if_le (by omega) (by omega)]
    exact ⟨s, rfl, fun x a b => by omega, fun _ _ _ _ => rfl⟩
  | k + 1, t, f + 1, s, h1, h2 => by
    have hx : 24 * nI b2 + nI j + nI t = nI (24 * b2 + j + t) := by rw [l24, n_mul, n_add, n_add]
    rw [fM_move_L152, if_nle (by omega) (by omega), hx]
    simp (disch := omega) only [zlt_eq, zgd_T, zin_T, zb2_s, zbd_s, n_cl, n_sub1, n_predm, n_sc, if_nle, if_nle0, if_nle1, if_le, if_true, if_false]
    obtain ⟨s', r1, r2, r3⟩ := M_mv2 (N := N) hb hm k (t + 1) f (zup s 41 0 (24 * b2 + j + t) (s 42 0 t)) (by omega) (by omega)
    refine ⟨s', r1, fun x a b => ?_, fun c i' x hc => ?_⟩
    · by_cases e : x = t
      · subst e
        rw [r3 _ _ _ (by omega), zup_s]
      · rw [r2 x (by omega) b, zup_o (by omega)]
    · rw [r3 c i' x (by omega)]
      unfold zup
      rw [if_neg (by omega)]
theorem P_move {N : Nat} (hN : 901 ≤ N) {σ : zS} (h : Full σ) (x1 x2 x3 x4 x5 : Int32) : PrF σ (fA_move x1 x2 x3 x4 x5) (fM_move N x1 x2 x3 x4 x5) := by
  have hF := h
  obtain ⟨⟨P, T, M, c⟩, hS, -, -, -⟩ := h
  by_cases q1 : wi x1 3
  · have a1 := (A_isSheet (x := x1)).1 q1
    have m1 := (M_isSheet (x := x1)).1 q1
    by_cases q3 : wi x3 3
    · have a3 := (A_isSheet (x := x3)).1 q3
      have m3 := (M_isSheet (x := x3)).1 q3
      obtain ⟨b1, hb1, rfl⟩ := q1
      obtain ⟨b2, hb2, rfl⟩ := q3
      obtain ⟨⟨bt1, g1, g2, g3⟩, ⟨n1, g4, g5, g6⟩, g7⟩ := hS b1 (by omega)
      obtain ⟨⟨bt2, k1, k2, k3⟩, ⟨n2, k4, k5, k6⟩, k7⟩ := hS b2 (by omega)
      have hne : ∀ bt, (bt = 0 ∨ bt = 8 ∨ bt = 16 ∨ bt = 32) → bt ≠ 0 → ¬ (nI bt = 0) := fun bt hb hz r => hz ((nI_eq (b := 0) (by omega) (by omega)).mp r)
      by_cases z1 : bt1 = 0
      · refine PrF_of hF (Pr_err c (e := 2) (by omega) (by omega) ?_ ?_)
        · unfold fA_move fA_move_J52
          rw [a1, zbd_s, if_neg (by decide), a3, zbd_s, if_neg (by decide)]
          simp (disch := omega) only [zlt_eq, zgd_T, zin_T, zb2_s, zbd_s, n_cl, n_sub1, n_predm, n_sc, if_nle, if_nle0, if_nle1, if_le, if_true, if_false]
          rw [H_miss (by omega) g2, zbd_s, if_pos z1, if_neg (by decide), zb2_id]
          rfl
        · have e39 : (zup σ 26 0 2 (σ 26 0 2 + 1)) 39 0 b1 = 0 := by rw [zup_o (by omega), g3, z1]; rfl
          unfold fM_move fM_move_J38
          rw [m1, zbd_s, if_neg (by decide), m3, zbd_s, if_neg (by decide)]
          simp (disch := omega) only [zlt_eq, zgd_T, zin_T, zb2_s, zbd_s, n_cl, n_sub1, n_predm, n_sc, if_nle, if_nle0, if_nle1, if_le, if_true, if_false]
          rw [e39, if_pos rfl, zb2_id]
          rfl
      · by_cases z2 : bt2 = 0
        · refine PrF_of hF (Pr_err c (e := 2) (by omega) (by omega) ?_ ?_)
          · unfold fA_move fA_move_J52
            rw [a1, zbd_s, if_neg (by decide), a3, zbd_s, if_neg (by decide)]
            simp (disch := omega) only [zlt_eq, zgd_T, zin_T, zb2_s, zbd_s, n_cl, n_sub1, n_predm, n_sc, if_nle, if_nle0, if_nle1, if_le, if_true, if_false]
            rw [H_miss (by omega) g2, zbd_s, if_neg z1, if_pos rfl, H_miss (by omega) k2, zbd_s, if_pos z2, if_neg (by decide), zb2_id]
            rfl
          · have e39 : (zup σ 26 0 2 (σ 26 0 2 + 1)) 39 0 b1 = nI bt1 := by rw [zup_o (by omega), g3]
            have e39' : (zup σ 26 0 2 (σ 26 0 2 + 1)) 39 0 b2 = 0 := by rw [zup_o (by omega), k3, z2]; rfl
            unfold fM_move fM_move_J38
            rw [m1, zbd_s, if_neg (by decide), m3, zbd_s, if_neg (by decide)]
            simp (disch := omega) only [zlt_eq, zgd_T, zin_T, zb2_s, zbd_s, n_cl, n_sub1, n_predm, n_sc, if_nle, if_nle0, if_nle1, if_le, if_true, if_false]
            rw [e39, if_neg (hne _ g1 z1), e39', if_pos rfl, zb2_id]
            rfl
        · by_cases z3 : bt1 = bt2
          · have hc3 : nI bt1 = nI bt2 := by rw [z3]
            have r1 := H_run (b := b1) (n := n1) (x := x2) (y := x5) g4 g5
            have r2 := H_run (b := b2) (n := n2) (x := x4) (y := x5) k4 k5
            have h0 : (0 : Int32).toInt = 0 := by decide
            by_cases ok : (0 ≤ x5.toInt ∧ 0 ≤ x2.toInt ∧ x2.toInt + x5.toInt ≤ n1) ∧ (0 ≤ x5.toInt ∧ 0 ≤ x4.toInt ∧ x4.toInt + x5.toInt ≤ n2)
            · have r1 := r1.1 ok.1
              have r2 := r2.1 ok.2
              have s1 := n_subg (n := n1) (by omega) (x := x5) (by omega)
              have s2 := n_subg (n := n2) (by omega) (x := x5) (by omega)
              have l1 : ¬ (x5 < 0) := by rw [i32_lt]; omega
              have l2 : ¬ (x2 < 0) := by rw [i32_lt]; omega
              have l3 : ¬ (x4 < 0) := by rw [i32_lt]; omega
              have l4 : ¬ (nI n1 - x5 < x2) := by rw [i32_lt]; omega
              have l5 : x4 ≤ nI n2 - x5 := by rw [i32_le]; omega
              have e5 : ∃ m, x5 = nI m ∧ (m : Int) = x5.toInt := ⟨x5.toInt.toNat, i32_nat (by omega), by omega⟩
              have e2 : ∃ i, x2 = nI i ∧ (i : Int) = x2.toInt := ⟨x2.toInt.toNat, i32_nat (by omega), by omega⟩
              have e4 : ∃ j, x4 = nI j ∧ (j : Int) = x4.toInt := ⟨x4.toInt.toNat, i32_nat (by omega), by omega⟩
              obtain ⟨m, e5, e5'⟩ := e5
              obtain ⟨i, e2, e2'⟩ := e2
              obtain ⟨j, e4, e4'⟩ := e4
              have i1 : i + m ≤ 24 := by omega
              have i2 : j + m ≤ 24 := by omega
              have c5 : x5.toNatClampNeg = m := by rw [e5]; exact n_cl (by omega)
              have c2' : x2.toNatClampNeg = i := by rw [e2]; exact n_cl (by omega)
              have c4' : x4.toNatClampNeg = j := by rw [e4]; exact n_cl (by omega)
              obtain ⟨u, u1, u2, u3⟩ := M_mv1 (N := N) (b1 := b1) (i := i) (b2 := b2) (j := j) (m := m) (by omega) i1 m 0 N (zcp σ 23 b1 23 b2 i j m) (by omega) (by omega)
              obtain ⟨τ, v1, v2, v3⟩ := M_mv2 (N := N) (b2 := b2) (j := j) (m := m) (by omega) i2 m 0 N u (by omega) (by omega)
              have d39 : ∀ b, (zcp σ 23 b1 23 b2 i j m) 39 0 b = σ 39 0 b := fun b => zcp_o (by omega)
              have d40 : ∀ b, (zcp σ 23 b1 23 b2 i j m) 40 0 b = σ 40 0 b := fun b => zcp_o (by omega)
              have far : ∀ c i' k, ¬ (c = 23 ∧ i' = b2) → ¬ (c = 41 ∧ i' = 0) → c ≠ 42 → τ c i' k = σ c i' k := fun c i' k y1 y2 y3 => by
                rw [v3 c i' k (by omega), u3 c i' k (by omega)]
                exact zcp_o (by omega)
              refine PrF_sh hF (r := x5) (s := zcp σ 23 b1 23 b2 i j m) (τ := τ) ?_ ?_ ?_ (fun c i k hc => far c i k (by omega) (by omega) (by omega)) (fun i k => zcp_o (by omega))
              · unfold fA_move
                rw [a1, zbd_s, if_neg (by decide), a3, zbd_s, if_neg (by decide)]
                simp (disch := omega) only [zlt_eq, zgd_T, zin_T, zb2_s, zbd_s, n_cl, n_sub1, n_predm, n_sc, if_nle, if_nle0, if_nle1, if_le, if_true, if_false]
                rw [H_miss (by omega) g2, zbd_s, if_neg z1, if_pos rfl, H_miss (by omega) k2, zbd_s, if_neg z2, if_pos rfl, g2, k2, if_pos hc3, r1, zbd_s, if_neg (by decide), r2, zbd_s, if_neg (by decide), c5, c2', c4', zgd_t ⟨l2, l3, l1, i1, i2⟩]
              · unfold fM_move
                rw [m1, zbd_s, if_neg (by decide), m3, zbd_s, if_neg (by decide)]
                simp (disch := omega) only [zlt_eq, zgd_T, zin_T, zb2_s, zbd_s, n_cl, n_sub1, n_predm, n_sc, if_nle, if_nle0, if_nle1, if_le, if_true, if_false]
                rw [d39, d39, d40, d40, g3, k3, g6, k6, if_neg (hne _ g1 z1), if_neg (hne _ k1 z2), if_pos hc3, if_neg l1, if_neg l2, if_neg l3, if_neg l4, if_pos l5, e5, e2, e4]
                exact u1.trans v1
              · intro b hb
                obtain ⟨⟨bt', p1, p2, p3⟩, ⟨n', p4, p5, p6⟩, p7⟩ := hS b hb
                refine ⟨⟨bt', p1, by rw [far _ _ _ (by omega) (by omega) (by omega)]; exact p2, by rw [far _ _ _ (by omega) (by omega) (by omega)]; exact p3⟩, ⟨n', p4, by rw [far _ _ _ (by omega) (by omega) (by omega)]; exact p5, by rw [far _ _ _ (by omega) (by omega) (by omega)]; exact p6⟩, fun x hx => ?_⟩
                have w1 : τ 23 b x = (zcp σ 23 b1 23 b2 i j m) 23 b x := by rw [v3 _ _ _ (by omega), u3 _ _ _ (by omega)]
                rw [w1]
                by_cases y : b = b2 ∧ j ≤ x ∧ x < j + m
                · obtain ⟨rfl, y1, y2⟩ := y
                  have w2 := v2 (x - j) (by omega) (by omega)
                  have w3 := u2 (x - j) (by omega) (by omega)
                  rw [show 24 * b + j + (x - j) = 24 * b + x by omega] at w2
                  have w4 : (zcp σ 23 b1 23 b i j m) 41 0 (24 * b1 + i + (x - j)) = σ 41 0 (24 * b1 + (i + (x - j))) := (zcp_o (by omega)).trans (by rw [Nat.add_assoc])
                  rw [zcp_i y1 y2, w2, w3, w4]
                  exact g7 (i + (x - j)) (by omega)
                · have w2 : τ 41 0 (24 * b + x) = σ 41 0 (24 * b + x) := by
                    rw [v3 _ _ _ (by omega), u3 _ _ _ (by omega)]
                    exact zcp_o (by omega)
                  have w3 : (zcp σ 23 b1 23 b2 i j m) 23 b x = σ 23 b x := by
                    by_cases yb : b = b2
                    · rw [yb]
                      exact zcp_n (by omega)
                    · exact zcp_o (by omega)
                  rw [w2, w3]
                  exact p7 x hx
            · have hA : fA_move (nI b1) x2 (nI b2) x4 x5 σ = fA_refuse (nI 1) σ := by
                unfold fA_move fA_move_J100
                rw [a1, zbd_s, if_neg (by decide), a3, zbd_s, if_neg (by decide)]
                simp (disch := omega) only [zlt_eq, zgd_T, zin_T, zb2_s, zbd_s, n_cl, n_sub1, n_predm, n_sc, if_nle, if_nle0, if_nle1, if_le, if_true, if_false]
                rw [H_miss (by omega) g2, zbd_s, if_neg z1, if_pos rfl, H_miss (by omega) k2, zbd_s, if_neg z2, if_pos rfl, g2, k2, if_pos hc3, zb2_id]
                by_cases y1 : 0 ≤ x5.toInt ∧ 0 ≤ x2.toInt ∧ x2.toInt + x5.toInt ≤ n1
                · rw [r1.1 y1, zbd_s, if_neg (by decide), r2.2 (fun y2 => ok ⟨y1, y2⟩), zbd_s, if_pos rfl]
                  rfl
                · rw [r1.2 y1, zbd_s, if_pos rfl]
                  rfl
              refine PrF_of hF (Pr_err c (e := 1) (by omega) (by omega) hA ?_)
              have d39 : ∀ b, (zup σ 26 0 1 (σ 26 0 1 + 1)) 39 0 b = σ 39 0 b := fun b => zup_o (by omega)
              have d40 : ∀ b, (zup σ 26 0 1 (σ 26 0 1 + 1)) 40 0 b = σ 40 0 b := fun b => zup_o (by omega)
              unfold fM_move fM_move_J106
              rw [m1, zbd_s, if_neg (by decide), m3, zbd_s, if_neg (by decide)]
              simp (disch := omega) only [zlt_eq, zgd_T, zin_T, zb2_s, zbd_s, n_cl, n_sub1, n_predm, n_sc, if_nle, if_nle0, if_nle1, if_le, if_true, if_false]
              rw [d39, d39, d40, d40, g3, k3, g6, k6, if_neg (hne _ g1 z1), if_neg (hne _ k1 z2), if_pos hc3, zb2_id]
              by_cases y1 : x5 < 0
              · rw [if_pos y1]
                rfl
              · rw [if_neg y1]
                by_cases y2 : x2 < 0
                · rw [if_pos y2]
                  rfl
                · rw [if_neg y2]
                  by_cases y3 : x4 < 0
                  · rw [if_pos y3]
                    rfl
                  · rw [if_neg y3]
                    by_cases y4 : nI n1 - x5 < x2
                    · rw [if_pos y4]
                      rfl
                    · rw [if_neg y4, if_neg]
                      · rfl
                      · intro y5
                        rw [i32_lt] at y1 y2 y3 y4
                        rw [i32_le] at y5
                        have s1 := n_subg (n := n1) (by omega) (x := x5) (by omega)
                        have s2 := n_subg (n := n2) (by omega) (x := x5) (by omega)
                        exact ok (by omega)
          · have hc3 : ¬ (nI bt1 = nI bt2) := fun r => z3 ((nI_eq (by omega) (by omega)).mp r)
            refine PrF_of hF (Pr_err c (e := 5) (by omega) (by omega) ?_ ?_)
            · unfold fA_move
              rw [a1, zbd_s, if_neg (by decide), a3, zbd_s, if_neg (by decide)]
              simp (disch := omega) only [zlt_eq, zgd_T, zin_T, zb2_s, zbd_s, n_cl, n_sub1, n_predm, n_sc, if_nle, if_nle0, if_nle1, if_le, if_true, if_false]
              rw [H_miss (by omega) g2, zbd_s, if_neg z1, if_pos rfl, H_miss (by omega) k2, zbd_s, if_neg z2, if_pos rfl, g2, k2, if_neg hc3, zb2_id]
              rfl
            · have d39 : ∀ b, (zup σ 26 0 5 (σ 26 0 5 + 1)) 39 0 b = σ 39 0 b := fun b => zup_o (by omega)
              unfold fM_move
              rw [m1, zbd_s, if_neg (by decide), m3, zbd_s, if_neg (by decide)]
              simp (disch := omega) only [zlt_eq, zgd_T, zin_T, zb2_s, zbd_s, n_cl, n_sub1, n_predm, n_sc, if_nle, if_nle0, if_nle1, if_le, if_true, if_false]
              rw [d39, d39, g3, k3, if_neg (hne _ g1 z1), if_neg (hne _ k1 z2), if_neg hc3, zb2_id]
              rfl
    · have a3 := (A_isSheet (x := x3)).2 q3
      have m3 := (M_isSheet (x := x3)).2 q3
      refine PrF_of hF (Pr_err c (e := 1) (by omega) (by omega) ?_ ?_)
      · unfold fA_move fA_move_J14
        rw [a1, zbd_s, if_neg (by decide), a3, zbd_s, if_pos rfl, zb2_id]
        rfl
      · unfold fM_move fM_move_J14
        rw [m1, zbd_s, if_neg (by decide), m3, zbd_s, if_pos rfl, zb2_id]
        rfl
  · have a1 := (A_isSheet (x := x1)).2 q1
    have m1 := (M_isSheet (x := x1)).2 q1
    refine PrF_of hF (Pr_err c (e := 1) (by omega) (by omega) ?_ ?_)
    · unfold fA_move fA_move_J14
      rw [a1, zbd_s, if_pos rfl, zb2_id]
      rfl
    · unfold fM_move fM_move_J14
      rw [m1, zbd_s, if_pos rfl, zb2_id]
      rfl
