/-! Pure mathematics: feed, count, check. -/
theorem bits255 {i : Nat} (w : Nat) (hi : i < w) (hw : w = 32 ∨ w = 64) : (255#w : BitVec w).getLsbD i = decide (i < 8) := by
  have h : (255 : Nat) = 2 ^ 8 - 1 := rfl
  rw [BitVec.getLsbD_ofNat, h, Nat.testBit_two_pow_sub_one]
  have : decide (i < w) = true := decide_eq_true hi
  rw [this, Bool.true_and]
theorem byte_bv (x : BitVec 64) (k : Nat) (hk : k ≤ 56) : (x >>> k).setWidth 32 &&& 255#32 = ((x.sshiftRight k) &&& 255#64).setWidth 32 := by
  apply BitVec.eq_of_getLsbD_eq
  intro i hi
  rw [BitVec.getLsbD_and, BitVec.getLsbD_setWidth, BitVec.getLsbD_setWidth, BitVec.getLsbD_and, bits255 32 hi (Or.inl rfl), bits255 64 (by omega) (Or.inr rfl), BitVec.getLsbD_ushiftRight, BitVec.getLsbD_sshiftRight]
  by_cases h : i < 8
  · have h1 : decide (64 ≤ i) = false := decide_eq_false (by omega)
    rw [h1, if_pos (show k + i < 64 by omega), Bool.not_false, Bool.true_and, Bool.and_assoc]
  · have h1 : decide (i < 8) = false := decide_eq_false h
    rw [h1]
    simp
theorem byte_eq (x : Int64) {j : Nat} (hj : j < 8) : ((((x.toUInt64 >>> ((8 * nI j).toInt64.toUInt64 &&& Int64.toUInt64 63)).toInt64).toInt32) &&& 255) = (((x >>> ((8 * nI j).toInt64 &&& 63)) &&& 255).toInt32) := by
  apply Int32.toBitVec_inj.mp
  have h := byte_bv x.toBitVec (8 * j) (by omega)
  have e1 : ((8 * nI j).toInt64.toUInt64 &&& Int64.toUInt64 63) = UInt64.ofNat (8 * j) := by
    rcases (show j = 0 ∨ j = 1 ∨ j = 2 ∨ j = 3 ∨ j = 4 ∨ j = 5 ∨ j = 6 ∨ j = 7 by omega) with z | z | z | z | z | z | z | z <;> subst z <;> decide
  have e2 : ((8 * nI j).toInt64 &&& 63) = Int64.ofNat (8 * j) := by
    rcases (show j = 0 ∨ j = 1 ∨ j = 2 ∨ j = 3 ∨ j = 4 ∨ j = 5 ∨ j = 6 ∨ j = 7 by omega) with z | z | z | z | z | z | z | z <;> subst z <;> decide
  have e3 : ((UInt64.ofNat (8 * j)).toBitVec % 64).toNat = 8 * j := by
    rcases (show j = 0 ∨ j = 1 ∨ j = 2 ∨ j = 3 ∨ j = 4 ∨ j = 5 ∨ j = 6 ∨ j = 7 by omega) with z | z | z | z | z | z | z | z <;> subst z <;> decide
  have e4 : ((Int64.ofNat (8 * j)).toBitVec.smod 64).toNat = 8 * j := by
    rcases (show j = 0 ∨ j = 1 ∨ j = 2 ∨ j = 3 ∨ j = 4 ∨ j = 5 ∨ j = 6 ∨ j = 7 by omega) with z | z | z | z | z | z | z | z <;> subst z <;> decide
  rw [e1, e2]
  show (x.toBitVec >>> ((UInt64.ofNat (8 * j)).toBitVec % 64).toNat).signExtend 32 &&& 255#32 = ((x.toBitVec.sshiftRight ((Int64.ofNat (8 * j)).toBitVec.smod 64).toNat) &&& 255#64).signExtend 32
  rw [BitVec.signExtend_eq_setWidth_of_le _ (by decide), BitVec.signExtend_eq_setWidth_of_le _ (by decide), e4, e3]
  exact h
def fdB (x : Int64) (j : Nat) : Int32 := (((x >>> ((8 * nI j).toInt64 &&& 63)) &&& 255).toInt32)
theorem R_feed_L {N : Nat} {x : Int64} {n : Nat} (hn : n ≤ 8) : ∀ k j f t s, j + k = n → k < f → t + k ≤ 60 → s 3 0 1 = nI t → ∃ s', fA_feed_L43 N f x (nI n) (nI j) s = some (nI (t + k), s') ∧ s' 3 0 1 = nI (t + k) ∧ (∀ i, i < k → s' 22 0 (t + i) = fdB x (j + i)) ∧ (∀ c i y, ¬ (c = 3 ∧ i = 0 ∧ y = 1) → ¬ (c = 22 ∧ i = 0 ∧ t ≤ y) → s' c i y = s c i y)
  | k, j, 0, t, s, h1, h2, h3, h4 => absurd h2 (by omega)
  | 0, j, f + 1, t, s, h1, h2, h3, h4 => by
    rw [fA_feed_L43, if_le (by omega) (by omega), h4]
    exact ⟨s, rfl, h4, fun i hi => absurd hi (by omega), fun _ _ _ _ _ => rfl⟩
  | k + 1, j, f + 1, t, s, h1, h2, h3, h4 => by
    have n2 : ¬ (Int32.ofNat (if 0 % 2 = 0 then 60 else 24) ≤ nI t) := fun r => absurd ((nI_leI (a := 60) (by omega) (by omega)).mp r) (by omega)
    have hz : zin (nI t) (if 0 % 2 = 0 then 60 else 24) := zin_n (n := 60) (by omega) (by omega)
    have hadd : fW_add 0 (fdB x j) s = some (zup (zup s 22 0 t (fdB x j)) 3 0 1 (nI (t + 1))) := by
      unfold fW_add
      rw [h4, if_neg n2, zgd_t hz, zlt_eq, zlt_eq, n_cl (by omega), zup_o (by omega), h4, n_sc]
    have hb := byte_eq x (j := j) (by omega)
    rw [fA_feed_L43, if_nle (by omega) (by omega), hb]
    show ∃ s', (fW_add 0 (fdB x j) s).bind (fun s12 => fA_feed_L43 N f x (nI n) (nI j + 1) s12) = _ ∧ _
    rw [hadd, zbd_s, n_sc]
    obtain ⟨s', r1, r2, r3, r4⟩ := R_feed_L (N := N) (x := x) hn k (j + 1) f (t + 1) _ (by omega) (by omega) (by omega) (show (zup (zup s 22 0 t (fdB x j)) 3 0 1 (nI (t + 1))) 3 0 1 = nI (t + 1) from zup_s)
    rw [show t + 1 + k = t + (k + 1) by omega] at r1 r2
    refine ⟨s', r1, r2, fun i hi => ?_, fun c i y a1 a2 => ?_⟩
    · by_cases z : i = 0
      · subst z
        rw [Nat.add_zero, Nat.add_zero, r4 _ _ _ (by omega) (by omega), zup_o (by omega), zup_s]
      · have := r3 (i - 1) (by omega)
        rw [show t + 1 + (i - 1) = t + i by omega, show j + 1 + (i - 1) = j + i by omega] at this
        exact this
    · rw [r4 c i y a1 (by omega)]
      unfold zup
      rw [if_neg (by omega), if_neg (by omega)]
theorem M_feed_L {N : Nat} {x : Int64} {n : Nat} (hn : n ≤ 8) : ∀ k j f t s, j + k = n → k < f → t + k ≤ 60 → s 30 0 2 = nI t → ∃ s', fM_feed_L38 N f x (nI n) (nI j) s = some (nI (t + k), s') ∧ s' 30 0 2 = nI (t + k) ∧ (∀ i, i < k → s' 30 0 (310 + (t + i)) = fdB x (j + i)) ∧ (∀ c i y, ¬ (c = 30 ∧ i = 0 ∧ (y = 2 ∨ (310 + t ≤ y ∧ y < 370))) → s' c i y = s c i y)
  | k, j, 0, t, s, h1, h2, h3, h4 => absurd h2 (by omega)
  | 0, j, f + 1, t, s, h1, h2, h3, h4 => by
    rw [fM_feed_L38, if_le (by omega) (by omega), h4]
    exact ⟨s, rfl, h4, fun i hi => absurd hi (by omega), fun _ _ _ _ => rfl⟩
  | k + 1, j, f + 1, t, s, h1, h2, h3, h4 => by
    have h310 : 310 + nI t = nI (310 + t) := n_add 310 t
    rw [fM_feed_L38, if_nle (by omega) (by omega), h4, h310]
    simp (disch := omega) only [zlt_eq, zgd_T, zin_T, zb2_s, zbd_s, n_cl, n_sub1, n_predm, n_sc, if_nle, if_nle0, if_nle1, if_le, if_true, if_false]
    have e2 : (zup s 30 0 (310 + t) (fdB x j)) 30 0 2 = nI t := by rw [zup_k (by omega)]; exact h4
    show ∃ s', fM_feed_L38 N f x (nI n) (nI (j + 1)) (zup (zup s 30 0 (310 + t) (fdB x j)) 30 0 2 ((zup s 30 0 (310 + t) (fdB x j)) 30 0 2 + 1)) = _ ∧ _
    rw [e2, n_sc]
    obtain ⟨s', r1, r2, r3, r4⟩ := M_feed_L (N := N) (x := x) hn k (j + 1) f (t + 1) _ (by omega) (by omega) (by omega) (show (zup (zup s 30 0 (310 + t) (fdB x j)) 30 0 2 (nI (t + 1))) 30 0 2 = nI (t + 1) from zup_s)
    rw [show t + 1 + k = t + (k + 1) by omega] at r1 r2
    refine ⟨s', r1, r2, fun i hi => ?_, fun c i y a1 => ?_⟩
    · by_cases z : i = 0
      · subst z
        rw [Nat.add_zero, Nat.add_zero, r4 _ _ _ (by omega), zup_k (by omega), zup_s]
      · have := r3 (i - 1) (by omega)
        rw [show t + 1 + (i - 1) = t + i by omega, show j + 1 + (i - 1) = j + i by omega] at this
        exact this
    · rw [r4 c i y (by omega)]
      unfold zup
      rw [if_neg (by omega), if_neg (by omega)]
theorem P_feed {N : Nat} (hN : 901 ≤ N) {σ : zS} (h : Core σ) (x1 : Int64) (x2 : Int32) : Pr σ (fA_feed N x1 x2) (fM_feed N x1 x2) := by
  obtain ⟨P, T, M, c⟩ := h
  obtain ⟨c1, c2, c3, c3', c4, c5, c6, c7, c8, c9, c10⟩ := c
  have c : CX σ P T M := ⟨c1, c2, c3, c3', c4, c5, c6, c7, c8, c9, c10⟩
  have hn := c3.1
  have m1 := M_inr (x := x2) (a := 1) (b := 8) (by omega) (by omega)
  obtain ⟨t, ht, t1, t2, t3⟩ := c9
  by_cases q1 : rng x2 1 8
  · have m1 : fM_in x2 1 8 = some 1 := m1.1 q1
    obtain ⟨k, hk1, hk, rfl⟩ := q1
    have n1 : ¬ (nI k < 1) := by rw [l1, n_lt (by omega) (by omega)]; omega
    have n2 : nI k ≤ 8 := (nI_leI (b := 8) (by omega) (by omega)).mpr hk
    have hs : 60 - nI t = nI (60 - t) := n_sub (a := 60) ht
    by_cases qd : t + k ≤ 60
    · obtain ⟨s, r1, r2, r3, r4⟩ := R_feed_L (N := N) (x := x1) hk k 0 N t σ (by omega) (by omega) qd t1
      have e2 : s 30 0 2 = nI t := (r4 _ _ _ (by omega) (by omega)).trans t2
      obtain ⟨τ, u1, u2, u3, u4⟩ := M_feed_L (N := N) (x := x1) hk k 0 N t s (by omega) (by omega) qd e2
      have e : ∀ c i y, ¬ (c = 3 ∧ i = 0 ∧ y = 1) → ¬ (c = 22 ∧ i = 0 ∧ t ≤ y) → ¬ (c = 30 ∧ i = 0 ∧ (y = 2 ∨ (310 + t ≤ y ∧ y < 370))) → τ c i y = σ c i y := fun c i y a1 a2 a3 => (u4 c i y a3).trans (r4 c i y a1 a2)
      refine ⟨nI (t + k), s, τ, ?_, ?_, ⟨P, T, M, CX_mk c (fun c i k hc => e c i k (by omega) (by omega) (by omega)) (TC_e c4 (fun c i k hc => e c i k (by omega) (by omega) (by omega))) (TM_e c5 c6 (fun k a b => e 30 0 k (by omega) (by omega) (by omega))) c6 ?_ ?_⟩, ?_, fun i k => r4 _ _ _ (by omega) (by omega)⟩
      · unfold fA_feed
        rw [if_neg n1, if_pos n2, t1, hs, if_le (by omega) (by omega)]
        exact r1
      · have hle : nI t + nI k ≤ 60 := by rw [n_add]; exact (nI_leI (b := 60) (by omega) (by omega)).mpr qd
        unfold fM_feed
        rw [m1, zbd_s, if_neg (by decide), e2, if_pos hle]
        exact u1
      · refine ⟨t + k, qd, (u4 _ _ _ (by omega)).trans r2, u2, fun i hi => ?_⟩
        rw [u4 22 0 i (by omega)]
        by_cases z : i < t
        · rw [r4 _ _ _ (by omega) (by omega), u4 _ _ _ (by omega), r4 _ _ _ (by omega) (by omega)]
          exact t3 i z
        · have a1 := r3 (i - t) (by omega)
          have a2 := u3 (i - t) (by omega)
          rw [show t + (i - t) = i by omega] at a1 a2
          rw [a1, a2]
      · exact RW_e c10 (fun k => e _ _ _ (by omega) (by omega) (by omega)) (fun k => e _ _ _ (by omega) (by omega) (by omega)) (e _ _ _ (by omega) (by omega) (by omega)) (fun k _ _ => e _ _ _ (by omega) (by omega) (by omega))
      · intro c i y a1 a2 a3 a4 a5 a6 a7 a8 a9 a10 a11
        exact e c i y (by omega) (by omega) (by omega)
    · refine Pr_err c (e := 4) (by omega) (by omega) ?_ ?_
      · unfold fA_feed
        rw [if_neg n1, if_pos n2, t1, hs, if_nle (by omega) (by omega), zb2_id]
        rfl
      · have hle : ¬ (nI t + nI k ≤ 60) := by rw [n_add]; exact fun r => qd ((nI_leI (b := 60) (by omega) (by omega)).mp r)
        have e2 : (zup σ 26 0 4 (σ 26 0 4 + 1)) 30 0 2 = nI t := by rw [zup_o (by omega)]; exact t2
        unfold fM_feed
        rw [m1, zbd_s, if_neg (by decide), e2, if_neg hle, zb2_id]
        rfl
  · have m1 : fM_in x2 1 8 = some 0 := m1.2 q1
    refine Pr_err c (e := 1) (by omega) (by omega) ?_ ?_
    · unfold fA_feed
      refine (rng_if (b := 8) (by omega) q1 _ _).trans ?_
      unfold fA_feed_J11
      rw [zb2_id]
      rfl
    · unfold fM_feed
      rw [m1, zbd_s, if_pos rfl, zb2_id]
      rfl
/-! count -/
theorem R_sum18 {N : Nat} {σ : zS} {P : zP} (h : VC 0 σ P) (hP : PI P) : ∀ k j acc f, j + k = P 7 0 → k < f → fR_sum_18_L4 N 0 0 f (nI acc) (nI j) σ = some (nI (acc + sr (P 4) k j))
  | k, j, acc, 0, h1, h2 => absurd h2 (by omega)
  | 0, j, acc, f + 1, h1, h2 => by
    have hn := hP.1
    rw [fR_sum_18_L4, h.2.2.1, if_le (by omega) (by omega)]
    rfl
  | k + 1, j, acc, f + 1, h1, h2 => by
    have hn := hP.1
    have e4 : σ 18 0 j = nI (P 4 j) := h.1 4 j (by omega) (by omega)
    rw [fR_sum_18_L4, h.2.2.1, if_nle (by omega) (by omega)]
    simp (disch := omega) only [zlt_eq, zgd_T, zin_T, zb2_s, zbd_s, n_cl, n_sub1, n_predm, n_sc, if_nle, if_nle0, if_nle1, if_le, if_true, if_false, e4, n_add]
    rw [R_sum18 h hP k (j + 1) (acc + P 4 j) f (by omega) (by omega), Nat.add_assoc]
    rfl
theorem R_sum19 {N : Nat} {σ : zS} {P : zP} (h : VC 0 σ P) (hP : PI P) : ∀ k j acc f, j + k = P 7 0 → k < f → fR_sum_19_L4 N 0 0 f (nI acc) (nI j) σ = some (nI (acc + sr (P 5) k j))
  | k, j, acc, 0, h1, h2 => absurd h2 (by omega)
  | 0, j, acc, f + 1, h1, h2 => by
    have hn := hP.1
    rw [fR_sum_19_L4, h.2.2.1, if_le (by omega) (by omega)]
    rfl
  | k + 1, j, acc, f + 1, h1, h2 => by
    have hn := hP.1
    have e4 : σ 19 0 j = nI (P 5 j) := h.1 5 j (by omega) (by omega)
    rw [fR_sum_19_L4, h.2.2.1, if_nle (by omega) (by omega)]
    simp (disch := omega) only [zlt_eq, zgd_T, zin_T, zb2_s, zbd_s, n_cl, n_sub1, n_predm, n_sc, if_nle, if_nle0, if_nle1, if_le, if_true, if_false, e4, n_add]
    rw [R_sum19 h hP k (j + 1) (acc + P 5 j) f (by omega) (by omega), Nat.add_assoc]
    rfl
theorem M_sum {N w : Nat} {σ : zS} {P : zP} (hw : w = 4 ∨ w = 5) (h : VM σ P) (hP : PI P) : ∀ k j acc f, j + k = P 7 0 → k < f → fM_sumOf_L4 N f (nI w) (nI acc) (nI j) σ = some (nI (acc + sr (P w) k j))
  | k, j, acc, 0, h1, h2 => absurd h2 (by omega)
  | 0, j, acc, f + 1, h1, h2 => by
    have hn := hP.1
    rw [fM_sumOf_L4, h.2.2.1, if_le (by omega) (by omega)]
    rfl
  | k + 1, j, acc, f + 1, h1, h2 => by
    have hn := hP.1
    have e4 : fM_its (nI j) (nI w) σ = some (nI (P w j)) := (M_its h w (by omega) (by omega)).trans (by rcases hw with z | z <;> subst z <;> rfl)
    rw [fM_sumOf_L4, h.2.2.1, if_nle (by omega) (by omega), e4, zbd_s, zlt_eq, n_add, n_sc, M_sum hw h hP k (j + 1) (acc + P w j) f (by omega) (by omega), Nat.add_assoc]
    rfl
theorem P_count {N : Nat} (hN : 901 ≤ N) {σ : zS} (h : Full σ) (x1 : Int32) : PrF σ (fA_count N x1) (fM_count N x1) := by
  have hF := h
  obtain ⟨⟨P, T, M, c⟩, hS, ⟨n, g1, g2, g3, g4⟩, hI, hB⟩ := h
  obtain ⟨c1, c2, c3, c3', c4, c5, c6, c7, c8, ⟨t, ht, t1, t2, t3⟩, ⟨w, hw, w1, w2, w3⟩⟩ := c
  have c : CX σ P T M := ⟨c1, c2, c3, c3', c4, c5, c6, c7, c8, ⟨t, ht, t1, t2, t3⟩, ⟨w, hw, w1, w2, w3⟩⟩
  have hn := c3.1
  have r3 := R_tiedAll (N := N) c1 c3 (by omega)
  have q3 := M_tiedAll (N := N) c2 c3 (by omega)
  have r4 : fR_sum_18 N 0 0 σ = _ := R_sum18 (N := N) c1 c3 (P 7 0) 0 0 N (by omega) (by omega)
  have q4 : fM_sumOf N 4 σ = _ := M_sum (N := N) (w := 4) (Or.inl rfl) c2 c3 (P 7 0) 0 0 N (by omega) (by omega)
  have r5 : fR_sum_19 N 0 0 σ = _ := R_sum19 (N := N) c1 c3 (P 7 0) 0 0 N (by omega) (by omega)
  have q5 : fM_sumOf N 5 σ = _ := M_sum (N := N) (w := 5) (Or.inr rfl) c2 c3 (P 7 0) 0 0 N (by omega) (by omega)
  by_cases z0 : x1 = 0
  · refine PrF_of hF (Pr_look c (r := nI (P 7 0)) ?_ ?_)
    · unfold fA_count; rw [if_pos z0, c1.2.2.1]
    · unfold fM_count; rw [if_pos z0, c2.2.2.1]
  by_cases z1 : x1 = 1
  · refine PrF_of hF (Pr_look c (r := nI (P 7 1)) ?_ ?_)
    · unfold fA_count; rw [if_neg z0, if_pos z1, c1.2.2.2.1]
    · unfold fM_count; rw [if_neg z0, if_pos z1, c2.2.2.2.1]
  by_cases z2 : x1 = 2
  · refine PrF_of hF (Pr_look c (r := nI (P 7 2)) ?_ ?_)
    · unfold fA_count; rw [if_neg z0, if_neg z1, if_pos z2, c1.2.2.2.2]
    · unfold fM_count; rw [if_neg z0, if_neg z1, if_pos z2, c2.2.2.2.2]
  by_cases z3 : x1 = 3
  · refine PrF_of hF (Pr_look c (r := nI (sTd P (P 7 0) 0 0)) ?_ ?_)
    · unfold fA_count; rw [if_neg z0, if_neg z1, if_neg z2, if_pos z3, r3, zbd_s]
    · unfold fM_count; rw [if_neg z0, if_neg z1, if_neg z2, if_pos z3, q3, zbd_s]
  by_cases z4 : x1 = 4
  · refine PrF_of hF (Pr_look c (r := nI (0 + sr (P 4) (P 7 0) 0)) ?_ ?_)
    · unfold fA_count; rw [if_neg z0, if_neg z1, if_neg z2, if_neg z3, if_pos z4, r4, zbd_s]
    · unfold fM_count; rw [if_neg z0, if_neg z1, if_neg z2, if_neg z3, if_pos z4, q4, zbd_s]
  by_cases z5 : x1 = 5
  · refine PrF_of hF (Pr_look c (r := nI (0 + sr (P 5) (P 7 0) 0)) ?_ ?_)
    · unfold fA_count; rw [if_neg z0, if_neg z1, if_neg z2, if_neg z3, if_neg z4, if_pos z5, r5, zbd_s]
    · unfold fM_count; rw [if_neg z0, if_neg z1, if_neg z2, if_neg z3, if_neg z4, if_pos z5, q5, zbd_s]
  by_cases z6 : x1 = 6
  · refine PrF_of hF (Pr_look c (r := nI t) ?_ ?_)
    · unfold fA_count; rw [if_neg z0, if_neg z1, if_neg z2, if_neg z3, if_neg z4, if_neg z5, if_pos z6, t1]
    · unfold fM_count; rw [if_neg z0, if_neg z1, if_neg z2, if_neg z3, if_neg z4, if_neg z5, if_pos z6, t2]
  by_cases z7 : x1 = 7
  · refine PrF_of hF (Pr_look c (r := nI w) ?_ ?_)
    · unfold fA_count; rw [if_neg z0, if_neg z1, if_neg z2, if_neg z3, if_neg z4, if_neg z5, if_neg z6, if_pos z7, w1]
    · unfold fM_count; rw [if_neg z0, if_neg z1, if_neg z2, if_neg z3, if_neg z4, if_neg z5, if_neg z6, if_pos z7, w2]
  by_cases z8 : x1 = 8
  · refine PrF_of hF (Pr_look c (r := nI n) ?_ ?_)
    · unfold fA_count; rw [if_neg z0, if_neg z1, if_neg z2, if_neg z3, if_neg z4, if_neg z5, if_neg z6, if_neg z7, if_pos z8, g2]
    · unfold fM_count; rw [if_neg z0, if_neg z1, if_neg z2, if_neg z3, if_neg z4, if_neg z5, if_neg z6, if_neg z7, if_pos z8, g3]
  by_cases z9 : x1 = 9
  · refine PrF_of hF (Pr_look c (r := σ 2 0 12) ?_ ?_)
    · unfold fA_count; rw [if_neg z0, if_neg z1, if_neg z2, if_neg z3, if_neg z4, if_neg z5, if_neg z6, if_neg z7, if_neg z8, if_pos z9]
    · unfold fM_count; rw [if_neg z0, if_neg z1, if_neg z2, if_neg z3, if_neg z4, if_neg z5, if_neg z6, if_neg z7, if_neg z8, if_pos z9, c7]
  · refine PrF_of hF (Pr_err c (e := 1) (by omega) (by omega) ?_ ?_)
    · unfold fA_count; rw [if_neg z0, if_neg z1, if_neg z2, if_neg z3, if_neg z4, if_neg z5, if_neg z6, if_neg z7, if_neg z8, if_neg z9, zb2_id]; rfl
    · unfold fM_count; rw [if_neg z0, if_neg z1, if_neg z2, if_neg z3, if_neg z4, if_neg z5, if_neg z6, if_neg z7, if_neg z8, if_neg z9, zb2_id]; rfl
