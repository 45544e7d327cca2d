/-! Pure mathematics: the start, and the law's loop. -/
/-- the road at the start -/
def P0 : zP := fun w i => if w = 2 then 1 else if w = 6 then 10 * i + 1 else 0
theorem st_road : ∀ w : Fin 6, ∀ i : Fin 8, zs0 0 (fun _ => 0) (14 + w.1) 0 i.1 = pw w.1 (P0 w.1 i.1) ∧ zs0 0 (fun _ => 0) 30 0 (12 + 6 * i.1 + w.1) = pw w.1 (P0 w.1 i.1) := by decide +kernel
theorem st_list : ∀ j : Fin 6, zs0 0 (fun _ => 0) 20 0 j.1 = nI (P0 6 j.1) ∧ zs0 0 (fun _ => 0) 30 0 (6 + j.1) = nI (P0 6 j.1) ∧ P0 6 j.1 < 80 ∧ P0 6 j.1 % 10 < 2 := by decide +kernel
theorem st_nums : zs0 0 (fun _ => 0) 2 0 9 = nI 0 ∧ zs0 0 (fun _ => 0) 2 0 10 = nI 0 ∧ zs0 0 (fun _ => 0) 2 0 11 = nI 0 ∧ zs0 0 (fun _ => 0) 30 0 4 = nI 0 ∧ zs0 0 (fun _ => 0) 30 0 0 = nI 0 ∧ zs0 0 (fun _ => 0) 30 0 5 = nI 0 ∧ zs0 0 (fun _ => 0) 2 0 12 = zs0 0 (fun _ => 0) 30 0 1 ∧ zs0 0 (fun _ => 0) 3 0 1 = nI 0 ∧ zs0 0 (fun _ => 0) 30 0 2 = nI 0 ∧ zs0 0 (fun _ => 0) 3 1 1 = nI 0 ∧ zs0 0 (fun _ => 0) 30 0 3 = nI 0 ∧ zs0 0 (fun _ => 0) 6 0 1 = nI 0 ∧ zs0 0 (fun _ => 0) 8 0 14 = nI 0 ∧ zs0 0 (fun _ => 0) 7 0 8 = 0 ∧ zs0 0 (fun _ => 0) 8 0 4 = 0 ∧ zs0 0 (fun _ => 0) 0 2 2 = nI 0 ∧ zs0 0 (fun _ => 0) 0 3 2 = nI 1 := by decide +kernel
theorem st_texts : ∀ u : Fin 2, zs0 0 (fun _ => 0) 0 (0 + u.1) 1 = nI 0 ∧ zs0 0 (fun _ => 0) 0 (0 + u.1) 2 = nI u.1 ∧ zs0 0 (fun _ => 0) 30 0 (60 + 125 * u.1) = nI 0 := by decide +kernel
theorem st_errs : ∀ k : Fin 7, zs0 0 (fun _ => 0) 26 0 k.1 = zs0 0 (fun _ => 0) 34 0 k.1 := by decide +kernel
theorem st_sheets : ∀ b : Fin 4, zs0 0 (fun _ => 0) 4 b.1 2 = nI 0 ∧ zs0 0 (fun _ => 0) 39 0 b.1 = nI 0 ∧ zs0 0 (fun _ => 0) 4 b.1 1 = nI 0 ∧ zs0 0 (fun _ => 0) 40 0 b.1 = nI 0 := by decide +kernel
theorem st_sheets2 : ∀ b : Fin 4, ∀ i : Fin 24, zs0 0 (fun _ => 0) 23 b.1 i.1 = zs0 0 (fun _ => 0) 41 0 (24 * b.1 + i.1) := by decide +kernel
theorem st_tables : zABOVE.getD 0 0 = -1 ∧ zABOVE.getD 1 0 = 0 ∧ zABOVE.getD 2 0 = 0 ∧ zABOVE.getD 3 0 = 0 ∧ zABOVE.getD 4 0 = 1 ∧ zABOVE.getD 5 0 = 2 ∧ zABOVE.getD 6 0 = 0 := by decide
theorem Full_start (L : Nat) (xs : Nat → Int32) : Full (zs0 L xs) := by
  have e : ∀ c i k, c < 43 → zs0 L xs c i k = zs0 0 (fun _ => 0) c i k := fun c i k h => congrFun (zs0_in L xs h) k
  obtain ⟨n1, n2, n3', n4, n5, n6, n7, n8, n9, n10, n11, n12, n13, n14, n15, n16, n17⟩ := st_nums
  refine ⟨⟨P0, fun _ _ => 0, fun _ => 0, ⟨fun w i hw hi => ?_, fun j hj => ?_, ?_, ?_, ?_⟩, ⟨fun w i hw hi => ?_, fun j hj => ?_, ?_, ?_, ?_⟩, ⟨by decide, by decide, by decide, fun i hi => ?_, fun i hi => absurd hi (Nat.not_lt_zero _), fun j hj => (st_list ⟨j, hj⟩).2.2⟩, ⟨by decide, fun i hi => rfl⟩, fun u hu => ⟨?_, ?_, fun k hk => absurd hk (Nat.not_lt_zero _)⟩, fun u hu => ⟨?_, fun k hk => absurd hk (Nat.not_lt_zero _)⟩, fun u hu => ⟨Nat.zero_le _, fun q => absurd q (Nat.not_lt_zero _)⟩, ?_, fun k hk => ?_, ⟨0, by omega, ?_, ?_, fun k hk => absurd hk (by omega)⟩, ⟨0, by omega, ?_, ?_, fun k hk => absurd hk (by omega)⟩⟩, fun b hb => ⟨⟨0, by omega, ?_, ?_⟩, ⟨0, by omega, ?_, ?_⟩, fun i hi => Or.inl ?_⟩, ⟨0, by omega, ?_, ?_, fun k hk => absurd hk (by omega)⟩, ⟨?_, fun q => absurd ?_ q, ?_, ?_⟩, ⟨st_tables, fun k => rfl, fun k => rfl⟩⟩
  · rw [e _ _ _ (by omega)]; exact (st_road ⟨w, hw⟩ ⟨i, hi⟩).1
  · rw [e _ _ _ (by omega)]; exact (st_list ⟨j, hj⟩).1
  · rw [e _ _ _ (by omega)]; exact n1
  · rw [e _ _ _ (by omega)]; exact n2
  · rw [e _ _ _ (by omega)]; exact n3'
  · rw [e _ _ _ (by omega)]; exact (st_road ⟨w, hw⟩ ⟨i, hi⟩).2
  · rw [e _ _ _ (by omega)]; exact (st_list ⟨j, hj⟩).2.1
  · rw [e _ _ _ (by omega)]; exact n4
  · rw [e _ _ _ (by omega)]; exact n5
  · rw [e _ _ _ (by omega)]; exact n6
  · exact ⟨Nat.zero_le _, Nat.zero_le _, (show (1 : Nat) ≤ 8 by decide), Nat.zero_le _, Nat.zero_le _, Nat.zero_le _⟩
  · rw [e _ _ _ (by omega)]; exact (st_texts ⟨u, hu⟩).1
  · rw [e _ _ _ (by omega)]; exact (st_texts ⟨u, hu⟩).2.1
  · rw [e _ _ _ (by omega)]; exact (st_texts ⟨u, hu⟩).2.2
  · rw [e _ _ _ (by omega), e _ _ _ (by omega)]; exact n7
  · rw [e _ _ _ (by omega), e _ _ _ (by omega)]; exact st_errs ⟨k, hk⟩
  · rw [e _ _ _ (by omega)]; exact n8
  · rw [e _ _ _ (by omega)]; exact n9
  · rw [e _ _ _ (by omega)]; exact n10
  · rw [e _ _ _ (by omega)]; exact n11
  · rw [e _ _ _ (by omega)]; exact (st_sheets ⟨b, hb⟩).1
  · rw [e _ _ _ (by omega)]; exact (st_sheets ⟨b, hb⟩).2.1
  · rw [e _ _ _ (by omega)]; exact (st_sheets ⟨b, hb⟩).2.2.1
  · rw [e _ _ _ (by omega)]; exact (st_sheets ⟨b, hb⟩).2.2.2
  · rw [e _ _ _ (by omega), e _ _ _ (by omega)]; exact st_sheets2 ⟨b, hb⟩ ⟨i, hi⟩
  · rw [e _ _ _ (by omega)]; exact n12
  · rw [e _ _ _ (by omega)]; exact n13
  · rw [e _ _ _ (by omega), e _ _ _ (by omega), n14, n15]
  · rw [e _ _ _ (by omega)]; exact n14
  · rw [e _ _ _ (by omega)]; exact n16
  · rw [e _ _ _ (by omega)]; exact n17
theorem n_a2 (a : Nat) : nI a + 2 = nI (a + 2) := n_add a 2
theorem n_a3 (a : Nat) : nI a + 3 = nI (a + 3) := n_add a 3
theorem n_a4 (a : Nat) : nI a + 4 = nI (a + 4) := n_add a 4
theorem n_a5 (a : Nat) : nI a + 5 = nI (a + 5) := n_add a 5
theorem n_a6 (a : Nat) : nI a + 6 = nI (a + 6) := n_add a 6
/-- one entry of the script -/
def LE (σ : zS) (y : Nat) (K : Int32 → zS → Option (Int32 × zS)) (f : Option (Int32 × zS)) : Prop := ∃ τ, f = K (nI (y + 6)) τ ∧ Full τ ∧ SC σ τ
theorem LE_0 {N G L y : Nat} (hN : 901 ≤ N) (hG : 40 ≤ G) {σ : zS} (hF : Full σ) (hL : σ 50 1 0 = nI L) (hL2 : L ≤ 3072) (hy : y + 5 < L) (K : Int32 → zS → Option (Int32 × zS)) : LE σ y K (fX_law_50_J212 N G K (nI y) σ) := by
  have hF' := hF
  obtain ⟨h, hS, hT, hI, hB⟩ := hF'
  obtain ⟨r, s, τ, p1, p2, p3, p4, p5⟩ := PrF_of hF (P_one h (σ 50 0 (y + 1)) (σ 50 0 (y + 2)) (σ 50 0 (y + 3)) (σ 50 0 (y + 4)))
  have p5' : ∀ i k, s 50 i k = σ 50 i k := p5
  refine ⟨τ, ?_, p3, p4⟩
  unfold fX_law_50_J212 fX_law_50_J1465
  simp (disch := omega) only [zgd_T, zin_T, n_cl, n_sc, n_a2, n_a3, n_a4, n_a5, p5', hL]
  rw [p1, zb2_s]
  simp (disch := omega) only [zgd_T, zin_T, n_cl, n_sc, n_a2, n_a3, n_a4, n_a5, p5', hL]
  rw [p2, zb2_s, if_pos rfl, n_a6]
theorem LE_1 {N G L y : Nat} (hN : 901 ≤ N) (hG : 40 ≤ G) {σ : zS} (hF : Full σ) (hL : σ 50 1 0 = nI L) (hL2 : L ≤ 3072) (hy : y + 5 < L) (K : Int32 → zS → Option (Int32 × zS)) : LE σ y K (fX_law_50_J265 N G K (nI y) σ) := by
  have hF' := hF
  obtain ⟨h, hS, hT, hI, hB⟩ := hF'
  obtain ⟨r, s, τ, p1, p2, p3, p4, p5⟩ := PrF_of hF (P_oneIs (N := N) hN h (σ 50 0 (y + 1)) (σ 50 0 (y + 2)))
  have p5' : ∀ i k, s 50 i k = σ 50 i k := p5
  refine ⟨τ, ?_, p3, p4⟩
  unfold fX_law_50_J265 fX_law_50_J1465
  simp (disch := omega) only [zgd_T, zin_T, n_cl, n_sc, n_a2, n_a3, n_a4, n_a5, p5', hL]
  rw [p1, zb2_s]
  simp (disch := omega) only [zgd_T, zin_T, n_cl, n_sc, n_a2, n_a3, n_a4, n_a5, p5', hL]
  rw [p2, zb2_s, if_pos rfl, n_a6]
theorem LE_2 {N G L y : Nat} (hN : 901 ≤ N) (hG : 40 ≤ G) {σ : zS} (hF : Full σ) (hL : σ 50 1 0 = nI L) (hL2 : L ≤ 3072) (hy : y + 5 < L) (K : Int32 → zS → Option (Int32 × zS)) : LE σ y K (fX_law_50_J298 N G K (nI y) σ) := by
  have hF' := hF
  obtain ⟨h, hS, hT, hI, hB⟩ := hF'
  obtain ⟨r, s, τ, p1, p2, p3, p4, p5⟩ := PrF_of hF (P_become h (σ 50 0 (y + 1)) (σ 50 0 (y + 2)))
  have p5' : ∀ i k, s 50 i k = σ 50 i k := p5
  refine ⟨τ, ?_, p3, p4⟩
  unfold fX_law_50_J298 fX_law_50_J1465
  simp (disch := omega) only [zgd_T, zin_T, n_cl, n_sc, n_a2, n_a3, n_a4, n_a5, p5', hL]
  rw [p1, zb2_s]
  simp (disch := omega) only [zgd_T, zin_T, n_cl, n_sc, n_a2, n_a3, n_a4, n_a5, p5', hL]
  rw [p2, zb2_s, if_pos rfl, n_a6]
theorem LE_3 {N G L y : Nat} (hN : 901 ≤ N) (hG : 40 ≤ G) {σ : zS} (hF : Full σ) (hL : σ 50 1 0 = nI L) (hL2 : L ≤ 3072) (hy : y + 5 < L) (K : Int32 → zS → Option (Int32 × zS)) : LE σ y K (fX_law_50_J331 N G K (nI y) σ) := by
  have hF' := hF
  obtain ⟨h, hS, hT, hI, hB⟩ := hF'
  obtain ⟨r, s, τ, p1, p2, p3, p4, p5⟩ := PrF_of hF (P_as (N := N) hN h hB.1 (σ 50 0 (y + 1)) (σ 50 0 (y + 2)))
  have p5' : ∀ i k, s 50 i k = σ 50 i k := p5
  refine ⟨τ, ?_, p3, p4⟩
  unfold fX_law_50_J331 fX_law_50_J1465
  simp (disch := omega) only [zgd_T, zin_T, n_cl, n_sc, n_a2, n_a3, n_a4, n_a5, p5', hL]
  rw [p1, zb2_s]
  simp (disch := omega) only [zgd_T, zin_T, n_cl, n_sc, n_a2, n_a3, n_a4, n_a5, p5', hL]
  rw [p2, zb2_s, if_pos rfl, n_a6]
theorem LE_4 {N G L y : Nat} (hN : 901 ≤ N) (hG : 40 ≤ G) {σ : zS} (hF : Full σ) (hL : σ 50 1 0 = nI L) (hL2 : L ≤ 3072) (hy : y + 5 < L) (K : Int32 → zS → Option (Int32 × zS)) : LE σ y K (fX_law_50_J364 N G K (nI y) σ) := by
  have hF' := hF
  obtain ⟨h, hS, hT, hI, hB⟩ := hF'
  obtain ⟨r, s, τ, p1, p2, p3, p4, p5⟩ := PrF_of hF (P_reel h (σ 50 0 (y + 1)) (σ 50 0 (y + 2)))
  have p5' : ∀ i k, s 50 i k = σ 50 i k := p5
  refine ⟨τ, ?_, p3, p4⟩
  unfold fX_law_50_J364 fX_law_50_J1465
  simp (disch := omega) only [zgd_T, zin_T, n_cl, n_sc, n_a2, n_a3, n_a4, n_a5, p5', hL]
  rw [p1, zb2_s]
  simp (disch := omega) only [zgd_T, zin_T, n_cl, n_sc, n_a2, n_a3, n_a4, n_a5, p5', hL]
  rw [p2, zb2_s, if_pos rfl, n_a6]
theorem LE_5 {N G L y : Nat} (hN : 901 ≤ N) (hG : 40 ≤ G) {σ : zS} (hF : Full σ) (hL : σ 50 1 0 = nI L) (hL2 : L ≤ 3072) (hy : y + 5 < L) (K : Int32 → zS → Option (Int32 × zS)) : LE σ y K (fX_law_50_J397 N G K (nI y) σ) := by
  have hF' := hF
  obtain ⟨h, hS, hT, hI, hB⟩ := hF'
  obtain ⟨r, s, τ, p1, p2, p3, p4, p5⟩ := PrF_of hF (P_cut h (σ 50 0 (y + 1)))
  have p5' : ∀ i k, s 50 i k = σ 50 i k := p5
  refine ⟨τ, ?_, p3, p4⟩
  unfold fX_law_50_J397 fX_law_50_J1465
  simp (disch := omega) only [zgd_T, zin_T, n_cl, n_sc, n_a2, n_a3, n_a4, n_a5, p5', hL]
  rw [p1, zb2_s]
  simp (disch := omega) only [zgd_T, zin_T, n_cl, n_sc, n_a2, n_a3, n_a4, n_a5, p5', hL]
  rw [p2, zb2_s, if_pos rfl, n_a6]
theorem LE_6 {N G L y : Nat} (hN : 901 ≤ N) (hG : 40 ≤ G) {σ : zS} (hF : Full σ) (hL : σ 50 1 0 = nI L) (hL2 : L ≤ 3072) (hy : y + 5 < L) (K : Int32 → zS → Option (Int32 × zS)) : LE σ y K (fX_law_50_J420 N G K (nI y) σ) := by
  have hF' := hF
  obtain ⟨h, hS, hT, hI, hB⟩ := hF'
  obtain ⟨r, s, τ, p1, p2, p3, p4, p5⟩ := PrF_of hF (P_list h (σ 50 0 (y + 1)) (σ 50 0 (y + 2)) (σ 50 0 (y + 3)))
  have p5' : ∀ i k, s 50 i k = σ 50 i k := p5
  refine ⟨τ, ?_, p3, p4⟩
  unfold fX_law_50_J420 fX_law_50_J1465
  simp (disch := omega) only [zgd_T, zin_T, n_cl, n_sc, n_a2, n_a3, n_a4, n_a5, p5', hL]
  rw [p1, zb2_s]
  simp (disch := omega) only [zgd_T, zin_T, n_cl, n_sc, n_a2, n_a3, n_a4, n_a5, p5', hL]
  rw [p2, zb2_s, if_pos rfl, n_a6]
theorem LE_7 {N G L y : Nat} (hN : 901 ≤ N) (hG : 40 ≤ G) {σ : zS} (hF : Full σ) (hL : σ 50 1 0 = nI L) (hL2 : L ≤ 3072) (hy : y + 5 < L) (K : Int32 → zS → Option (Int32 × zS)) : LE σ y K (fX_law_50_J463 N G K (nI y) σ) := by
  have hF' := hF
  obtain ⟨h, hS, hT, hI, hB⟩ := hF'
  obtain ⟨r, s, τ, p1, p2, p3, p4, p5⟩ := PrF_of hF (P_listed h (σ 50 0 (y + 1)))
  have p5' : ∀ i k, s 50 i k = σ 50 i k := p5
  refine ⟨τ, ?_, p3, p4⟩
  unfold fX_law_50_J463 fX_law_50_J1465
  simp (disch := omega) only [zgd_T, zin_T, n_cl, n_sc, n_a2, n_a3, n_a4, n_a5, p5', hL]
  rw [p1, zb2_s]
  simp (disch := omega) only [zgd_T, zin_T, n_cl, n_sc, n_a2, n_a3, n_a4, n_a5, p5', hL]
  rw [p2, zb2_s, if_pos rfl, n_a6]
theorem LE_8 {N G L y : Nat} (hN : 901 ≤ N) (hG : 40 ≤ G) {σ : zS} (hF : Full σ) (hL : σ 50 1 0 = nI L) (hL2 : L ≤ 3072) (hy : y + 5 < L) (K : Int32 → zS → Option (Int32 × zS)) : LE σ y K (fX_law_50_J486 N G K (nI y) σ) := by
  have hF' := hF
  obtain ⟨h, hS, hT, hI, hB⟩ := hF'
  obtain ⟨r, s, τ, p1, p2, p3, p4, p5⟩ := PrF_of hF (P_feed (N := N) hN h ((((σ 50 0 (y + 1)).toInt64) <<< ((32 : Int32).toInt64 &&& 63)) ||| (((σ 50 0 (y + 2)).toInt64) &&& 4294967295)) (σ 50 0 (y + 3)))
  have p5' : ∀ i k, s 50 i k = σ 50 i k := p5
  refine ⟨τ, ?_, p3, p4⟩
  unfold fX_law_50_J486 fX_law_50_J1465
  simp (disch := omega) only [zgd_T, zin_T, n_cl, n_sc, n_a2, n_a3, n_a4, n_a5, p5', hL]
  rw [p1, zb2_s]
  simp (disch := omega) only [zgd_T, zin_T, n_cl, n_sc, n_a2, n_a3, n_a4, n_a5, p5', hL]
  rw [p2, zb2_s, if_pos rfl, n_a6]
theorem LE_9 {N G L y : Nat} (hN : 901 ≤ N) (hG : 40 ≤ G) {σ : zS} (hF : Full σ) (hL : σ 50 1 0 = nI L) (hL2 : L ≤ 3072) (hy : y + 5 < L) (K : Int32 → zS → Option (Int32 × zS)) : LE σ y K (fX_law_50_J549 N G K (nI y) σ) := by
  have hF' := hF
  obtain ⟨h, hS, hT, hI, hB⟩ := hF'
  obtain ⟨r, s, τ, p1, p2, p3, p4, p5⟩ := PrF_of hF (P_text (N := N) (G := G) hN hG h hB (σ 50 0 (y + 1)))
  have p5' : ∀ i k, s 50 i k = σ 50 i k := p5
  refine ⟨τ, ?_, p3, p4⟩
  unfold fX_law_50_J549 fX_law_50_J1465
  simp (disch := omega) only [zgd_T, zin_T, n_cl, n_sc, n_a2, n_a3, n_a4, n_a5, p5', hL]
  rw [p1, zb2_s]
  simp (disch := omega) only [zgd_T, zin_T, n_cl, n_sc, n_a2, n_a3, n_a4, n_a5, p5', hL]
  rw [p2, zb2_s, if_pos rfl, n_a6]
theorem LE_10 {N G L y : Nat} (hN : 901 ≤ N) (hG : 40 ≤ G) {σ : zS} (hF : Full σ) (hL : σ 50 1 0 = nI L) (hL2 : L ≤ 3072) (hy : y + 5 < L) (K : Int32 → zS → Option (Int32 × zS)) : LE σ y K (fX_law_50_J572 N G K (nI y) σ) := by
  have hF' := hF
  obtain ⟨h, hS, hT, hI, hB⟩ := hF'
  obtain ⟨r, s, τ, p1, p2, p3, p4, p5⟩ := PrF_of hF (P_untell h (σ 50 0 (y + 1)))
  have p5' : ∀ i k, s 50 i k = σ 50 i k := p5
  refine ⟨τ, ?_, p3, p4⟩
  unfold fX_law_50_J572 fX_law_50_J1465
  simp (disch := omega) only [zgd_T, zin_T, n_cl, n_sc, n_a2, n_a3, n_a4, n_a5, p5', hL]
  rw [p1, zb2_s]
  simp (disch := omega) only [zgd_T, zin_T, n_cl, n_sc, n_a2, n_a3, n_a4, n_a5, p5', hL]
  rw [p2, zb2_s, if_pos rfl, n_a6]
theorem LE_11 {N G L y : Nat} (hN : 901 ≤ N) (hG : 40 ≤ G) {σ : zS} (hF : Full σ) (hL : σ 50 1 0 = nI L) (hL2 : L ≤ 3072) (hy : y + 5 < L) (K : Int32 → zS → Option (Int32 × zS)) : LE σ y K (fX_law_50_J595 N G K (nI y) σ) := by
  have hF' := hF
  obtain ⟨h, hS, hT, hI, hB⟩ := hF'
  obtain ⟨r, s, τ, p1, p2, p3, p4, p5⟩ := PrF_of hF (P_law (N := N) hN h (σ 50 0 (y + 1)) (σ 50 0 (y + 2)) (σ 50 0 (y + 3)) (σ 50 0 (y + 4)))
  have p5' : ∀ i k, s 50 i k = σ 50 i k := p5
  refine ⟨τ, ?_, p3, p4⟩
  unfold fX_law_50_J595 fX_law_50_J1465
  simp (disch := omega) only [zgd_T, zin_T, n_cl, n_sc, n_a2, n_a3, n_a4, n_a5, p5', hL]
  rw [p1, zb2_s]
  simp (disch := omega) only [zgd_T, zin_T, n_cl, n_sc, n_a2, n_a3, n_a4, n_a5, p5', hL]
  rw [p2, zb2_s, if_pos rfl, n_a6]
theorem LE_12 {N G L y : Nat} (hN : 901 ≤ N) (hG : 40 ≤ G) {σ : zS} (hF : Full σ) (hL : σ 50 1 0 = nI L) (hL2 : L ≤ 3072) (hy : y + 5 < L) (K : Int32 → zS → Option (Int32 × zS)) : LE σ y K (fX_law_50_J648 N G K (nI y) σ) := by
  have hF' := hF
  obtain ⟨h, hS, hT, hI, hB⟩ := hF'
  obtain ⟨r, s, τ, p1, p2, p3, p4, p5⟩ := PrF_of hF (P_days (N := N) hN h (σ 50 0 (y + 1)))
  have p5' : ∀ i k, s 50 i k = σ 50 i k := p5
  refine ⟨τ, ?_, p3, p4⟩
  unfold fX_law_50_J648 fX_law_50_J1465
  simp (disch := omega) only [zgd_T, zin_T, n_cl, n_sc, n_a2, n_a3, n_a4, n_a5, p5', hL]
  rw [p1, zb2_s]
  simp (disch := omega) only [zgd_T, zin_T, n_cl, n_sc, n_a2, n_a3, n_a4, n_a5, p5', hL]
  rw [p2, zb2_s, if_pos rfl, n_a6]
theorem LE_13 {N G L y : Nat} (hN : 901 ≤ N) (hG : 40 ≤ G) {σ : zS} (hF : Full σ) (hL : σ 50 1 0 = nI L) (hL2 : L ≤ 3072) (hy : y + 5 < L) (K : Int32 → zS → Option (Int32 × zS)) : LE σ y K (fX_law_50_J671 N G K (nI y) σ) := by
  have hF' := hF
  obtain ⟨h, hS, hT, hI, hB⟩ := hF'
  obtain ⟨r, s, τ, p1, p2, p3, p4, p5⟩ := PrF_of hF (P_loose (N := N) hN h (σ 50 0 (y + 1)))
  have p5' : ∀ i k, s 50 i k = σ 50 i k := p5
  refine ⟨τ, ?_, p3, p4⟩
  unfold fX_law_50_J671 fX_law_50_J1465
  simp (disch := omega) only [zgd_T, zin_T, n_cl, n_sc, n_a2, n_a3, n_a4, n_a5, p5', hL]
  rw [p1, zb2_s]
  simp (disch := omega) only [zgd_T, zin_T, n_cl, n_sc, n_a2, n_a3, n_a4, n_a5, p5', hL]
  rw [p2, zb2_s, if_pos rfl, n_a6]
theorem LE_14 {N G L y : Nat} (hN : 901 ≤ N) (hG : 40 ≤ G) {σ : zS} (hF : Full σ) (hL : σ 50 1 0 = nI L) (hL2 : L ≤ 3072) (hy : y + 5 < L) (K : Int32 → zS → Option (Int32 × zS)) : LE σ y K (fX_law_50_J694 N G K (nI y) σ) := by
  have hF' := hF
  obtain ⟨h, hS, hT, hI, hB⟩ := hF'
  obtain ⟨r, s, τ, p1, p2, p3, p4, p5⟩ := PrF_of hF (P_day h (σ 50 0 (y + 1)))
  have p5' : ∀ i k, s 50 i k = σ 50 i k := p5
  refine ⟨τ, ?_, p3, p4⟩
  unfold fX_law_50_J694 fX_law_50_J1465
  simp (disch := omega) only [zgd_T, zin_T, n_cl, n_sc, n_a2, n_a3, n_a4, n_a5, p5', hL]
  rw [p1, zb2_s]
  simp (disch := omega) only [zgd_T, zin_T, n_cl, n_sc, n_a2, n_a3, n_a4, n_a5, p5', hL]
  rw [p2, zb2_s, if_pos rfl, n_a6]
theorem LE_15 {N G L y : Nat} (hN : 901 ≤ N) (hG : 40 ≤ G) {σ : zS} (hF : Full σ) (hL : σ 50 1 0 = nI L) (hL2 : L ≤ 3072) (hy : y + 5 < L) (K : Int32 → zS → Option (Int32 × zS)) : LE σ y K (fX_law_50_J717 N G K (nI y) σ) := by
  have hF' := hF
  obtain ⟨h, hS, hT, hI, hB⟩ := hF'
  obtain ⟨r, s, τ, p1, p2, p3, p4, p5⟩ := PrF_of hF (P_seed h (σ 50 0 (y + 1)))
  have p5' : ∀ i k, s 50 i k = σ 50 i k := p5
  refine ⟨τ, ?_, p3, p4⟩
  unfold fX_law_50_J717 fX_law_50_J1465
  simp (disch := omega) only [zgd_T, zin_T, n_cl, n_sc, n_a2, n_a3, n_a4, n_a5, p5', hL]
  rw [p1, zb2_s]
  simp (disch := omega) only [zgd_T, zin_T, n_cl, n_sc, n_a2, n_a3, n_a4, n_a5, p5', hL]
  rw [p2, zb2_s, if_pos rfl, n_a6]
theorem LE_16 {N G L y : Nat} (hN : 901 ≤ N) (hG : 40 ≤ G) {σ : zS} (hF : Full σ) (hL : σ 50 1 0 = nI L) (hL2 : L ≤ 3072) (hy : y + 5 < L) (K : Int32 → zS → Option (Int32 × zS)) : LE σ y K (fX_law_50_J740 N G K (nI y) σ) := by
  have hF' := hF
  obtain ⟨h, hS, hT, hI, hB⟩ := hF'
  obtain ⟨r, s, τ, p1, p2, p3, p4, p5⟩ := PrF_of hF (P_line (N := N) hN h (σ 50 0 (y + 1)))
  have p5' : ∀ i k, s 50 i k = σ 50 i k := p5
  refine ⟨τ, ?_, p3, p4⟩
  unfold fX_law_50_J740 fX_law_50_J1465
  simp (disch := omega) only [zgd_T, zin_T, n_cl, n_sc, n_a2, n_a3, n_a4, n_a5, p5', hL]
  rw [p1, zb2_s]
  simp (disch := omega) only [zgd_T, zin_T, n_cl, n_sc, n_a2, n_a3, n_a4, n_a5, p5', hL]
  rw [p2, zb2_s, if_pos rfl, n_a6]
theorem LE_17 {N G L y : Nat} (hN : 901 ≤ N) (hG : 40 ≤ G) {σ : zS} (hF : Full σ) (hL : σ 50 1 0 = nI L) (hL2 : L ≤ 3072) (hy : y + 5 < L) (K : Int32 → zS → Option (Int32 × zS)) : LE σ y K (fX_law_50_J763 N G K (nI y) σ) := by
  have hF' := hF
  obtain ⟨h, hS, hT, hI, hB⟩ := hF'
  obtain ⟨r, s, τ, p1, p2, p3, p4, p5⟩ := PrF_of hF (P_between (N := N) hN h (σ 50 0 (y + 1)) (σ 50 0 (y + 2)))
  have p5' : ∀ i k, s 50 i k = σ 50 i k := p5
  refine ⟨τ, ?_, p3, p4⟩
  unfold fX_law_50_J763 fX_law_50_J1465
  simp (disch := omega) only [zgd_T, zin_T, n_cl, n_sc, n_a2, n_a3, n_a4, n_a5, p5', hL]
  rw [p1, zb2_s]
  simp (disch := omega) only [zgd_T, zin_T, n_cl, n_sc, n_a2, n_a3, n_a4, n_a5, p5', hL]
  rw [p2, zb2_s, if_pos rfl, n_a6]
theorem LE_18 {N G L y : Nat} (hN : 901 ≤ N) (hG : 40 ≤ G) {σ : zS} (hF : Full σ) (hL : σ 50 1 0 = nI L) (hL2 : L ≤ 3072) (hy : y + 5 < L) (K : Int32 → zS → Option (Int32 × zS)) : LE σ y K (fX_law_50_J796 N G K (nI y) σ) := by
  have hF' := hF
  obtain ⟨h, hS, hT, hI, hB⟩ := hF'
  obtain ⟨r, s, τ, p1, p2, p3, p4, p5⟩ := PrF_of hF (P_over (N := N) hN h (σ 50 0 (y + 1)))
  have p5' : ∀ i k, s 50 i k = σ 50 i k := p5
  refine ⟨τ, ?_, p3, p4⟩
  unfold fX_law_50_J796 fX_law_50_J1465
  simp (disch := omega) only [zgd_T, zin_T, n_cl, n_sc, n_a2, n_a3, n_a4, n_a5, p5', hL]
  rw [p1, zb2_s]
  simp (disch := omega) only [zgd_T, zin_T, n_cl, n_sc, n_a2, n_a3, n_a4, n_a5, p5', hL]
  rw [p2, zb2_s, if_pos rfl, n_a6]
theorem LE_19 {N G L y : Nat} (hN : 901 ≤ N) (hG : 40 ≤ G) {σ : zS} (hF : Full σ) (hL : σ 50 1 0 = nI L) (hL2 : L ≤ 3072) (hy : y + 5 < L) (K : Int32 → zS → Option (Int32 × zS)) : LE σ y K (fX_law_50_J819 N G K (nI y) σ) := by
  have hF' := hF
  obtain ⟨h, hS, hT, hI, hB⟩ := hF'
  obtain ⟨r, s, τ, p1, p2, p3, p4, p5⟩ := PrF_of hF (P_knot (N := N) hN h (σ 50 0 (y + 1)))
  have p5' : ∀ i k, s 50 i k = σ 50 i k := p5
  refine ⟨τ, ?_, p3, p4⟩
  unfold fX_law_50_J819 fX_law_50_J1465
  simp (disch := omega) only [zgd_T, zin_T, n_cl, n_sc, n_a2, n_a3, n_a4, n_a5, p5', hL]
  rw [p1, zb2_s]
  simp (disch := omega) only [zgd_T, zin_T, n_cl, n_sc, n_a2, n_a3, n_a4, n_a5, p5', hL]
  rw [p2, zb2_s, if_pos rfl, n_a6]
theorem LE_20 {N G L y : Nat} (hN : 901 ≤ N) (hG : 40 ≤ G) {σ : zS} (hF : Full σ) (hL : σ 50 1 0 = nI L) (hL2 : L ≤ 3072) (hy : y + 5 < L) (K : Int32 → zS → Option (Int32 × zS)) : LE σ y K (fX_law_50_J842 N G K (nI y) σ) := by
  have hF' := hF
  obtain ⟨h, hS, hT, hI, hB⟩ := hF'
  obtain ⟨r, s, τ, p1, p2, p3, p4, p5⟩ := PrF_of hF (P_crossings (N := N) hN h )
  have p5' : ∀ i k, s 50 i k = σ 50 i k := p5
  refine ⟨τ, ?_, p3, p4⟩
  unfold fX_law_50_J842 fX_law_50_J1465
  unfold rd at p1 p2
  cases q1 : fA_crossings N σ with
  | none => rw [q1] at p1; cases p1
  | some r1 =>
    rw [q1, zbd_s] at p1
    have e1 : (r1, σ) = (r, s) := Option.some.inj p1
    have e2 : r1 = r := congrArg Prod.fst e1
    have e3 : σ = s := congrArg Prod.snd e1
    subst e2 e3
    cases q2 : fM_crossings N σ with
    | none => rw [q2] at p2; cases p2
    | some r2 =>
      rw [q2, zbd_s] at p2
      have e4 : (r2, σ) = (r1, τ) := Option.some.inj p2
      have e5 : r2 = r1 := congrArg Prod.fst e4
      have e6 : σ = τ := congrArg Prod.snd e4
      subst e5 e6
      rw [zbd_s, zbd_s, if_pos rfl, n_a6]
theorem LE_21 {N G L y : Nat} (hN : 901 ≤ N) (hG : 40 ≤ G) {σ : zS} (hF : Full σ) (hL : σ 50 1 0 = nI L) (hL2 : L ≤ 3072) (hy : y + 5 < L) (K : Int32 → zS → Option (Int32 × zS)) : LE σ y K (fX_law_50_J855 N G K (nI y) σ) := by
  have hF' := hF
  obtain ⟨h, hS, hT, hI, hB⟩ := hF'
  obtain ⟨r, s, τ, p1, p2, p3, p4, p5⟩ := PrF_of hF (P_then (N := N) hN h (σ 50 0 (y + 1)) (σ 50 0 (y + 2)))
  have p5' : ∀ i k, s 50 i k = σ 50 i k := p5
  refine ⟨τ, ?_, p3, p4⟩
  unfold fX_law_50_J855 fX_law_50_J1465
  simp (disch := omega) only [zgd_T, zin_T, n_cl, n_sc, n_a2, n_a3, n_a4, n_a5, p5', hL]
  rw [p1, zb2_s]
  simp (disch := omega) only [zgd_T, zin_T, n_cl, n_sc, n_a2, n_a3, n_a4, n_a5, p5', hL]
  rw [p2, zb2_s, if_pos rfl, n_a6]
theorem LE_22 {N G L y : Nat} (hN : 901 ≤ N) (hG : 40 ≤ G) {σ : zS} (hF : Full σ) (hL : σ 50 1 0 = nI L) (hL2 : L ≤ 3072) (hy : y + 5 < L) (K : Int32 → zS → Option (Int32 × zS)) : LE σ y K (fX_law_50_J888 N G K (nI y) σ) := by
  have hF' := hF
  obtain ⟨h, hS, hT, hI, hB⟩ := hF'
  obtain ⟨r, s, τ, p1, p2, p3, p4, p5⟩ := PrF_of hF (P_strings (N := N) hN h (σ 50 0 (y + 1)))
  have p5' : ∀ i k, s 50 i k = σ 50 i k := p5
  refine ⟨τ, ?_, p3, p4⟩
  unfold fX_law_50_J888 fX_law_50_J1465
  simp (disch := omega) only [zgd_T, zin_T, n_cl, n_sc, n_a2, n_a3, n_a4, n_a5, p5', hL]
  rw [p1, zb2_s]
  simp (disch := omega) only [zgd_T, zin_T, n_cl, n_sc, n_a2, n_a3, n_a4, n_a5, p5', hL]
  rw [p2, zb2_s, if_pos rfl, n_a6]
theorem LE_23 {N G L y : Nat} (hN : 901 ≤ N) (hG : 40 ≤ G) {σ : zS} (hF : Full σ) (hL : σ 50 1 0 = nI L) (hL2 : L ≤ 3072) (hy : y + 5 < L) (K : Int32 → zS → Option (Int32 × zS)) : LE σ y K (fX_law_50_J911 N G K (nI y) σ) := by
  have hF' := hF
  obtain ⟨h, hS, hT, hI, hB⟩ := hF'
  obtain ⟨r, s, τ, p1, p2, p3, p4, p5⟩ := PrF_of hF (P_soonest (N := N) hN h (σ 50 0 (y + 1)) (σ 50 0 (y + 2)))
  have p5' : ∀ i k, s 50 i k = σ 50 i k := p5
  refine ⟨τ, ?_, p3, p4⟩
  unfold fX_law_50_J911 fX_law_50_J1465
  simp (disch := omega) only [zgd_T, zin_T, n_cl, n_sc, n_a2, n_a3, n_a4, n_a5, p5', hL]
  rw [p1, zb2_s]
  simp (disch := omega) only [zgd_T, zin_T, n_cl, n_sc, n_a2, n_a3, n_a4, n_a5, p5', hL]
  rw [p2, zb2_s, if_pos rfl, n_a6]
theorem LE_24 {N G L y : Nat} (hN : 901 ≤ N) (hG : 40 ≤ G) {σ : zS} (hF : Full σ) (hL : σ 50 1 0 = nI L) (hL2 : L ≤ 3072) (hy : y + 5 < L) (K : Int32 → zS → Option (Int32 × zS)) : LE σ y K (fX_law_50_J944 N G K (nI y) σ) := by
  have hF' := hF
  obtain ⟨h, hS, hT, hI, hB⟩ := hF'
  obtain ⟨r, s, τ, p1, p2, p3, p4, p5⟩ := PrF_of hF (P_spareFor (N := N) hN h (σ 50 0 (y + 1)) (σ 50 0 (y + 2)))
  have p5' : ∀ i k, s 50 i k = σ 50 i k := p5
  refine ⟨τ, ?_, p3, p4⟩
  unfold fX_law_50_J944 fX_law_50_J1465
  simp (disch := omega) only [zgd_T, zin_T, n_cl, n_sc, n_a2, n_a3, n_a4, n_a5, p5', hL]
  rw [p1, zb2_s]
  simp (disch := omega) only [zgd_T, zin_T, n_cl, n_sc, n_a2, n_a3, n_a4, n_a5, p5', hL]
  rw [p2, zb2_s, if_pos rfl, n_a6]
theorem LE_25 {N G L y : Nat} (hN : 901 ≤ N) (hG : 40 ≤ G) {σ : zS} (hF : Full σ) (hL : σ 50 1 0 = nI L) (hL2 : L ≤ 3072) (hy : y + 5 < L) (K : Int32 → zS → Option (Int32 × zS)) : LE σ y K (fX_law_50_J977 N G K (nI y) σ) := by
  have hF' := hF
  obtain ⟨h, hS, hT, hI, hB⟩ := hF'
  obtain ⟨r, s, τ, p1, p2, p3, p4, p5⟩ := PrF_of hF (P_freeFor (N := N) hN h (σ 50 0 (y + 1)) (σ 50 0 (y + 2)))
  have p5' : ∀ i k, s 50 i k = σ 50 i k := p5
  refine ⟨τ, ?_, p3, p4⟩
  unfold fX_law_50_J977 fX_law_50_J1465
  simp (disch := omega) only [zgd_T, zin_T, n_cl, n_sc, n_a2, n_a3, n_a4, n_a5, p5', hL]
  rw [p1, zb2_s]
  simp (disch := omega) only [zgd_T, zin_T, n_cl, n_sc, n_a2, n_a3, n_a4, n_a5, p5', hL]
  rw [p2, zb2_s, if_pos rfl, n_a6]
theorem LE_26 {N G L y : Nat} (hN : 901 ≤ N) (hG : 40 ≤ G) {σ : zS} (hF : Full σ) (hL : σ 50 1 0 = nI L) (hL2 : L ≤ 3072) (hy : y + 5 < L) (K : Int32 → zS → Option (Int32 × zS)) : LE σ y K (fX_law_50_J1010 N G K (nI y) σ) := by
  have hF' := hF
  obtain ⟨h, hS, hT, hI, hB⟩ := hF'
  obtain ⟨r, s, τ, p1, p2, p3, p4, p5⟩ := PrF_of hF (P_odds (N := N) hN h (σ 50 0 (y + 1)) (σ 50 0 (y + 2)) (σ 50 0 (y + 3)))
  have p5' : ∀ i k, s 50 i k = σ 50 i k := p5
  refine ⟨τ, ?_, p3, p4⟩
  unfold fX_law_50_J1010 fX_law_50_J1465
  simp (disch := omega) only [zgd_T, zin_T, n_cl, n_sc, n_a2, n_a3, n_a4, n_a5, p5', hL]
  rw [p1, zb2_s]
  simp (disch := omega) only [zgd_T, zin_T, n_cl, n_sc, n_a2, n_a3, n_a4, n_a5, p5', hL]
  rw [p2, zb2_s, if_pos rfl, n_a6]
theorem LE_27 {N G L y : Nat} (hN : 901 ≤ N) (hG : 40 ≤ G) {σ : zS} (hF : Full σ) (hL : σ 50 1 0 = nI L) (hL2 : L ≤ 3072) (hy : y + 5 < L) (K : Int32 → zS → Option (Int32 × zS)) : LE σ y K (fX_law_50_J1053 N G K (nI y) σ) := by
  have hF' := hF
  obtain ⟨h, hS, hT, hI, hB⟩ := hF'
  obtain ⟨r, s, τ, p1, p2, p3, p4, p5⟩ := PrF_of hF (P_fits (N := N) hN h hS (σ 50 0 (y + 1)) (σ 50 0 (y + 2)) (σ 50 0 (y + 3)))
  have p5' : ∀ i k, s 50 i k = σ 50 i k := p5
  refine ⟨τ, ?_, p3, p4⟩
  unfold fX_law_50_J1053 fX_law_50_J1465
  simp (disch := omega) only [zgd_T, zin_T, n_cl, n_sc, n_a2, n_a3, n_a4, n_a5, p5', hL]
  rw [p1, zb2_s]
  simp (disch := omega) only [zgd_T, zin_T, n_cl, n_sc, n_a2, n_a3, n_a4, n_a5, p5', hL]
  rw [p2, zb2_s, if_pos rfl, n_a6]
theorem LE_28 {N G L y : Nat} (hN : 901 ≤ N) (hG : 40 ≤ G) {σ : zS} (hF : Full σ) (hL : σ 50 1 0 = nI L) (hL2 : L ≤ 3072) (hy : y + 5 < L) (K : Int32 → zS → Option (Int32 × zS)) : LE σ y K (fX_law_50_J1096 N G K (nI y) σ) := by
  have hF' := hF
  obtain ⟨h, hS, hT, hI, hB⟩ := hF'
  obtain ⟨r, s, τ, p1, p2, p3, p4, p5⟩ := P_voice (N := N) (G := G) hN (Nat.le_trans (by decide) hG) hF (σ 50 0 (y + 1)) (σ 50 0 (y + 2)) (σ 50 0 (y + 3))
  have p5' : ∀ i k, s 50 i k = σ 50 i k := p5
  refine ⟨τ, ?_, p3, p4⟩
  unfold fX_law_50_J1096 fX_law_50_J1465
  simp (disch := omega) only [zgd_T, zin_T, n_cl, n_sc, n_a2, n_a3, n_a4, n_a5, p5', hL]
  rw [p1, zb2_s]
  simp (disch := omega) only [zgd_T, zin_T, n_cl, n_sc, n_a2, n_a3, n_a4, n_a5, p5', hL]
  rw [p2, zb2_s, if_pos rfl, n_a6]
theorem LE_29 {N G L y : Nat} (hN : 901 ≤ N) (hG : 40 ≤ G) {σ : zS} (hF : Full σ) (hL : σ 50 1 0 = nI L) (hL2 : L ≤ 3072) (hy : y + 5 < L) (K : Int32 → zS → Option (Int32 × zS)) : LE σ y K (fX_law_50_J1139 N G K (nI y) σ) := by
  have hF' := hF
  obtain ⟨h, hS, hT, hI, hB⟩ := hF'
  obtain ⟨r, s, τ, p1, p2, p3, p4, p5⟩ := P_body hF (σ 50 0 (y + 1))
  have p5' : ∀ i k, s 50 i k = σ 50 i k := p5
  refine ⟨τ, ?_, p3, p4⟩
  unfold fX_law_50_J1139 fX_law_50_J1465
  simp (disch := omega) only [zgd_T, zin_T, n_cl, n_sc, n_a2, n_a3, n_a4, n_a5, p5', hL]
  rw [p1, zb2_s]
  simp (disch := omega) only [zgd_T, zin_T, n_cl, n_sc, n_a2, n_a3, n_a4, n_a5, p5', hL]
  rw [p2, zb2_s, if_pos rfl, n_a6]
theorem LE_30 {N G L y : Nat} (hN : 901 ≤ N) (hG : 40 ≤ G) {σ : zS} (hF : Full σ) (hL : σ 50 1 0 = nI L) (hL2 : L ≤ 3072) (hy : y + 5 < L) (K : Int32 → zS → Option (Int32 × zS)) : LE σ y K (fX_law_50_J1162 N G K (nI y) σ) := by
  have hF' := hF
  obtain ⟨h, hS, hT, hI, hB⟩ := hF'
  obtain ⟨r, s, τ, p1, p2, p3, p4, p5⟩ := P_sheet (N := N) hN hF (σ 50 0 (y + 1)) (σ 50 0 (y + 2)) (σ 50 0 (y + 3))
  have p5' : ∀ i k, s 50 i k = σ 50 i k := p5
  refine ⟨τ, ?_, p3, p4⟩
  unfold fX_law_50_J1162 fX_law_50_J1465
  simp (disch := omega) only [zgd_T, zin_T, n_cl, n_sc, n_a2, n_a3, n_a4, n_a5, p5', hL]
  rw [p1, zb2_s]
  simp (disch := omega) only [zgd_T, zin_T, n_cl, n_sc, n_a2, n_a3, n_a4, n_a5, p5', hL]
  rw [p2, zb2_s, if_pos rfl, n_a6]
theorem LE_31 {N G L y : Nat} (hN : 901 ≤ N) (hG : 40 ≤ G) {σ : zS} (hF : Full σ) (hL : σ 50 1 0 = nI L) (hL2 : L ≤ 3072) (hy : y + 5 < L) (K : Int32 → zS → Option (Int32 × zS)) : LE σ y K (fX_law_50_J1205 N G K (nI y) σ) := by
  have hF' := hF
  obtain ⟨h, hS, hT, hI, hB⟩ := hF'
  obtain ⟨r, s, τ, p1, p2, p3, p4, p5⟩ := P_put hF (σ 50 0 (y + 1)) (σ 50 0 (y + 2)) (σ 50 0 (y + 3))
  have p5' : ∀ i k, s 50 i k = σ 50 i k := p5
  refine ⟨τ, ?_, p3, p4⟩
  unfold fX_law_50_J1205 fX_law_50_J1465
  simp (disch := omega) only [zgd_T, zin_T, n_cl, n_sc, n_a2, n_a3, n_a4, n_a5, p5', hL]
  rw [p1, zb2_s]
  simp (disch := omega) only [zgd_T, zin_T, n_cl, n_sc, n_a2, n_a3, n_a4, n_a5, p5', hL]
  rw [p2, zb2_s, if_pos rfl, n_a6]
theorem LE_32 {N G L y : Nat} (hN : 901 ≤ N) (hG : 40 ≤ G) {σ : zS} (hF : Full σ) (hL : σ 50 1 0 = nI L) (hL2 : L ≤ 3072) (hy : y + 5 < L) (K : Int32 → zS → Option (Int32 × zS)) : LE σ y K (fX_law_50_J1248 N G K (nI y) σ) := by
  have hF' := hF
  obtain ⟨h, hS, hT, hI, hB⟩ := hF'
  obtain ⟨r, s, τ, p1, p2, p3, p4, p5⟩ := P_move (N := N) hN hF (σ 50 0 (y + 1)) (σ 50 0 (y + 2)) (σ 50 0 (y + 3)) (σ 50 0 (y + 4)) (σ 50 0 (y + 5))
  have p5' : ∀ i k, s 50 i k = σ 50 i k := p5
  refine ⟨τ, ?_, p3, p4⟩
  unfold fX_law_50_J1248 fX_law_50_J1465
  simp (disch := omega) only [zgd_T, zin_T, n_cl, n_sc, n_a2, n_a3, n_a4, n_a5, p5', hL]
  rw [p1, zb2_s]
  simp (disch := omega) only [zgd_T, zin_T, n_cl, n_sc, n_a2, n_a3, n_a4, n_a5, p5', hL]
  rw [p2, zb2_s, if_pos rfl, n_a6]
theorem LE_33 {N G L y : Nat} (hN : 901 ≤ N) (hG : 40 ≤ G) {σ : zS} (hF : Full σ) (hL : σ 50 1 0 = nI L) (hL2 : L ≤ 3072) (hy : y + 5 < L) (K : Int32 → zS → Option (Int32 × zS)) : LE σ y K (fX_law_50_J1311 N G K (nI y) σ) := by
  have hF' := hF
  obtain ⟨h, hS, hT, hI, hB⟩ := hF'
  obtain ⟨r, s, τ, p1, p2, p3, p4, p5⟩ := PrF_of hF (P_reels (N := N) hN h hS (σ 50 0 (y + 1)))
  have p5' : ∀ i k, s 50 i k = σ 50 i k := p5
  refine ⟨τ, ?_, p3, p4⟩
  unfold fX_law_50_J1311 fX_law_50_J1465
  simp (disch := omega) only [zgd_T, zin_T, n_cl, n_sc, n_a2, n_a3, n_a4, n_a5, p5', hL]
  rw [p1, zb2_s]
  simp (disch := omega) only [zgd_T, zin_T, n_cl, n_sc, n_a2, n_a3, n_a4, n_a5, p5', hL]
  rw [p2, zb2_s, if_pos rfl, n_a6]
theorem LE_34 {N G L y : Nat} (hN : 901 ≤ N) (hG : 40 ≤ G) {σ : zS} (hF : Full σ) (hL : σ 50 1 0 = nI L) (hL2 : L ≤ 3072) (hy : y + 5 < L) (K : Int32 → zS → Option (Int32 × zS)) : LE σ y K (fX_law_50_J1334 N G K (nI y) σ) := by
  have hF' := hF
  obtain ⟨h, hS, hT, hI, hB⟩ := hF'
  obtain ⟨r, s, τ, p1, p2, p3, p4, p5⟩ := PrF_of hF (P_judge (N := N) hN h hS (σ 50 0 (y + 1)))
  have p5' : ∀ i k, s 50 i k = σ 50 i k := p5
  refine ⟨τ, ?_, p3, p4⟩
  unfold fX_law_50_J1334 fX_law_50_J1465
  simp (disch := omega) only [zgd_T, zin_T, n_cl, n_sc, n_a2, n_a3, n_a4, n_a5, p5', hL]
  rw [p1, zb2_s]
  simp (disch := omega) only [zgd_T, zin_T, n_cl, n_sc, n_a2, n_a3, n_a4, n_a5, p5', hL]
  rw [p2, zb2_s, if_pos rfl, n_a6]
theorem LE_35 {N G L y : Nat} (hN : 901 ≤ N) (hG : 40 ≤ G) {σ : zS} (hF : Full σ) (hL : σ 50 1 0 = nI L) (hL2 : L ≤ 3072) (hy : y + 5 < L) (K : Int32 → zS → Option (Int32 × zS)) : LE σ y K (fX_law_50_J1357 N G K (nI y) σ) := by
  have hF' := hF
  obtain ⟨h, hS, hT, hI, hB⟩ := hF'
  obtain ⟨r, s, τ, p1, p2, p3, p4, p5⟩ := P_image (N := N) hN hF 
  have p5' : ∀ i k, s 50 i k = σ 50 i k := p5
  refine ⟨τ, ?_, p3, p4⟩
  unfold fX_law_50_J1357 fX_law_50_J1465
  rw [p1, zb2_s, p2, zb2_s, if_pos rfl, n_a6]
theorem LE_36 {N G L y : Nat} (hN : 901 ≤ N) (hG : 40 ≤ G) {σ : zS} (hF : Full σ) (hL : σ 50 1 0 = nI L) (hL2 : L ≤ 3072) (hy : y + 5 < L) (K : Int32 → zS → Option (Int32 × zS)) : LE σ y K (fX_law_50_J1370 N G K (nI y) σ) := by
  have hF' := hF
  obtain ⟨h, hS, hT, hI, hB⟩ := hF'
  obtain ⟨r, s, τ, p1, p2, p3, p4, p5⟩ := PrF_of hF (P_restore (N := N) hN h hI )
  have p5' : ∀ i k, s 50 i k = σ 50 i k := p5
  refine ⟨τ, ?_, p3, p4⟩
  unfold fX_law_50_J1370 fX_law_50_J1465
  rw [p1, zb2_s, p2, zb2_s, if_pos rfl, n_a6]
theorem LE_37 {N G L y : Nat} (hN : 901 ≤ N) (hG : 40 ≤ G) {σ : zS} (hF : Full σ) (hL : σ 50 1 0 = nI L) (hL2 : L ≤ 3072) (hy : y + 5 < L) (K : Int32 → zS → Option (Int32 × zS)) : LE σ y K (fX_law_50_J1383 N G K (nI y) σ) := by
  have hF' := hF
  obtain ⟨h, hS, hT, hI, hB⟩ := hF'
  obtain ⟨r, s, τ, p1, p2, p3, p4, p5⟩ := PrF_of hF (P_tell h (σ 50 0 (y + 1)))
  have p5' : ∀ i k, s 50 i k = σ 50 i k := p5
  refine ⟨τ, ?_, p3, p4⟩
  unfold fX_law_50_J1383 fX_law_50_J1465
  simp (disch := omega) only [zgd_T, zin_T, n_cl, n_sc, n_a2, n_a3, n_a4, n_a5, p5', hL]
  rw [p1, zb2_s]
  simp (disch := omega) only [zgd_T, zin_T, n_cl, n_sc, n_a2, n_a3, n_a4, n_a5, p5', hL]
  rw [p2, zb2_s, if_pos rfl, n_a6]
theorem LE_38 {N G L y : Nat} (hN : 901 ≤ N) (hG : 40 ≤ G) {σ : zS} (hF : Full σ) (hL : σ 50 1 0 = nI L) (hL2 : L ≤ 3072) (hy : y + 5 < L) (K : Int32 → zS → Option (Int32 × zS)) : LE σ y K (fX_law_50_J1406 N G K (nI y) σ) := by
  have hF' := hF
  obtain ⟨h, hS, hT, hI, hB⟩ := hF'
  obtain ⟨r, s, τ, p1, p2, p3, p4, p5⟩ := PrF_of hF (P_check (N := N) hN h )
  have p5' : ∀ i k, s 50 i k = σ 50 i k := p5
  refine ⟨τ, ?_, p3, p4⟩
  unfold fX_law_50_J1406 fX_law_50_J1465
  rw [p1, zb2_s, p2, zb2_s, if_pos rfl, n_a6]
theorem LE_39 {N G L y : Nat} (hN : 901 ≤ N) (hG : 40 ≤ G) {σ : zS} (hF : Full σ) (hL : σ 50 1 0 = nI L) (hL2 : L ≤ 3072) (hy : y + 5 < L) (K : Int32 → zS → Option (Int32 × zS)) : LE σ y K (fX_law_50_J1419 N G K (nI y) σ) := by
  have hF' := hF
  obtain ⟨h, hS, hT, hI, hB⟩ := hF'
  obtain ⟨r, s, τ, p1, p2, p3, p4, p5⟩ := P_count (N := N) hN hF (σ 50 0 (y + 1))
  have p5' : ∀ i k, s 50 i k = σ 50 i k := p5
  refine ⟨τ, ?_, p3, p4⟩
  unfold fX_law_50_J1419 fX_law_50_J1465
  simp (disch := omega) only [zgd_T, zin_T, n_cl, n_sc, n_a2, n_a3, n_a4, n_a5, p5', hL]
  rw [p1, zb2_s]
  simp (disch := omega) only [zgd_T, zin_T, n_cl, n_sc, n_a2, n_a3, n_a4, n_a5, p5', hL]
  rw [p2, zb2_s, if_pos rfl, n_a6]
theorem LE_40 {N G L y : Nat} (hN : 901 ≤ N) (hG : 40 ≤ G) {σ : zS} (hF : Full σ) (hL : σ 50 1 0 = nI L) (hL2 : L ≤ 3072) (hy : y + 5 < L) (K : Int32 → zS → Option (Int32 × zS)) : LE σ y K (fX_law_50_J1442 N G K (nI y) σ) := by
  have hF' := hF
  obtain ⟨h, hS, hT, hI, hB⟩ := hF'
  obtain ⟨r, s, τ, p1, p2, p3, p4, p5⟩ := PrF_of hF (P_told h (σ 50 0 (y + 1)))
  have p5' : ∀ i k, s 50 i k = σ 50 i k := p5
  refine ⟨τ, ?_, p3, p4⟩
  unfold fX_law_50_J1442 fX_law_50_J1465
  simp (disch := omega) only [zgd_T, zin_T, n_cl, n_sc, n_a2, n_a3, n_a4, n_a5, p5', hL]
  rw [p1, zb2_s]
  simp (disch := omega) only [zgd_T, zin_T, n_cl, n_sc, n_a2, n_a3, n_a4, n_a5, p5', hL]
  rw [p2, zb2_s, if_pos rfl, n_a6]
theorem n_subg' {n : Nat} (hn : n < 100000) {x : Int32} (hx : 0 ≤ x.toInt) : (nI n - x).toInt = (n : Int) - x.toInt := by
  have h1 := x.toInt_lt
  rw [Int32.toInt_sub, n_toInt (by omega), Int.bmod_eq_of_le (by omega) (by omega)]
theorem law_L {N G L : Nat} {xs : Nat → Int32} (hN : 901 ≤ N) (hG : 40 ≤ G) (hL2 : L ≤ 3072) : ∀ f y σ, Full σ → σ 50 1 0 = nI L → y ≤ L → L + 1 ≤ y + 6 * f → ∃ τ, fX_law_50_L18 N G f (nI y) σ = some (1, τ)
  | 0, y, σ, hF, hL, h1, h2 => absurd h2 (by omega)
  | f + 1, y, σ, hF, hL, h1, h2 => by
    have hL' : (Int32.ofNat ((σ 50 1 0).toNatClampNeg)) - 6 = nI L - 6 := by rw [hL, n_cl (by omega)]; rfl
    have h6 : (6 : Int32).toInt = 6 := by decide
    have hs := n_subg' (n := L) (by omega) (x := 6) (by omega)
    rw [h6] at hs
    rw [fX_law_50_L18, hL']
    by_cases hy : y + 5 < L
    · have nlt : ¬ (nI L - 6 < nI y) := by rw [i32_lt, n_toInt (by omega)]; omega
      have hz : zin (nI y) ((σ 50 1 0).toNatClampNeg) := by rw [hL, n_cl (by omega)]; exact zin_n (by omega) (by omega)
      rw [if_neg nlt, zgd_t hz]
      have go : ∀ q, LE σ y (fun y3 σ => fX_law_50_L18 N G f y3 σ) q → ∃ τ, q = some (1, τ) := by
        intro q hq
        obtain ⟨τ, e1, e2, e3⟩ := hq
        obtain ⟨τ', r⟩ := law_L (xs := xs) hN hG hL2 f (y + 6) τ e2 ((e3 1 0).trans hL) (by omega) (by omega)
        exact ⟨τ', e1.trans r⟩
      generalize (σ 50 0 (nI y).toNatClampNeg) &&& 63 = x
      by_cases h0 : x = 0
      · rw [if_pos h0]
        exact go _ (LE_0 hN hG hF hL hL2 hy _)
      rw [if_neg h0]
      by_cases h1 : x = 1
      · rw [if_pos h1]
        exact go _ (LE_1 hN hG hF hL hL2 hy _)
      rw [if_neg h1]
      by_cases h2 : x = 2
      · rw [if_pos h2]
        exact go _ (LE_2 hN hG hF hL hL2 hy _)
      rw [if_neg h2]
      by_cases h3 : x = 3
      · rw [if_pos h3]
        exact go _ (LE_3 hN hG hF hL hL2 hy _)
      rw [if_neg h3]
      by_cases h4 : x = 4
      · rw [if_pos h4]
        exact go _ (LE_4 hN hG hF hL hL2 hy _)
      rw [if_neg h4]
      by_cases h5 : x = 5
      · rw [if_pos h5]
        exact go _ (LE_5 hN hG hF hL hL2 hy _)
      rw [if_neg h5]
      by_cases h6 : x = 6
      · rw [if_pos h6]
        exact go _ (LE_6 hN hG hF hL hL2 hy _)
      rw [if_neg h6]
      by_cases h7 : x = 7
      · rw [if_pos h7]
        exact go _ (LE_7 hN hG hF hL hL2 hy _)
      rw [if_neg h7]
      by_cases h8 : x = 8
      · rw [if_pos h8]
        exact go _ (LE_8 hN hG hF hL hL2 hy _)
      rw [if_neg h8]
      by_cases h9 : x = 9
      · rw [if_pos h9]
        exact go _ (LE_9 hN hG hF hL hL2 hy _)
      rw [if_neg h9]
      by_cases h10 : x = 10
      · rw [if_pos h10]
        exact go _ (LE_10 hN hG hF hL hL2 hy _)
      rw [if_neg h10]
      by_cases h11 : x = 11
      · rw [if_pos h11]
        exact go _ (LE_11 hN hG hF hL hL2 hy _)
      rw [if_neg h11]
      by_cases h12 : x = 12
      · rw [if_pos h12]
        exact go _ (LE_12 hN hG hF hL hL2 hy _)
      rw [if_neg h12]
      by_cases h13 : x = 13
      · rw [if_pos h13]
        exact go _ (LE_13 hN hG hF hL hL2 hy _)
      rw [if_neg h13]
      by_cases h14 : x = 14
      · rw [if_pos h14]
        exact go _ (LE_14 hN hG hF hL hL2 hy _)
      rw [if_neg h14]
      by_cases h15 : x = 15
      · rw [if_pos h15]
        exact go _ (LE_15 hN hG hF hL hL2 hy _)
      rw [if_neg h15]
      by_cases h16 : x = 16
      · rw [if_pos h16]
        exact go _ (LE_16 hN hG hF hL hL2 hy _)
      rw [if_neg h16]
      by_cases h17 : x = 17
      · rw [if_pos h17]
        exact go _ (LE_17 hN hG hF hL hL2 hy _)
      rw [if_neg h17]
      by_cases h18 : x = 18
      · rw [if_pos h18]
        exact go _ (LE_18 hN hG hF hL hL2 hy _)
      rw [if_neg h18]
      by_cases h19 : x = 19
      · rw [if_pos h19]
        exact go _ (LE_19 hN hG hF hL hL2 hy _)
      rw [if_neg h19]
      by_cases h20 : x = 20
      · rw [if_pos h20]
        exact go _ (LE_20 hN hG hF hL hL2 hy _)
      rw [if_neg h20]
      by_cases h21 : x = 21
      · rw [if_pos h21]
        exact go _ (LE_21 hN hG hF hL hL2 hy _)
      rw [if_neg h21]
      by_cases h22 : x = 22
      · rw [if_pos h22]
        exact go _ (LE_22 hN hG hF hL hL2 hy _)
      rw [if_neg h22]
      by_cases h23 : x = 23
      · rw [if_pos h23]
        exact go _ (LE_23 hN hG hF hL hL2 hy _)
      rw [if_neg h23]
      by_cases h24 : x = 24
      · rw [if_pos h24]
        exact go _ (LE_24 hN hG hF hL hL2 hy _)
      rw [if_neg h24]
      by_cases h25 : x = 25
      · rw [if_pos h25]
        exact go _ (LE_25 hN hG hF hL hL2 hy _)
      rw [if_neg h25]
      by_cases h26 : x = 26
      · rw [if_pos h26]
        exact go _ (LE_26 hN hG hF hL hL2 hy _)
      rw [if_neg h26]
      by_cases h27 : x = 27
      · rw [if_pos h27]
        exact go _ (LE_27 hN hG hF hL hL2 hy _)
      rw [if_neg h27]
      by_cases h28 : x = 28
      · rw [if_pos h28]
        exact go _ (LE_28 hN hG hF hL hL2 hy _)
      rw [if_neg h28]
      by_cases h29 : x = 29
      · rw [if_pos h29]
        exact go _ (LE_29 hN hG hF hL hL2 hy _)
      rw [if_neg h29]
      by_cases h30 : x = 30
      · rw [if_pos h30]
        exact go _ (LE_30 hN hG hF hL hL2 hy _)
      rw [if_neg h30]
      by_cases h31 : x = 31
      · rw [if_pos h31]
        exact go _ (LE_31 hN hG hF hL hL2 hy _)
      rw [if_neg h31]
      by_cases h32 : x = 32
      · rw [if_pos h32]
        exact go _ (LE_32 hN hG hF hL hL2 hy _)
      rw [if_neg h32]
      by_cases h33 : x = 33
      · rw [if_pos h33]
        exact go _ (LE_33 hN hG hF hL hL2 hy _)
      rw [if_neg h33]
      by_cases h34 : x = 34
      · rw [if_pos h34]
        exact go _ (LE_34 hN hG hF hL hL2 hy _)
      rw [if_neg h34]
      by_cases h35 : x = 35
      · rw [if_pos h35]
        exact go _ (LE_35 hN hG hF hL hL2 hy _)
      rw [if_neg h35]
      by_cases h36 : x = 36
      · rw [if_pos h36]
        exact go _ (LE_36 hN hG hF hL hL2 hy _)
      rw [if_neg h36]
      by_cases h37 : x = 37
      · rw [if_pos h37]
        exact go _ (LE_37 hN hG hF hL hL2 hy _)
      rw [if_neg h37]
      by_cases h38 : x = 38
      · rw [if_pos h38]
        exact go _ (LE_38 hN hG hF hL hL2 hy _)
      rw [if_neg h38]
      by_cases h39 : x = 39
      · rw [if_pos h39]
        exact go _ (LE_39 hN hG hF hL hL2 hy _)
      rw [if_neg h39]
      by_cases h40 : x = 40
      · rw [if_pos h40]
        exact go _ (LE_40 hN hG hF hL hL2 hy _)
      rw [if_neg h40]
      refine go _ ⟨σ, ?_, hF, fun _ _ => rfl⟩
      unfold fX_law_50_J1465
      rw [n_a6]
    · have lt : nI L - 6 < nI y := by rw [i32_lt, n_toInt (by omega)]; omega
      rw [if_pos lt]
      exact ⟨σ, rfl⟩
