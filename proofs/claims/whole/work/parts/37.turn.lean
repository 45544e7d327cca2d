/-! Pure mathematics: the reference's turn. -/
theorem M_spares {σ : zS} {P : zP} (h : VM σ P) {i j : Nat} (hi : i < 8) (hj : j < 8) (h5 : P 5 j ≠ 0) : ∃ σ', fM_spares (nI j) (nI i) σ = some σ' ∧ VM σ' (sOut P i j) ∧ FM σ σ' ∧ σ' 8 0 13 = σ 8 0 13 ∧ (∀ k, σ' 33 0 k = σ 33 0 k) := by
  have e5 : fM_its (nI j) 5 σ = some (nI (P 5 j)) := M_its h 5 (by omega) hj
  have g1 : VM (zup σ 30 0 (12 + 6 * j + 5) (nI (P 5 j - 1))) (pu P 5 j (P 5 j - 1)) := VM_u 5 h (by omega) hj rfl
  have l5' : fM_lays1 (nI j) 5 (nI (P 5 j - 1)) σ = some (zup σ 30 0 (12 + 6 * j + 5) (nI (P 5 j - 1))) := M_lays 5 (by omega) hj
  have e4 : fM_its (nI i) 4 (zup σ 30 0 (12 + 6 * j + 5) (nI (P 5 j - 1))) = some (nI (P 4 i)) := (M_its g1 4 (by omega) hi).trans (by rw [pu_w (by omega)]; rfl)
  have g2 := VM_u (v := nI (P 4 i + 1)) (x := P 4 i + 1) (i := i) 4 g1 (by omega) hi rfl
  have l4' : fM_lays1 (nI i) 4 (nI (P 4 i + 1)) (zup σ 30 0 (12 + 6 * j + 5) (nI (P 5 j - 1))) = some (zup (zup σ 30 0 (12 + 6 * j + 5) (nI (P 5 j - 1))) 30 0 (12 + 6 * i + 4) (nI (P 4 i + 1))) := M_lays 4 (by omega) hi
  refine ⟨_, ?_, g2, FM_t (FM_u (by omega)) (FM_u (by omega)), ?_, fun k => ?_⟩
  · unfold fM_spares
    rw [e5, zbd_s, n_sub1 (by omega), l5', zbd_s, e4, zbd_s, n_sc, l4', zbd_s]
  · rw [zup_o (by omega), zup_o (by omega)]
  · rw [zup_o (by omega), zup_o (by omega)]
theorem M_cutsIt {σ : zS} {P : zP} (h : VM σ P) (hP : PI P) {i : Nat} (hi : i < 8) : ∃ σ', fM_cutsIt (nI i) σ = some σ' ∧ VM σ' (sSev P i) ∧ FM σ σ' ∧ σ' 8 0 13 = σ 8 0 13 ∧ (∀ k, σ' 33 0 k = σ 33 0 k) := by
  have hq := hP.2.2.1
  have g1 : VM (zup (zup (zup σ 30 0 (12 + 6 * i + 2) (-1)) 30 0 (12 + 6 * i + 4) 0) 30 0 (12 + 6 * i + 5) 0) (pu (pu (pu P 2 i 0) 4 i 0) 5 i 0) := VM_u 5 (VM_u 4 (VM_u 2 h (by omega) hi rfl) (by omega) hi rfl) (by omega) hi rfl
  have f1 : FM σ (zup (zup (zup σ 30 0 (12 + 6 * i + 2) (-1)) 30 0 (12 + 6 * i + 4) 0) 30 0 (12 + 6 * i + 5) 0) := FM_t (FM_t (FM_u (by omega)) (FM_u (by omega))) (FM_u (by omega))
  have hm : ∀ c i' k, c ≠ 30 → (zup (zup (zup σ 30 0 (12 + 6 * i + 2) (-1)) 30 0 (12 + 6 * i + 4) 0) 30 0 (12 + 6 * i + 5) 0) c i' k = σ c i' k := fun c i' k hc => by rw [zup_o hc, zup_o hc, zup_o hc]
  have l1' : fM_lays1 (nI i) 2 (-1) σ = _ := M_lays 2 (by omega) hi
  have l2' : ∀ s, fM_lays1 (nI i) 4 0 s = _ := fun s => M_lays 4 (by omega) hi
  have l3' : ∀ s, fM_lays1 (nI i) 5 0 s = _ := fun s => M_lays 5 (by omega) hi
  have hu : fM_unties (nI i) σ = some (zup (zup (zup σ 30 0 (12 + 6 * i + 2) (-1)) 30 0 (12 + 6 * i + 4) 0) 30 0 (12 + 6 * i + 5) 0) := by
    unfold fM_unties
    rw [l1', zbd_s, l2', zbd_s, l3', zbd_s]
  have hc := g1.2.2.2.2
  unfold fM_cutsIt
  rw [hu, zbd_s]
  generalize (zup (zup (zup σ 30 0 (12 + 6 * i + 2) (-1)) 30 0 (12 + 6 * i + 4) 0) 30 0 (12 + 6 * i + 5) 0) = s at g1 f1 hm hc ⊢
  have hc7 : pu (pu (pu P 2 i 0) 4 i 0) 5 i 0 7 2 = P 7 2 := by rw [pu_w (by omega), pu_w (by omega), pu_w (by omega)]
  rw [hc7] at hc
  have hh : fM_held (nI (P 7 2 + 1)) 0 9999 = some (nI (min (P 7 2 + 1) 9999)) := (fM_held_n (a := 0) (b := 9999) (by omega) (by omega) (by omega) (by omega)).trans (by rw [Nat.zero_max])
  rw [hc, n_sc, hh, zbd_s, zlt_eq]
  exact ⟨_, rfl, VM_7 2 g1 (by omega), FM_t f1 (FM_u (by omega)), by rw [zup_o (by omega)]; exact hm _ _ _ (by omega), fun k => by rw [zup_o (by omega)]; exact hm _ _ _ (by omega)⟩
theorem M_comes {σ : zS} {P : zP} (h : VM σ P) (hP : PI P) {i j m : Nat} (hi : i < 8) (hj : j < 8) (hne : P 3 i ≠ P 3 j) (hm : m < 256) (hv : σ 8 0 13 = nI m) : ∃ σ', fM_comesNearer (nI i) (nI j) σ = some σ' ∧ VM σ' (sCm P i j) ∧ FM σ σ' ∧ σ' 8 0 13 = nI (m ||| 2 ^ i) ∧ (∀ k, σ' 33 0 k = σ 33 0 k) := by
  have hPi := hP.2.2.2.1 i hi
  have hPj := hP.2.2.2.1 j hj
  have e3 : fM_its (nI i) 3 σ = some (nI (P 3 i)) := M_its h 3 (by omega) hi
  have e3' : fM_its (nI j) 3 σ = some (nI (P 3 j)) := M_its h 3 (by omega) hj
  have go : ∀ (x : Nat) (v : Int32), nI (P 3 i) + v = nI x → ∃ σ', fM_comesNearer_J29 (nI i) v (nI (P 3 i)) 3 (nI i) σ = some σ' ∧ VM σ' (pu P 3 i x) ∧ FM σ σ' ∧ σ' 8 0 13 = nI (m ||| 2 ^ i) ∧ (∀ k, σ' 33 0 k = σ 33 0 k) := by
    intro x v hx
    have l3' : fM_lays1 (nI i) 3 (nI x) σ = some (zup σ 30 0 (12 + 6 * i + 3) (nI x)) := M_lays 3 (by omega) hi
    have g1 : VM (zup σ 30 0 (12 + 6 * i + 3) (nI x)) (pu P 3 i x) := VM_u 3 h (by omega) hi rfl
    refine ⟨zup (zup σ 30 0 (12 + 6 * i + 3) (nI x)) 8 0 13 (nI (m ||| 2 ^ i)), ?_, VM_x g1 (by omega), FM_t (FM_u (by omega)) FM_8, zup_s, fun k => by rw [zup_o (by omega), zup_o (by omega)]⟩
    unfold fM_comesNearer_J29
    rw [hx, l3', zbd_s, zlt_eq, zup_o (by omega), hv, b_o hm hi]
  unfold fM_comesNearer sCm
  rw [e3, zbd_s, zbd_s, e3', zbd_s]
  by_cases q : P 3 j ≤ P 3 i
  · rw [if_le q (by omega), if_pos q]
    exact go _ _ (n_predm (by omega))
  · rw [if_nle (by omega) (by omega), if_neg q]
    exact go _ _ (n_sc _)
/-- a turn: whether it goes on, the road after it, who has moved -/
def sTurn (T : Nat → Nat → Int32) (M : Nat → Nat) (P : zP) (m i : Nat) : Nat × zP × Nat := if P 5 i ≠ 0 then (1, sOut P i i, m) else if sUn P m i = 0 then (1, sSev P i, m) else if sDo T M P (sUn P m i - 1) = 2 then (0, P, m) else (1, sPull P m i (sUn P m i - 1) (sDo T M P (sUn P m i - 1)))
theorem sUn_w {P : zP} {m i : Nat} (h2 : P 2 i ≠ 0) (h : sUn P m i ≠ 0) : sUn P m i - 1 = i ∨ sUn P m i - 1 = P 2 i - 1 := by
  unfold sUn at *
  by_cases q : m.testBit i = true
  · rw [if_pos q] at h ⊢
    by_cases q2 : m.testBit (P 2 i - 1) = true
    · rw [if_pos q2] at h; omega
    · rw [if_neg q2]; omega
  · rw [if_neg q]; omega
theorem M_seesTo {N : Nat} {σ : zS} {P : zP} {T : Nat → Nat → Int32} {M : Nat → Nat} (h : VM σ P) (hP : PI P) (hT : TM σ T M) (hW : WT T M) (hN : 61 ≤ N) {i m : Nat} (hi : i < P 7 0) (hA : P 4 i < sA P i) (hm : m < 256) (hv : σ 8 0 13 = nI m) : ∃ σ', fM_seesTo N (nI i) σ = some (nI (sTurn T M P m i).1, σ') ∧ VM σ' (sTurn T M P m i).2.1 ∧ FM σ σ' ∧ σ' 8 0 13 = nI (sTurn T M P m i).2.2 ∧ (∀ k, σ' 33 0 k = σ 33 0 k) := by
  have hn := hP.1
  have hi8 : i < 8 := by omega
  have hPi := hP.2.2.2.1 i hi8
  have hmo := hP.2.2.2.2.1 i hi
  obtain ⟨h2, hne⟩ := sA_ne hA
  have e2 : fM_its (nI i) 2 σ = some (nI (P 2 i - 1)) := (M_its h 2 (by omega) hi8).trans (by rw [pw_2, nO_pos h2])
  have e5 : fM_its (nI i) 5 σ = some (nI (P 5 i)) := M_its h 5 (by omega) hi8
  have mid : ∀ u v : Nat, u = (if m.testBit i then 1 else 0) → v = (if m.testBit (P 2 i - 1) then 1 else 0) → ∃ σ', fM_seesTo_J42 N (nI i) (nI (P 2 i - 1)) (nI u) (nI v) σ = some (nI (sTurn T M P m i).1, σ') ∧ VM σ' (sTurn T M P m i).2.1 ∧ FM σ σ' ∧ σ' 8 0 13 = nI (sTurn T M P m i).2.2 ∧ (∀ k, σ' 33 0 k = σ 33 0 k) := by
    intro u v hu hv'
    unfold fM_seesTo_J42 sTurn
    rw [e5, zbd_s]
    by_cases q5 : P 5 i = 0
    · rw [q5, if_pos (by decide), if_neg (show ¬ (0 ≠ 0) by omega)]
      -- the end that may move
      have sub : ∀ w, sUn P m i = w + 1 → (u = 0 ∧ w = i ∨ u = 1 ∧ w = P 2 i - 1) → ∃ σ', fM_seesTo_J86 N (nI i) (nI (P 2 i - 1)) (nI u) (nI w) σ = some (nI (if sDo T M P w = 2 then (0, P, m) else (1, sPull P m i w (sDo T M P w))).1, σ') ∧ VM σ' (if sDo T M P w = 2 then (0, P, m) else (1, sPull P m i w (sDo T M P w))).2.1 ∧ FM σ σ' ∧ σ' 8 0 13 = nI (if sDo T M P w = 2 then (0, P, m) else (1, sPull P m i w (sDo T M P w))).2.2 ∧ (∀ k, σ' 33 0 k = σ 33 0 k) := by
        intro w hw huw
        have hw8 : w < 8 := by omega
        obtain ⟨s, r1, r2, r3⟩ := M_doesNow (N := N) h hP hT hW hN hw8
        have f1 : FM σ s := FM_36 r3
        have hvs : s 8 0 13 = nI m := by rw [r3 _ _ _ (by omega) (by omega)]; exact hv
        have k1 : ∀ k, s 33 0 k = σ 33 0 k := fun k => r3 _ _ _ (by omega) (by omega)
        have hd := sDo_le T M P w
        have ret : ∀ s', fM_seesTo_J161 N (nI (sDo T M P w)) s' = some (nI (if sDo T M P w = 2 then 0 else 1), s') := by
          intro s'
          unfold fM_seesTo_J161
          simp (disch := omega) only [n_eq2]
          split <;> rfl
        have near : sDo T M P w ≠ 1 → ¬ (sDo T M P w = 3 ∧ w ≠ i ∧ P 5 w ≠ 0) → ∃ σ', fM_seesTo_J140 N (nI i) (nI (P 2 i - 1)) (nI u) (nI w) (nI (sDo T M P w)) s = some (nI (if sDo T M P w = 2 then (0, P, m) else (1, sPull P m i w (sDo T M P w))).1, σ') ∧ VM σ' (if sDo T M P w = 2 then (0, P, m) else (1, sPull P m i w (sDo T M P w))).2.1 ∧ FM σ σ' ∧ σ' 8 0 13 = nI (if sDo T M P w = 2 then (0, P, m) else (1, sPull P m i w (sDo T M P w))).2.2 ∧ (∀ k, σ' 33 0 k = σ 33 0 k) := by
          intro n1 n3
          unfold fM_seesTo_J140
          simp (disch := omega) only [n_eq2]
          by_cases d2 : sDo T M P w = 2
          · rw [if_pos d2, if_pos d2, ret, if_pos d2]
            exact ⟨s, rfl, r2, f1, hvs, k1⟩
          · rw [if_neg d2, if_neg d2]
            have hs : sPull P m i w (sDo T M P w) = (sCm P w (if w = i then P 2 i - 1 else i), m ||| 2 ^ w) := by
              unfold sPull
              rw [if_neg n1, if_neg n3]
            rw [hs]
            unfold fM_seesTo_J158
            simp (disch := omega) only [n_eq0]
            rcases huw with ⟨u0, w0⟩ | ⟨u1, w1⟩
            · subst w0
              rw [if_pos u0, if_pos rfl]
              obtain ⟨σ', t1, t2, t3, t4, t5⟩ := M_comes r2 hP (i := w) (j := P 2 w - 1) hw8 (by omega) hne hm hvs
              refine ⟨σ', ?_, t2, FM_t f1 t3, t4, fun k => (t5 k).trans (k1 k)⟩
              rw [t1, zbd_s, ret, if_neg d2]
            · have hwi : w ≠ i := by omega
              rw [if_neg (by omega), if_neg hwi]
              obtain ⟨σ', t1, t2, t3, t4, t5⟩ := M_comes r2 hP (i := w) (j := i) hw8 hi8 (by rw [w1]; exact fun r => hne r.symm) hm hvs
              refine ⟨σ', ?_, t2, FM_t f1 t3, t4, fun k => (t5 k).trans (k1 k)⟩
              rw [t1, zbd_s, ret, if_neg d2]
        unfold fM_seesTo_J86
        rw [r1, zb2_s]
        simp (disch := omega) only [n_eq1, n_eq3, n_eq]
        by_cases d1 : sDo T M P w = 1
        · obtain ⟨σ', t1, t2, t3, t4, t5⟩ := M_cutsIt r2 hP hi8
          have hs : sPull P m i w (sDo T M P w) = (sSev P i, m) := by
            unfold sPull
            rw [if_pos d1]
          rw [if_pos d1, t1, zbd_s, ret, if_neg (by omega), if_neg (by omega), hs]
          exact ⟨σ', rfl, t2, FM_t f1 t3, t4.trans hvs, fun k => (t5 k).trans (k1 k)⟩
        · rw [if_neg d1]
          by_cases d3 : sDo T M P w = 3
          · rw [if_pos d3]
            by_cases qw : w = P 2 i - 1
            · rw [if_pos qw]
              have e5' : fM_its (nI (P 2 i - 1)) 5 s = some (nI (P 5 (P 2 i - 1))) := M_its r2 5 (by omega) (by omega)
              have hP5 := hP.2.2.2.1 (P 2 i - 1) (by omega)
              rw [e5', zbd_s]
              by_cases q5' : P 5 (P 2 i - 1) = 0
              · rw [q5', if_pos (by decide)]
                exact near d1 (by rw [qw]; omega)
              · rw [if_nle0 (by omega) (by omega)]
                obtain ⟨σ', t1, t2, t3, t4, t5⟩ := M_spares r2 (i := i) (j := P 2 i - 1) hi8 (by omega) q5'
                have hs : sPull P m i w (sDo T M P w) = (sOut P i w, m) := by
                  unfold sPull
                  rw [if_neg d1, if_pos ⟨d3, by omega, by rw [qw]; exact q5'⟩]
                rw [t1, zbd_s, ret, if_neg (by omega), if_neg (by omega), hs, qw]
                exact ⟨σ', rfl, t2, FM_t f1 t3, t4.trans hvs, fun k => (t5 k).trans (k1 k)⟩
            · rw [if_neg qw]
              exact near d1 (by omega)
          · rw [if_neg d3]
            exact near d1 (fun q => d3 q.1)
      by_cases qb : m.testBit i = true
      · have hu1 : u = 1 := by rw [hu, if_pos qb]
        by_cases qc : m.testBit (P 2 i - 1) = true
        · have hv1 : v = 1 := by rw [hv', if_pos qc]
          have hsu : sUn P m i = 0 := by unfold sUn; rw [if_pos qb, if_pos qc]
          rw [hu1, hv1, if_neg (by decide), if_neg (by decide), if_pos hsu]
          obtain ⟨σ', t1, t2, t3, t4, t5⟩ := M_cutsIt h hP hi8
          exact ⟨σ', by rw [t1, zbd_s]; rfl, t2, t3, t4.trans hv, t5⟩
        · have hv0 : v = 0 := by rw [hv', if_neg qc]
          have hsu : sUn P m i = (P 2 i - 1) + 1 := by unfold sUn; rw [if_pos qb, if_neg qc]; omega
          have hs := sub (P 2 i - 1) hsu (Or.inr ⟨hu1, rfl⟩)
          rw [hu1] at hs
          rw [hu1, hv0, if_neg (by decide), if_pos (show nI 0 = 0 from rfl), hsu, if_neg (show ¬ (P 2 i - 1 + 1 = 0) by omega), Nat.add_sub_cancel]
          unfold fM_seesTo_J77
          rw [if_neg (by decide)]
          exact hs
      · have hu0 : u = 0 := by rw [hu, if_neg qb]
        have hsu : sUn P m i = i + 1 := by unfold sUn; rw [if_neg qb]
        have hs := sub i hsu (Or.inl ⟨hu0, rfl⟩)
        rw [hu0] at hs
        rw [hu0, if_pos (show nI 0 = 0 from rfl), hsu, if_neg (show ¬ (i + 1 = 0) by omega), Nat.add_sub_cancel]
        unfold fM_seesTo_J77
        rw [if_pos (show nI 0 = 0 from rfl)]
        exact hs
    · rw [if_nle0 (by omega) (by omega), if_pos q5]
      obtain ⟨σ', t1, t2, t3, t4, t5⟩ := M_spares h (i := i) (j := i) hi8 hi8 q5
      refine ⟨σ', ?_, t2, t3, t4.trans hv, t5⟩
      rw [t1, zbd_s]
      rfl
  unfold fM_seesTo fM_seesTo_J24
  rw [e2, zbd_s, hv, b_r hm hi8, b_r hm (by omega)]
  by_cases qb : m.testBit i = true
  · by_cases qc : m.testBit (P 2 i - 1) = true
    · rw [if_pos qb, if_pos qc, if_pos (show nI 1 = 1 from rfl), if_pos (show nI 1 = 1 from rfl)]
      exact mid 1 1 (by rw [if_pos qb]) (by rw [if_pos qc])
    · rw [if_pos qb, if_neg qc, if_pos (show nI 1 = 1 from rfl), if_neg (by decide)]
      exact mid 1 0 (by rw [if_pos qb]) (by rw [if_neg qc])
  · by_cases qc : m.testBit (P 2 i - 1) = true
    · rw [if_neg qb, if_pos qc, if_neg (show ¬ (nI 0 = 1) by decide), if_pos (show nI 1 = 1 from rfl)]
      exact mid 0 1 (by rw [if_neg qb]) (by rw [if_pos qc])
    · rw [if_neg qb, if_neg qc, if_neg (show ¬ (nI 0 = 1) by decide), if_neg (show ¬ (nI 0 = 1) by decide)]
      exact mid 0 0 (by rw [if_neg qb]) (by rw [if_neg qc])
