/-! Pure mathematics: voices and the trace, the public answers. -/
theorem CX_err' {σ : zS} (h : Core σ) (e : Nat) : Core (zup (zup σ 26 0 e (σ 26 0 e + 1)) 34 0 e (σ 34 0 e + 1)) := by
  obtain ⟨P, T, M, c⟩ := h
  exact ⟨P, T, M, CX_err c e⟩
theorem P_voice {N G : Nat} (hN : 901 ≤ N) (hG : 30 ≤ G) {σ : zS} (h : Full σ) (x1 x2 x3 : Int32) : PrF σ (fA_voice N G x1 x2 x3) (fM_voice G x1 x2 x3) := by
  have hF := h
  obtain ⟨⟨P, T, M, c⟩, hS, hT, hI, hB⟩ := h
  obtain ⟨c1, c2, c3, c3', c4, c5, c6, c7, c8, c9, c10⟩ := c
  have c : CX σ P T M := ⟨c1, c2, c3, c3', c4, c5, c6, c7, c8, c9, c10⟩
  have hn := c3.1
  by_cases q : thr P x1
  · have a1 := (A_there c1 c3).1 q
    have m1 := fun s (hs : VM s P) => (M_there hs c3).1 q
    have m2 := M_in (x := x2) (B := 3) (by omega)
    have a2 := A_within (x := x2) (B := 3) (by omega)
    by_cases q2 : wi x2 3
    · have m2 : fM_in x2 0 3 = some 1 := m2.1 q2
      have a2 : fA_within x2 3 = some 1 := a2.1 q2
      obtain ⟨o, hi, rfl⟩ := q
      obtain ⟨v, hv, rfl⟩ := q2
      have ho : o < 8 := by omega
      have hPi := c3.2.2.2.1 o ho
      have e0 : σ 14 0 o = nI (P 0 o) := c1.1 0 o (by omega) ho
      have e1 : σ 15 0 o = nI (P 1 o) := c1.1 1 o (by omega) ho
      -- the class, ready to speak
      have hs0 : Vc (P 0 o) o (P 1 o) 0 0 (zup (zup (zup (zup (zup σ 6 0 3 (nI (P 0 o))) 6 0 4 (nI o)) 6 0 5 (nI (P 1 o))) 6 0 2 0) 6 0 1 0) := by
        refine ⟨zup_s, ?_, ?_, ?_, ?_, TB_e hB (fun c i k q => ?_)⟩
        · rw [zup_k (by omega), zup_s]; rfl
        · rw [zup_k (by omega), zup_k (by omega), zup_k (by omega), zup_k (by omega), zup_s]
        · rw [zup_k (by omega), zup_k (by omega), zup_k (by omega), zup_s]
        · rw [zup_k (by omega), zup_k (by omega), zup_s]
        · rw [zup_o (by omega), zup_o (by omega), zup_o (by omega), zup_o (by omega), zup_o (by omega)]
      have f0 : FVc σ (zup (zup (zup (zup (zup σ 6 0 3 (nI (P 0 o))) 6 0 4 (nI o)) 6 0 5 (nI (P 1 o))) 6 0 2 0) 6 0 1 0) := fun c i k b1 b2 => by
        rw [zup_o (by omega), zup_o (by omega), zup_o (by omega), zup_o (by omega), zup_o (by omega)]
      have hbeg : fV_begin N G (nI (P 0 o)) (nI o) (nI (P 1 o)) (nI v) x3 σ = fV_speak N G G (nI (P 0 o)) (nI v) x3 (nI 0) (zup (zup (zup (zup (zup σ 6 0 3 (nI (P 0 o))) 6 0 4 (nI o)) 6 0 5 (nI (P 1 o))) 6 0 2 0) 6 0 1 0) := by
        unfold fV_begin
        rw [zlt_eq, zlt_eq, zlt_eq, zlt_eq, zlt_eq, zb2_id, hs0.2.2.1]
        rfl
      generalize (zup (zup (zup (zup (zup σ 6 0 3 (nI (P 0 o))) 6 0 4 (nI o)) 6 0 5 (nI (P 1 o))) 6 0 2 0) 6 0 1 0) = s0 at hs0 f0 hbeg
      obtain ⟨g, hg⟩ : ∃ g, G = g + 16 := ⟨G - 16, by omega⟩
      obtain ⟨hh, hg2⟩ : ∃ hh, G = hh + 3 := ⟨G - 3, by omega⟩
      have key : VP (P 0 o) o (P 1 o) 0 8 1 s0 (fV_speak N G G (nI (P 0 o)) (nI v) x3 (nI 0)) (fun s9 => if nI v = 0 then fM_tiesAs G G (nI (P 0 o)) x3 s9 else if nI v = 1 then fM_letsAs G G (nI (P 0 o)) x3 s9 else if nI v = 2 then fM_pullsAs G G (nI (P 0 o)) x3 s9 else fM_partsAs G G (nI (P 0 o)) x3 s9) := by
        have lift : ∀ need ca cm, VP (P 0 o) o (P 1 o) 0 need 0 s0 ca cm → VP (P 0 o) o (P 1 o) 0 need 1 s0 ca cm := by
          intro need ca cm hh
          obtain ⟨r, s', n', p, a1, a2⟩ := hh
          exact ⟨r, s', n', p, by omega, a2⟩
        rcases (show v = 0 ∨ v = 1 ∨ v = 2 ∨ v = 3 by omega) with z | z | z | z <;> subst z
        · have k := V_ties (N := N) (G := G) (g := g + 10) (h := hh) (x := x3) (d := 0) (by omega) hPi.1 ho hs0 hPi.1 (by omega) (by omega)
          rw [show g + 10 + 6 = G by omega, ← hg2] at k
          exact V_up (lift _ _ _ (V_wk k (by omega))) rfl (fun t => rfl)
        · have k := V_lets (N := N) (G := G) (g := g + 4) (h := hh) (x := x3) (d := 0) (by omega) hPi.1 ho hs0 hPi.1 (by omega) (by omega) (by omega)
          rw [show g + 4 + 12 = G by omega, ← hg2] at k
          exact V_up (lift _ _ _ (V_wk k (by omega))) rfl (fun t => rfl)
        · have k := V_pulls (N := N) (G := G) (g := g) (h := hh) (x := x3) (d := 0) (by omega) hPi.1 ho hs0 hPi.1 (by omega) (by omega) (by omega)
          rw [show g + 16 = G by omega, ← hg2] at k
          exact V_up (lift _ _ _ (V_wk k (by omega))) rfl (fun t => rfl)
        · have k := V_parts (N := N) (G := G) (g := g + 2) (h := hh) (x := x3) (d := 0) (by omega) hPi.1 ho hs0 hPi.1 (by omega) hPi.2.1 (by omega) (by omega)
          rw [show g + 2 + 14 = G by omega, ← hg2] at k
          exact V_up (V_wk k (by omega)) rfl (fun t => rfl)
      obtain ⟨r, s', n', p, p1, p2, p3, p4, p5, p6⟩ := key
      have f1 : FVc σ s' := FVc_t f0 p5
      have hA : fA_voice N G (nI o) (nI v) x3 σ = (if (s' 6 0 2) = 0 then some (r, s') else zb2 (fA_refuse 6 s') fun r15 s14 => some (r15, s14)) := by
        unfold fA_voice
        rw [a1, zbd_s, if_neg (by decide), a2, zbd_s, if_neg (by decide)]
        simp (disch := omega) only [zlt_eq, zgd_T, zin_T, zb2_s, zbd_s, n_cl, n_sub1, n_predm, n_sc, if_nle, if_nle0, if_nle1, if_le, if_true, if_false, e0, e1]
        rw [hbeg, p2, zb2_s]
      have hM : ∀ s1, VM s1 P → ∃ t, fM_voice G (nI o) (nI v) x3 s1 = (if (t 8 0 17) = 0 then some (r, t) else zb2 (fM_error 6 t) fun r33 s32 => some (r33, s32)) ∧ t 8 0 17 = nI p ∧ t 8 0 14 = nI n' ∧ Ve s' t n' ∧ (∀ c i k, ¬ (c = 8 ∧ (k = 14 ∨ k = 16 ∨ k = 17)) → c ≠ 38 → t c i k = s1 c i k) := by
        intro s1 v1
        have w0 : s1 30 0 (12 + 6 * o + 0) = nI (P 0 o) := v1.1 0 o (by omega) ho
        have w1 : s1 30 0 (12 + 6 * o + 1) = nI (P 1 o) := v1.1 1 o (by omega) ho
        have hv0 : Vm (P 0 o) o (P 1 o) 0 0 (zup (zup (zup s1 8 0 14 0) 8 0 16 (nI o)) 8 0 17 0) := by
          refine ⟨?_, zup_s, ?_, ?_, ?_⟩
          · rw [zup_k (by omega), zup_k (by omega), zup_s]; rfl
          · rw [zup_k (by omega), zup_s]
          · rw [zup_o (by omega), zup_o (by omega), zup_o (by omega)]; exact w0
          · rw [zup_o (by omega), zup_o (by omega), zup_o (by omega)]; exact w1
        obtain ⟨t, b1, b2, b3, b4⟩ := p6 _ hv0 (fun i hi => absurd hi (by omega))
        dsimp only at b1
        refine ⟨t, ?_, b2.2.1, b2.1, b3, fun c i k y1 y2 => ?_⟩
        · unfold fM_voice fM_voice_J95
          rw [m1 _ v1, zbd_s, if_neg (by decide), m2, zbd_s, if_neg (by decide), zlt_eq, zlt_eq, zlt_eq, M_kindNow ho hv0, zbd_s]
          by_cases z0 : nI v = 0
          · rw [if_pos z0] at b1 ⊢
            rw [b1, zb2_s]
          · rw [if_neg z0] at b1 ⊢
            by_cases z1 : nI v = 1
            · rw [if_pos z1] at b1 ⊢
              rw [b1, zb2_s]
            · rw [if_neg z1] at b1 ⊢
              by_cases z2 : nI v = 2
              · rw [if_pos z2] at b1 ⊢
                rw [b1, zb2_s]
              · rw [if_neg z2] at b1 ⊢
                rw [b1, zb2_s]
        · rw [b4 c i k (by omega) y2]
          unfold zup
          rw [if_neg (by omega), if_neg (by omega), if_neg (by omega)]
      rcases (show p = 0 ∨ p = 1 by omega) with z | z
      · subst z
        have v1 : VM s' P := VM_e c2 (fun k _ => f1 30 0 k (by omega) (by omega))
        obtain ⟨t, d1, d2, d3, d4, d5⟩ := hM s' v1
        have far : ∀ c i k, ¬ (c = 6 ∨ c = 24 ∨ c = 38 ∨ (c = 8 ∧ k ≠ 4)) → t c i k = σ c i k := fun c i k y => (d5 c i k (by omega) (by omega)).trans (f1 c i k (by omega) (by omega))
        rw [p4.2.1, if_pos (show nI 0 = 0 from rfl)] at hA
        rw [d2, if_pos (show nI 0 = 0 from rfl)] at d1
        refine ⟨r, s', t, hA, d1, ⟨⟨P, T, M, CX_o c (fun c i k y => far c i k (by omega))⟩, SH_e hS (fun c i k y => far c i k (by omega)), ⟨n', by omega, ?_, d3, fun k hk => ?_⟩, IM_e hI (fun c i k y => far c i k (by omega)), TB_e hB (fun c i k y => far c i k (by omega))⟩, fun i k => far _ _ _ (by omega), fun i k => f1 _ _ _ (by omega) (by omega)⟩
        · rw [d5 _ _ _ (by omega) (by omega)]; exact p4.1
        · rw [d5 24 0 k (by omega) (by omega)]; exact d4 k hk
      · subst z
        rw [p4.2.1, if_neg (by decide), zb2_id] at hA
        have cs : CX s' P T M := CX_o c (fun c i k y => f1 c i k (by omega) (by omega))
        have v1 : VM (zup s' 26 0 6 (s' 26 0 6 + 1)) P := VM_26 cs.2.1
        obtain ⟨t, d1, d2, d3, d4, d5⟩ := hM (zup s' 26 0 6 (s' 26 0 6 + 1)) v1
        rw [d2, if_neg (by decide), zb2_id] at d1
        have A6 : fA_refuse 6 s' = _ := A_refuse (e := 6) (by omega) (by omega)
        have M6 : fM_error 6 t = _ := M_error (e := 6) (by omega)
        have ct := CX_o (CX_err cs 6) (τ := zup t 34 0 6 (t 34 0 6 + 1)) (fun c i k y => by
          have e34 : t 34 0 6 = s' 34 0 6 := (d5 34 0 6 (by omega) (by omega)).trans (zup_o (by omega))
          by_cases y2 : c = 34 ∧ i = 0 ∧ k = 6
          · obtain ⟨rfl, rfl, rfl⟩ := y2
            rw [zup_s, zup_s, e34]
          · have e1 : ∀ (x : zS) v, zup x 34 0 6 v c i k = x c i k := fun x v => if_neg y2
            rw [e1, e1]
            exact d5 c i k (by omega) (by omega))
        have far : ∀ c i k, ¬ (c = 6 ∨ c = 24 ∨ c = 38 ∨ (c = 8 ∧ k ≠ 4)) → c ≠ 26 → c ≠ 34 → (zup t 34 0 6 (t 34 0 6 + 1)) c i k = σ c i k := fun c i k y y2 y3 => by
          rw [zup_o y3, d5 c i k (by omega) (by omega), zup_o y2]
          exact f1 c i k (by omega) (by omega)
        refine ⟨_, _, _, hA.trans A6, d1.trans M6, ⟨⟨P, T, M, ct⟩, SH_e hS (fun c i k y => far c i k (by omega) (by omega) (by omega)), ⟨n', by omega, ?_, ?_, fun k hk => ?_⟩, IM_e hI (fun c i k y => far c i k (by omega) (by omega) (by omega)), TB_e hB (fun c i k y => far c i k (by omega) (by omega) (by omega))⟩, fun i k => far _ _ _ (by omega) (by omega) (by omega), fun i k => (zup_o (by omega)).trans (f1 _ _ _ (by omega) (by omega))⟩
        · rw [zup_o (by omega), d5 _ _ _ (by omega) (by omega), zup_o (by omega)]; exact p4.1
        · rw [zup_o (by omega)]; exact d3
        · rw [zup_o (by omega), zup_o (by omega), d5 24 0 k (by omega) (by omega), zup_o (by omega)]; exact d4 k hk
    · have m2 : fM_in x2 0 3 = some 0 := m2.2 q2
      have a2 : fA_within x2 3 = some 0 := a2.2 q2
      refine PrF_of hF (Pr_err c (e := 1) (by omega) (by omega) ?_ ?_)
      · unfold fA_voice fA_voice_J16
        rw [a1, zbd_s, if_neg (by decide), a2, zbd_s, if_pos rfl, zb2_id]
        rfl
      · unfold fM_voice fM_voice_J17
        rw [m1 _ (VM_26 c2), zbd_s, if_neg (by decide), m2, zbd_s, if_pos rfl, zb2_id]
        rfl
  · refine PrF_of hF (Pr_err c (e := 1) (by omega) (by omega) ?_ ?_)
    · unfold fA_voice fA_voice_J16
      rw [(A_there c1 c3).2 q, zbd_s, if_pos rfl, zb2_id]
      rfl
    · unfold fM_voice fM_voice_J17
      rw [(M_there (VM_26 c2) c3).2 q, zbd_s, if_pos rfl, zb2_id]
      rfl
theorem P_body {σ : zS} (h : Full σ) (x1 : Int32) : PrF σ (fA_body x1) (fM_body x1) := by
  have hF := h
  obtain ⟨⟨P, T, M, c⟩, hS, ⟨n, g1, g2, g3, g4⟩, hI, hB⟩ := h
  have hin := M_inn (x := x1) (n := n) (by omega)
  have h0 : (0 : Int32).toInt = 0 := by decide
  have hnn := n_toInt (a := n) (by omega)
  by_cases q : 0 ≤ x1.toInt ∧ x1.toInt < n
  · have m := hin.1 q
    have l1 : ¬ (x1 < 0) := by rw [i32_lt]; omega
    have l2 : ¬ (nI n ≤ x1) := by rw [i32_le]; omega
    have hx : ∃ i, i < n ∧ x1 = nI i := ⟨x1.toInt.toNat, by omega, i32_nat q.1⟩
    obtain ⟨i, hi, rfl⟩ := hx
    refine PrF_of hF (Pr_look c (r := σ 24 0 i) ?_ ?_)
    · unfold fA_body
      rw [if_neg l1, g2, if_neg l2]
      simp (disch := omega) only [zlt_eq, zgd_T, zin_T, zb2_s, zbd_s, n_cl, n_sub1, n_predm, n_sc, if_nle, if_nle0, if_nle1, if_le, if_true, if_false]
    · unfold fM_body
      rw [g3, m, zbd_s, if_neg (by decide)]
      simp (disch := omega) only [zlt_eq, zgd_T, zin_T, zb2_s, zbd_s, n_cl, n_sub1, n_predm, n_sc, if_nle, if_nle0, if_nle1, if_le, if_true, if_false, g4 i hi]
  · have m := hin.2 q
    refine PrF_of hF (Pr_err c (e := 2) (by omega) (by omega) ?_ ?_)
    · unfold fA_body fA_body_J27
      rw [g2, zb2_id]
      by_cases y : x1 < 0
      · rw [if_pos y]
        rfl
      · have : nI n ≤ x1 := by rw [i32_lt] at y; rw [i32_le]; omega
        rw [if_neg y, if_pos this]
        rfl
    · have e : (zup σ 26 0 2 (σ 26 0 2 + 1)) 8 0 14 = nI n := by rw [zup_o (by omega)]; exact g3
      unfold fM_body
      rw [e, m, zbd_s, if_pos rfl, zb2_id]
      rfl
