/-! Pure mathematics: reading texts: values by both readers; the public answer text. -/
theorem dz_num {v : Nat} {o : List Int32} {d : Nat} (hv : v < 10000) (h : dz o d) : dz (nI v :: o) (d + 1) := by
  refine ⟨by omega, ?_⟩
  have : ¬ ((10000 : Int32) ≤ nI v) := fun r => absurd ((nI_leI (a := 10000) (by omega) (by omega)).mp r) (by omega)
  rw [if_neg this]
  exact h
theorem num_part {v : Nat} (u : Nat) (hv : v < 10000) : wh (nI v) = 0 ∧ vl u (nI v) = nI v := by
  have : ¬ ((10000 : Int32) ≤ nI v) := fun r => absurd ((nI_leI (a := 10000) (by omega) (by omega)).mp r) (by omega)
  unfold wh vl
  rw [if_neg this, if_neg this]
  exact ⟨rfl, rfl⟩
theorem name_part : ∀ u : Fin 2, ∀ i : Fin 3, wh (nI (10000 + i.1)) = 1 ∧ vl u.1 (nI (10000 + i.1)) = nI (nm u.1 i.1) ∧ (10000 : Int32) ≤ nI (10000 + i.1) ∧ ¬ ((20000 : Int32) ≤ nI (10000 + i.1)) ∧ (nI (10000 + i.1) = 10000 ∨ nI (10000 + i.1) = 10001 ∨ nI (10000 + i.1) = 10002) := by decide +kernel
theorem S1_step {N G u n m : Nat} {B : Nat → Int32} {op : Nat} (hN : 901 ≤ N) (hn : n ≤ 60) (hu : u < 2) (hop : op ≤ 5) (ih : op < 5 → S1 N u n B (op + 1) (fM_one0 N G m) ∧ SL N u n B 1 (op + 1) (fM_whole N G m)) : S1 N u n B op (fM_one0 N G (m + 1)) := by
  intro j w o a turn f d s t h1 h2 h3 h4 h5 h6 h7 h8 h9
  have hP : fM_one0 N G (m + 1) t = fM_one0_b N G (gM_whole N G m).1 (gM_whole N G m).2.1 (gM_whole N G m).2.2.1 (gM_whole N G m).2.2.2.1 (gM_whole N G m).2.2.2.2.1 (gM_whole N G m).2.2.2.2.2 t := rfl
  rw [hP]
  obtain ⟨f', rfl⟩ : ∃ f', f = f' + 1 := ⟨f - 1, by omega⟩
  have hlw : (bg 33 j w).length = j + w.length := bg_len _ _ _
  unfold fM_one0_b
  rw [M_look hn h5 h4, zbd_s, M_isName hu h4, zbd_s]
  by_cases hi : ni u (LK B n a) = 0
  · rw [if_pos hi, if_pos rfl]
    by_cases cd : isd (LK B n a)
    · -- digits
      have ha := isd_lt cd
      have d0 : dc B n 4 a = dc B n 3 (a + 1) + 1 := if_pos cd
      have d4 := dc_le (B := B) (n := n) 4 a
      have dn := dc_n (B := B) (n := n) 4 a h5
      have v4 := dv_4 (B := B) (n := n) (k := dc B n 4 a) (a := a) d4
      obtain ⟨s1, r1, r2, r3⟩ := V_num (u := u) hN hn h1 h2 hop h3 ha h8 cd
      have rr := RUN_v (u := u) (f := f') h3 hn ha h6 (by omega) r1
      rw [if_neg (by omega)] at rr
      obtain ⟨t1, t2, t3, t4⟩ := M_nu_L (N := N) (G := G) (P1 := (gM_whole N G m).1) (P2 := (gM_whole N G m).2.1) (P3 := (gM_whole N G m).2.2.1) (P4 := (gM_whole N G m).2.2.2.1) (P5 := (gM_whole N G m).2.2.2.2.1) (P6 := (gM_whole N G m).2.2.2.2.2) hn 4 0 a 0 N t (by omega) h5 (by omega) h4
      obtain ⟨x1, x2⟩ := num_part u v4
      obtain ⟨t5, y1, y2, y3⟩ := M_step (x := nI (dv B n (dc B n 4 a) a 0)) (y := 0) (v := nI (dv B n (dc B n 4 a) a 0)) t3 (by omega) x1.symm (fun _ => x2.symm)
      have t2' : fM_one0_L46 N G (gM_whole N G m).1 (gM_whole N G m).2.1 (gM_whole N G m).2.2.1 (gM_whole N G m).2.2.2.1 (gM_whole N G m).2.2.2.2.1 (gM_whole N G m).2.2.2.2.2 N 0 0 t = _ := t2
      refine Or.inl ⟨nI (dv B n (dc B n 4 a) a 0) :: o, a + dc B n 4 a, turn + 1, f', s1, t5, rr, ?_, r2, y2, by omega, dn, by omega, by omega, by rw [List.length_cons]; omega, dz_num v4 h9, r3, FMt_t t4 y3⟩
      rw [M_isd.1 cd, zbd_s, if_neg (by decide), t2']
      unfold fM_one0_J94
      rw [y1, zbd_s]
    · rw [M_isd.2 cd, zbd_s, if_pos rfl]
      by_cases c33 : LK B n a = 33
      · -- !
        have ha : a < n := by
          apply Nat.lt_of_not_le
          intro q
          rw [LK_n q] at c33
          exact absurd c33 (by decide)
        have vo := V_open (N := N) (u := u) hn hop h3 ha (by omega) (Or.inl c33)
        have mo := M_opens h4 hop
        rw [if_pos c33]
        by_cases z : op = 5
        · have rr := RUN_v (u := u) (f := f') h3 hn ha h6 (by omega) (vo.1 z)
          rw [if_pos rfl] at rr
          refine Or.inr ⟨a, s, t, rr, ?_, h4.2.2.1, h5, FD_r, FMt_r⟩
          rw [mo.1 z, zb2_s, if_pos rfl]
        · obtain ⟨s1, r1, r2, r3⟩ := vo.2 z
          obtain ⟨t1, p1, p2, p3⟩ := mo.2 z
          have rr := RUN_v (u := u) (f := f') h3 hn ha h6 (by omega) r1
          rw [if_neg (by omega)] at rr
          rw [c33] at r2
          have r2' : CF B n 1 (bg 33 (j + 1) w) o (op + 1) s1 := r2
          have g := (ih (by omega)).1 (j + 1) w o (a + 1) (turn + 1) f' d s1 t1 h1 (by omega) r2' p2 (by omega) (by omega) (by omega) (by omega) h9
          rw [p1, zb2_s, if_neg (by decide)]
          rcases g with ⟨o2, a2, turn2, f2, s2, t2, g1, g2, g3, g4, g5, g6, g7, g8, g9, g10, g11, g12⟩ | ⟨a', s', t', g1, g2, g3, g4, g5, g6⟩
          · have e7 : (t2 8 0 7) - 1 = nI op := by rw [g4.2.2.2.1, n_sub1 (by omega)]; rfl
            have m5 : MF B n u a2 op o2 (zup t2 8 0 7 (nI op)) := MF_u g4 (by omega) (by rw [zup_k (by omega)]; exact g4.2.2.1) zup_s
            obtain ⟨t3, y1, y2, y3⟩ := M_step (x := 20033) (y := 2) (v := 0) m5 (by omega) (by decide) (fun q => absurd rfl q)
            have ebg : bg 20033 (j + 1) o2 = bg 20033 j (20033 :: o2) := (bg_s _ _ _).symm
            rw [ebg, show op + 1 - (j + 1) = op - j by omega] at g3
            refine Or.inl ⟨20033 :: o2, a2, turn2, f2, s2, t3, rr.trans g1, ?_, g3, y2, by omega, g6, g7, g8, by rw [List.length_cons]; omega, ?_, FD_t r3 g11, FMt_t p3 (FMt_t g12 (FMt_t (FMt_u (by omega)) y3))⟩
            · have g2' : (gM_whole N G m).2.2.2.2.2 t1 = some (1, t2) := g2
              rw [g2', zb2_s, if_neg (by decide), zlt_eq, e7, y1, zbd_s]
            · refine ⟨by omega, ?_⟩
              rw [if_pos (by decide), if_pos (by decide), if_pos rfl]
              exact g10
          · refine Or.inr ⟨a', s', t', rr.trans g1, ?_, g3, g4, FD_t r3 g5, FMt_t p3 g6⟩
            have g2' : (gM_whole N G m).2.2.2.2.2 t1 = some (0, t') := g2
            rw [g2', zb2_s, if_pos rfl]
      · rw [if_neg c33]
        by_cases c40 : LK B n a = 40
        · -- (
          have ha : a < n := by
            apply Nat.lt_of_not_le
            intro q
            rw [LK_n q] at c40
            exact absurd c40 (by decide)
          have vo := V_open (N := N) (u := u) hn hop h3 ha (by omega) (Or.inr c40)
          have mo := M_opens h4 hop
          rw [if_pos c40]
          by_cases z : op = 5
          · have rr := RUN_v (u := u) (f := f') h3 hn ha h6 (by omega) (vo.1 z)
            rw [if_pos rfl] at rr
            refine Or.inr ⟨a, s, t, rr, ?_, h4.2.2.1, h5, FD_r, FMt_r⟩
            rw [mo.1 z, zb2_s, if_pos rfl]
          · obtain ⟨s1, r1, r2, r3⟩ := vo.2 z
            obtain ⟨t1, p1, p2, p3⟩ := mo.2 z
            have rr := RUN_v (u := u) (f := f') h3 hn ha h6 (by omega) r1
            rw [if_neg (by omega)] at rr
            rw [c40] at r2
            have g := (ih (by omega)).2 (40 :: bg 33 j w) o (a + 1) (turn + 1) f' d s1 t1 (show rk 40 < 1 ∧ (40 : Int32) ≠ 33 by decide) r2 p2 (by omega) (by omega) (by omega) (by rw [List.length_cons, hlw]; omega) h9
            rw [p1, zb2_s, if_neg (by decide)]
            rcases g with ⟨p, oc, o2, a2, turn2, f2, s2, t2, g1, g2, g3, g4, g5, g6, g7, g8, g9, g10, g11, g12, g13, g14, g15⟩ | ⟨a', s', t', g1, g2, g3, g4, g5, g6⟩
            · have g2' : (gM_whole N G m).1 t1 = some (1, t2) := g2
              rw [List.length_cons, hlw] at g12
              have hel := em_len p oc
              rw [g5] at hel
              rw [g2', zb2_s, if_neg (by decide), M_look hn g9 g4, zbd_s]
              obtain ⟨f3, rfl⟩ : ∃ f3, f2 = f3 + 1 := ⟨f2 - 1, by omega⟩
              by_cases c41 : LK B n a2 = 41
              · have ha2 : a2 < n := by
                  apply Nat.lt_of_not_le
                  intro q
                  rw [LK_n q] at c41
                  exact absurd c41 (by decide)
                obtain ⟨s3, x1, x2, x3⟩ := J_close hN h1 (by omega) (by omega) g6 g3 (by omega) (by omega)
                rw [← c41] at x1
                have rr2 := RUN_j (u := u) (f := f3) g3 hn ha2 g10 (by omega) x1
                rw [if_neg (by omega)] at rr2
                rw [g5, show op + 1 - 1 - j = op - j by omega] at x2
                obtain ⟨e1, m1, fm1⟩ := M_on g4
                have e7 : (zup t2 8 0 6 (nI (a2 + 1))) 8 0 7 - 1 = nI op := by rw [m1.2.2.2.1, n_sub1 (by omega)]; rfl
                have m5 : MF B n u (a2 + 1) op o2 (zup (zup t2 8 0 6 (nI (a2 + 1))) 8 0 7 (nI op)) := MF_u m1 (by omega) (by rw [zup_k (by omega)]; exact m1.2.2.1) zup_s
                rw [if_pos c41, zlt_eq, zlt_eq, e1, e7]
                exact Or.inl ⟨o2, a2 + 1, turn2 + 1, f3, s3, _, rr.trans (g1.trans rr2), rfl, x2, m5, by omega, by omega, by omega, by omega, by omega, g13, FD_t r3 (FD_t g14 x3), FMt_t p3 (FMt_t g15 (FMt_t fm1 (FMt_u (by omega))))⟩
              · rw [if_neg c41]
                by_cases hx : a2 < n
                · obtain ⟨s3, x1, x2⟩ := J_stuck hN g7 c41 g3 (by omega) (by rw [List.length_cons, hlw]; omega)
                  have rr2 := RUN_j (u := u) (f := f3) g3 hn hx g10 (by omega) x1
                  rw [if_pos rfl] at rr2
                  exact Or.inr ⟨a2, s3, t2, rr.trans (g1.trans rr2), rfl, g4.2.2.1, g9, FD_t r3 (FD_t g14 x2), FMt_t p3 g15⟩
                · have ha2 : a2 = n := by omega
                  subst ha2
                  obtain ⟨s3, x1, x2, x3⟩ := D_settle hN (l := 1) (by omega) (show hd (fun x => rk x < 1) (40 :: bg 33 j w) by show rk 40 < 1; decide) g6 g3 (by omega) (by rw [List.length_cons, hlw]; omega)
                  have x1' : fD_settle N 1 s2 = some s3 := x1
                  have rr2 := RUN_x (N := N) (u := u) (f := f3) (turn := turn2) g3 hn
                  refine Or.inr ⟨a2, s3, t2, rr.trans (g1.trans (rr2.trans ?_)), rfl, g4.2.2.1, g9, FD_t r3 (FD_t g14 x3), FMt_t p3 g15⟩
                  unfold fD_read_J87
                  rw [g3.2.2.1, if_pos (show nI 0 = 0 from rfl), x1', zbd_s, x2.2.2.2.1, List.length_cons, hlw, if_nle0 (by omega) (by omega), x2.1]
            · refine Or.inr ⟨a', s', t', rr.trans g1, ?_, g3, g4, FD_t r3 g5, FMt_t p3 g6⟩
              have g2' : (gM_whole N G m).1 t1 = some (0, t') := g2
              rw [g2', zb2_s, if_pos rfl]
        · -- nothing
          rw [if_neg c40]
          by_cases ha : a < n
          · have vn := V_none hN hn hu h3 ha c33 c40 cd hi
            have rr := RUN_v (u := u) (f := f') h3 hn ha h6 (by omega) vn
            rw [if_pos rfl] at rr
            exact Or.inr ⟨a, s, t, rr, rfl, h4.2.2.1, h5, FD_r, FMt_r⟩
          · have ha2 : a = n := by omega
            subst ha2
            exact Or.inr ⟨a, s, t, RUN_e1 h3 hn, rfl, h4.2.2.1, h5, FD_r, FMt_r⟩
  · -- a name
    have ha : a < n := by
      apply Nat.lt_of_not_le
      intro q
      rw [LK_n q] at hi
      apply hi
      rcases (show u = 0 ∨ u = 1 by omega) with z | z <;> subst z <;> decide
    obtain ⟨k1, k2⟩ := ni_c hi
    obtain ⟨n1, n2, n3', n4, n5⟩ := name_part ⟨u, hu⟩ ⟨ni u (LK B n a) - 1, by omega⟩
    dsimp only at n1 n2 n3' n4 n5
    obtain ⟨s1, r1, r2, r3⟩ := V_name hN hn hu h1 h2 hop h3 ha h8 hi
    have rr := RUN_v (u := u) (f := f') h3 hn ha h6 (by omega) r1
    rw [if_neg (by omega)] at rr
    obtain ⟨e1, m1, fm1⟩ := M_on h4
    obtain ⟨t5, y1, y2, y3⟩ := M_step (x := nI (10000 + (ni u (LK B n a) - 1))) (y := 1) (v := LK B n a) m1 (by omega) n1.symm (fun _ => k2.trans n2.symm)
    rw [if_neg hi, if_neg (by decide), zlt_eq, e1, y1, zbd_s]
    refine Or.inl ⟨nI (10000 + (ni u (LK B n a) - 1)) :: o, a + 1, turn + 1, f', s1, t5, rr, rfl, r2, y2, by omega, by omega, by omega, by omega, by rw [List.length_cons]; omega, ⟨by omega, ?_⟩, r3, FMt_t fm1 y3⟩
    rw [if_pos n3', if_neg n4]
    exact ⟨n5, h9⟩
theorem S1_all {N G u n : Nat} {B : Nat → Int32} (hN : 901 ≤ N) (hn : n ≤ 60) (hu : u < 2) : ∀ k m op, op + k = 5 → 6 * k ≤ m → S1 N u n B op (fM_one0 N G (m + 1))
  | 0, m, op, h1, h2 => S1_step hN hn hu (by omega) (fun q => absurd q (by omega))
  | k + 1, m, op, h1, h2 => by
    refine S1_step hN hn hu (by omega) (fun _ => ?_)
    have a := S1_all (G := G) (B := B) hN hn hu k (m - 1) (op + 1) (by omega) (by omega)
    have b := SL_all hN hn (S1_all (G := G) (B := B) hN hn hu k (m - 6) (op + 1) (by omega) (by omega))
    rw [show m - 1 + 1 = m by omega] at a
    rw [show m - 6 + 1 + 5 = m by omega] at b
    exact ⟨a, b⟩
theorem SL_top {N G u n : Nat} {B : Nat → Int32} (hN : 901 ≤ N) (hn : n ≤ 60) (hu : u < 2) (hG : 40 ≤ G) : SL N u n B 1 0 (fM_whole N G G) := by
  have b := SL_all hN hn (S1_all (G := G) (B := B) hN hn hu 5 (G - 6) 0 (by omega) (by omega))
  rw [show G - 6 + 1 + 5 = G by omega] at b
  exact b
