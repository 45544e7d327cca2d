/-! Pure mathematics: the public answer text. -/
theorem SM_ST {u : Nat} {t : zS} {T : Nat → Int32} : ∀ o, SM u t o → ST T o → ∀ k, k < o.length → t 35 0 (2 * k) = wh (T k) ∧ (T k ≠ 20033 → t 35 0 (2 * k + 1) = vl u (T k))
  | [], _, _, k, hk => absurd hk (by rw [List.length_nil]; omega)
  | x :: o, h, h2, k, hk => by
    rw [List.length_cons] at hk
    by_cases z : k = o.length
    · subst z
      rw [h2.1]
      exact ⟨h.1, h.2.1⟩
    · exact SM_ST o h.2.2 h2.2 k (by omega)
theorem T_out {N G u n : Nat} {B : Nat → Int32} {s t : zS} (hN : 901 ≤ N) (hn : n ≤ 60) (hu : u < 2) (hG : 40 ≤ G) (hs : CF B n 1 [] [] 0 s) (ht : MF B n u 0 0 [] t) : ∃ r s', RUN N u N 0 0 s = some (r, s') ∧ FD s s' ∧ ((∃ o, r = -1 ∧ o.length ≤ 60 ∧ s' 1 0 1 = nI o.length ∧ ST (s' 12 0) o ∧ dz o 1 ∧ ∃ t', fM_whole N G G t = some (1, t') ∧ t' 8 0 6 = nI n ∧ t' 8 0 8 = nI o.length ∧ SM u t' o ∧ FMt t t') ∨ (∃ a, a ≤ n ∧ r = nI a ∧ ∃ t', t' 8 0 6 = nI a ∧ FMt t t' ∧ (fM_whole N G G t = some (0, t') ∨ (a < n ∧ fM_whole N G G t = some (1, t'))))) := by
  have g := SL_top (B := B) hN hn hu hG [] [] 0 0 N 0 s t trivial hs ht (by omega) (by omega) (by omega) (by rw [List.length_nil]; omega) rfl
  rcases g with ⟨p, oc, o', a', turn', f', s1, t1, h1, h2, h3, h4, h5, h6, h7, h8, h9, h10, h11, h12, h13, h14, h15⟩ | ⟨a', s1, t1, h1, h2, h3, h4, h5, h6⟩
  · have hel := em_len p oc
    rw [h5] at hel
    rw [List.length_nil] at h12
    obtain ⟨f, rfl⟩ : ∃ f, f' = f + 1 := ⟨f' - 1, by omega⟩
    by_cases ha : a' < n
    · have jn : ∃ s3, fD_readJoin N (LK B n a') s1 = some (nI 0, s3) ∧ FD s1 s3 := by
        by_cases c41 : LK B n a' = 41
        · rw [c41]
          exact J_close0 hN h6 h3 (by omega)
        · exact J_stuck hN h7 c41 h3 (by omega) (by rw [List.length_nil]; omega)
      obtain ⟨s3, x1, x2⟩ := jn
      have rr := RUN_j (u := u) (f := f) h3 hn ha h10 (by omega) x1
      rw [if_pos rfl] at rr
      exact ⟨nI a', s3, h1.trans rr, FD_t h14 x2, Or.inr ⟨a', h9, rfl, t1, h4.2.2.1, h15, Or.inr ⟨ha, h2⟩⟩⟩
    · have ha2 : a' = n := by omega
      subst ha2
      obtain ⟨s3, x1, x2, x3⟩ := D_settle (w := []) hN (l := 1) (by omega) trivial h6 h3 (by omega) (by rw [List.length_nil]; omega)
      rw [h5] at x2
      have x1' : fD_settle N 1 s1 = some s3 := x1
      have rr := RUN_x (N := N) (u := u) (f := f) (turn := turn') h3 hn
      refine ⟨-1, s3, h1.trans (rr.trans ?_), FD_t h14 x3, Or.inl ⟨o', rfl, by omega, x2.2.2.2.2.2.1, x2.2.2.2.2.2.2.1, h13, t1, h2, h4.2.2.1, h4.2.2.2.2.1, h4.2.2.2.2.2.1, h15⟩⟩
      unfold fD_read_J87
      rw [h3.2.2.1, if_pos (show nI 0 = 0 from rfl), x1', zbd_s, x2.2.2.2.1, List.length_nil, if_pos (by decide)]
  · exact ⟨nI a', s1, h1, h5, Or.inr ⟨a', h4, rfl, t1, h3, h6, Or.inl h2⟩⟩
theorem L_take12_L {N b m : Nat} (hm : m ≤ 60) : ∀ k j f s, j + k = m → k < f → ∃ s', fL_take_12_L2 N b 0 f (nI m) (nI j) s = some s' ∧ s' 0 b 1 = nI m ∧ (∀ i, j ≤ i → i < m → s' 10 b i = s 12 0 i) ∧ (∀ c i y, ¬ (c = 0 ∧ i = b ∧ y = 1) → ¬ (c = 10 ∧ i = b ∧ j ≤ y) → s' c i y = s c i y)
  | k, j, 0, s, h1, h2 => absurd h2 (by omega)
  | 0, j, f + 1, s, h1, h2 => by
    rw [fL_take_12_L2, if_le (by omega) (by omega)]
    unfold fL_take_12_J34
    rw [zlt_eq]
    refine ⟨_, rfl, zup_s, fun i a b => by omega, fun c i y a1 a2 => ?_⟩
    unfold zup
    rw [if_neg (by omega)]
  | k + 1, j, f + 1, s, h1, h2 => by
    have hq : ¬ ((60 : Int32) ≤ nI j) := fun r => absurd ((nI_leI (a := 60) (by omega) (by omega)).mp r) (by omega)
    rw [fL_take_12_L2, if_nle (by omega) (by omega), if_neg hq, if_neg hq]
    simp (disch := omega) only [zlt_eq, zgd_T, zin_T, zb2_s, zbd_s, n_cl, n_sub1, n_predm, n_sc, if_nle, if_nle0, if_nle1, if_le, if_true, if_false]
    obtain ⟨s', r1, r2, r3, r4⟩ := L_take12_L (N := N) (b := b) hm k (j + 1) f (zup s 10 b j (s 12 0 j)) (by omega) (by omega)
    refine ⟨s', r1, r2, fun i a c => ?_, fun c i y a1 a2 => ?_⟩
    · by_cases z : i = j
      · subst z
        rw [r4 _ _ _ (by omega) (by omega), zup_s]
      · rw [r3 i (by omega) c, zup_o (by omega)]
    · rw [r4 c i y a1 (by omega)]
      unfold zup
      rw [if_neg (by omega)]
theorem M_text_L {N G u m : Nat} (hu : u < 2) (hm : m ≤ 60) : ∀ k j f s, j + k = 2 * m → k < f → s 8 0 8 = nI m → ∃ s', fM_text_L101 N G f (nI (60 + 125 * u)) (nI j) s = some (1, s') ∧ (∀ i, j ≤ i → i < 2 * m → s' 30 0 (60 + 125 * u + 1 + i) = s 35 0 i) ∧ (∀ c i y, ¬ (c = 30 ∧ i = 0 ∧ 60 + 125 * u + 1 + j ≤ y ∧ y < 60 + 125 * u + 125) → s' c i y = s c i y)
  | k, j, 0, s, h1, h2, h3 => absurd h2 (by omega)
  | 0, j, f + 1, s, h1, h2, h3 => by
    have e2 : 2 * nI m = nI (2 * m) := n_mul 2 m
    rw [fM_text_L101, h3, e2, if_le (by omega) (by omega)]
    exact ⟨s, rfl, fun i a b => by omega, fun _ _ _ _ => rfl⟩
  | k + 1, j, f + 1, s, h1, h2, h3 => by
    have e2 : 2 * nI m = nI (2 * m) := n_mul 2 m
    have e3 : nI (60 + 125 * u) + 1 + nI j = nI (60 + 125 * u + 1 + j) := by rw [l1, n_add, n_add]
    rw [fM_text_L101, h3, e2, if_nle (by omega) (by omega), e3]
    simp (disch := omega) only [zlt_eq, zgd_T, zin_T, zb2_s, zbd_s, n_cl, n_sub1, n_predm, n_sc, if_nle, if_nle0, if_nle1, if_le, if_true, if_false]
    obtain ⟨s', r1, r2, r3⟩ := M_text_L (N := N) (G := G) hu hm k (j + 1) f (zup s 30 0 (60 + 125 * u + 1 + j) (s 35 0 j)) (by omega) (by omega) (by rw [zup_o (by omega)]; exact h3)
    refine ⟨s', r1, fun i a b => ?_, fun c i y hc => ?_⟩
    · by_cases z : i = j
      · subst z
        rw [r3 _ _ _ (by omega), zup_s]
      · rw [r2 i (by omega) b, zup_o (by omega)]
    · rw [r3 c i y (by omega)]
      unfold zup
      rw [if_neg (by omega)]
theorem P_text {N G : Nat} (hN : 901 ≤ N) (hG : 40 ≤ G) {σ : zS} (h : Core σ) (hB : TB σ) (x1 : Int32) : Pr σ (fA_text N x1) (fM_text N G x1) := by
  obtain ⟨P, T, M, c⟩ := h
  obtain ⟨c1, c2, c3, c3', c4, c5, c6, c7, c8, c9, c10⟩ := c
  have c : CX σ P T M := ⟨c1, c2, c3, c3', c4, c5, c6, c7, c8, c9, c10⟩
  have hn := c3.1
  have a1 := A_within (x := x1) (B := 1) (by omega)
  have m1 := M_in (x := x1) (B := 1) (by omega)
  by_cases q1 : wi x1 1
  · have a1 : fA_within x1 1 = some 1 := a1.1 q1
    have m1 : fM_in x1 0 1 = some 1 := m1.1 q1
    obtain ⟨u, hu, rfl⟩ := q1
    have hu2 : u < 2 := by omega
    obtain ⟨n, hn60, n1, n2, n3'⟩ := c9
    have hs0 : CF (σ 22 0) n 1 [] [] 0 (zup (zup (zup (zup σ 1 0 1 0) 1 0 3 0) 1 0 4 0) 1 0 5 1) := by
      refine ⟨?_, fun k _ => ?_, zup_s, ?_, trivial, ?_, trivial, ?_, TB_e hB (fun c i k q => ?_)⟩
      · rw [zup_o (by omega), zup_o (by omega), zup_o (by omega), zup_o (by omega)]; exact n1
      · rw [zup_o (by omega), zup_o (by omega), zup_o (by omega), zup_o (by omega)]
      · rw [zup_k (by omega), zup_k (by omega), zup_s]; rfl
      · rw [zup_k (by omega), zup_k (by omega), zup_k (by omega), zup_s]; rfl
      · rw [zup_k (by omega), zup_s]; rfl
      · rw [zup_o (by omega), zup_o (by omega), zup_o (by omega), zup_o (by omega)]
    have fs0 : FD σ (zup (zup (zup (zup σ 1 0 1 0) 1 0 3 0) 1 0 4 0) 1 0 5 1) := fun c i k b1 b2 b3 => by
      rw [zup_o (by omega), zup_o (by omega), zup_o (by omega), zup_o (by omega)]
    have hrd : fD_read N 0 (nI u) σ = RUN N u N 0 0 (zup (zup (zup (zup σ 1 0 1 0) 1 0 3 0) 1 0 4 0) 1 0 5 1) := by
      unfold fD_read
      rw [zlt_eq, zlt_eq, zlt_eq, zlt_eq]
      rfl
    generalize (zup (zup (zup (zup σ 1 0 1 0) 1 0 3 0) 1 0 4 0) 1 0 5 1) = s0 at hs0 fs0 hrd
    -- the reference's start, in any state that has the tape
    have mt0 : ∀ s, s 30 0 2 = nI n → (∀ k, k < n → s 30 0 (310 + k) = σ 22 0 k) → MF (σ 22 0) n u 0 0 [] (zup (zup (zup (zup s 8 0 9 (nI u)) 8 0 6 0) 8 0 7 0) 8 0 8 0) := by
      intro s e1 e2
      refine ⟨?_, fun k hk => ?_, ?_, ?_, zup_s, trivial, ?_⟩
      · rw [zup_o (by omega), zup_o (by omega), zup_o (by omega), zup_o (by omega)]; exact e1
      · rw [zup_o (by omega), zup_o (by omega), zup_o (by omega), zup_o (by omega)]; exact e2 k hk
      · rw [zup_k (by omega), zup_k (by omega), zup_s]; rfl
      · rw [zup_k (by omega), zup_s]; rfl
      · rw [zup_k (by omega), zup_k (by omega), zup_k (by omega), zup_s]
    obtain ⟨r, s', run, fs', -⟩ := T_out hN hn60 hu2 hG hs0 (mt0 σ n2 (fun k hk => (n3' k hk).symm))
    have fS : FD σ s' := FD_t fs0 fs'
    have tape : s' 30 0 2 = nI n ∧ ∀ k, k < n → s' 30 0 (310 + k) = σ 22 0 k := ⟨(fS _ _ _ (by omega) (by omega) (by omega)).trans n2, fun k hk => (fS _ _ _ (by omega) (by omega) (by omega)).trans (n3' k hk).symm⟩
    have hl : fA_lawOf (nI u) (zup s' 3 0 1 0) = some u := by
      unfold fA_lawOf
      rcases (show u = 0 ∨ u = 1 by omega) with q | q <;> subst q
      · rfl
      · rfl
    have hA : fA_text N (nI u) σ = (if r < 0 then (fL_take_12 N u 0 ((zup s' 3 0 1 0) 1 0 1) (zup s' 3 0 1 0)).bind fun s15 => some (1, s15) else some ((-10) - r, zup s' 3 0 1 0)) := by
      unfold fA_text
      rw [a1, zbd_s, if_neg (by decide), hrd, run, zb2_s, zlt_eq, hl, zbd_s]
    -- the second look: the reference behind the class
    have second : ∀ v, (∀ c i k, c = 30 → v c i k = s' c i k) → ((∃ o, r = -1 ∧ o.length ≤ 60 ∧ s' 1 0 1 = nI o.length ∧ ST (s' 12 0) o ∧ dz o 1 ∧ ∃ t', fM_whole N G G (zup (zup (zup (zup v 8 0 9 (nI u)) 8 0 6 0) 8 0 7 0) 8 0 8 0) = some (1, t') ∧ t' 8 0 6 = nI n ∧ t' 8 0 8 = nI o.length ∧ SM u t' o ∧ FMt (zup (zup (zup (zup v 8 0 9 (nI u)) 8 0 6 0) 8 0 7 0) 8 0 8 0) t') ∨ (∃ a, a ≤ n ∧ r = nI a ∧ ∃ t', t' 8 0 6 = nI a ∧ FMt (zup (zup (zup (zup v 8 0 9 (nI u)) 8 0 6 0) 8 0 7 0) 8 0 8 0) t' ∧ (fM_whole N G G (zup (zup (zup (zup v 8 0 9 (nI u)) 8 0 6 0) 8 0 7 0) 8 0 8 0) = some (0, t') ∨ (a < n ∧ fM_whole N G G (zup (zup (zup (zup v 8 0 9 (nI u)) 8 0 6 0) 8 0 7 0) 8 0 8 0) = some (1, t'))))) := by
      intro v hv
      obtain ⟨r2, s2, run2, -, g⟩ := T_out hN hn60 hu2 hG hs0 (mt0 v ((hv _ _ _ rfl).trans tape.1) (fun k hk => (hv _ _ _ rfl).trans (tape.2 k hk)))
      rw [run] at run2
      have e : (r, s') = (r2, s2) := Option.some.inj run2
      have e1 : r = r2 := congrArg Prod.fst e
      have e2 : s' = s2 := congrArg Prod.snd e
      subst e1 e2
      exact g
    have hMt : ∀ v, fM_text N G (nI u) v = zb2 (fM_whole N G G (zup (zup (zup (zup v 8 0 9 (nI u)) 8 0 6 0) 8 0 7 0) 8 0 8 0)) fun r13 s12 => (if r13 = 0 then fM_text_J59 N G (nI u) s12 else (if (s12 8 0 6) = (s12 30 0 2) then fM_text_J60 N G (nI u) 1 s12 else fM_text_J59 N G (nI u) s12)) := by
      intro v
      unfold fM_text
      rw [m1, zbd_s, if_neg (by decide), zlt_eq, zlt_eq, zlt_eq, zlt_eq]
    have fv0 : ∀ (v t' : zS), FMt (zup (zup (zup (zup v 8 0 9 (nI u)) 8 0 6 0) 8 0 7 0) 8 0 8 0) t' → ∀ c i k, ¬ (c = 8 ∧ (k = 6 ∨ k = 7 ∨ k = 8 ∨ k = 9)) → c ≠ 35 → t' c i k = v c i k := fun v t' hf c i k b1 b2 => by
      rw [hf c i k (by omega) b2]
      unfold zup
      rw [if_neg (by omega), if_neg (by omega), if_neg (by omega), if_neg (by omega)]
    by_cases hr : r = -1
    · -- a text
      have hlt : r < 0 := by rw [hr]; decide
      have sec0 := second (zup s' 3 0 1 0) (fun c i k hc => zup_o (by omega))
      have len : ∃ o : List Int32, o.length ≤ 60 ∧ s' 1 0 1 = nI o.length ∧ ST (s' 12 0) o ∧ dz o 1 := by
        rcases sec0 with ⟨o, -, o1, o2, o3, o4, -⟩ | ⟨a, b1, b2, -⟩
        · exact ⟨o, o1, o2, o3, o4⟩
        · rw [hr] at b2
          have h1 : (-1 : Int32).toInt = -1 := by decide
          have := n_toInt (a := a) (by omega)
          rw [← b2] at this
          omega
      obtain ⟨o, o1, o2, o3, o4⟩ := len
      rw [if_pos hlt] at hA
      have e1 : (zup s' 3 0 1 0) 1 0 1 = nI o.length := by rw [zup_o (by omega)]; exact o2
      obtain ⟨s5, w1, w2, w3, w4⟩ := L_take12_L (N := N) (b := u) o1 o.length 0 N (zup s' 3 0 1 0) (by omega) (by omega)
      have w1' : fL_take_12 N u 0 (nI o.length) (zup s' 3 0 1 0) = some s5 := w1
      rw [e1, w1', zbd_s] at hA
      have f5 : ∀ c i k, ¬ (c = 0 ∧ i = u ∧ k = 1) → ¬ (c = 10 ∧ i = u) → ¬ (c = 3 ∧ i = 0 ∧ k = 1) → s5 c i k = s' c i k := fun c i k b1 b2 b3 => by
        rw [w4 c i k b1 (by omega)]
        unfold zup
        rw [if_neg (by omega)]
      rcases second s5 (fun c i k hc => f5 c i k (by omega) (by omega) (by omega)) with ⟨o', -, p1, p2, p3, p4, t', x1, x2, x3, x4, x5⟩ | ⟨a, b1, b2, -⟩
      · have hlen : o'.length = o.length := (nI_eq (by omega) (by omega)).mp (p2.symm.trans o2)
        have ft := fv0 s5 t' x5
        have t30 : t' 30 0 2 = nI n := (ft _ _ _ (by omega) (by omega)).trans ((f5 _ _ _ (by omega) (by omega) (by omega)).trans tape.1)
        have hv18 : 60 + 125 * nI u = nI (60 + 125 * u) := by rw [l60, l125, n_mul, n_add]
        obtain ⟨τ, y1, y2, y3⟩ := M_text_L (N := N) (G := G) hu2 p1 (2 * o'.length) 0 N (zup (zup t' 30 0 2 0) 30 0 (60 + 125 * u) (nI o'.length)) (by omega) (by omega) (by rw [zup_o (by omega), zup_o (by omega)]; exact x3)
        have hM : fM_text N G (nI u) s5 = some (1, τ) := by
          rw [hMt, x1, zb2_s, if_neg (by decide), x2, t30, if_pos rfl]
          unfold fM_text_J60
          rw [zlt_eq, if_neg (by decide), zlt_eq, hv18]
          simp (disch := omega) only [zlt_eq, zgd_T, zin_T, zb2_s, zbd_s, n_cl, n_sub1, n_predm, n_sc, if_nle, if_nle0, if_nle1, if_le, if_true, if_false]
          rw [zup_o (by omega), x3]
          exact y1
        have fτ : ∀ c i k, ¬ (c = 30 ∧ i = 0 ∧ (k = 2 ∨ (60 + 125 * u ≤ k ∧ k < 60 + 125 * u + 125))) → τ c i k = t' c i k := fun c i k b => by
          rw [y3 c i k (by omega)]
          unfold zup
          rw [if_neg (by omega), if_neg (by omega)]
        have e : ∀ c i k, ¬ (c = 30 ∧ i = 0 ∧ (k = 2 ∨ (60 + 125 * u ≤ k ∧ k < 60 + 125 * u + 125))) → ¬ (c = 8 ∧ (k = 6 ∨ k = 7 ∨ k = 8 ∨ k = 9)) → c ≠ 35 → ¬ (c = 0 ∧ i = u ∧ k = 1) → ¬ (c = 10 ∧ i = u) → ¬ (c = 3 ∧ i = 0 ∧ k = 1) → c ≠ 1 → c ≠ 12 → c ≠ 13 → τ c i k = σ c i k := fun c i k b1 b2 b3 b4 b5 b6 b7 b8 b9 => (fτ c i k b1).trans ((ft c i k b2 b3).trans ((f5 c i k b4 b5 b6).trans (fS c i k b7 b8 b9)))
        have eτ5 : ∀ c i k, c ≠ 30 → c ≠ 8 → c ≠ 35 → τ c i k = s5 c i k := fun c i k b1 b2 b3 => (fτ c i k (by omega)).trans (ft c i k (by omega) b3)
        refine ⟨1, s5, τ, hA, hM, ⟨P, fun v => if v = u then s' 12 0 else T v, fun v => if v = u then o.length else M v, CX_mk c (fun c i k hc => e c i k (by omega) (by omega) (by omega) (by omega) (by omega) (by omega) (by omega) (by omega) (by omega)) ?_ ?_ ?_ ?_ ?_⟩, ?_, fun i k => (f5 _ _ _ (by omega) (by omega) (by omega)).trans (fS _ _ _ (by omega) (by omega) (by omega))⟩
        · intro v hv
          obtain ⟨k1, k2, k3⟩ := c4 v hv
          rw [Nat.zero_add] at k1 k2 k3
          rw [Nat.zero_add]
          by_cases z : v = u
          · subst z
            dsimp only
            rw [if_pos rfl, if_pos rfl]
            refine ⟨by rw [eτ5 _ _ _ (by omega) (by omega) (by omega)]; exact w2, ?_, fun k hk => ?_⟩
            · rw [e _ _ _ (by omega) (by omega) (by omega) (by omega) (by omega) (by omega) (by omega) (by omega) (by omega)]; exact k2
            · rw [eτ5 _ _ _ (by omega) (by omega) (by omega), w3 k (by omega) hk, zup_o (by omega)]
          · dsimp only
            rw [if_neg z, if_neg z]
            refine ⟨?_, ?_, fun k hk => ?_⟩
            · rw [e _ _ _ (by omega) (by omega) (by omega) (by omega) (by omega) (by omega) (by omega) (by omega) (by omega)]; exact k1
            · rw [e _ _ _ (by omega) (by omega) (by omega) (by omega) (by omega) (by omega) (by omega) (by omega) (by omega)]; exact k2
            · rw [e _ _ _ (by omega) (by omega) (by omega) (by omega) (by omega) (by omega) (by omega) (by omega) (by omega)]; exact k3 k hk
        · intro v hv
          obtain ⟨k1, k3⟩ := c5 v hv
          have hMv := (c6 v hv).1
          by_cases z : v = u
          · subst z
            dsimp only
            rw [if_pos rfl, if_pos rfl]
            refine ⟨?_, fun k hk => ?_⟩
            · rw [y3 _ _ _ (by omega), zup_s, hlen]
            · have sm := SM_ST o' x4 p3 k (by omega)
              have z1 := y2 (2 * k) (by omega) (by omega)
              have z2 := y2 (2 * k + 1) (by omega) (by omega)
              have g35 : ∀ i, (zup (zup t' 30 0 2 0) 30 0 (60 + 125 * v) (nI o'.length)) 35 0 i = t' 35 0 i := fun i => by rw [zup_o (by omega), zup_o (by omega)]
              rw [g35] at z1 z2
              rw [show 60 + 125 * v + 1 + (2 * k + 1) = 60 + 125 * v + 2 + 2 * k by omega] at z2
              rw [z1, z2]
              exact sm
          · dsimp only
            rw [if_neg z, if_neg z]
            refine ⟨?_, fun k hk => ?_⟩
            · rw [e _ _ _ (by omega) (by omega) (by omega) (by omega) (by omega) (by omega) (by omega) (by omega) (by omega)]; exact k1
            · rw [e _ _ _ (by omega) (by omega) (by omega) (by omega) (by omega) (by omega) (by omega) (by omega) (by omega), e _ _ _ (by omega) (by omega) (by omega) (by omega) (by omega) (by omega) (by omega) (by omega) (by omega)]
              exact k3 k hk
        · intro v hv
          by_cases z : v = u
          · dsimp only
            rw [if_pos z, if_pos z]
            refine ⟨o1, fun _ => ?_⟩
            have := dz_wT (T := s' 12 0) o 0 1 o3 o4 (Nat.le_refl 1)
            rw [Nat.zero_add] at this
            exact this
          · dsimp only
            rw [if_neg z, if_neg z]
            exact c6 v hv
        · refine ⟨0, by omega, ?_, ?_, fun k hk => absurd hk (by omega)⟩
          · rw [eτ5 _ _ _ (by omega) (by omega) (by omega), w4 _ _ _ (by omega) (by omega), zup_s]; rfl
          · rw [y3 _ _ _ (by omega), zup_k (by omega), zup_s]; rfl
        · exact RW_g c10 (e _ _ _ (by omega) (by omega) (by omega) (by omega) (by omega) (by omega) (by omega) (by omega) (by omega)) (fun k _ => e _ _ _ (by omega) (by omega) (by omega) (by omega) (by omega) (by omega) (by omega) (by omega) (by omega)) (e _ _ _ (by omega) (by omega) (by omega) (by omega) (by omega) (by omega) (by omega) (by omega) (by omega)) (fun k _ _ => e _ _ _ (by omega) (by omega) (by omega) (by omega) (by omega) (by omega) (by omega) (by omega) (by omega))
        · intro c i k b1 b2 b3 b4 b5 b6 b7 b8 b9 b10 b11
          exact e c i k (by omega) (by omega) (by omega) (by omega) (by omega) (by omega) (by omega) (by omega) (by omega)
      · rw [hr] at b2
        have h1 : (-1 : Int32).toInt = -1 := by decide
        have := n_toInt (a := a) (by omega)
        rw [← b2] at this
        omega
    · -- a fault
      rcases second (zup s' 3 0 1 0) (fun c i k hc => zup_o (by omega)) with ⟨o', g1, -⟩ | ⟨a, b1, b2, t', x2, x5, x1⟩
      · exact absurd g1 hr
      · have hlt : ¬ (r < 0) := by rw [b2, l0, n_lt (by omega) (by omega)]; omega
        rw [if_neg hlt, b2] at hA
        have ft := fv0 _ t' x5
        have t30 : t' 30 0 2 = nI n := (ft _ _ _ (by omega) (by omega)).trans ((zup_o (by omega)).trans tape.1)
        have j59 : fM_text_J59 N G (nI u) t' = some ((-10) - nI a, zup t' 30 0 2 0) := by
          unfold fM_text_J59 fM_text_J60
          rw [zlt_eq, if_pos rfl, zup_o (by omega), x2]
        have hM : fM_text N G (nI u) (zup s' 3 0 1 0) = some ((-10) - nI a, zup t' 30 0 2 0) := by
          rw [hMt]
          rcases x1 with x1 | ⟨x0, x1⟩
          · rw [x1, zb2_s, if_pos rfl, j59]
          · rw [x1, zb2_s, if_neg (by decide), x2, t30, if_neg (fun q => absurd ((nI_eq (by omega) (by omega)).mp q) (by omega)), j59]
        have e : ∀ c i k, ¬ (c = 30 ∧ i = 0 ∧ k = 2) → ¬ (c = 8 ∧ (k = 6 ∨ k = 7 ∨ k = 8 ∨ k = 9)) → c ≠ 35 → ¬ (c = 3 ∧ i = 0 ∧ k = 1) → c ≠ 1 → c ≠ 12 → c ≠ 13 → (zup t' 30 0 2 0) c i k = σ c i k := fun c i k q1 q2 q3 q4 q5 q6 q7 => by
          have z1 : (zup t' 30 0 2 0) c i k = t' c i k := by
            unfold zup
            rw [if_neg (by omega)]
          have z2 : (zup s' 3 0 1 0) c i k = s' c i k := by
            unfold zup
            rw [if_neg (by omega)]
          rw [z1, ft c i k q2 q3, z2]
          exact fS c i k q5 q6 q7
        refine ⟨(-10) - nI a, zup s' 3 0 1 0, zup t' 30 0 2 0, hA, hM, ⟨P, T, M, CX_mk c (fun c i k hc => e c i k (by omega) (by omega) (by omega) (by omega) (by omega) (by omega) (by omega)) (TC_e c4 (fun c i k hc => e c i k (by omega) (by omega) (by omega) (by omega) (by omega) (by omega) (by omega))) (TM_e c5 c6 (fun k p q => e 30 0 k (by omega) (by omega) (by omega) (by omega) (by omega) (by omega) (by omega))) c6 ?_ ?_⟩, ?_, fun i k => (zup_o (by omega)).trans (fS _ _ _ (by omega) (by omega) (by omega))⟩
        · refine ⟨0, by omega, ?_, ?_, fun k hk => absurd hk (by omega)⟩
          · rw [zup_o (by omega), ft _ _ _ (by omega) (by omega), zup_s]; rfl
          · rw [zup_s]; rfl
        · exact RW_g c10 (e _ _ _ (by omega) (by omega) (by omega) (by omega) (by omega) (by omega) (by omega)) (fun k _ => e _ _ _ (by omega) (by omega) (by omega) (by omega) (by omega) (by omega) (by omega)) (e _ _ _ (by omega) (by omega) (by omega) (by omega) (by omega) (by omega) (by omega)) (fun k _ _ => e _ _ _ (by omega) (by omega) (by omega) (by omega) (by omega) (by omega) (by omega))
        · intro c i k b1 b2 b3 b4 b5 b6 b7 b8 b9 b10 b11
          exact e c i k (by omega) (by omega) (by omega) (by omega) (by omega) (by omega) (by omega)
  · have a1 : fA_within x1 1 = some 0 := a1.2 q1
    have m1 : fM_in x1 0 1 = some 0 := m1.2 q1
    refine Pr_err c (e := 1) (by omega) (by omega) ?_ ?_
    · unfold fA_text
      rw [a1, zbd_s, if_pos rfl, zb2_id]
      rfl
    · unfold fM_text
      rw [m1, zbd_s, if_pos rfl, zb2_id]
      rfl
