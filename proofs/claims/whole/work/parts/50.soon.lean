/-! Pure mathematics: thoughts, second lot: soonest, spareFor, odds. -/
theorem CX_same {σ τ : zS} {P : zP} {T : Nat → Nat → Int32} {M : Nat → Nat} (h : CX σ P T M) (e : ∀ c i k, ¬ (c = 11 ∨ c = 32 ∨ c = 33 ∨ c = 36 ∨ c = 37) → ¬ (c = 8 ∧ k = 13) → ¬ (c = 30 ∧ i ≠ 0) → ¬ ((c = 2 ∨ (14 ≤ c ∧ c ≤ 21)) ∧ i = 2) → τ c i k = σ c i k) : CX τ P T M ∧ FR σ τ := by
  obtain ⟨c1, c2, c3, c3', c4, c5, c6, c7, c8, c9, c10⟩ := h
  refine ⟨⟨?_, VM_e c2 (fun k _ => e _ _ _ (by omega) (by omega) (by omega) (by omega)), c3, c3', TC_e c4 (fun c i k hc => e _ _ _ (by omega) (by omega) (by omega) (by omega)), TM_e c5 c6 (fun k _ _ => e _ _ _ (by omega) (by omega) (by omega) (by omega)), c6, by rw [e _ _ _ (by omega) (by omega) (by omega) (by omega), e _ _ _ (by omega) (by omega) (by omega) (by omega)]; exact c7, fun k hk => by rw [e _ _ _ (by omega) (by omega) (by omega) (by omega), e _ _ _ (by omega) (by omega) (by omega) (by omega)]; exact c8 k hk, RW_e c9 (fun k => e _ _ _ (by omega) (by omega) (by omega) (by omega)) (fun k => e _ _ _ (by omega) (by omega) (by omega) (by omega)) (e _ _ _ (by omega) (by omega) (by omega) (by omega)) (fun k _ _ => e _ _ _ (by omega) (by omega) (by omega) (by omega)), RW_e c10 (fun k => e _ _ _ (by omega) (by omega) (by omega) (by omega)) (fun k => e _ _ _ (by omega) (by omega) (by omega) (by omega)) (e _ _ _ (by omega) (by omega) (by omega) (by omega)) (fun k _ _ => e _ _ _ (by omega) (by omega) (by omega) (by omega))⟩, ?_⟩
  · obtain ⟨h1, h2, h3, h4, h5⟩ := c1
    exact ⟨fun w i hw hi => by rw [e _ _ _ (by omega) (by omega) (by omega) (by omega)]; exact h1 w i hw hi, fun j hj => by rw [e _ _ _ (by omega) (by omega) (by omega) (by omega)]; exact h2 j hj, by rw [e _ _ _ (by omega) (by omega) (by omega) (by omega)]; exact h3, by rw [e _ _ _ (by omega) (by omega) (by omega) (by omega)]; exact h4, by rw [e _ _ _ (by omega) (by omega) (by omega) (by omega)]; exact h5⟩
  · intro c i k a1 a2 a3 a4 a5 a6 a7 a8 a9 a10 a11
    exact e c i k (by omega) (by omega) (by omega) (by omega)
/-- a refusal behind thoughts -/
theorem Pr_terr {σ s : zS} {P : zP} {T : Nat → Nat → Int32} {M : Nat → Nat} (h : CX σ P T M) {e : Nat} (h1 : 1 ≤ e) (h6 : e ≤ 6) {fa fm : zS → Option (Int32 × zS)} (hC : FZ 2 σ s) (ha : fa σ = fA_refuse (nI e) s) (hm : ∃ t, FT (zup s 26 0 e (s 26 0 e + 1)) t ∧ fm (zup s 26 0 e (s 26 0 e + 1)) = fM_error (nI e) t) : Pr σ fa fm := by
  obtain ⟨t, ht, hm⟩ := hm
  have key := CX_same (CX_err h e) (τ := zup t 34 0 e (t 34 0 e + 1)) (fun c i k a1 a2 a3 a4 => by
    by_cases q : c = 34 ∧ i = 0 ∧ k = e
    · obtain ⟨rfl, rfl, rfl⟩ := q
      rw [zup_s, zup_s, ht _ _ _ (by omega) (by omega) (by omega), zup_o (by omega), hC _ _ _ (by omega) (by omega) (by omega)]
    · have e1 : ∀ (x : zS) v, zup x 34 0 e v c i k = x c i k := fun x v => if_neg q
      rw [e1, e1, ht c i k (by omega) (by omega) (by omega)]
      by_cases q2 : c = 26 ∧ i = 0 ∧ k = e
      · obtain ⟨rfl, rfl, rfl⟩ := q2
        rw [zup_s, zup_s, hC _ _ _ (by omega) (by omega) (by omega)]
      · have e2 : ∀ (x : zS) v, zup x 26 0 e v c i k = x c i k := fun x v => if_neg q2
        rw [e2, e2, hC c i k (by omega) (by omega) (by omega)])
  exact ⟨_, _, _, ha.trans (A_refuse h1 h6), hm.trans (M_error h6), ⟨P, T, M, key.1⟩, FR_t (FR_t (FR_u (by omega)) (FR_u (by omega))) key.2, fun i k => (zup_o (by omega)).trans (hC _ _ _ (by omega) (by omega) (by omega))⟩
theorem FZ_r {b : Nat} {σ : zS} : FZ b σ σ := fun _ _ _ _ _ _ => rfl
theorem FT_r {σ : zS} : FT σ σ := fun _ _ _ _ _ _ => rfl
theorem R_begin {σ : zS} {P : zP} {T : Nat → Nat → Int32} {M : Nat → Nat} (h : CX σ P T M) : ∃ s, fR_copy 2 0 σ = some s ∧ VC 2 s P ∧ FZ 2 σ s ∧ TC (lw 2) s T M := by
  obtain ⟨c1, c2, c3, c3', c4, c5, c6, c7, c8, c9, c10⟩ := h
  obtain ⟨s, r1, r2, r3⟩ := R_copy c1
  exact ⟨s, r1, r2, r3, TC_Z c4 r3⟩
def sSo (T : Nat → Nat → Int32) (M : Nat → Nat) (i x : Nat) : Nat → Nat → zP → Nat
  | 0, _, _ => 0
  | k + 1, n, P => if P 3 i = x then n + 1 else sSo T M i x k (n + 1) (sDay T M P)
theorem sSo_le {T : Nat → Nat → Int32} {M : Nat → Nat} {i x : Nat} : ∀ k n P, sSo T M i x k n P ≤ n + k
  | 0, n, P => Nat.zero_le _
  | k + 1, n, P => by
    unfold sSo
    have := sSo_le (T := T) (M := M) (i := i) (x := x) k (n + 1) (sDay T M P)
    split <;> omega
theorem R_so_L {N : Nat} {T : Nat → Nat → Int32} {M : Nat → Nat} (hW : WT T M) (hN : 901 ≤ N) {σ0 : zS} {i x : Nat} (hi : i < 8) (hx : x < 64) : ∀ k n f P s, n + k = 61 → k < f → VC 2 s P → PI P → P 7 1 + k ≤ 20000 → TC (lw 2) s T M → FZ 2 σ0 s → ∃ s', FZ 2 σ0 s' ∧ fA_soonest_L36 N f (nI i) (nI x) (nI n) s = if sSo T M i x k n P = 0 then zb2 (fA_refuse 2 s') fun r15 s14 => some (r15, s14) else some (nI (sSo T M i x k n P - 1), s')
  | k, n, 0, P, s, h1, h2, h3, h4, h5, h6, h7 => absurd h2 (by omega)
  | 0, n, f + 1, P, s, h1, h2, h3, h4, h5, h6, h7 => by
    have hq : (60 : Int32) < nI n := (nI_ltI (a := 60) (by omega) (by omega)).mpr (by omega)
    refine ⟨s, h7, ?_⟩
    rw [fA_soonest_L36, if_pos hq]
    unfold sSo
    rw [if_pos rfl]
  | k + 1, n, f + 1, P, s, h1, h2, h3, h4, h5, h6, h7 => by
    have hq : ¬ ((60 : Int32) < nI n) := fun r => absurd ((nI_ltI (a := 60) (by omega) (by omega)).mp r) (by omega)
    have hPi := h4.2.2.2.1 i hi
    have e3 : s 17 2 i = nI (P 3 i) := h3.1 3 i (by omega) hi
    rw [fA_soonest_L36, if_neg hq]
    simp (disch := omega) only [zlt_eq, zgd_T, zin_T, zb2_s, zbd_s, n_cl, n_sub1, n_predm, n_sc, if_nle, if_nle0, if_nle1, if_le, if_true, if_false, e3]
    unfold sSo
    by_cases q : P 3 i = x
    · rw [if_pos q, if_pos (by rw [q])]
      exact ⟨s, h7, by rw [if_neg (by omega)]; rfl⟩
    · have hne : ¬ (nI (P 3 i) = nI x) := fun r => q ((nI_eq (by omega) (by omega)).mp r)
      rw [if_neg q, if_neg hne]
      obtain ⟨s', r1, r2, r3⟩ := R_passDay (N := N) h3 h4 h6 hW (by omega)
      obtain ⟨d1, d2, d3, d4⟩ := sDay_ok (T := T) (M := M) h4 (by omega)
      rw [r1, zbd_s]
      exact R_so_L hW hN hi hx k (n + 1) f _ s' (by omega) (by omega) r2 d1 (by omega) (TC_f h6 r3) (FZ_t h7 (FZ_C r3))
theorem M_so_L {N : Nat} {T : Nat → Nat → Int32} {M : Nat → Nat} (hW : WT T M) (hN : 901 ≤ N) {s0 : zS} {i x : Nat} (hi : i < 8) (hx : x < 64) : ∀ k n f P s, n + k = 61 → k < f → VM s P → PI P → P 7 1 + k ≤ 20000 → TM s T M → FM s0 s → ∃ s', FM s0 s' ∧ fM_soonest_L27 N f (nI i) (nI x) (nI n) s = fM_soonest_J53 N (nI (if sSo T M i x k n P = 0 then 61 else sSo T M i x k n P - 1)) s'
  | k, n, 0, P, s, h1, h2, h3, h4, h5, h6, h7 => absurd h2 (by omega)
  | 0, n, f + 1, P, s, h1, h2, h3, h4, h5, h6, h7 => by
    have hq : (60 : Int32) < nI n := (nI_ltI (a := 60) (by omega) (by omega)).mpr (by omega)
    refine ⟨s, h7, ?_⟩
    rw [fM_soonest_L27, if_pos hq]
    unfold sSo
    rw [if_pos rfl, show n = 61 by omega]
  | k + 1, n, f + 1, P, s, h1, h2, h3, h4, h5, h6, h7 => by
    have hq : ¬ ((60 : Int32) < nI n) := fun r => absurd ((nI_ltI (a := 60) (by omega) (by omega)).mp r) (by omega)
    have hPi := h4.2.2.2.1 i hi
    have e3 : fM_its (nI i) 3 s = some (nI (P 3 i)) := M_its h3 3 (by omega) hi
    rw [fM_soonest_L27, if_neg hq, e3, zbd_s, n_sc]
    unfold sSo
    by_cases q : P 3 i = x
    · rw [if_pos q, if_pos (by rw [q])]
      exact ⟨s, h7, by rw [if_neg (by omega)]; rfl⟩
    · have hne : ¬ (nI (P 3 i) = nI x) := fun r => q ((nI_eq (by omega) (by omega)).mp r)
      rw [if_neg q, if_neg hne]
      obtain ⟨s', r1, r2, r3⟩ := M_day1 (N := N) h3 h4 h6 hW hN
      obtain ⟨d1, d2, d3, d4⟩ := sDay_ok (T := T) (M := M) h4 (by omega)
      rw [r1, zbd_s]
      exact M_so_L hW hN hi hx k (n + 1) f _ s' (by omega) (by omega) r2 d1 (by omega) (TM_f h6 r3) (FM_t h7 r3)
/-- the reference's state while it thinks, what it saved beside it -/
def BK (σ s : zS) : Prop := FT σ s ∧ ∀ i, i < 60 → s 32 0 i = σ 30 0 i
theorem M_savesB {N : Nat} (hN : 61 ≤ N) {σ : zS} {P : zP} (h : VM σ P) : ∃ s, fM_saves N σ = some s ∧ BK σ s := by
  obtain ⟨s, r1, r2, r3, r4⟩ := M_saves (N := N) hN h
  exact ⟨s, r1, fun c i k a1 a2 a3 => r4 c i k (by omega), r3⟩
theorem M_put2 {N : Nat} (hN : 61 ≤ N) {σ t : zS} (h2 : ∀ i, i < 60 → t 32 0 i = σ 30 0 i) (h3 : ∀ c i k, ¬ (c = 32 ∨ c = 33 ∨ c = 36 ∨ c = 37) → ¬ (c = 8 ∧ k = 13) → ¬ (c = 30 ∧ (i ≠ 0 ∨ k < 60)) → t c i k = σ c i k) : ∃ τ, fM_putsBack N t = some τ ∧ BK σ τ := by
  obtain ⟨τ, r1, r2, r3⟩ := M_puts_L (N := N) 60 0 N t (by omega) (by omega)
  refine ⟨τ, r1, fun c i k a1 a2 a3 => ?_, fun i hi => ?_⟩
  · by_cases q : c = 30 ∧ i = 0 ∧ k < 60
    · obtain ⟨rfl, rfl, q3⟩ := q
      rw [r2 k (by omega) q3, h2 k q3]
    · rw [r3 c i k (by omega)]
      exact h3 c i k a1 a2 (by omega)
  · rw [r3 _ _ _ (by omega)]
    exact h2 i hi
theorem M_put3 {N : Nat} (hN : 61 ≤ N) {σ s t : zS} (hB : BK σ s) (hF : FM s t) : ∃ τ, fM_putsBack N t = some τ ∧ BK σ τ := M_put2 hN (fun i hi => (hF 32 0 i (by omega) (by omega) (by omega) (by omega) (by omega)).trans (hB.2 i hi)) (fun c i k a1 a2 a3 => (hF c i k (by omega) (by omega) (by omega) (by omega) (by omega)).trans (hB.1 c i k a1 a2 (by omega)))
theorem VM_B {σ s : zS} {P : zP} (h : VM σ P) (hB : BK σ s) : VM s P := VM_e h (fun k _ => hB.1 30 0 k (by omega) (by omega) (by omega))
theorem TM_B {σ s : zS} {T : Nat → Nat → Int32} {M : Nat → Nat} (h : TM σ T M) (hW : WT T M) (hB : BK σ s) : TM s T M := TM_e h hW (fun k _ _ => hB.1 30 0 k (by omega) (by omega) (by omega))
theorem VM_26Z {σ s : zS} {P : zP} {e : Nat} {v : Int32} (h : VM σ P) (hC : FZ 2 σ s) : VM (zup s 26 0 e v) P := VM_26 (VM_Z h hC)
theorem TM_26Z {σ s : zS} {T : Nat → Nat → Int32} {M : Nat → Nat} {e : Nat} {v : Int32} (h : TM σ T M) (hW : WT T M) (hC : FZ 2 σ s) : TM (zup s 26 0 e v) T M := TM_e (TM_Z h hC) hW (fun k _ _ => zup_o (by omega))
theorem P_soonest {N : Nat} (hN : 901 ≤ N) {σ : zS} (h : Core σ) (x1 x2 : Int32) : Pr σ (fA_soonest N x1 x2) (fM_soonest N x1 x2) := by
  obtain ⟨P, T, M, c⟩ := h
  obtain ⟨c1, c2, c3, c3', c4, c5, c6, c7, c8, c9, c10⟩ := c
  have c : CX σ P T M := ⟨c1, c2, c3, c3', c4, c5, c6, c7, c8, c9, c10⟩
  have hn := c3.1
  by_cases q : thr P x1
  · have a1 := (A_there c1 c3).1 q
    have m1 := fun s (hs : VM s P) => (M_there hs c3).1 q
    have m2 := M_in (x := x2) (B := 63) (by omega)
    have a2 := A_within (x := x2) (B := 63) (by omega)
    by_cases q2 : wi x2 63
    · have m2 : fM_in x2 0 63 = some 1 := m2.1 q2
      have a2 : fA_within x2 63 = some 1 := a2.1 q2
      obtain ⟨i, hi, rfl⟩ := q
      obtain ⟨x, hk, rfl⟩ := q2
      have hi8 : i < 8 := by omega
      obtain ⟨s, r1, r2, r3, r4⟩ := R_begin c
      obtain ⟨s', r5, r6⟩ := R_so_L (N := N) c6 hN hi8 (x := x) (by omega) 61 0 N P s (by omega) (by omega) r2 c3 (by omega) r4 r3
      have hle := sSo_le (T := T) (M := M) (i := i) (x := x) 61 0 P
      have hA : fA_soonest N (nI i) (nI x) σ = if sSo T M i x 61 0 P = 0 then zb2 (fA_refuse 2 s') fun r15 s14 => some (r15, s14) else some (nI (sSo T M i x 61 0 P - 1), s') := by
        unfold fA_soonest
        rw [a1, zbd_s, if_neg (by decide), a2, zbd_s, if_neg (by decide), r1, zbd_s]
        exact r6
      have hM : ∀ s1, VM s1 P → TM s1 T M → ∃ t, FT s1 t ∧ fM_soonest N (nI i) (nI x) s1 = if sSo T M i x 61 0 P = 0 then fM_error 2 t else some (nI (sSo T M i x 61 0 P - 1), t) := by
        intro s1 v1 t1
        obtain ⟨s2, u1, u2⟩ := M_savesB (N := N) (by omega) v1
        obtain ⟨s3, u3, u4⟩ := M_so_L (N := N) c6 hN hi8 (x := x) (by omega) 61 0 N P s2 (by omega) (by omega) (VM_B v1 u2) c3 (by omega) (TM_B t1 c6 u2) FM_r
        obtain ⟨t, u5, u6⟩ := M_put3 (N := N) (by omega) u2 u3
        refine ⟨t, u6.1, ?_⟩
        unfold fM_soonest fM_isCell
        rw [m1 _ v1, zbd_s, if_neg (by decide), m2, zbd_s, zgd_t (Or.inr rfl), zbd_s, if_neg (by decide), u1, zbd_s]
        refine u4.trans ?_
        unfold fM_soonest_J53
        rw [u5, zbd_s]
        by_cases z : sSo T M i x 61 0 P = 0
        · have : ¬ (nI 61 ≤ 60) := by decide
          rw [if_pos z, if_pos z, if_neg this, zb2_id]
        · have : nI (sSo T M i x 61 0 P - 1) ≤ 60 := (nI_leI (b := 60) (by omega) (by omega)).mpr (by omega)
          rw [if_neg z, if_neg z, if_pos this]
      by_cases z : sSo T M i x 61 0 P = 0
      · rw [if_pos z, zb2_id] at hA
        refine Pr_terr c (e := 2) (by omega) (by omega) r5 hA ?_
        obtain ⟨t, u1, u2⟩ := hM (zup s' 26 0 2 (s' 26 0 2 + 1)) (VM_26Z c2 r5) (TM_26Z c5 c6 r5)
        rw [if_pos z] at u2
        exact ⟨t, u1, u2⟩
      · rw [if_neg z] at hA
        obtain ⟨t, u1, u2⟩ := hM s' (VM_Z c2 r5) (TM_Z c5 r5)
        rw [if_neg z] at u2
        exact Pr_think c hA u2 r5 u1
    · have m2 : fM_in x2 0 63 = some 0 := m2.2 q2
      have a2 : fA_within x2 63 = some 0 := a2.2 q2
      refine Pr_err c (e := 1) (by omega) (by omega) ?_ ?_
      · unfold fA_soonest fA_soonest_J17
        rw [a1, zbd_s, if_neg (by decide), a2, zbd_s, if_pos rfl, zb2_id]
        rfl
      · unfold fM_soonest fM_soonest_J15 fM_isCell
        rw [m1 _ (VM_26 c2), zbd_s, if_neg (by decide), m2, zbd_s, zgd_t (Or.inl rfl), zbd_s, if_pos rfl, zb2_id]
        rfl
  · refine Pr_err c (e := 1) (by omega) (by omega) ?_ ?_
    · unfold fA_soonest fA_soonest_J17
      rw [(A_there c1 c3).2 q, zbd_s, if_pos rfl, zb2_id]
      rfl
    · unfold fM_soonest fM_soonest_J15
      rw [(M_there (VM_26 c2) c3).2 q, zbd_s, if_pos rfl, zb2_id]
      rfl
/-! with so much to spare, whether one has its string n days on -/
def sTi (T : Nat → Nat → Int32) (M : Nat → Nat) (P : zP) (i n v : Nat) : Nat := if (sDays T M n (pu P 5 i v)) 2 i = 0 then 0 else 1
theorem sTi_01 (T : Nat → Nat → Int32) (M : Nat → Nat) (P : zP) (i n v : Nat) : sTi T M P i n v = 0 ∨ sTi T M P i n v = 1 := by
  unfold sTi
  split
  · exact Or.inl rfl
  · exact Or.inr rfl
theorem A_st_L {N : Nat} {T : Nat → Nat → Int32} {M : Nat → Nat} (hW : WT T M) (hN : 901 ≤ N) {i n : Nat} (hi : i < 8) (hn : n ≤ 60) : ∀ k j f P s, j + k = n → k < f → VC 2 s P → PI P → P 7 1 + k ≤ 20000 → TC (lw 2) s T M → ∃ s', fA_staysTied_L24 N f (nI i) (nI n) (nI j) s = some (nI (if (sDays T M k P) 2 i = 0 then 0 else 1), s') ∧ FC 2 s s'
  | k, j, 0, P, s, h1, h2, h3, h4, h5, h6 => absurd h2 (by omega)
  | 0, j, f + 1, P, s, h1, h2, h3, h4, h5, h6 => by
    rw [fA_staysTied_L24, if_le (by omega) (by omega)]
    unfold fA_staysTied_J54 sDays
    rw [A_tied h3 h4 hi, zbd_s]
    refine ⟨s, ?_, FC_r⟩
    by_cases q : P 2 i = 0
    · rw [if_pos q, if_pos q, zgd_t (Or.inl rfl)]
      rfl
    · rw [if_neg q, if_neg q, zgd_t (Or.inr rfl)]
      rfl
  | k + 1, j, f + 1, P, s, h1, h2, h3, h4, h5, h6 => by
    rw [fA_staysTied_L24, if_nle (by omega) (by omega), A_tied h3 h4 hi, zbd_s, n_sc]
    by_cases q : P 2 i = 0
    · have e := (Q_days (T := T) (M := M) (k + 1) P).1 i q
      rw [if_pos q, if_pos rfl, if_pos e]
      unfold fA_staysTied_J54
      rw [A_tied h3 h4 hi, zbd_s, if_pos q, zgd_t (Or.inl rfl)]
      exact ⟨s, rfl, FC_r⟩
    · rw [if_neg q, if_neg (by decide)]
      obtain ⟨s', r1, r2, r3⟩ := R_passDay (N := N) h3 h4 h6 hW (by omega)
      obtain ⟨d1, d2, d3, d4⟩ := sDay_ok (T := T) (M := M) h4 (by omega)
      obtain ⟨s'', t1, t2⟩ := A_st_L (T := T) (M := M) hW hN hi hn k (j + 1) f _ s' (by omega) (by omega) r2 d1 (by omega) (TC_f h6 r3)
      rw [r1, zbd_s]
      exact ⟨s'', t1, FC_t r3 t2⟩
theorem A_stays {N : Nat} (hN : 901 ≤ N) {σ : zS} {P : zP} {T : Nat → Nat → Int32} {M : Nat → Nat} (h : CX σ P T M) {i n v : Nat} (hi : i < 8) (hn : n ≤ 60) (hv : v ≤ 99) : ∃ s, fA_staysTied N (nI i) (nI v) (nI n) σ = some (nI (sTi T M P i n v), s) ∧ FZ 2 σ s := by
  obtain ⟨s, r1, r2, r3, r4⟩ := R_begin h
  obtain ⟨c1, c2, c3, c3', c4, c5, c6, c7, c8, c9, c10⟩ := h
  have g : VC 2 (zup s 19 2 i (nI v)) (pu P 5 i v) := VC_u 5 r2 (by omega) rfl
  have f : FC 2 s (zup s 19 2 i (nI v)) := FC_u (by omega)
  obtain ⟨s', t1, t2⟩ := A_st_L (N := N) (T := T) (M := M) c6 hN hi hn n 0 N (pu P 5 i v) (zup s 19 2 i (nI v)) (by omega) (by omega) g (PI_w c3 (by omega)) (by rw [pu_w (by omega)]; omega) (TC_f r4 f)
  refine ⟨s', ?_, FZ_t r3 (FZ_C (FC_t f t2))⟩
  unfold fA_staysTied
  rw [r1, zbd_s]
  simp (disch := omega) only [zlt_eq, zgd_T, zin_T, zb2_s, zbd_s, n_cl, n_sub1, n_predm, n_sc, if_nle, if_nle0, if_nle1, if_le, if_true, if_false]
  exact t1
theorem M_holds {N : Nat} (hN : 901 ≤ N) {σ s : zS} {P : zP} {T : Nat → Nat → Int32} {M : Nat → Nat} (h : VM σ P) (hP : PI P) (hd : P 7 1 ≤ 9999) (hT : TM σ T M) (hW : WT T M) (hB : BK σ s) {i n v : Nat} (hi : i < 8) (hn : n ≤ 60) (hv : v ≤ 99) : ∃ τ, fM_holdsWith N (nI i) (nI v) (nI n) s = some (nI (sTi T M P i n v), τ) ∧ BK σ τ := by
  have l5' : ∀ v s, fM_lays1 (nI i) 5 v s = some (zup s 30 0 (12 + 6 * i + 5) v) := fun v s => M_lays 5 (by omega) hi
  have g : VM (zup s 30 0 (12 + 6 * i + 5) (nI v)) (pu P 5 i v) := VM_u 5 (VM_B h hB) (by omega) hi rfl
  have f : FM s (zup s 30 0 (12 + 6 * i + 5) (nI v)) := FM_u (by omega)
  have p : PI (pu P 5 i v) := PI_w hP (by omega)
  have d7 : (pu P 5 i v) 7 1 = P 7 1 := pu_w (by omega)
  obtain ⟨t, t1, t2, t3⟩ := M_goesOn (N := N) g p (TM_f (TM_B hT hW hB) f) hW hN (n := n) (by omega) (by omega) (by omega)
  obtain ⟨p1, p2, p3, p4⟩ := sDays_ok (T := T) (M := M) n (pu P 5 i v) p (by omega)
  obtain ⟨τ, u1, u2⟩ := M_put3 (N := N) (by omega) hB (FM_t f t3)
  refine ⟨τ, ?_, u2⟩
  unfold fM_holdsWith sTi
  rw [l5', zbd_s, t1, zbd_s, M_tied t2 p1 hi, zbd_s, u1, zbd_s]
  by_cases q : (sDays T M n (pu P 5 i v)) 2 i = 0
  · rw [if_pos q, if_pos q, zgd_t (Or.inl rfl)]
    rfl
  · rw [if_neg q, if_neg q, zgd_t (Or.inr rfl)]
    rfl
def sSf (T : Nat → Nat → Int32) (M : Nat → Nat) (P : zP) (i n : Nat) : Nat → Nat → Nat
  | 0, _ => 0
  | k + 1, v => if sTi T M P i n v = 0 then sSf T M P i n k (v + 1) else v + 1
theorem R_sf_L {N : Nat} (hN : 901 ≤ N) {σ : zS} {P : zP} {T : Nat → Nat → Int32} {M : Nat → Nat} (h : CX σ P T M) {i n : Nat} (hi : i < 8) (hn : n ≤ 60) : ∀ k v f s, v + k = 100 → k < f → FZ 2 σ s → ∃ s', FZ 2 σ s' ∧ fA_spareFor_L42 N f (nI i) (nI n) (nI v) s = if sSf T M P i n k v = 0 then zb2 (fA_refuse 2 s') fun r19 s18 => some (r19, s18) else some (nI (sSf T M P i n k v - 1), s')
  | k, v, 0, s, h1, h2, h3 => absurd h2 (by omega)
  | 0, v, f + 1, s, h1, h2, h3 => by
    have hq : (99 : Int32) < nI v := (nI_ltI (a := 99) (by omega) (by omega)).mpr (by omega)
    refine ⟨s, h3, ?_⟩
    rw [fA_spareFor_L42, if_pos hq]
    unfold sSf
    rw [if_pos rfl]
  | k + 1, v, f + 1, s, h1, h2, h3 => by
    have hq : ¬ ((99 : Int32) < nI v) := fun r => absurd ((nI_ltI (a := 99) (by omega) (by omega)).mp r) (by omega)
    obtain ⟨s1, r1, r2⟩ := A_stays (N := N) hN (CX_think h h3 FT_r).1 hi hn (v := v) (by omega)
    rw [fA_spareFor_L42, if_neg hq, r1, zb2_s, n_sc]
    unfold sSf
    rcases sTi_01 T M P i n v with z | z
    · rw [z, if_pos (show nI 0 = 0 from rfl), if_pos rfl]
      exact R_sf_L hN h hi hn k (v + 1) f s1 (by omega) (by omega) (FZ_t h3 r2)
    · rw [z, if_neg (by decide), if_neg (by omega)]
      exact ⟨s1, FZ_t h3 r2, by rw [if_neg (by omega)]; rfl⟩
theorem M_sf_L {N : Nat} (hN : 901 ≤ N) {σ : zS} {P : zP} {T : Nat → Nat → Int32} {M : Nat → Nat} (h : VM σ P) (hP : PI P) (hd : P 7 1 ≤ 9999) (hT : TM σ T M) (hW : WT T M) {i n : Nat} (hi : i < 8) (hn : n ≤ 60) : ∀ k v f s, v + k = 100 → k < f → BK σ s → ∃ s', BK σ s' ∧ fM_spareFor_L44 N f (nI i) (nI n) (nI v) s = if sSf T M P i n k v = 0 then zb2 (fM_error 2 s') fun r19 s18 => some (r19, s18) else some (nI (sSf T M P i n k v - 1), s')
  | k, v, 0, s, h1, h2, h3 => absurd h2 (by omega)
  | 0, v, f + 1, s, h1, h2, h3 => by
    have hq : (99 : Int32) < nI v := (nI_ltI (a := 99) (by omega) (by omega)).mpr (by omega)
    refine ⟨s, h3, ?_⟩
    rw [fM_spareFor_L44, if_pos hq]
    unfold sSf
    rw [if_pos rfl]
  | k + 1, v, f + 1, s, h1, h2, h3 => by
    have hq : ¬ ((99 : Int32) < nI v) := fun r => absurd ((nI_ltI (a := 99) (by omega) (by omega)).mp r) (by omega)
    obtain ⟨s1, r1, r2⟩ := M_holds (N := N) hN h hP hd hT hW h3 hi hn (v := v) (by omega)
    rw [fM_spareFor_L44, if_neg hq, r1, zb2_s, n_sc]
    unfold sSf
    rcases sTi_01 T M P i n v with z | z
    · rw [z, if_pos (show nI 0 = 0 from rfl), if_pos rfl]
      exact M_sf_L hN h hP hd hT hW hi hn k (v + 1) f s1 (by omega) (by omega) r2
    · rw [z, if_neg (by decide), if_neg (by omega)]
      exact ⟨s1, r2, by rw [if_neg (by omega)]; rfl⟩
theorem P_spareFor {N : Nat} (hN : 901 ≤ N) {σ : zS} (h : Core σ) (x1 x2 : Int32) : Pr σ (fA_spareFor N x1 x2) (fM_spareFor N x1 x2) := by
  obtain ⟨P, T, M, c⟩ := h
  obtain ⟨c1, c2, c3, c3', c4, c5, c6, c7, c8, c9, c10⟩ := c
  have c : CX σ P T M := ⟨c1, c2, c3, c3', c4, c5, c6, c7, c8, c9, c10⟩
  have hn := c3.1
  by_cases q : thr P x1
  · have a1 := (A_there c1 c3).1 q
    have m1 := fun s (hs : VM s P) => (M_there hs c3).1 q
    have m2 := M_in (x := x2) (B := 40) (by omega)
    have a2 := A_within (x := x2) (B := 40) (by omega)
    by_cases q2 : wi x2 40
    · have m2 : fM_in x2 0 40 = some 1 := m2.1 q2
      have a2 : fA_within x2 40 = some 1 := a2.1 q2
      obtain ⟨i, hi, rfl⟩ := q
      obtain ⟨n, hk, rfl⟩ := q2
      have hi8 : i < 8 := by omega
      by_cases z0 : P 2 i = 0
      · refine Pr_err c (e := 3) (by omega) (by omega) ?_ ?_
        · unfold fA_spareFor
          rw [a1, zbd_s, if_neg (by decide), a2, zbd_s, if_neg (by decide), A_tied c1 c3 hi8, zbd_s, if_pos z0, if_pos rfl, zb2_id]
          rfl
        · unfold fM_spareFor
          rw [m1 _ (VM_26 c2), zbd_s, if_neg (by decide), m2, zbd_s, if_neg (by decide), M_tied (VM_26 c2) c3 hi8, zbd_s, if_pos z0, if_pos rfl, zb2_id]
          rfl
      · obtain ⟨s', r5, r6⟩ := R_sf_L (N := N) hN c hi8 (n := n) (by omega) 100 0 N σ (by omega) (by omega) FZ_r
        have hA : fA_spareFor N (nI i) (nI n) σ = if sSf T M P i n 100 0 = 0 then zb2 (fA_refuse 2 s') fun r19 s18 => some (r19, s18) else some (nI (sSf T M P i n 100 0 - 1), s') := by
          unfold fA_spareFor
          rw [a1, zbd_s, if_neg (by decide), a2, zbd_s, if_neg (by decide), A_tied c1 c3 hi8, zbd_s, if_neg z0, if_neg (by decide)]
          exact r6
        have hM : ∀ s1, VM s1 P → TM s1 T M → ∃ t, FT s1 t ∧ fM_spareFor N (nI i) (nI n) s1 = if sSf T M P i n 100 0 = 0 then zb2 (fM_error 2 t) fun r19 s18 => some (r19, s18) else some (nI (sSf T M P i n 100 0 - 1), t) := by
          intro s1 v1 t1
          obtain ⟨s2, u1, u2⟩ := M_savesB (N := N) (by omega) v1
          obtain ⟨t, u3, u4⟩ := M_sf_L (N := N) hN v1 c3 c3'.1 t1 c6 hi8 (n := n) (by omega) 100 0 N s2 (by omega) (by omega) u2
          refine ⟨t, u3.1, ?_⟩
          unfold fM_spareFor
          rw [m1 _ v1, zbd_s, if_neg (by decide), m2, zbd_s, if_neg (by decide), M_tied v1 c3 hi8, zbd_s, if_neg z0, if_neg (by decide), u1, zbd_s]
          exact u4
        by_cases z : sSf T M P i n 100 0 = 0
        · rw [if_pos z, zb2_id] at hA
          refine Pr_terr c (e := 2) (by omega) (by omega) r5 hA ?_
          obtain ⟨t, u1, u2⟩ := hM (zup s' 26 0 2 (s' 26 0 2 + 1)) (VM_26Z c2 r5) (TM_26Z c5 c6 r5)
          rw [if_pos z, zb2_id] at u2
          exact ⟨t, u1, u2⟩
        · rw [if_neg z] at hA
          obtain ⟨t, u1, u2⟩ := hM s' (VM_Z c2 r5) (TM_Z c5 r5)
          rw [if_neg z] at u2
          exact Pr_think c hA u2 r5 u1
    · have m2 : fM_in x2 0 40 = some 0 := m2.2 q2
      have a2 : fA_within x2 40 = some 0 := a2.2 q2
      refine Pr_err c (e := 1) (by omega) (by omega) ?_ ?_
      · unfold fA_spareFor fA_spareFor_J17
        rw [a1, zbd_s, if_neg (by decide), a2, zbd_s, if_pos rfl, zb2_id]
        rfl
      · unfold fM_spareFor fM_spareFor_J18
        rw [m1 _ (VM_26 c2), zbd_s, if_neg (by decide), m2, zbd_s, if_pos rfl, zb2_id]
        rfl
  · refine Pr_err c (e := 1) (by omega) (by omega) ?_ ?_
    · unfold fA_spareFor fA_spareFor_J17
      rw [(A_there c1 c3).2 q, zbd_s, if_pos rfl, zb2_id]
      rfl
    · unfold fM_spareFor fM_spareFor_J18
      rw [(M_there (VM_26 c2) c3).2 q, zbd_s, if_pos rfl, zb2_id]
      rfl
/-! odds -/
def hlv : Nat → Nat → Nat → Nat × Nat
  | 0, a, b => (a, b)
  | k + 1, a, b => if a % 2 = 0 ∧ b % 2 = 0 then hlv k (a / 2) (b / 2) else hlv k a b
theorem R_hlv {N : Nat} {y : Int32} {σ : zS} : ∀ k j a b f, j + k = 5 → k < f → a ≤ 32 → b ≤ 32 → fA_odds_L88 N f y (nI a) (nI b) (nI j) σ = if y = 0 then some (nI (hlv k a b).1, σ) else some (nI (hlv k a b).2, σ)
  | k, j, a, b, 0, h1, h2, h3, h4 => absurd h2 (by omega)
  | 0, j, a, b, f + 1, h1, h2, h3, h4 => by
    have hq : (5 : Int32) ≤ nI j := (nI_leI (a := 5) (by omega) (by omega)).mpr (by omega)
    rw [fA_odds_L88, if_pos hq]
    rfl
  | k + 1, j, a, b, f + 1, h1, h2, h3, h4 => by
    have hq : ¬ ((5 : Int32) ≤ nI j) := fun r => absurd ((nI_leI (a := 5) (by omega) (by omega)).mp r) (by omega)
    have ma : nI a - nI a / 2 * 2 = nI (a % 2) := n_mod rfl (by omega) (by omega) (by omega)
    have mb : nI b - nI b / 2 * 2 = nI (b % 2) := n_mod rfl (by omega) (by omega) (by omega)
    have da : nI a / 2 = nI (a / 2) := n_div (d := 2) (by omega) (by omega) (by omega)
    have db : nI b / 2 = nI (b / 2) := n_div (d := 2) (by omega) (by omega) (by omega)
    rw [fA_odds_L88, if_neg hq, ma, mb, da, db, n_sc, zlt_eq, zlt_eq]
    by_cases za : a % 2 = 0
    · rw [za, if_pos (show nI 0 = 0 from rfl)]
      by_cases zb : b % 2 = 0
      · have e : hlv (k + 1) a b = hlv k (a / 2) (b / 2) := if_pos ⟨za, zb⟩
        rw [zb, if_pos (show nI 0 = 0 from rfl), e]
        exact R_hlv k (j + 1) _ _ f (by omega) (by omega) (by omega) (by omega)
      · have e : hlv (k + 1) a b = hlv k a b := if_neg (fun r => zb r.2)
        rw [if_neg (show ¬ (nI (b % 2) = 0) from fun r => zb ((nI_eq (b := 0) (by omega) (by omega)).mp r)), e]
        exact R_hlv k (j + 1) _ _ f (by omega) (by omega) (by omega) (by omega)
    · have e : hlv (k + 1) a b = hlv k a b := if_neg (fun r => za r.1)
      rw [if_neg (show ¬ (nI (a % 2) = 0) from fun r => za ((nI_eq (b := 0) (by omega) (by omega)).mp r)), e]
      exact R_hlv k (j + 1) _ _ f (by omega) (by omega) (by omega) (by omega)
theorem M_common_L {N : Nat} : ∀ f a b, b < f → a < 1000 → b < 1000 → fM_common_L4 N f (nI a) (nI b) = some (nI (Nat.gcd a b))
  | 0, a, b, h, ha, hb => absurd h (by omega)
  | f + 1, a, b, h, ha, hb => by
    rw [fM_common_L4]
    by_cases z : b = 0
    · rw [z, if_pos (show nI 0 = 0 from rfl), Nat.gcd_zero_right]
    · have hz : ¬ (nI b = 0) := fun r => z ((nI_eq (b := 0) (by omega) (by omega)).mp r)
      have m : nI a - nI a / nI b * nI b = nI (a % b) := n_rem (by omega) (by omega) (by omega)
      have hlt := Nat.mod_lt a (show b > 0 by omega)
      rw [if_neg hz, zgd_t hz, zlt_eq, m, M_common_L f b (a % b) (by omega) (by omega) (by omega), Nat.gcd_comm a b, Nat.gcd_rec b a, Nat.gcd_comm (a % b) b]
theorem hlv_gcd : ∀ g : Fin 33, (hlv 5 g.1 32).1 = g.1 / Nat.gcd g.1 32 ∧ (hlv 5 g.1 32).2 = 32 / Nat.gcd g.1 32 ∧ 0 < Nat.gcd g.1 32 ∧ Nat.gcd g.1 32 < 1000 := by decide +kernel
theorem R_od_L {N : Nat} (hN : 901 ≤ N) {σ : zS} {P : zP} {T : Nat → Nat → Int32} {M : Nat → Nat} (h : CX σ P T M) {i n : Nat} {y : Int32} (hi : i < 8) (hn : n ≤ 60) : ∀ k v a f s, v + k = 32 → k < f → FZ 2 σ s → ∃ s', FZ 2 σ s' ∧ fA_odds_L54 N f (nI i) (nI n) y (nI a) (nI v) s = fA_odds_L88 N N y (nI (a + sr (sTi T M P i n) k v)) 32 0 s'
  | k, v, a, 0, s, h1, h2, h3 => absurd h2 (by omega)
  | 0, v, a, f + 1, s, h1, h2, h3 => by
    have hq : (32 : Int32) ≤ nI v := (nI_leI (a := 32) (by omega) (by omega)).mpr (by omega)
    refine ⟨s, h3, ?_⟩
    rw [fA_odds_L54, if_pos hq]
    rfl
  | k + 1, v, a, f + 1, s, h1, h2, h3 => by
    have hq : ¬ ((32 : Int32) ≤ nI v) := fun r => absurd ((nI_leI (a := 32) (by omega) (by omega)).mp r) (by omega)
    obtain ⟨s1, r1, r2⟩ := A_stays (N := N) hN (CX_think h h3 FT_r).1 hi hn (v := v) (by omega)
    rw [fA_odds_L54, if_neg hq, r1, zb2_s, n_sc, n_sc]
    have e : sr (sTi T M P i n) (k + 1) v = sTi T M P i n v + sr (sTi T M P i n) k (v + 1) := rfl
    rw [e]
    rcases sTi_01 T M P i n v with z | z
    · rw [z, if_pos (show nI 0 = 0 from rfl), Nat.zero_add]
      exact R_od_L hN h hi hn k (v + 1) a f s1 (by omega) (by omega) (FZ_t h3 r2)
    · rw [z, if_neg (by decide), ← Nat.add_assoc]
      exact R_od_L hN h hi hn k (v + 1) (a + 1) f s1 (by omega) (by omega) (FZ_t h3 r2)
theorem M_od_L {N : Nat} (hN : 901 ≤ N) {σ : zS} {P : zP} {T : Nat → Nat → Int32} {M : Nat → Nat} (h : VM σ P) (hP : PI P) (hd : P 7 1 ≤ 9999) (hT : TM σ T M) (hW : WT T M) {i n : Nat} {y : Int32} (hi : i < 8) (hn : n ≤ 60) : ∀ k v a f s, v + k = 32 → k < f → BK σ s → ∃ s', BK σ s' ∧ fM_odds_L57 N f (nI i) (nI n) y (nI a) (nI v) s = if y = 0 then fM_odds_J102 N (nI (a + sr (sTi T M P i n) k v)) (nI (a + sr (sTi T M P i n) k v)) s' else fM_odds_J102 N (nI (a + sr (sTi T M P i n) k v)) 32 s'
  | k, v, a, 0, s, h1, h2, h3 => absurd h2 (by omega)
  | 0, v, a, f + 1, s, h1, h2, h3 => by
    have hq : (32 : Int32) ≤ nI v := (nI_leI (a := 32) (by omega) (by omega)).mpr (by omega)
    refine ⟨s, h3, ?_⟩
    rw [fM_odds_L57, if_pos hq]
    rfl
  | k + 1, v, a, f + 1, s, h1, h2, h3 => by
    have hq : ¬ ((32 : Int32) ≤ nI v) := fun r => absurd ((nI_leI (a := 32) (by omega) (by omega)).mp r) (by omega)
    obtain ⟨s1, r1, r2⟩ := M_holds (N := N) hN h hP hd hT hW h3 hi hn (v := v) (by omega)
    have a0 : nI a + 0 = nI (a + 0) := n_add a 0
    rw [fM_odds_L57, if_neg hq, r1, zb2_s, zlt_eq, zlt_eq, n_sc, n_sc, a0, Nat.add_zero]
    have e : sr (sTi T M P i n) (k + 1) v = sTi T M P i n v + sr (sTi T M P i n) k (v + 1) := rfl
    rw [e]
    rcases sTi_01 T M P i n v with z | z
    · rw [z, if_pos (show nI 0 = 0 from rfl), Nat.zero_add]
      exact M_od_L hN h hP hd hT hW hi hn k (v + 1) a f s1 (by omega) (by omega) r2
    · rw [z, if_neg (by decide), ← Nat.add_assoc]
      exact M_od_L hN h hP hd hT hW hi hn k (v + 1) (a + 1) f s1 (by omega) (by omega) r2
theorem P_odds {N : Nat} (hN : 901 ≤ N) {σ : zS} (h : Core σ) (x1 x2 x3 : Int32) : Pr σ (fA_odds N x1 x2 x3) (fM_odds N x1 x2 x3) := by
  obtain ⟨P, T, M, c⟩ := h
  obtain ⟨c1, c2, c3, c3', c4, c5, c6, c7, c8, c9, c10⟩ := c
  have c : CX σ P T M := ⟨c1, c2, c3, c3', c4, c5, c6, c7, c8, c9, c10⟩
  have hn := c3.1
  by_cases q : thr P x1
  · have a1 := (A_there c1 c3).1 q
    have m1 := fun s (hs : VM s P) => (M_there hs c3).1 q
    have m2 := M_in (x := x2) (B := 40) (by omega)
    have a2 := A_within (x := x2) (B := 40) (by omega)
    have m3 := M_in (x := x3) (B := 1) (by omega)
    have a3 := A_within (x := x3) (B := 1) (by omega)
    by_cases q2 : wi x2 40
    · have m2 : fM_in x2 0 40 = some 1 := m2.1 q2
      have a2 : fA_within x2 40 = some 1 := a2.1 q2
      by_cases q3 : wi x3 1
      · have m3 : fM_in x3 0 1 = some 1 := m3.1 q3
        have a3 : fA_within x3 1 = some 1 := a3.1 q3
        obtain ⟨i, hi, rfl⟩ := q
        obtain ⟨n, hk, rfl⟩ := q2
        have hi8 : i < 8 := by omega
        by_cases z0 : P 2 i = 0
        · refine Pr_err c (e := 3) (by omega) (by omega) ?_ ?_
          · unfold fA_odds
            rw [a1, zbd_s, if_neg (by decide), a2, zbd_s, if_neg (by decide), a3, zbd_s, if_neg (by decide), A_tied c1 c3 hi8, zbd_s, if_pos z0, if_pos rfl, zb2_id]
            rfl
          · unfold fM_odds
            rw [m1 _ (VM_26 c2), zbd_s, if_neg (by decide), m2, zbd_s, if_neg (by decide), m3, zbd_s, if_neg (by decide), M_tied (VM_26 c2) c3 hi8, zbd_s, if_pos z0, if_pos rfl, zb2_id]
            rfl
        · obtain ⟨s', r5, r6⟩ := R_od_L (N := N) (y := x3) hN c hi8 (n := n) (by omega) 32 0 0 N σ (by omega) (by omega) FZ_r
          obtain ⟨s2, u1, u2⟩ := M_savesB (N := N) (by omega) (VM_Z c2 r5)
          obtain ⟨t, u3, u4⟩ := M_od_L (N := N) (y := x3) hN (VM_Z c2 r5) c3 c3'.1 (TM_Z c5 r5) c6 hi8 (n := n) (by omega) 32 0 0 N s2 (by omega) (by omega) u2
          have hg : sr (sTi T M P i n) 32 0 ≤ 32 * 1 := sr_le 32 0 (fun v => by rcases sTi_01 T M P i n v with z | z <;> omega)
          rw [Nat.zero_add] at r6 u4
          generalize sr (sTi T M P i n) 32 0 = g at hg r6 u4
          obtain ⟨w1, w2, w3, w4⟩ := hlv_gcd ⟨g, by omega⟩
          dsimp only at w1 w2 w3 w4
          have hA := R_hlv (N := N) (y := x3) (σ := s') 5 0 g 32 N (by omega) (by omega) (by omega) (by omega)
          have hB : ∀ u, u < 1000 → fM_odds_J102 N (nI g) (nI u) t = some (nI (u / Nat.gcd g 32), t) := by
            intro u hu
            have hc : fM_common N (nI g) 32 = some (nI (Nat.gcd g 32)) := M_common_L N g 32 (by omega) (by omega) (by omega)
            have hz : ¬ (nI (Nat.gcd g 32) = 0) := fun r => absurd ((nI_eq (b := 0) (by omega) (by omega)).mp r) (by omega)
            unfold fM_odds_J102
            rw [hc, zbd_s, zgd_t hz, n_div (by omega) (by omega) (by omega)]
          refine Pr_think c (r := if x3 = 0 then nI (g / Nat.gcd g 32) else nI (32 / Nat.gcd g 32)) (s := s') (τ := t) ?_ ?_ r5 u3.1
          · unfold fA_odds
            rw [a1, zbd_s, if_neg (by decide), a2, zbd_s, if_neg (by decide), a3, zbd_s, if_neg (by decide), A_tied c1 c3 hi8, zbd_s, if_neg z0, if_neg (by decide)]
            refine r6.trans (hA.trans ?_)
            rw [w1, w2]
            split <;> rfl
          · unfold fM_odds
            rw [m1 _ (VM_Z c2 r5), zbd_s, if_neg (by decide), m2, zbd_s, if_neg (by decide), m3, zbd_s, if_neg (by decide), M_tied (VM_Z c2 r5) c3 hi8, zbd_s, if_neg z0, if_neg (by decide), u1, zbd_s]
            refine u4.trans ?_
            have h32 : fM_odds_J102 N (nI g) 32 t = some (nI (32 / Nat.gcd g 32), t) := hB 32 (by omega)
            rw [hB g (by omega), h32]
            split <;> rfl
      · have m3 : fM_in x3 0 1 = some 0 := m3.2 q3
        have a3 : fA_within x3 1 = some 0 := a3.2 q3
        refine Pr_err c (e := 1) (by omega) (by omega) ?_ ?_
        · unfold fA_odds fA_odds_J25
          rw [a1, zbd_s, if_neg (by decide), a2, zbd_s, if_neg (by decide), a3, zbd_s, if_pos rfl, zb2_id]
          rfl
        · unfold fM_odds fM_odds_J27
          rw [m1 _ (VM_26 c2), zbd_s, if_neg (by decide), m2, zbd_s, if_neg (by decide), m3, zbd_s, if_pos rfl, zb2_id]
          rfl
    · have m2 : fM_in x2 0 40 = some 0 := m2.2 q2
      have a2 : fA_within x2 40 = some 0 := a2.2 q2
      refine Pr_err c (e := 1) (by omega) (by omega) ?_ ?_
      · unfold fA_odds fA_odds_J25
        rw [a1, zbd_s, if_neg (by decide), a2, zbd_s, if_pos rfl, zb2_id]
        rfl
      · unfold fM_odds fM_odds_J27
        rw [m1 _ (VM_26 c2), zbd_s, if_neg (by decide), m2, zbd_s, if_pos rfl, zb2_id]
        rfl
  · refine Pr_err c (e := 1) (by omega) (by omega) ?_ ?_
    · unfold fA_odds fA_odds_J25
      rw [(A_there c1 c3).2 q, zbd_s, if_pos rfl, zb2_id]
      rfl
    · unfold fM_odds fM_odds_J27
      rw [(M_there (VM_26 c2) c3).2 q, zbd_s, if_pos rfl, zb2_id]
      rfl
