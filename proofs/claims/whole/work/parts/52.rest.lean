/-! Pure mathematics: the rest of the state: sheets, the trace, the image, the tables. -/
def NR (c r : Int32) : Prop := c = r ∨ (128 ≤ c.toInt ∧ r.toInt < 0)
def SH (σ : zS) : Prop := ∀ b, b < 4 → (∃ bt, (bt = 0 ∨ bt = 8 ∨ bt = 16 ∨ bt = 32) ∧ σ 4 b 2 = nI bt ∧ σ 39 0 b = nI bt) ∧ (∃ n, n ≤ 24 ∧ σ 4 b 1 = nI n ∧ σ 40 0 b = nI n) ∧ ∀ i, i < 24 → NR (σ 23 b i) (σ 41 0 (24 * b + i))
def TR (σ : zS) : Prop := ∃ t, t ≤ 30 ∧ σ 6 0 1 = nI t ∧ σ 8 0 14 = nI t ∧ ∀ k, k < t → σ 24 0 k = σ 38 0 k
/-- the reference as it was kept -/
def kv (σ : zS) : zS := fun c i k => if c = 30 then σ 31 i k else σ c i k
theorem kv_30 (σ : zS) (i k : Nat) : kv σ 30 i k = σ 31 i k := if_pos rfl
def KT (σ : zS) : Prop := ∃ P T M, VC 1 σ P ∧ VM (kv σ) P ∧ PI P ∧ (P 7 1 ≤ 9999 ∧ PJ P) ∧ TC 2 σ T M ∧ TM (kv σ) T M ∧ WT T M ∧ σ 2 1 12 = σ 31 0 1 ∧ RW σ (kv σ) 2 60 2 310 ∧ RW σ (kv σ) 3 24 3 370
def IM (σ : zS) : Prop := σ 7 0 8 = σ 8 0 4 ∧ (σ 7 0 8 ≠ 0 → KT σ) ∧ σ 0 2 2 = nI 0 ∧ σ 0 3 2 = nI 1
def TB (σ : zS) : Prop := RO σ ∧ (∀ k, σ 53 0 k = zBODIES.getD k 0) ∧ ∀ k, σ 51 0 k = zNAMES.getD k 0
def Full (σ : zS) : Prop := Core σ ∧ SH σ ∧ TR σ ∧ IM σ ∧ TB σ
def PrF (σ : zS) (fa fm : zS → Option (Int32 × zS)) : Prop := ∃ r s τ, fa σ = some (r, s) ∧ fm s = some (r, τ) ∧ Full τ ∧ SC σ τ ∧ SC σ s
theorem SH_e {σ τ : zS} (h : SH σ) (e : ∀ c i k, (c = 4 ∨ c = 39 ∨ c = 40 ∨ c = 23 ∨ c = 41) → τ c i k = σ c i k) : SH τ := by
  intro b hb
  obtain ⟨⟨bt, h1, h2, h3⟩, ⟨n, h4, h5, h6⟩, h7⟩ := h b hb
  refine ⟨⟨bt, h1, by rw [e _ _ _ (by omega)]; exact h2, by rw [e _ _ _ (by omega)]; exact h3⟩, ⟨n, h4, by rw [e _ _ _ (by omega)]; exact h5, by rw [e _ _ _ (by omega)]; exact h6⟩, fun i hi => ?_⟩
  rw [e _ _ _ (by omega), e _ _ _ (by omega)]
  exact h7 i hi
theorem TR_e {σ τ : zS} (h : TR σ) (e : ∀ c i k, (c = 6 ∨ (c = 8 ∧ k = 14) ∨ c = 24 ∨ c = 38) → τ c i k = σ c i k) : TR τ := by
  obtain ⟨t, h1, h2, h3, h4⟩ := h
  refine ⟨t, h1, by rw [e _ _ _ (by omega)]; exact h2, by rw [e _ _ _ (by omega)]; exact h3, fun k hk => ?_⟩
  rw [e _ _ _ (by omega), e _ _ _ (by omega)]
  exact h4 k hk
theorem RW_g {σ τ σ' τ' : zS} {b cap cnt base : Nat} (h : RW σ τ b cap cnt base) (h1 : σ' 3 b 1 = σ 3 b 1) (h2 : ∀ k, k < cap → σ' 22 b k = σ 22 b k) (h3 : τ' 30 0 cnt = τ 30 0 cnt) (h4 : ∀ k, base ≤ k → k < base + cap → τ' 30 0 k = τ 30 0 k) : RW σ' τ' b cap cnt base := by
  obtain ⟨t, a1, a2, a3, a4⟩ := h
  exact ⟨t, a1, h1.trans a2, h3.trans a3, fun k hk => by rw [h2 _ (by omega), h4 _ (by omega) (by omega)]; exact a4 k hk⟩
theorem KT_e {σ τ : zS} (h : KT σ) (e : ∀ c i k, (c = 31 ∨ ((c = 0 ∨ c = 10 ∨ c = 3 ∨ c = 22) ∧ (i = 2 ∨ i = 3)) ∨ ((c = 2 ∨ (14 ≤ c ∧ c ≤ 20)) ∧ i = 1)) → τ c i k = σ c i k) : KT τ := by
  obtain ⟨P, T, M, c1, c2, c3, c4, c5, c6, c7, c8, c9, c10⟩ := h
  have ek : ∀ k, kv τ 30 0 k = kv σ 30 0 k := fun k => by rw [kv_30, kv_30, e _ _ _ (by omega)]
  refine ⟨P, T, M, ?_, VM_e c2 (fun k _ => ek k), c3, c4, ?_, TM_e c6 c7 (fun k _ _ => ek k), c7, by rw [e _ _ _ (by omega), e _ _ _ (by omega)]; exact c8, RW_g c9 (e _ _ _ (by omega)) (fun k _ => e _ _ _ (by omega)) (ek _) (fun k _ _ => ek _), RW_g c10 (e _ _ _ (by omega)) (fun k _ => e _ _ _ (by omega)) (ek _) (fun k _ _ => ek _)⟩
  · obtain ⟨h1, h2, h3, h4, h5⟩ := c1
    exact ⟨fun w i hw hi => by rw [e _ _ _ (by omega)]; exact h1 w i hw hi, fun j hj => by rw [e _ _ _ (by omega)]; exact h2 j hj, by rw [e _ _ _ (by omega)]; exact h3, by rw [e _ _ _ (by omega)]; exact h4, by rw [e _ _ _ (by omega)]; exact h5⟩
  · intro u hu
    obtain ⟨h1, h2, h3⟩ := c5 u hu
    exact ⟨by rw [e _ _ _ (by omega)]; exact h1, by rw [e _ _ _ (by omega)]; exact h2, fun k hk => by rw [e _ _ _ (by omega)]; exact h3 k hk⟩
theorem IM_e {σ τ : zS} (h : IM σ) (e : ∀ c i k, ((c = 7 ∨ c = 31 ∨ (c = 8 ∧ k = 4)) ∨ ((c = 0 ∨ c = 10 ∨ c = 3 ∨ c = 22) ∧ (i = 2 ∨ i = 3)) ∨ ((c = 2 ∨ (14 ≤ c ∧ c ≤ 20)) ∧ i = 1)) → τ c i k = σ c i k) : IM τ := by
  obtain ⟨h1, h2, h3, h4⟩ := h
  refine ⟨by rw [e _ _ _ (by omega), e _ _ _ (by omega)]; exact h1, fun q => ?_, by rw [e _ _ _ (by omega)]; exact h3, by rw [e _ _ _ (by omega)]; exact h4⟩
  rw [e _ _ _ (by omega)] at q
  exact KT_e (h2 q) (fun c i k hc => e _ _ _ (by omega))
theorem TB_e {σ τ : zS} (h : TB σ) (e : ∀ c i k, (c = 51 ∨ c = 52 ∨ c = 53) → τ c i k = σ c i k) : TB τ := by
  obtain ⟨⟨a0, a1, a2, a3, a4, a5, a6⟩, h2, h3⟩ := h
  refine ⟨⟨?_, ?_, ?_, ?_, ?_, ?_, ?_⟩, fun k => ?_, fun k => ?_⟩ <;> rw [e _ _ _ (by omega)]
  · exact a0
  · exact a1
  · exact a2
  · exact a3
  · exact a4
  · exact a5
  · exact a6
  · exact h2 k
  · exact h3 k
theorem PrF_of {σ : zS} {fa fm : zS → Option (Int32 × zS)} (h : Full σ) (p : Pr σ fa fm) : PrF σ fa fm := by
  obtain ⟨h1, h2, h3, h4, h5⟩ := h
  obtain ⟨r, s, τ, p1, p2, p3, p4, p5⟩ := p
  have e : ∀ c i k, (c = 4 ∨ c = 39 ∨ c = 40 ∨ c = 23 ∨ c = 41 ∨ c = 6 ∨ (c = 8 ∧ (k = 14 ∨ k = 4)) ∨ c = 24 ∨ c = 38 ∨ c = 7 ∨ c = 31 ∨ ((c = 0 ∨ c = 10 ∨ c = 3 ∨ c = 22) ∧ (i = 2 ∨ i = 3)) ∨ ((c = 2 ∨ (14 ≤ c ∧ c ≤ 20)) ∧ i = 1) ∨ c = 50 ∨ c = 51 ∨ c = 52 ∨ c = 53) → τ c i k = σ c i k := fun c i k hc => p4 c i k (by omega) (by omega) (by omega) (by omega) (by omega) (by omega) (by omega) (by omega) (by omega) (by omega) (by omega)
  exact ⟨r, s, τ, p1, p2, ⟨p3, SH_e h2 (fun c i k hc => e _ _ _ (by omega)), TR_e h3 (fun c i k hc => e _ _ _ (by omega)), IM_e h4 (fun c i k hc => e _ _ _ (by omega)), TB_e h5 (fun c i k hc => e _ _ _ (by omega))⟩, fun i k => e _ _ _ (by omega), p5⟩
/-- work beside all that Core speaks of -/
def FO (σ τ : zS) : Prop := ∀ c i k, ¬ (c = 4 ∨ c = 23 ∨ c = 39 ∨ c = 40 ∨ c = 41 ∨ c = 42 ∨ c = 6 ∨ c = 24 ∨ c = 38 ∨ (c = 8 ∧ k ≠ 4)) → τ c i k = σ c i k
theorem FO_t {σ τ υ : zS} (h : FO σ τ) (h' : FO τ υ) : FO σ υ := fun c i k a => (h' c i k a).trans (h c i k a)
theorem CX_o {σ τ : zS} {P : zP} {T : Nat → Nat → Int32} {M : Nat → Nat} (c : CX σ P T M) (x : FO σ τ) : CX τ P T M := by
  obtain ⟨c1, c2, c3, c3', c4, c5, c6, c7, c8, c9, c10⟩ := c
  refine ⟨?_, VM_e c2 (fun k _ => x _ _ _ (by omega)), c3, c3', TC_e c4 (fun c i k hc => x _ _ _ (by omega)), TM_e c5 c6 (fun k _ _ => x _ _ _ (by omega)), c6, by rw [x _ _ _ (by omega), x _ _ _ (by omega)]; exact c7, fun k hk => by rw [x _ _ _ (by omega), x _ _ _ (by omega)]; exact c8 k hk, RW_e c9 (fun k => x _ _ _ (by omega)) (fun k => x _ _ _ (by omega)) (x _ _ _ (by omega)) (fun k _ _ => x _ _ _ (by omega)), RW_e c10 (fun k => x _ _ _ (by omega)) (fun k => x _ _ _ (by omega)) (x _ _ _ (by omega)) (fun k _ _ => x _ _ _ (by omega))⟩
  obtain ⟨h1, h2, h3, h4, h5⟩ := c1
  exact ⟨fun w i hw hi => by rw [x _ _ _ (by omega)]; exact h1 w i hw hi, fun j hj => by rw [x _ _ _ (by omega)]; exact h2 j hj, by rw [x _ _ _ (by omega)]; exact h3, by rw [x _ _ _ (by omega)]; exact h4, by rw [x _ _ _ (by omega)]; exact h5⟩
/-! whether it is a sheet -/
theorem A_isSheet {x : Int32} : (wi x 3 → fA_isSheet x = some 1) ∧ (¬ wi x 3 → fA_isSheet x = some 0) := by
  rw [wi_iff (by omega)]
  unfold fA_isSheet
  have h0 : (0 : Int32).toInt = 0 := by decide
  have h4 : (4 : Int32).toInt = 4 := by decide
  constructor
  · intro ⟨h1, h2⟩
    rw [if_neg (by rw [i32_lt]; omega), if_neg (by rw [i32_le]; omega)]
  · intro h
    by_cases q : x < 0
    · rw [if_pos q]
    · rw [if_neg q, if_pos]
      rw [i32_lt] at q
      rw [i32_le]
      omega
theorem M_isSheet {x : Int32} : (wi x 3 → fM_isSheet x = some 1) ∧ (¬ wi x 3 → fM_isSheet x = some 0) := by
  have h := M_in (x := x) (B := 3) (by omega)
  unfold fM_isSheet
  constructor
  · intro q
    have e : fM_in x 0 3 = some 1 := h.1 q
    rw [e, zbd_s, zgd_t (Or.inr rfl)]
  · intro q
    have e : fM_in x 0 3 = some 0 := h.2 q
    rw [e, zbd_s, zgd_t (Or.inl rfl)]
theorem SH_26 {σ : zS} {e : Nat} {v : Int32} (h : SH σ) : SH (zup σ 26 0 e v) := SH_e h (fun c i k hc => zup_o (by omega))
theorem H_miss {σ : zS} {b bt : Nat} (hb : bt ≤ 32) (h : σ 4 b 2 = nI bt) : fH_isMissing b σ = some (if bt = 0 then 1 else 0) := by
  unfold fH_isMissing
  rw [h]
  by_cases q : bt = 0
  · rw [if_pos q, q, if_pos (show nI 0 = 0 from rfl)]
  · rw [if_neg q, if_neg (show ¬ (nI bt = 0) from fun r => q ((nI_eq (b := 0) (by omega) (by omega)).mp r))]
theorem NR_eq {c r : Int32} (h : NR c r) {q : Nat} (hq : q ≤ 99) : (c = nI q ↔ r = nI q) := by
  rcases h with h | ⟨h1, h2⟩
  · rw [h]
  · have e := n_toInt (a := q) (by omega)
    constructor
    · intro z
      rw [z] at h1
      omega
    · intro z
      rw [z] at h2
      omega
theorem NR_wi {c r : Int32} (h : NR c r) : (wi c 99 ↔ wi r 99) := by
  rw [wi_iff (by omega), wi_iff (by omega)]
  rcases h with h | ⟨h1, h2⟩
  · rw [h]
  · omega
/-! judge -/
def sJ (g : Nat → Int32) (P : zP) (n : Nat) : Nat → Nat → Nat
  | 0, j => j
  | k + 1, j => if n ≤ j then j else if P 7 0 ≤ j then j else if g j = nI (P 3 j) then sJ g P n k (j + 1) else j
theorem R_jd {N b n : Nat} {σ : zS} {P : zP} (h : VC 0 σ P) (hP : PI P) (hn : n ≤ 24) (h4 : σ 4 b 1 = nI n) : ∀ k j f, j + k = 24 → k < f → fA_judge_L38 N f b (nI j) (nI j) σ = some (nI (sJ (σ 23 b) P n k j), σ)
  | k, j, 0, h1, h2 => absurd h2 (by omega)
  | 0, j, f + 1, h1, h2 => by
    rw [fA_judge_L38, h4, if_le (by omega) (by omega)]
    rfl
  | k + 1, j, f + 1, h1, h2 => by
    have hp := hP.1
    rw [fA_judge_L38, h4, h.2.2.1]
    unfold sJ
    by_cases q1 : n ≤ j
    · rw [if_le q1 (by omega), if_pos q1]
    · rw [if_nle (by omega) (by omega), if_neg q1]
      by_cases q2 : P 7 0 ≤ j
      · rw [if_le q2 (by omega), if_pos q2]
      · have e3 : σ 17 0 j = nI (P 3 j) := h.1 3 j (by omega) (by omega)
        rw [if_nle (by omega) (by omega), if_neg q2]
        simp (disch := omega) only [zlt_eq, zgd_T, zin_T, zb2_s, zbd_s, n_cl, n_sub1, n_predm, n_sc, if_nle, if_nle0, if_nle1, if_le, if_true, if_false, e3]
        by_cases q3 : σ 23 b j = nI (P 3 j)
        · rw [if_pos q3, if_pos q3]
          exact R_jd h hP hn h4 k (j + 1) f (by omega) (by omega)
        · rw [if_neg q3, if_neg q3]
theorem M_jd {N b n : Nat} {σ : zS} {P : zP} {g : Nat → Int32} (hb : b < 4) (h : VM σ P) (hP : PI P) (hn : n ≤ 24) (h4 : σ 40 0 b = nI n) (hg : ∀ i, i < 24 → NR (g i) (σ 41 0 (24 * b + i))) : ∀ k j f, j + k = 24 → k < f → fM_judge_L18 N f (nI b) (nI j) σ = some (nI (sJ g P n k j), σ)
  | k, j, 0, h1, h2 => absurd h2 (by omega)
  | 0, j, f + 1, h1, h2 => by
    rw [fM_judge_L18]
    simp (disch := omega) only [zlt_eq, zgd_T, zin_T, zb2_s, zbd_s, n_cl, n_sub1, n_predm, n_sc, if_nle, if_nle0, if_nle1, if_le, if_true, if_false, h4]
    rfl
  | k + 1, j, f + 1, h1, h2 => by
    have hp := hP.1
    rw [fM_judge_L18, h.2.2.1]
    unfold sJ
    simp (disch := omega) only [zlt_eq, zgd_T, zin_T, zb2_s, zbd_s, n_cl, n_sub1, n_predm, n_sc, if_nle, if_nle0, if_nle1, if_le, if_true, if_false, h4]
    by_cases q1 : n ≤ j
    · rw [if_le q1 (by omega), if_pos q1]
    · rw [if_nle (by omega) (by omega), if_neg q1]
      by_cases q2 : P 7 0 ≤ j
      · rw [if_le q2 (by omega), if_pos q2]
      · have e3 : fM_its (nI j) 3 σ = some (nI (P 3 j)) := M_its h 3 (by omega) (by omega)
        have hx : 24 * nI b + nI j = nI (24 * b + j) := by rw [l24, n_mul, n_add]
        have hc := (hP.2.2.2.1 j (by omega)).2.2.2.1
        rw [if_nle (by omega) (by omega), if_neg q2, hx, e3, zbd_s]
        simp (disch := omega) only [zlt_eq, zgd_T, zin_T, zb2_s, zbd_s, n_cl, n_sub1, n_predm, n_sc, if_nle, if_nle0, if_nle1, if_le, if_true, if_false]
        have hh := NR_eq (hg j (by omega)) (q := P 3 j) (by omega)
        by_cases q3 : g j = nI (P 3 j)
        · rw [if_pos (hh.mp q3), if_pos q3]
          exact M_jd hb h hP hn h4 hg k (j + 1) f (by omega) (by omega)
        · rw [if_neg (fun r => q3 (hh.mpr r)), if_neg q3]
theorem P_judge {N : Nat} (hN : 901 ≤ N) {σ : zS} (h : Core σ) (hS : SH σ) (x1 : Int32) : Pr σ (fA_judge N x1) (fM_judge N x1) := by
  obtain ⟨P, T, M, c⟩ := h
  obtain ⟨c1, c2, c3, c3', c4, c5, c6, c7, c8, c9, c10⟩ := c
  have c : CX σ P T M := ⟨c1, c2, c3, c3', c4, c5, c6, c7, c8, c9, c10⟩
  have hn := c3.1
  by_cases q1 : wi x1 3
  · have a1 := (A_isSheet (x := x1)).1 q1
    have m1 := (M_isSheet (x := x1)).1 q1
    obtain ⟨b, hb, rfl⟩ := q1
    obtain ⟨⟨bt, g1, g2, g3⟩, ⟨n, g4, g5, g6⟩, g7⟩ := hS b (by omega)
    by_cases z : bt = 0
    · refine Pr_err c (e := 2) (by omega) (by omega) ?_ ?_
      · unfold fA_judge
        rw [a1, zbd_s, if_neg (by decide)]
        simp (disch := omega) only [zlt_eq, zgd_T, zin_T, zb2_s, zbd_s, n_cl, n_sub1, n_predm, n_sc, if_nle, if_nle0, if_nle1, if_le, if_true, if_false]
        rw [H_miss (by omega) g2, zbd_s, if_pos z, if_neg (by decide), zb2_id]
        rfl
      · have e39 : (zup σ 26 0 2 (σ 26 0 2 + 1)) 39 0 b = 0 := by rw [zup_o (by omega), g3, z]; rfl
        unfold fM_judge fM_lacks
        rw [m1, zbd_s, if_neg (by decide)]
        simp (disch := omega) only [zlt_eq, zgd_T, zin_T, zb2_s, zbd_s, n_cl, n_sub1, n_predm, n_sc, if_nle, if_nle0, if_nle1, if_le, if_true, if_false]
        rw [e39, if_pos rfl, zbd_s, if_neg (by decide), zb2_id]
        rfl
    · have e39 : ¬ (σ 39 0 b = 0) := by rw [g3]; exact fun r => z ((nI_eq (b := 0) (by omega) (by omega)).mp r)
      refine Pr_look c (r := nI (sJ (σ 23 b) P n 24 0)) ?_ ?_
      · unfold fA_judge
        rw [a1, zbd_s, if_neg (by decide)]
        simp (disch := omega) only [zlt_eq, zgd_T, zin_T, zb2_s, zbd_s, n_cl, n_sub1, n_predm, n_sc, if_nle, if_nle0, if_nle1, if_le, if_true, if_false]
        rw [H_miss (by omega) g2, zbd_s, if_neg z, if_pos rfl]
        exact R_jd c1 c3 g4 g5 24 0 N (by omega) (by omega)
      · unfold fM_judge fM_lacks
        rw [m1, zbd_s, if_neg (by decide)]
        simp (disch := omega) only [zlt_eq, zgd_T, zin_T, zb2_s, zbd_s, n_cl, n_sub1, n_predm, n_sc, if_nle, if_nle0, if_nle1, if_le, if_true, if_false]
        rw [if_neg e39, zbd_s, if_pos rfl]
        exact M_jd (by omega) c2 c3 g4 g6 g7 24 0 N (by omega) (by omega)
  · have a1 := (A_isSheet (x := x1)).2 q1
    have m1 := (M_isSheet (x := x1)).2 q1
    refine Pr_err c (e := 1) (by omega) (by omega) ?_ ?_
    · unfold fA_judge
      rw [a1, zbd_s, if_pos rfl, zb2_id]
      rfl
    · unfold fM_judge fM_lacks
      rw [m1, zbd_s, if_pos rfl, zbd_s, if_neg (by decide), zb2_id]
      rfl
/-! reels -/
def sR (g : Nat → Int32) (n : Nat) : Nat → Nat → zP → Nat × zP
  | 0, j, P => (j, P)
  | k + 1, j, P => if n ≤ j then (j, P) else if P 7 0 ≤ j then (j, P) else if 0 ≤ (g j).toInt ∧ (g j).toInt ≤ 99 then sR g n k (j + 1) (if P 2 j = 0 then P else pu P 5 j (g j).toInt.toNat) else (j, P)
theorem R_rl {N b n : Nat} {g : Nat → Int32} (hn : n ≤ 24) : ∀ k j f P s, j + k = 24 → k < f → VC 0 s P → PI P → s 4 b 1 = nI n → (∀ i, s 23 b i = g i) → ∃ s', fA_reels_L38 N f b (nI j) (nI j) s = some (nI (sR g n k j P).1, s') ∧ VC 0 s' (sR g n k j P).2 ∧ FC 0 s s'
  | k, j, 0, P, s, h1, h2, h3, h4, h5, h6 => absurd h2 (by omega)
  | 0, j, f + 1, P, s, h1, h2, h3, h4, h5, h6 => by
    rw [fA_reels_L38, h5, if_le (by omega) (by omega)]
    exact ⟨s, rfl, h3, FC_r⟩
  | k + 1, j, f + 1, P, s, h1, h2, h3, h4, h5, h6 => by
    have hp := h4.1
    rw [fA_reels_L38, h5, h3.2.2.1]
    unfold sR
    by_cases q1 : n ≤ j
    · rw [if_le q1 (by omega), if_pos q1]
      exact ⟨s, rfl, h3, FC_r⟩
    · rw [if_nle (by omega) (by omega), if_neg q1]
      by_cases q2 : P 7 0 ≤ j
      · rw [if_le q2 (by omega), if_pos q2]
        exact ⟨s, rfl, h3, FC_r⟩
      · rw [if_nle (by omega) (by omega), if_neg q2]
        simp (disch := omega) only [zlt_eq, zgd_T, zin_T, zb2_s, zbd_s, n_cl, n_sub1, n_predm, n_sc, if_nle, if_nle0, if_nle1, if_le, if_true, if_false, h6]
        have hw := A_within (x := g j) (B := 99) (by omega)
        rw [wi_iff (by omega)] at hw
        by_cases q3 : 0 ≤ (g j).toInt ∧ (g j).toInt ≤ 99
        · have hw1 : fA_within (g j) 99 = some 1 := hw.1 q3
          rw [hw1, zbd_s, if_neg (by decide), if_pos q3, A_tied h3 h4 (by omega), zbd_s]
          by_cases q4 : P 2 j = 0
          · rw [if_pos q4, if_pos rfl, if_pos q4]
            exact R_rl hn k (j + 1) f P s (by omega) (by omega) h3 h4 h5 h6
          · rw [if_neg q4, if_neg (by decide), if_neg q4]
            have f1 : FC 0 s (zup s 19 0 j (g j)) := FC_u (by omega)
            have g1 : VC 0 (zup s 19 0 j (g j)) (pu P 5 j (g j).toInt.toNat) := VC_u 5 h3 (by omega) (i32_nat q3.1)
            obtain ⟨s', r1, r2, r3⟩ := R_rl (N := N) (b := b) (g := g) hn k (j + 1) f _ _ (by omega) (by omega) g1 (PI_w h4 (by omega)) (by rw [zup_o (by omega)]; exact h5) (fun i => by rw [zup_o (by omega)]; exact h6 i)
            exact ⟨s', r1, r2, FC_t f1 r3⟩
        · have hw1 : fA_within (g j) 99 = some 0 := hw.2 (fun r => q3 (by omega))
          rw [hw1, zbd_s, if_pos rfl, if_neg q3]
          exact ⟨s, rfl, h3, FC_r⟩
theorem M_rl {N b n : Nat} {g : Nat → Int32} (hb : b < 4) (hn : n ≤ 24) : ∀ k j f P s, j + k = 24 → k < f → VM s P → PI P → PJ P → s 40 0 b = nI n → (∀ i, i < 24 → NR (g i) (s 41 0 (24 * b + i))) → ∃ s', fM_reels_L18 N f (nI b) (nI j) s = some (nI (sR g n k j P).1, s') ∧ VM s' (sR g n k j P).2 ∧ FM s s'
  | k, j, 0, P, s, h1, h2, h3, h4, hJ, h5, h6 => absurd h2 (by omega)
  | 0, j, f + 1, P, s, h1, h2, h3, h4, hJ, h5, h6 => by
    rw [fM_reels_L18]
    simp (disch := omega) only [zlt_eq, zgd_T, zin_T, zb2_s, zbd_s, n_cl, n_sub1, n_predm, n_sc, if_nle, if_nle0, if_nle1, if_le, if_true, if_false, h5]
    exact ⟨s, rfl, h3, FM_r⟩
  | k + 1, j, f + 1, P, s, h1, h2, h3, h4, hJ, h5, h6 => by
    have hp := h4.1
    rw [fM_reels_L18, h3.2.2.1]
    unfold sR
    simp (disch := omega) only [zlt_eq, zgd_T, zin_T, zb2_s, zbd_s, n_cl, n_sub1, n_predm, n_sc, if_nle, if_nle0, if_nle1, if_le, if_true, if_false, h5]
    by_cases q1 : n ≤ j
    · rw [if_le q1 (by omega), if_pos q1]
      exact ⟨s, rfl, h3, FM_r⟩
    · rw [if_nle (by omega) (by omega), if_neg q1]
      by_cases q2 : P 7 0 ≤ j
      · rw [if_le q2 (by omega), if_pos q2]
        exact ⟨s, rfl, h3, FM_r⟩
      · have hx : 24 * nI b + nI j = nI (24 * b + j) := by rw [l24, n_mul, n_add]
        have hj8 : j < 8 := by omega
        have l5' : ∀ v s, fM_lays1 (nI j) 5 v s = some (zup s 30 0 (12 + 6 * j + 5) v) := fun v s => M_lays 5 (by omega) hj8
        rw [if_nle (by omega) (by omega), if_neg q2, hx]
        simp (disch := omega) only [zlt_eq, zgd_T, zin_T, zb2_s, zbd_s, n_cl, n_sub1, n_predm, n_sc, if_nle, if_nle0, if_nle1, if_le, if_true, if_false]
        have hr := h6 j (by omega)
        have hw := M_in (x := s 41 0 (24 * b + j)) (B := 99) (by omega)
        have hwi := NR_wi hr
        rw [wi_iff (by omega)] at hwi
        by_cases q3 : 0 ≤ (g j).toInt ∧ (g j).toInt ≤ 99
        · have hw1 : fM_in (s 41 0 (24 * b + j)) 0 99 = some 1 := hw.1 (hwi.mp q3)
          have ev : s 41 0 (24 * b + j) = nI (g j).toInt.toNat := (NR_eq hr (by omega)).mp (i32_nat q3.1)
          rw [hw1, zbd_s, if_neg (by decide), if_pos q3, M_tied h3 h4 hj8, zbd_s]
          unfold fM_reels_J84
          dsimp only
          rw [l5', l5', zbd_s, zbd_s, n_sc]
          have go : ∀ v, v ≤ 99 → ∀ P', P' = pu P 5 j v → PJ P' → ∃ s', fM_reels_L18 N f (nI b) (nI (j + 1)) (zup s 30 0 (12 + 6 * j + 5) (nI v)) = some (nI (sR g n k (j + 1) P').1, s') ∧ VM s' (sR g n k (j + 1) P').2 ∧ FM s s' := by
            intro v hv P' hP' hJ'
            subst hP'
            have f1 : FM s (zup s 30 0 (12 + 6 * j + 5) (nI v)) := FM_u (by omega)
            obtain ⟨s', r1, r2, r3⟩ := M_rl (N := N) (g := g) hb hn k (j + 1) f (pu P 5 j v) _ (by omega) (by omega) (VM_u 5 h3 (by omega) hj8 rfl) (PI_w h4 (by omega)) hJ' (by rw [zup_o (by omega)]; exact h5) (fun i hi => by rw [zup_o (by omega)]; exact h6 i hi)
            exact ⟨s', r1, r2, FM_t f1 r3⟩
          by_cases q4 : P 2 j = 0
          · rw [if_pos q4, if_pos rfl, if_pos q4]
            exact go 0 (by omega) P (pu_id (hJ j q4).symm).symm hJ
          · rw [if_neg q4, if_neg (by decide), if_neg q4, ev]
            exact go _ (by omega) _ rfl (PJ_5 hJ (Or.inl q4))
        · have hw1 : fM_in (s 41 0 (24 * b + j)) 0 99 = some 0 := hw.2 (fun r => q3 (hwi.mpr r))
          rw [hw1, zbd_s, if_pos rfl, if_neg q3]
          exact ⟨s, rfl, h3, FM_r⟩
theorem sR_ok {g : Nat → Int32} {n : Nat} : ∀ k j P, PI P → PJ P → PI (sR g n k j P).2 ∧ PJ (sR g n k j P).2 ∧ (sR g n k j P).2 7 1 = P 7 1
  | 0, j, P, h, hJ => ⟨h, hJ, rfl⟩
  | k + 1, j, P, h, hJ => by
    unfold sR
    split
    · exact ⟨h, hJ, rfl⟩
    · split
      · exact ⟨h, hJ, rfl⟩
      · split
        · by_cases q4 : P 2 j = 0
          · rw [if_pos q4]
            exact sR_ok k (j + 1) P h hJ
          · rw [if_neg q4]
            obtain ⟨a, b, c⟩ := sR_ok (g := g) (n := n) k (j + 1) (pu P 5 j (g j).toInt.toNat) (PI_w h (by omega)) (PJ_5 hJ (Or.inl q4))
            exact ⟨a, b, by rw [c, pu_w (by omega)]⟩
        · exact ⟨h, hJ, rfl⟩
theorem P_reels {N : Nat} (hN : 901 ≤ N) {σ : zS} (h : Core σ) (hS : SH σ) (x1 : Int32) : Pr σ (fA_reels N x1) (fM_reels N x1) := by
  obtain ⟨P, T, M, c⟩ := h
  obtain ⟨c1, c2, c3, c3', c4, c5, c6, c7, c8, c9, c10⟩ := c
  have c : CX σ P T M := ⟨c1, c2, c3, c3', c4, c5, c6, c7, c8, c9, c10⟩
  have hn := c3.1
  by_cases q1 : wi x1 3
  · have a1 := (A_isSheet (x := x1)).1 q1
    have m1 := (M_isSheet (x := x1)).1 q1
    obtain ⟨b, hb, rfl⟩ := q1
    obtain ⟨⟨bt, g1, g2, g3⟩, ⟨n, g4, g5, g6⟩, g7⟩ := hS b (by omega)
    by_cases z : bt = 0
    · refine Pr_err c (e := 2) (by omega) (by omega) ?_ ?_
      · unfold fA_reels
        rw [a1, zbd_s, if_neg (by decide)]
        simp (disch := omega) only [zlt_eq, zgd_T, zin_T, zb2_s, zbd_s, n_cl, n_sub1, n_predm, n_sc, if_nle, if_nle0, if_nle1, if_le, if_true, if_false]
        rw [H_miss (by omega) g2, zbd_s, if_pos z, if_neg (by decide), zb2_id]
        rfl
      · have e39 : (zup σ 26 0 2 (σ 26 0 2 + 1)) 39 0 b = 0 := by rw [zup_o (by omega), g3, z]; rfl
        unfold fM_reels fM_lacks
        rw [m1, zbd_s, if_neg (by decide)]
        simp (disch := omega) only [zlt_eq, zgd_T, zin_T, zb2_s, zbd_s, n_cl, n_sub1, n_predm, n_sc, if_nle, if_nle0, if_nle1, if_le, if_true, if_false]
        rw [e39, if_pos rfl, zbd_s, if_neg (by decide), zb2_id]
        rfl
    · obtain ⟨s, r1, r2, r3⟩ := R_rl (N := N) (b := b) (g := σ 23 b) g4 24 0 N P σ (by omega) (by omega) c1 c3 g5 (fun _ => rfl)
      have v0 := VM_C c2 r3
      obtain ⟨τ, t1, t2, t3⟩ := M_rl (N := N) (b := b) (g := σ 23 b) (by omega) g4 24 0 N P s (by omega) (by omega) v0 c3 c3'.2 ((r3 40 0 b (by omega) (by omega) (by omega)).trans g6) (fun i hi => by rw [r3 41 0 _ (by omega) (by omega) (by omega)]; exact g7 i hi)
      obtain ⟨k1, k2, k3⟩ := sR_ok (g := σ 23 b) (n := n) 24 0 P c3 c3'.2
      have e39 : ¬ (s 39 0 b = 0) := by rw [r3 39 0 b (by omega) (by omega) (by omega), g3]; exact fun r => z ((nI_eq (b := 0) (by omega) (by omega)).mp r)
      refine Pr_move c (r := nI (sR (σ 23 b) n 24 0 P).1) (s := s) (τ := τ) ?_ ?_ r3 t3 r2 t2 k1 ⟨by omega, k2⟩
      · unfold fA_reels
        rw [a1, zbd_s, if_neg (by decide)]
        simp (disch := omega) only [zlt_eq, zgd_T, zin_T, zb2_s, zbd_s, n_cl, n_sub1, n_predm, n_sc, if_nle, if_nle0, if_nle1, if_le, if_true, if_false]
        rw [H_miss (by omega) g2, zbd_s, if_neg z, if_pos rfl]
        exact r1
      · unfold fM_reels fM_lacks
        rw [m1, zbd_s, if_neg (by decide)]
        simp (disch := omega) only [zlt_eq, zgd_T, zin_T, zb2_s, zbd_s, n_cl, n_sub1, n_predm, n_sc, if_nle, if_nle0, if_nle1, if_le, if_true, if_false]
        rw [if_neg e39, zbd_s, if_pos rfl]
        exact t1
  · have a1 := (A_isSheet (x := x1)).2 q1
    have m1 := (M_isSheet (x := x1)).2 q1
    refine Pr_err c (e := 1) (by omega) (by omega) ?_ ?_
    · unfold fA_reels
      rw [a1, zbd_s, if_pos rfl, zb2_id]
      rfl
    · unfold fM_reels fM_lacks
      rw [m1, zbd_s, if_pos rfl, zbd_s, if_neg (by decide), zb2_id]
      rfl
