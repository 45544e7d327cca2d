/-! Pure mathematics: what ties the two sides. -/
/-- rows: the tape and what waits -/
def RW (σ τ : zS) (b : Nat) (cap : Nat) (cnt base : Nat) : Prop := ∃ t, t ≤ cap ∧ σ 3 b 1 = nI t ∧ τ 30 0 cnt = nI t ∧ ∀ k, k < t → σ 22 b k = τ 30 0 (base + k)
def CX (σ : zS) (P : zP) (T : Nat → Nat → Int32) (M : Nat → Nat) : Prop := VC 0 σ P ∧ VM σ P ∧ PI P ∧ (P 7 1 ≤ 9999 ∧ PJ P) ∧ TC 0 σ T M ∧ TM σ T M ∧ WT T M ∧ σ 2 0 12 = σ 30 0 1 ∧ (∀ k, k < 7 → σ 26 0 k = σ 34 0 k) ∧ RW σ σ 0 60 2 310 ∧ RW σ σ 1 24 3 370
def Core (σ : zS) : Prop := ∃ P T M, CX σ P T M
/-- what ordinary work never touches -/
def FR (σ σ' : zS) : Prop := ∀ c i k, c ≠ 11 → c ≠ 1 → c ≠ 12 → c ≠ 13 → c ≠ 26 → c ≠ 34 → c ≠ 30 → ¬ (c = 32 ∨ c = 33 ∨ c = 35 ∨ c = 36 ∨ c = 37 ∨ c = 42) → ¬ (c = 8 ∧ (k = 13 ∨ k = 6 ∨ k = 7 ∨ k = 8 ∨ k = 9)) → ¬ ((c = 0 ∨ c = 10 ∨ c = 3 ∨ c = 22) ∧ i < 2) → ¬ ((c = 2 ∨ (14 ≤ c ∧ c ≤ 21)) ∧ i ≠ 1) → σ' c i k = σ c i k
theorem FR_r {σ : zS} : FR σ σ := fun _ _ _ _ _ _ _ _ _ _ _ _ _ _ => rfl
theorem FR_t {σ σ' σ'' : zS} (h : FR σ σ') (h' : FR σ' σ'') : FR σ σ'' := fun c i k a b d e f g j l m n o => (h' c i k a b d e f g j l m n o).trans (h c i k a b d e f g j l m n o)
theorem FR_C {b : Nat} {σ σ' : zS} (hb : b ≠ 1) (h : FC b σ σ') : FR σ σ' := fun c i k a1 a2 a3 a4 a5 a6 a7 a8 a9 a10 a11 => h c i k a1 (by omega) (by omega)
theorem FR_M {σ σ' : zS} (h : FM σ σ') : FR σ σ' := fun c i k a1 a2 a3 a4 a5 a6 a7 a8 a9 a10 a11 => h c i k (by omega) (by omega) (by omega) (by omega) (by omega)
theorem FR_u {c i k : Nat} {v : Int32} {σ : zS} (h : c = 11 ∨ c = 1 ∨ c = 12 ∨ c = 13 ∨ c = 26 ∨ c = 34 ∨ c = 30 ∨ (c = 32 ∨ c = 33 ∨ c = 35 ∨ c = 36 ∨ c = 37 ∨ c = 42) ∨ (c = 8 ∧ (k = 13 ∨ k = 6 ∨ k = 7 ∨ k = 8 ∨ k = 9)) ∨ ((c = 0 ∨ c = 10 ∨ c = 3 ∨ c = 22) ∧ i < 2) ∨ ((c = 2 ∨ (14 ≤ c ∧ c ≤ 21)) ∧ i ≠ 1)) : FR σ (zup σ c i k v) := by
  intro c' i' k' a1 a2 a3 a4 a5 a6 a7 a8 a9 a10 a11
  unfold zup
  rw [if_neg (by omega)]
/-- the class's half and the reference's half -/
def hA (c i k : Nat) : Prop := c = 3 ∨ c = 22 ∨ c = 26 ∨ (c = 2 ∧ i = 0)
theorem RW_e {σ τ σ' τ' : zS} {b cap cnt base : Nat} (h : RW σ τ b cap cnt base) (h1 : ∀ k, σ' 3 b k = σ 3 b k) (h2 : ∀ k, σ' 22 b k = σ 22 b k) (h3 : τ' 30 0 cnt = τ 30 0 cnt) (h4 : ∀ k, base ≤ k → k < base + cap → τ' 30 0 k = τ 30 0 k) : RW σ' τ' b cap cnt base := by
  obtain ⟨t, a1, a2, a3, a4⟩ := h
  exact ⟨t, a1, (h1 _).trans a2, h3.trans a3, fun k hk => by rw [h2, h4 _ (by omega) (by omega)]; exact a4 k hk⟩
/-- work of the class's road, then of the reference's, keeps the tie -/
theorem CX_move {σ s τ : zS} {P P' : zP} {T : Nat → Nat → Int32} {M : Nat → Nat} (h : CX σ P T M) (hC : FC 0 σ s) (hM : FM s τ) (v1 : VC 0 s P') (v2 : VM τ P') (hP : PI P') (hd : P' 7 1 ≤ 9999 ∧ PJ P') : CX τ P' T M ∧ FR σ τ := by
  obtain ⟨c1, c2, c3, c3', c4, c5, c6, c7, c8, c9, c10⟩ := h
  have e : ∀ c i k, (c = 26 ∨ c = 34 ∨ c = 3 ∨ c = 22 ∨ (c = 30 ∧ (60 ≤ k ∨ k = 2 ∨ k = 3 ∨ k = 1)) ∨ (c = 2 ∧ k = 12)) → τ c i k = σ c i k := fun c i k hc => (hM c i k (by omega) (by omega) (by omega) (by omega) (by omega)).trans (hC c i k (by omega) (by omega) (by omega))
  have v1' : VC 0 τ P' := by
    obtain ⟨h1, h2, h3, h4, h5⟩ := v1
    have e : ∀ c k, (c = 2 ∨ (14 ≤ c ∧ c ≤ 20)) → τ c 0 k = s c 0 k := fun c k hc => hM c 0 k (by omega) (by omega) (by omega) (by omega) (by omega)
    exact ⟨fun w i hw hi => by rw [e _ _ (by omega)]; exact h1 w i hw hi, fun j hj => by rw [e _ _ (by omega)]; exact h2 j hj, by rw [e _ _ (by omega)]; exact h3, by rw [e _ _ (by omega)]; exact h4, by rw [e _ _ (by omega)]; exact h5⟩
  have t1 : TC 0 τ T M := by
    have := TC_f c4 hC
    intro u hu
    obtain ⟨h1, h2, h3⟩ := this u hu
    have e : ∀ c i k, (c = 0 ∨ c = 10) → τ c i k = s c i k := fun c i k hc => hM c i k (by omega) (by omega) (by omega) (by omega) (by omega)
    exact ⟨by rw [e _ _ _ (by omega)]; exact h1, by rw [e _ _ _ (by omega)]; exact h2, fun k hk => by rw [e _ _ _ (by omega)]; exact h3 k hk⟩
  have t2 : TM τ T M := by
    have : TM s T M := by
      intro u hu
      obtain ⟨h1, h3⟩ := c5 u hu
      have e : ∀ k, s 30 0 k = σ 30 0 k := fun k => hC 30 0 k (by omega) (by omega) (by omega)
      refine ⟨by rw [e]; exact h1, fun k hk => ?_⟩
      rw [e, e]
      exact h3 k hk
    exact TM_f this hM
  exact ⟨⟨v1', v2, hP, hd, t1, t2, c6, by rw [e _ _ _ (by omega), e _ _ _ (by omega)]; exact c7, fun k hk => by rw [e _ _ _ (by omega), e _ _ _ (by omega)]; exact c8 k hk, RW_e c9 (fun k => e _ _ _ (by omega)) (fun k => e _ _ _ (by omega)) (e _ _ _ (by omega)) (fun k _ _ => e _ _ _ (by omega)), RW_e c10 (fun k => e _ _ _ (by omega)) (fun k => e _ _ _ (by omega)) (e _ _ _ (by omega)) (fun k _ _ => e _ _ _ (by omega))⟩, FR_t (FR_C (by omega) hC) (FR_M hM)⟩
/-- the reference's road is as it was after the class's work -/
theorem VM_C {b : Nat} {σ s : zS} {P : zP} (h : VM σ P) (hC : FC b σ s) : VM s P := VM_e h (fun k _ => hC 30 0 k (by omega) (by omega) (by omega))
theorem TM_C {b : Nat} {σ s : zS} {T : Nat → Nat → Int32} {M : Nat → Nat} (h : TM σ T M) (hC : FC b σ s) : TM s T M := by
  intro u hu
  obtain ⟨h1, h3⟩ := h u hu
  have e : ∀ k, s 30 0 k = σ 30 0 k := fun k => hC 30 0 k (by omega) (by omega) (by omega)
  refine ⟨by rw [e]; exact h1, fun k hk => ?_⟩
  rw [e, e]
  exact h3 k hk
/-- the script stays -/
def SC (σ τ : zS) : Prop := ∀ i k, τ 50 i k = σ 50 i k
/-- both answer the same and the tie is kept -/
def Pr (σ : zS) (fa fm : zS → Option (Int32 × zS)) : Prop := ∃ r s τ, fa σ = some (r, s) ∧ fm s = some (r, τ) ∧ Core τ ∧ FR σ τ ∧ SC σ s
theorem zb2_id (a : Option (Int32 × zS)) : (zb2 a fun r s => some (r, s)) = a := by
  cases a with
  | none => rfl
  | some v => rfl
/-! refusals -/
theorem A_refuse {σ : zS} {e : Nat} (h1 : 1 ≤ e) (h6 : e ≤ 6) : fA_refuse (nI e) σ = some ((-1000000000) - nI e, zup σ 26 0 e (σ 26 0 e + 1)) := by
  unfold fA_refuse
  have n1 : ¬ (nI e < 1) := by rw [l1, n_lt (by omega) (by omega)]; omega
  have n2 : ¬ (6 < nI e) := fun q => absurd ((nI_ltI (a := 6) (by omega) (by omega)).mp q) (by omega)
  rw [if_neg n1, if_neg n2]
  simp (disch := omega) only [zlt_eq, zgd_T, zin_T, zb2_s, zbd_s, n_cl, n_sub1, n_predm, n_sc, if_nle, if_nle0, if_nle1, if_le, if_true, if_false]
theorem M_error {σ : zS} {e : Nat} (h6 : e ≤ 6) : fM_error (nI e) σ = some ((-1000000000) - nI e, zup σ 34 0 e (σ 34 0 e + 1)) := by
  unfold fM_error
  simp (disch := omega) only [zlt_eq, zgd_T, zin_T, zb2_s, zbd_s, n_cl, n_sub1, n_predm, n_sc, if_nle, if_nle0, if_nle1, if_le, if_true, if_false]
theorem CX_err {σ : zS} {P : zP} {T : Nat → Nat → Int32} {M : Nat → Nat} (h : CX σ P T M) (e : Nat) : CX (zup (zup σ 26 0 e (σ 26 0 e + 1)) 34 0 e (σ 34 0 e + 1)) P T M := by
  obtain ⟨c1, c2, c3, c3', c4, c5, c6, c7, c8, c9, c10⟩ := h
  have q : ∀ c i k, c ≠ 26 → c ≠ 34 → (zup (zup σ 26 0 e (σ 26 0 e + 1)) 34 0 e (σ 34 0 e + 1)) c i k = σ c i k := fun c i k h1 h2 => by rw [zup_o h2, zup_o h1]
  have f1 : FC 0 σ σ := FC_r
  refine ⟨?_, VM_e c2 (fun k _ => q _ _ _ (by omega) (by omega)), c3, c3', ?_, ?_, c6, by rw [q _ _ _ (by omega) (by omega), q _ _ _ (by omega) (by omega)]; exact c7, ?_, RW_e c9 (fun k => q _ _ _ (by omega) (by omega)) (fun k => q _ _ _ (by omega) (by omega)) (q _ _ _ (by omega) (by omega)) (fun k _ _ => q _ _ _ (by omega) (by omega)), RW_e c10 (fun k => q _ _ _ (by omega) (by omega)) (fun k => q _ _ _ (by omega) (by omega)) (q _ _ _ (by omega) (by omega)) (fun k _ _ => q _ _ _ (by omega) (by omega))⟩
  · obtain ⟨h1, h2, h3, h4, h5⟩ := c1
    exact ⟨fun w i hw hi => by rw [q _ _ _ (by omega) (by omega)]; exact h1 w i hw hi, fun j hj => by rw [q _ _ _ (by omega) (by omega)]; exact h2 j hj, by rw [q _ _ _ (by omega) (by omega)]; exact h3, by rw [q _ _ _ (by omega) (by omega)]; exact h4, by rw [q _ _ _ (by omega) (by omega)]; exact h5⟩
  · intro u hu
    obtain ⟨h1, h2, h3⟩ := c4 u hu
    exact ⟨by rw [q _ _ _ (by omega) (by omega)]; exact h1, by rw [q _ _ _ (by omega) (by omega)]; exact h2, fun k hk => by rw [q _ _ _ (by omega) (by omega)]; exact h3 k hk⟩
  · intro u hu
    obtain ⟨h1, h3⟩ := c5 u hu
    refine ⟨by rw [q _ _ _ (by omega) (by omega)]; exact h1, fun k hk => ?_⟩
    rw [q _ _ _ (by omega) (by omega), q _ _ _ (by omega) (by omega)]
    exact h3 k hk
  · intro k hk
    rw [zup_o (by omega)]
    unfold zup
    by_cases qk : k = e
    · subst qk
      rw [if_pos ⟨rfl, rfl, rfl⟩, if_pos ⟨rfl, rfl, rfl⟩, c8 k hk]
    · rw [if_neg (by omega), if_neg (by omega), if_neg (by omega)]
      exact c8 k hk
/-- both refuse with the same word -/
theorem Pr_err {σ : zS} {P : zP} {T : Nat → Nat → Int32} {M : Nat → Nat} (h : CX σ P T M) {e : Nat} (h1 : 1 ≤ e) (h6 : e ≤ 6) {fa fm : zS → Option (Int32 × zS)} (ha : fa σ = fA_refuse (nI e) σ) (hm : fm (zup σ 26 0 e (σ 26 0 e + 1)) = fM_error (nI e) (zup σ 26 0 e (σ 26 0 e + 1))) : Pr σ fa fm := by
  refine ⟨_, _, _, ha.trans (A_refuse h1 h6), hm.trans (M_error h6), ⟨P, T, M, ?_⟩, FR_t (FR_u (by omega)) (FR_u (by omega)), fun i k => zup_o (by omega)⟩
  have e1 : (zup σ 26 0 e (σ 26 0 e + 1)) 34 0 e = σ 34 0 e := zup_o (by omega)
  rw [e1]
  exact CX_err h e
/-! ranges -/
def wi (x : Int32) (B : Nat) : Prop := ∃ k, k ≤ B ∧ x = nI k
theorem i32_nat {x : Int32} (h : 0 ≤ x.toInt) : x = nI x.toInt.toNat := by
  have := x.toInt_lt
  rw [i32_eq, n_toInt (by omega)]
  omega
theorem wi_iff {x : Int32} {B : Nat} (hB : B < 2147483648) : wi x B ↔ (0 ≤ x.toInt ∧ x.toInt ≤ B) := by
  constructor
  · rintro ⟨k, hk, rfl⟩
    rw [n_toInt (by omega)]
    omega
  · rintro ⟨h1, h2⟩
    exact ⟨x.toInt.toNat, by omega, i32_nat h1⟩
theorem A_within {x : Int32} {B : Nat} (hB : B < 2147483648) : (wi x B → fA_within x (nI B) = some 1) ∧ (¬ wi x B → fA_within x (nI B) = some 0) := by
  rw [wi_iff hB]
  unfold fA_within
  have h0 : (0 : Int32).toInt = 0 := by decide
  have hb := n_toInt hB
  constructor
  · intro ⟨h1, h2⟩
    rw [if_neg (by rw [i32_lt]; omega), if_neg (by rw [i32_lt]; omega)]
  · intro h
    by_cases q : x < 0
    · rw [if_pos q]
    · rw [if_neg q, if_pos]
      rw [i32_lt] at q ⊢
      omega
theorem M_in {x : Int32} {B : Nat} (hB : B < 2147483648) : (wi x B → fM_in x 0 (nI B) = some 1) ∧ (¬ wi x B → fM_in x 0 (nI B) = some 0) := by
  rw [wi_iff hB]
  unfold fM_in
  have h0 : (0 : Int32).toInt = 0 := by decide
  have hb := n_toInt hB
  constructor
  · intro ⟨h1, h2⟩
    rw [if_neg (by rw [i32_lt]; omega), if_neg (by rw [i32_lt]; omega)]
  · intro h
    by_cases q : x < 0
    · rw [if_pos q]
    · rw [if_neg q, if_pos]
      rw [i32_lt] at q ⊢
      omega
def thr (P : zP) (x : Int32) : Prop := ∃ i, i < P 7 0 ∧ x = nI i
theorem thr_iff {P : zP} (hP : PI P) {x : Int32} : thr P x ↔ (0 ≤ x.toInt ∧ x.toInt < P 7 0) := by
  have hn := hP.1
  constructor
  · rintro ⟨k, hk, rfl⟩
    rw [n_toInt (by omega)]
    omega
  · rintro ⟨h1, h2⟩
    exact ⟨x.toInt.toNat, by omega, i32_nat h1⟩
theorem A_there {σ : zS} {P : zP} (h : VC 0 σ P) (hP : PI P) {x : Int32} : (thr P x → fA_isThere x σ = some 1) ∧ (¬ thr P x → fA_isThere x σ = some 0) := by
  rw [thr_iff hP]
  have hn := hP.1
  unfold fA_isThere
  rw [h.2.2.1]
  have h0 : (0 : Int32).toInt = 0 := by decide
  have hb : (nI (P 7 0)).toInt = _ := n_toInt (by omega)
  constructor
  · intro ⟨h1, h2⟩
    rw [if_neg (by rw [i32_lt]; omega), if_neg (by rw [i32_le]; omega)]
  · intro h
    by_cases q : x < 0
    · rw [if_pos q]
    · rw [if_neg q, if_pos]
      rw [i32_lt] at q
      rw [i32_le]
      omega
theorem n_sub1t {n : Nat} (hn : n ≤ 8) : (nI n - 1).toInt = (n : Int) - 1 := by
  rcases (show n = 0 ∨ n = 1 ∨ n = 2 ∨ n = 3 ∨ n = 4 ∨ n = 5 ∨ n = 6 ∨ n = 7 ∨ n = 8 by omega) with q | q | q | q | q | q | q | q | q <;> subst q <;> decide +kernel
theorem M_there {σ : zS} {P : zP} (h : VM σ P) (hP : PI P) {x : Int32} : (thr P x → fM_isOne x σ = some 1) ∧ (¬ thr P x → fM_isOne x σ = some 0) := by
  rw [thr_iff hP]
  have hn := hP.1
  unfold fM_isOne fM_in
  rw [h.2.2.1]
  have h0 : (0 : Int32).toInt = 0 := by decide
  have hb := n_sub1t hn
  constructor
  · intro ⟨h1, h2⟩
    rw [if_neg (by rw [i32_lt]; omega), if_neg (by rw [i32_lt]; omega), zbd_s, zgd_t (Or.inr rfl)]
  · intro h
    by_cases q : x < 0
    · rw [if_pos q, zbd_s, zgd_t (Or.inl rfl)]
    · rw [if_neg q, if_pos, zbd_s, zgd_t (Or.inl rfl)]
      rw [i32_lt] at q ⊢
      omega
