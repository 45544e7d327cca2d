/-! Pure mathematics: the road. -/
abbrev zP := Nat → Nat → Nat
def pu (P : zP) (w i x : Nat) : zP := fun a c => if a = w ∧ c = i then x else P a c
theorem pu_s {P : zP} {w i x : Nat} : pu P w i x w i = x := by unfold pu; rw [if_pos ⟨rfl, rfl⟩]
theorem pu_w {P : zP} {w i x a c : Nat} (h : a ≠ w) : pu P w i x a c = P a c := by unfold pu; rw [if_neg (fun q => h q.1)]
theorem pu_i {P : zP} {w i x c : Nat} (h : c ≠ i) : pu P w i x w c = P w c := by unfold pu; rw [if_neg (fun q => h q.2)]
def pw (w x : Nat) : Int32 := if w = 2 then nO x else nI x
theorem pw_2 (x : Nat) : pw 2 x = nO x := rfl
theorem pw_0 (x : Nat) : pw 0 x = nI x := rfl
theorem pw_1 (x : Nat) : pw 1 x = nI x := rfl
theorem pw_3 (x : Nat) : pw 3 x = nI x := rfl
theorem pw_4 (x : Nat) : pw 4 x = nI x := rfl
theorem pw_5 (x : Nat) : pw 5 x = nI x := rfl
/-- the class's road -/
def VC (b : Nat) (σ : zS) (P : zP) : Prop := (∀ w i, w < 6 → i < 8 → σ (14 + w) b i = pw w (P w i)) ∧ (∀ j, j < 6 → σ 20 b j = nI (P 6 j)) ∧ σ 2 b 9 = nI (P 7 0) ∧ σ 2 b 10 = nI (P 7 1) ∧ σ 2 b 11 = nI (P 7 2)
/-- the reference's road -/
def VM (σ : zS) (P : zP) : Prop := (∀ w i, w < 6 → i < 8 → σ 30 0 (12 + 6 * i + w) = pw w (P w i)) ∧ (∀ j, j < 6 → σ 30 0 (6 + j) = nI (P 6 j)) ∧ σ 30 0 4 = nI (P 7 0) ∧ σ 30 0 0 = nI (P 7 1) ∧ σ 30 0 5 = nI (P 7 2)
def PI (P : zP) : Prop := P 7 0 ≤ 8 ∧ P 7 1 ≤ 20000 ∧ P 7 2 ≤ 9999 ∧ (∀ i, i < 8 → P 0 i ≤ 6 ∧ P 1 i ≤ 9 ∧ P 2 i ≤ 8 ∧ P 3 i ≤ 63 ∧ P 4 i ≤ 63 ∧ P 5 i ≤ 99) ∧ (∀ i, i < P 7 0 → P 2 i ≤ i) ∧ (∀ j, j < 6 → P 6 j < 80 ∧ P 6 j % 10 < 2)
/-- what the class's road may change -/
def FC (b : Nat) (σ σ' : zS) : Prop := ∀ c i k, c ≠ 11 → ¬ (c = 2 ∧ i = b ∧ k ≠ 12) → ¬ (14 ≤ c ∧ c ≤ 21 ∧ i = b) → σ' c i k = σ c i k
/-- what the reference's road may change -/
def FM (σ σ' : zS) : Prop := ∀ c i k, c ≠ 33 → c ≠ 36 → c ≠ 37 → ¬ (c = 8 ∧ k = 13) → ¬ (c = 30 ∧ (k = 0 ∨ (4 ≤ k ∧ k < 60))) → σ' c i k = σ c i k
theorem FC_r {b : Nat} {σ : zS} : FC b σ σ := fun _ _ _ _ _ _ => rfl
theorem FC_t {b : Nat} {σ σ' σ'' : zS} (h : FC b σ σ') (h' : FC b σ' σ'') : FC b σ σ'' := fun c i k a1 a2 a3 => (h' c i k a1 a2 a3).trans (h c i k a1 a2 a3)
theorem FM_r {σ : zS} : FM σ σ := fun _ _ _ _ _ _ _ _ => rfl
theorem FM_t {σ σ' σ'' : zS} (h : FM σ σ') (h' : FM σ' σ'') : FM σ σ'' := fun c i k a1 a2 a3 a4 a5 => (h' c i k a1 a2 a3 a4 a5).trans (h c i k a1 a2 a3 a4 a5)
theorem FC_u {b c k : Nat} {v : Int32} {σ : zS} (h : (c = 2 ∧ k ≠ 12) ∨ (14 ≤ c ∧ c ≤ 21)) : FC b σ (zup σ c b k v) := by
  intro c' i' k' a1 a2 a3
  unfold zup
  rw [if_neg]
  rintro ⟨q1, q2, q3⟩
  subst q1 q2 q3
  rcases h with h | h
  · exact a2 ⟨h.1, rfl, h.2⟩
  · exact a3 ⟨h.1, h.2, rfl⟩
theorem FM_u {k : Nat} {v : Int32} {σ : zS} (h : k = 0 ∨ (4 ≤ k ∧ k < 60)) : FM σ (zup σ 30 0 k v) := by
  intro c' i' k' a1 a2 a3 a4 a5
  unfold zup
  rw [if_neg]
  rintro ⟨q1, q2, q3⟩
  subst q1 q3
  exact a5 ⟨rfl, h⟩
theorem FM_8 {v : Int32} {σ : zS} : FM σ (zup σ 8 0 13 v) := by
  intro c' i' k' a1 a2 a3 a4 a5
  unfold zup
  rw [if_neg]
  rintro ⟨q1, q2, q3⟩
  exact a4 ⟨q1, q3⟩
theorem FC_11 {b : Nat} {σ σ' : zS} (h : ∀ c i k, c ≠ 11 → σ' c i k = σ c i k) : FC b σ σ' := fun c i k a1 _ _ => h c i k a1
theorem FM_36 {σ σ' : zS} (h : ∀ c i k, c ≠ 36 → c ≠ 37 → σ' c i k = σ c i k) : FM σ σ' := fun c i k _ a1 a2 _ _ => h c i k a1 a2
/-- both keep the texts -/
theorem TC_f {b b' : Nat} {σ σ' : zS} {T : Nat → Nat → Int32} {M : Nat → Nat} (h : TC b σ T M) (hf : FC b' σ σ') : TC b σ' T M := by
  intro u hu
  obtain ⟨h1, h2, h3⟩ := h u hu
  have e : ∀ c i k, (c = 0 ∨ c = 10) → σ' c i k = σ c i k := fun c i k hc => hf c i k (by omega) (by omega) (by omega)
  exact ⟨by rw [e _ _ _ (by omega)]; exact h1, by rw [e _ _ _ (by omega)]; exact h2, fun k hk => by rw [e _ _ _ (by omega)]; exact h3 k hk⟩
theorem TM_f {σ σ' : zS} {T : Nat → Nat → Int32} {M : Nat → Nat} (h : TM σ T M) (hf : FM σ σ') : TM σ' T M := by
  intro u hu
  obtain ⟨h1, h3⟩ := h u hu
  have e : ∀ k, 60 ≤ k → σ' 30 0 k = σ 30 0 k := fun k hc => hf 30 0 k (by omega) (by omega) (by omega) (by omega) (by omega)
  refine ⟨by rw [e _ (by omega)]; exact h1, fun k hk => ?_⟩
  rw [e _ (by omega), e _ (by omega)]
  exact h3 k hk
theorem VC_11 {b : Nat} {σ σ' : zS} {P : zP} (h : VC b σ P) (hf : ∀ c i k, c ≠ 11 → σ' c i k = σ c i k) : VC b σ' P := by
  obtain ⟨h1, h2, h3, h4, h5⟩ := h
  exact ⟨fun w i hw hi => by rw [hf _ _ _ (by omega)]; exact h1 w i hw hi, fun j hj => by rw [hf _ _ _ (by omega)]; exact h2 j hj, by rw [hf _ _ _ (by omega)]; exact h3, by rw [hf _ _ _ (by omega)]; exact h4, by rw [hf _ _ _ (by omega)]; exact h5⟩
theorem VM_36 {σ σ' : zS} {P : zP} (h : VM σ P) (hf : ∀ c i k, c = 30 → σ' c i k = σ c i k) : VM σ' P := by
  obtain ⟨h1, h2, h3, h4, h5⟩ := h
  exact ⟨fun w i hw hi => by rw [hf _ _ _ rfl]; exact h1 w i hw hi, fun j hj => by rw [hf _ _ _ rfl]; exact h2 j hj, by rw [hf _ _ _ rfl]; exact h3, by rw [hf _ _ _ rfl]; exact h4, by rw [hf _ _ _ rfl]; exact h5⟩
theorem VC_u {b : Nat} {σ : zS} {P : zP} (w : Nat) {i x : Nat} {v : Int32} (h : VC b σ P) (hw : w < 6) (hv : v = pw w x) : VC b (zup σ (14 + w) b i v) (pu P w i x) := by
  obtain ⟨h1, h2, h3, h4, h5⟩ := h
  refine ⟨fun w' i' hw' hi' => ?_, fun j hj => ?_, ?_, ?_, ?_⟩
  · unfold zup pu
    by_cases q : w' = w ∧ i' = i
    · rw [if_pos ⟨by omega, rfl, q.2⟩, if_pos q, hv, q.1]
    · rw [if_neg (fun r => q ⟨by omega, r.2.2⟩), if_neg q]
      exact h1 w' i' hw' hi'
  · rw [zup_o (by omega), pu_w (by omega)]; exact h2 j hj
  · rw [zup_o (by omega), pu_w (by omega)]; exact h3
  · rw [zup_o (by omega), pu_w (by omega)]; exact h4
  · rw [zup_o (by omega), pu_w (by omega)]; exact h5
theorem VC_7 {b : Nat} {σ : zS} {P : zP} (k : Nat) {x : Nat} (h : VC b σ P) (hk : k < 3) : VC b (zup σ 2 b (9 + k) (nI x)) (pu P 7 k x) := by
  obtain ⟨h1, h2, h3, h4, h5⟩ := h
  refine ⟨fun w' i' hw' hi' => ?_, fun j hj => ?_, ?_, ?_, ?_⟩
  · rw [zup_o (by omega), pu_w (by omega)]; exact h1 w' i' hw' hi'
  · rw [zup_o (by omega), pu_w (by omega)]; exact h2 j hj
  all_goals
    unfold zup pu
    rcases (show k = 0 ∨ k = 1 ∨ k = 2 by omega) with q | q | q <;> subst q <;> simp [h3, h4, h5]
theorem VC_x {b c k : Nat} {v : Int32} {σ : zS} {P : zP} (h : VC b σ P) (hc : (c = 2 ∧ (k < 9 ∨ 11 < k)) ∨ c = 21 ∨ c < 2) : VC b (zup σ c b k v) P := by
  obtain ⟨h1, h2, h3, h4, h5⟩ := h
  have e : ∀ c' k', (14 ≤ c' ∧ c' ≤ 20) ∨ (c' = 2 ∧ 9 ≤ k' ∧ k' ≤ 11) → zup σ c b k v c' b k' = σ c' b k' := by
    intro c' k' q
    unfold zup
    rw [if_neg]
    omega
  exact ⟨fun w i hw hi => by rw [e _ _ (by omega)]; exact h1 w i hw hi, fun j hj => by rw [e _ _ (by omega)]; exact h2 j hj, by rw [e _ _ (by omega)]; exact h3, by rw [e _ _ (by omega)]; exact h4, by rw [e _ _ (by omega)]; exact h5⟩
theorem VM_u {σ : zS} {P : zP} (w : Nat) {i x : Nat} {v : Int32} (h : VM σ P) (hw : w < 6) (hi : i < 8) (hv : v = pw w x) : VM (zup σ 30 0 (12 + 6 * i + w) v) (pu P w i x) := by
  obtain ⟨h1, h2, h3, h4, h5⟩ := h
  refine ⟨fun w' i' hw' hi' => ?_, fun j hj => ?_, ?_, ?_, ?_⟩
  · unfold zup pu
    by_cases q : w' = w ∧ i' = i
    · rw [if_pos ⟨by omega, rfl, by omega⟩, if_pos q, hv, q.1]
    · rw [if_neg (fun r => q ⟨by omega, by omega⟩), if_neg q]
      exact h1 w' i' hw' hi'
  · rw [zup_k (by omega), pu_w (by omega)]; exact h2 j hj
  · rw [zup_k (by omega), pu_w (by omega)]; exact h3
  · rw [zup_k (by omega), pu_w (by omega)]; exact h4
  · rw [zup_k (by omega), pu_w (by omega)]; exact h5
theorem VM_7 {σ : zS} {P : zP} (k : Nat) {x k' : Nat} (h : VM σ P) (hk : (k = 0 ∧ k' = 4) ∨ (k = 1 ∧ k' = 0) ∨ (k = 2 ∧ k' = 5)) : VM (zup σ 30 0 k' (nI x)) (pu P 7 k x) := by
  obtain ⟨h1, h2, h3, h4, h5⟩ := h
  refine ⟨fun w' i' hw' hi' => ?_, fun j hj => ?_, ?_, ?_, ?_⟩
  · rw [zup_k (by omega), pu_w (by omega)]; exact h1 w' i' hw' hi'
  · rw [zup_k (by omega), pu_w (by omega)]; exact h2 j hj
  all_goals
    unfold zup pu
    rcases hk with ⟨q, q'⟩ | ⟨q, q'⟩ | ⟨q, q'⟩ <;> subst q q' <;> first | rfl | assumption
theorem VM_x {c k : Nat} {v : Int32} {σ : zS} {P : zP} (h : VM σ P) (hc : c ≠ 30 ∨ 60 ≤ k ∨ (1 ≤ k ∧ k ≤ 3)) : VM (zup σ c 0 k v) P := by
  obtain ⟨h1, h2, h3, h4, h5⟩ := h
  have e : ∀ k', (k' < 60 ∧ k' ≠ 1 ∧ k' ≠ 2 ∧ k' ≠ 3) → zup σ c 0 k v 30 0 k' = σ 30 0 k' := by
    intro k' q
    unfold zup
    rw [if_neg]
    omega
  exact ⟨fun w i hw hi => by rw [e _ (by omega)]; exact h1 w i hw hi, fun j hj => by rw [e _ (by omega)]; exact h2 j hj, by rw [e _ (by omega)]; exact h3, by rw [e _ (by omega)]; exact h4, by rw [e _ (by omega)]; exact h5⟩
/-! readers of the reference -/
theorem M_its {σ : zS} {P : zP} (h : VM σ P) (w : Nat) {i : Nat} (hw : w < 6) (hi : i < 8) : fM_its (nI i) (nI w) σ = some (pw w (P w i)) := by
  unfold fM_its
  have hq : 12 + 6 * nI i + nI w = nI (12 + 6 * i + w) := by rw [l12, l6, n_mul, n_add, n_add]
  rw [hq, zgd_t (zin_n (by omega) (by omega)), n_cl (by omega), h.1 w i hw hi]
theorem M_lays {σ : zS} (w : Nat) {i : Nat} {v : Int32} (hw : w < 6) (hi : i < 8) : fM_lays1 (nI i) (nI w) v σ = some (zup σ 30 0 (12 + 6 * i + w) v) := by
  unfold fM_lays1
  have hq : 12 + 6 * nI i + nI w = nI (12 + 6 * i + w) := by rw [l12, l6, n_mul, n_add, n_add]
  rw [hq, zgd_t (zin_n (by omega) (by omega)), n_cl (by omega), zlt_eq]
/-! distances -/
def sA (P : zP) (i : Nat) : Nat := if P 2 i = 0 then 0 else nD (P 3 i) (P 3 (P 2 i - 1))
theorem nD_le {a b m : Nat} (ha : a ≤ m) (hb : b ≤ m) : nD a b ≤ m := by unfold nD; split <;> omega
theorem sA_le {P : zP} (hP : PI P) {i : Nat} (hi : i < 8) : sA P i ≤ 63 := by
  unfold sA
  obtain ⟨_, _, _, h, _, _⟩ := hP
  split
  · omega
  · have := (h i hi)
    exact nD_le this.2.2.2.1 (h (P 2 i - 1) (by omega)).2.2.2.1
theorem R_apart {b : Nat} {σ : zS} {P : zP} (h : VC b σ P) (hP : PI P) {i : Nat} (hi : i < 8) : fR_apart b (nI i) σ = some (nI (sA P i)) := by
  have hi1 := hP.2.2.2.1 i hi
  unfold fR_apart sA
  have e2 := h.1 2 i (by omega) hi
  have e3 := h.1 3 i (by omega) hi
  rw [pw_2] at e2
  rw [pw_3] at e3
  simp (disch := omega) only [zlt_eq, zgd_T, zin_T, zb2_s, zbd_s, n_cl, n_sub1, n_predm, n_sc, if_nle, if_nle0, if_nle1, if_le, if_true, if_false, e2]
  by_cases h0 : P 2 i = 0
  · rw [if_pos h0, h0, if_pos (by decide)]
    rfl
  · have hj := hP.2.2.2.1 (P 2 i - 1) (by omega)
    have e3' := h.1 3 (P 2 i - 1) (by omega) (by omega)
    rw [pw_3] at e3'
    rw [if_neg h0, nO_pos h0]
    have hlt : ¬ (nI (P 2 i - 1) < 0) := by rw [l0, n_lt (by omega) (by omega)]; omega
    rw [if_neg hlt]
    simp (disch := omega) only [zlt_eq, zgd_T, zin_T, zb2_s, zbd_s, n_cl, n_sub1, n_predm, n_sc, if_nle, if_nle0, if_nle1, if_le, if_true, if_false, e3, e3']
    rw [fJ_abs_n (by omega) (by omega), zbd_s]
theorem M_apart {σ : zS} {P : zP} (h : VM σ P) (hP : PI P) {i : Nat} (hi : i < 8) : fM_apartOf (nI i) σ = some (nI (sA P i)) := by
  have hi1 := hP.2.2.2.1 i hi
  unfold fM_apartOf fM_isTied sA
  have e2 : fM_its (nI i) 2 σ = some (nO (P 2 i)) := M_its h 2 (by omega) hi
  have e3 : fM_its (nI i) 3 σ = some (nI (P 3 i)) := M_its h 3 (by omega) hi
  rw [e2, zbd_s]
  by_cases h0 : P 2 i = 0
  · rw [if_pos h0, h0, if_pos (by decide), zbd_s, if_pos rfl]
    rfl
  · have hj := hP.2.2.2.1 (P 2 i - 1) (by omega)
    have e3' : fM_its (nI (P 2 i - 1)) 3 σ = some (nI (P 3 (P 2 i - 1))) := M_its h 3 (by omega) (by omega)
    rw [if_neg h0, nO_pos h0]
    have hlt : ¬ (nI (P 2 i - 1) < 0) := by rw [l0, n_lt (by omega) (by omega)]; omega
    rw [if_neg hlt, zbd_s, if_neg (by decide), e3, zbd_s, zbd_s, e3', zbd_s, fM_off_n (by omega) (by omega), zbd_s]
