/-! Pure mathematics: the texts worked out. -/
theorem if_nle {α : Type} {a b : Nat} {x y : α} (h : b < a) (ha : a < 2147483648) : (if nI a ≤ nI b then x else y) = y := if_neg (fun q => absurd ((nI_leI ha (by omega)).mp q) (by omega))
theorem if_nle0 {α : Type} {a : Nat} {x y : α} (h : 0 < a) (ha : a < 2147483648) : (if nI a ≤ 0 then x else y) = y := if_nle h ha
theorem if_nle1 {α : Type} {a : Nat} {x y : α} (h : 1 < a) (ha : a < 2147483648) : (if nI a ≤ 1 then x else y) = y := if_nle h ha
theorem if_le {α : Type} {a b : Nat} {x y : α} (h : a ≤ b) (hb : b < 2147483648) : (if nI a ≤ nI b then x else y) = x := if_pos ((nI_leI (by omega) hb).mpr h)
theorem n_sub1 {a : Nat} (h : 1 ≤ a) : nI a - 1 = nI (a - 1) := n_sub h
theorem n_predm {a : Nat} (h : 1 ≤ a) : nI a + (-1) = nI (a - 1) := n_pred h
theorem n_sc (a : Nat) : nI a + 1 = nI (a + 1) := n_add a 1
theorem st_up {σ : zS} {c b d j : Nat} {S : Nat → Int32} {v : Int32} (h : ∀ k, k < d → σ c b k = S k) : ∀ k, (k < d ∨ k = j) → zup σ c b j v c b k = su S j v k := by
  intro k hk
  unfold su
  by_cases q : k = j
  · subst q
    rw [zup_s, if_pos rfl]
  · rw [zup_k q, if_neg q]
    exact h k (by omega)
theorem L_gives_L {N b : Nat} {T : Nat → Int32} {M : Nat} {a b' c : Int32} (hM : M ≤ 60) : ∀ (n p d fuel : Nat) (σ : zS) (S : Nat → Int32), n + p = M → d ≤ p → n < fuel → (∀ k, k < d → σ 11 b k = S k) → σ 0 b 1 = nI M → (∀ k, k < M → σ 10 b k = T k) → (0 < M → wT T n p d) → ∃ σ', fL_gives_L6 N b fuel a b' c (nI d) (nI p) σ = fL_gives_J191 N b a σ' ∧ (0 < M → σ' 11 b 0 = eT T a b' c n p d S) ∧ (∀ c i k, c ≠ 11 → σ' c i k = σ c i k)
  | 0, p, d, 0, σ, S, hn, hd, hf, hS, hm, hT, hw => absurd hf (by omega)
  | n + 1, p, d, 0, σ, S, hn, hd, hf, hS, hm, hT, hw => absurd hf (by omega)
  | 0, p, d, f + 1, σ, S, hn, hd, hf, hS, hm, hT, hw => by
    refine ⟨σ, ?_, ?_, fun _ _ _ _ => rfl⟩
    · rw [fL_gives_L6, hm, if_pos ((nI_leI (by omega) (by omega)).mpr (by omega))]
    · intro h0
      have := hw h0
      unfold wT at this
      unfold eT
      exact hS 0 this
  | n + 1, p, d, f + 1, σ, S, hn, hd, hf, hS, hm, hT, hw => by
    have hw := hw (by omega)
    have hTp := hT p (by omega)
    rw [fL_gives_L6, hm, if_neg (fun q => absurd ((nI_leI (by omega) (by omega)).mp q) (by omega)), l60, if_neg (fun q => absurd ((nI_leI (by omega) (by omega)).mp q) (by omega)), zgd_t (zin_n (by omega) (by omega)), zlt_eq, n_cl (by omega), hTp]
    unfold wT at hw
    unfold eT
    have hp1 : nI p + 1 = nI (p + 1) := n_add p 1
    have hd1 : nI d + 1 = nI (d + 1) := n_add d 1
    by_cases h1 : 10000 ≤ T p
    · rw [if_pos h1] at hw ⊢
      rw [if_pos h1]
      by_cases h2 : 20000 ≤ T p
      · rw [if_pos h2] at hw ⊢
        rw [if_pos h2]
        by_cases h3 : T p = 20033
        · rw [if_pos h3] at hw ⊢
          rw [if_pos h3]
          simp (disch := omega) only [zlt_eq, zgd_T, zin_T, zb2_s, zbd_s, n_cl, n_sub1, n_predm, n_sc, if_nle, if_nle0, if_nle1, if_le, if_true, if_false, fL_gives_J138, hS (d - 1) (by omega)]
          have hif : (if S (d - 1) = 0 then fL_gives_L6 N b f a b' c (nI d) (nI (p + 1)) (zup σ 11 b (d - 1) 1) else fL_gives_L6 N b f a b' c (nI d) (nI (p + 1)) (zup σ 11 b (d - 1) 0)) = fL_gives_L6 N b f a b' c (nI d) (nI (p + 1)) (zup σ 11 b (d - 1) (if S (d - 1) = 0 then 1 else 0)) := by
            split <;> rfl
          rw [hif]
          obtain ⟨σ', e1, e2, e3⟩ := L_gives_L (N := N) (b := b) (a := a) (b' := b') (c := c) hM n (p + 1) d f (zup σ 11 b (d - 1) (if S (d - 1) = 0 then 1 else 0)) (su S (d - 1) (if S (d - 1) = 0 then 1 else 0)) (by omega) (by omega) (by omega) (fun k hk => st_up hS k (by omega)) (by rw [zup_o (by omega)]; exact hm) (fun k hk => by rw [zup_o (by omega)]; exact hT k hk) (fun _ => hw.2)
          exact ⟨σ', e1, e2, fun c i k hc => by rw [e3 c i k hc, zup_o hc]⟩
        · rw [if_neg h3] at hw ⊢
          rw [if_neg h3]
          have hdd : d - 1 - 1 = d - 2 := by omega
          simp (disch := omega) only [zlt_eq, zgd_T, zin_T, zb2_s, zbd_s, n_cl, n_sub1, n_predm, n_sc, if_nle, if_nle0, if_nle1, if_le, if_true, if_false, hS (d - 1) (by omega), hS (d - 2) (by omega), L_joined, hdd]
          obtain ⟨σ', e1, e2, e3⟩ := L_gives_L (N := N) (b := b) (a := a) (b' := b') (c := c) hM n (p + 1) (d - 1) f (zup σ 11 b (d - 2) (jn (T p - 20000) (S (d - 2)) (S (d - 1)))) (su S (d - 2) (jn (T p - 20000) (S (d - 2)) (S (d - 1)))) (by omega) (by omega) (by omega) (fun k hk => st_up hS k (by omega)) (by rw [zup_o (by omega)]; exact hm) (fun k hk => by rw [zup_o (by omega)]; exact hT k hk) (fun _ => hw.2.2)
          exact ⟨σ', e1, e2, fun c i k hc => by rw [e3 c i k hc, zup_o hc]⟩
      · rw [if_neg h2] at hw ⊢
        rw [if_neg h2]
        simp (disch := omega) only [zlt_eq, zgd_T, zin_T, zb2_s, zbd_s, n_cl, n_sub1, n_predm, n_sc, if_nle, if_nle0, if_nle1, if_le, if_true, if_false, fL_gives_J93]
        have hif : (if T p = 10000 then fL_gives_L6 N b f a b' c (nI (d + 1)) (nI (p + 1)) (zup σ 11 b d a) else if T p = 10001 then fL_gives_L6 N b f a b' c (nI (d + 1)) (nI (p + 1)) (zup σ 11 b d b') else fL_gives_L6 N b f a b' c (nI (d + 1)) (nI (p + 1)) (zup σ 11 b d c)) = fL_gives_L6 N b f a b' c (nI (d + 1)) (nI (p + 1)) (zup σ 11 b d (if T p = 10000 then a else if T p = 10001 then b' else c)) := by
          split
          · rfl
          · split <;> rfl
        rw [hif]
        obtain ⟨σ', e1, e2, e3⟩ := L_gives_L (N := N) (b := b) (a := a) (b' := b') (c := c) hM n (p + 1) (d + 1) f (zup σ 11 b d (if T p = 10000 then a else if T p = 10001 then b' else c)) (su S d (if T p = 10000 then a else if T p = 10001 then b' else c)) (by omega) (by omega) (by omega) (fun k hk => st_up hS k (by omega)) (by rw [zup_o (by omega)]; exact hm) (fun k hk => by rw [zup_o (by omega)]; exact hT k hk) (fun _ => hw.2)
        exact ⟨σ', e1, e2, fun c i k hc => by rw [e3 c i k hc, zup_o hc]⟩
    · rw [if_neg h1] at hw ⊢
      rw [if_neg h1]
      rw [zgd_t (zin_n (by omega) (by omega)), zlt_eq, n_cl (by omega), hp1, hd1]
      obtain ⟨σ', e1, e2, e3⟩ := L_gives_L (N := N) (b := b) (a := a) (b' := b') (c := c) hM n (p + 1) (d + 1) f (zup σ 11 b d (T p)) (su S d (T p)) (by omega) (by omega) (by omega) (fun k hk => st_up hS k (by omega)) (by rw [zup_o (by omega)]; exact hm) (fun k hk => by rw [zup_o (by omega)]; exact hT k hk) (fun _ => hw)
      exact ⟨σ', e1, e2, fun c i k hc => by rw [e3 c i k hc, zup_o hc]⟩
/-- the class's texts -/
def TC (b : Nat) (σ : zS) (T : Nat → Nat → Int32) (M : Nat → Nat) : Prop := ∀ u, u < 2 → σ 0 (b + u) 1 = nI (M u) ∧ σ 0 (b + u) 2 = nI u ∧ ∀ k, k < M u → σ 10 (b + u) k = T u k
/-- both texts can be worked out -/
def WT (T : Nat → Nat → Int32) (M : Nat → Nat) : Prop := ∀ u, u < 2 → M u ≤ 60 ∧ (0 < M u → wT (T u) (M u) 0 0)
/-- what text u gives -/
def sG (T : Nat → Nat → Int32) (M : Nat → Nat) (u : Nat) (a b c : Int32) : Nat := fE u (if M u = 0 then a else eT (T u) a b c (M u) 0 0 (fun _ => 0))
theorem sG_le (T : Nat → Nat → Int32) (M : Nat → Nat) (u : Nat) (a b c : Int32) : sG T M u a b c ≤ 9 := fE_le _ _
theorem L_gives {N b : Nat} {σ : zS} {T : Nat → Nat → Int32} {M : Nat → Nat} (h : TC b σ T M) (hW : WT T M) (hN : 61 ≤ N) {u : Nat} {x y z : Int32} (hu : u < 2) : ∃ σ', fL_gives N (b + u) x y z σ = some (nI (sG T M u x y z), σ') ∧ (∀ c i k, c ≠ 11 → σ' c i k = σ c i k) := by
  obtain ⟨h1, h2, h3⟩ := h u hu
  obtain ⟨hM, hw⟩ := hW u hu
  obtain ⟨σ', e1, e2, e3⟩ := L_gives_L (N := N) (b := b + u) (T := T u) (M := M u) (a := x) (b' := y) (c := z) hM (M u) 0 0 N σ (fun _ => 0) (by omega) (by omega) (by omega) (fun k hk => absurd hk (by omega)) h1 h3 hw
  refine ⟨σ', ?_, e3⟩
  unfold fL_gives
  refine e1.trans ?_
  unfold fL_gives_J191
  rw [e3 0 (b + u) 1 (by omega), h1]
  unfold sG
  have hJ : ∀ v, fL_gives_J208 N (b + u) v σ' = some (nI (fE u v), σ') := by
    intro v
    unfold fL_gives_J208
    rw [e3 0 (b + u) 2 (by omega), h2]
    by_cases hu0 : u = 0
    · rw [if_pos (by rw [hu0]; rfl), fJ_floorMod_4, zbd_s, hu0]
    · have hu1 : u = 1 := by omega
      subst hu1
      rw [if_neg (by decide)]
      have hmm := fJ_mm v
      cases hq : fJ_min 9 v with
      | none => rw [hq] at hmm; cases hmm
      | some w =>
        rw [hq, zbd_s] at hmm
        rw [zbd_s, hmm, zbd_s]
  by_cases h0 : M u = 0
  · rw [if_pos h0, h0, if_pos (by decide), hJ]
  · rw [if_neg h0, if_nle0 (by omega) (by omega), e2 (by omega), hJ]
/-- the reference's texts -/
def wh (v : Int32) : Int32 := if 10000 ≤ v then (if 20000 ≤ v then (if v = 20033 then 2 else 3) else 1) else 0
def nm (u j : Nat) : Nat := if j = 2 then 100 else if u = 0 then (if j = 0 then 121 else 115) else (if j = 0 then 115 else 111)
theorem nm_lt (u j : Nat) : nm u j < 128 := by
  unfold nm
  split
  · omega
  · split <;> split <;> omega
def vl (u : Nat) (v : Int32) : Int32 := if 10000 ≤ v then (if 20000 ≤ v then v - 20000 else (if v = 10000 then nI (nm u 0) else if v = 10001 then nI (nm u 1) else nI 100)) else v
theorem M_worked_L {N u : Nat} {T : Nat → Int32} {M : Nat} {a b' c : Int32} (hu : u < 2) (hM : M ≤ 60) : ∀ (n p d fuel : Nat) (σ : zS) (S : Nat → Int32), n + p = M → d ≤ p → n < fuel → (∀ k, k < d → σ 37 0 k = S k) → σ 30 0 (60 + 125 * u) = nI M → (∀ k, k < M → σ 30 0 (60 + 125 * u + 1 + 2 * k) = wh (T k) ∧ (T k ≠ 20033 → σ 30 0 (60 + 125 * u + 2 + 2 * k) = vl u (T k))) → σ 36 0 (nm u 0) = a → σ 36 0 (nm u 1) = b' → σ 36 0 100 = c → wT T n p d → ∃ σ', fM_worked_L13 N fuel (nI (60 + 125 * u)) (nI d) (nI p) σ = some (eT T a b' c n p d S, σ') ∧ (∀ c i k, c ≠ 37 → σ' c i k = σ c i k)
  | 0, p, d, 0, σ, S, hn, hd, hf, hS, hm, hT, ha, hb, hc, hw => absurd hf (by omega)
  | n + 1, p, d, 0, σ, S, hn, hd, hf, hS, hm, hT, ha, hb, hc, hw => absurd hf (by omega)
  | 0, p, d, f + 1, σ, S, hn, hd, hf, hS, hm, hT, ha, hb, hc, hw => by
    refine ⟨σ, ?_, fun _ _ _ _ => rfl⟩
    unfold wT at hw
    unfold eT
    rw [fM_worked_L13]
    simp (disch := omega) only [zlt_eq, zgd_T, zin_T, zb2_s, zbd_s, n_cl, n_sub1, n_predm, n_sc, if_nle, if_nle0, if_nle1, if_le, if_true, if_false, hm]
    rw [hS 0 hw]
  | n + 1, p, d, f + 1, σ, S, hn, hd, hf, hS, hm, hT, ha, hb, hc, hw => by
    obtain ⟨hT1, hT2⟩ := hT p (by omega)
    have hq1 : nI (60 + 125 * u) + 1 + 2 * nI p = nI (60 + 125 * u + 1 + 2 * p) := by rw [l1, l2, n_mul, n_add, n_add]
    have hq2 : nI (60 + 125 * u) + 2 + 2 * nI p = nI (60 + 125 * u + 2 + 2 * p) := by rw [l2, n_mul, n_add, n_add]
    have go : ∀ (d' k : Nat) (v : Int32), (d' ≤ p + 1) → (∀ j, j < d' → j < d ∨ j = k) → wT T n (p + 1) d' → ∃ σ', fM_worked_L13 N f (nI (60 + 125 * u)) (nI d') (nI (p + 1)) (zup σ 37 0 k v) = some (eT T a b' c n (p + 1) d' (su S k v), σ') ∧ (∀ c i k, c ≠ 37 → σ' c i k = σ c i k) := by
      intro d' k v h1 h2 h3
      obtain ⟨σ', e1, e2⟩ := M_worked_L (N := N) (u := u) (T := T) (M := M) (a := a) (b' := b') (c := c) hu hM n (p + 1) d' f (zup σ 37 0 k v) (su S k v) (by omega) h1 (by omega) (fun j hj => st_up hS j (h2 j hj)) (by rw [zup_o (by omega)]; exact hm) (fun k hk => by rw [zup_o (by omega), zup_o (by omega)]; exact hT k hk) (by rw [zup_o (by omega)]; exact ha) (by rw [zup_o (by omega)]; exact hb) (by rw [zup_o (by omega)]; exact hc) h3
      exact ⟨σ', e1, fun c i k hc => by rw [e2 c i k hc, zup_o hc]⟩
    rw [fM_worked_L13]
    simp only [hq1, hq2]
    simp (disch := omega) only [zlt_eq, zgd_T, zin_T, zb2_s, zbd_s, n_cl, n_sub1, n_predm, n_sc, if_nle, if_nle0, if_nle1, if_le, if_true, if_false, hm, hT1]
    unfold wT at hw
    unfold eT
    unfold wh
    by_cases h1 : 10000 ≤ T p
    · rw [if_pos h1] at hw
      rw [if_pos h1, if_pos h1]
      by_cases h2 : 20000 ≤ T p
      · rw [if_pos h2] at hw
        rw [if_pos h2, if_pos h2]
        by_cases h3 : T p = 20033
        · rw [if_pos h3] at hw
          rw [if_pos h3, if_pos h3, if_neg (by decide), if_neg (by decide), if_pos rfl]
          simp (disch := omega) only [zlt_eq, zgd_T, zin_T, zb2_s, zbd_s, n_cl, n_sub1, n_predm, n_sc, if_nle, if_nle0, if_nle1, if_le, if_true, if_false, fM_worked_J123, hS (d - 1) (by omega)]
          have hg := fun v => go d (d - 1) v (by omega) (fun j hj => by omega) hw.2
          by_cases h4 : S (d - 1) = 0
          · rw [if_pos h4, if_pos h4]
            exact hg 1
          · rw [if_neg h4, if_neg h4]
            exact hg 0
        · rw [if_neg h3] at hw
          rw [if_neg h3, if_neg h3, if_neg (by decide), if_neg (by decide), if_neg (by decide)]
          have hvl : vl u (T p) = T p - 20000 := by unfold vl; rw [if_pos h1, if_pos h2]
          have hdd : d - 1 - 1 = d - 2 := by omega
          simp (disch := omega) only [zlt_eq, zgd_T, zin_T, zb2_s, zbd_s, n_cl, n_sub1, n_predm, n_sc, if_nle, if_nle0, if_nle1, if_le, if_true, if_false, hS (d - 1) (by omega), hS (d - 2) (by omega), hT2 h3, hvl, M_joined hw.2.1, hdd]
          exact go (d - 1) (d - 2) _ (by omega) (fun j hj => by omega) hw.2.2
      · rw [if_neg h2] at hw
        rw [if_neg h2, if_neg h2, if_neg (by decide), if_pos rfl]
        have hvl := hT2 (fun q => h2 (by rw [q]; decide))
        unfold vl at hvl
        rw [if_pos h1, if_neg h2] at hvl
        rw [hvl]
        unfold fM_worked_J65 fM_worked_J87
        rw [if_neg (by decide)]
        have hg := fun v => go (d + 1) d v (by omega) (fun j hj => by omega) hw.2
        by_cases h3 : T p = 10000
        · rw [if_pos h3, if_pos h3]
          have hnm : nm u 0 < 128 := nm_lt _ _
          simp (disch := omega) only [zlt_eq, zgd_T, zin_T, zb2_s, zbd_s, n_cl, n_sub1, n_predm, n_sc, if_nle, if_nle0, if_nle1, if_le, if_true, if_false, ha]
          exact hg a
        · rw [if_neg h3, if_neg h3]
          by_cases h4 : T p = 10001
          · rw [if_pos h4, if_pos h4]
            have hnm : nm u 1 < 128 := nm_lt _ _
            simp (disch := omega) only [zlt_eq, zgd_T, zin_T, zb2_s, zbd_s, n_cl, n_sub1, n_predm, n_sc, if_nle, if_nle0, if_nle1, if_le, if_true, if_false, hb]
            exact hg b'
          · rw [if_neg h4, if_neg h4]
            simp (disch := omega) only [zlt_eq, zgd_T, zin_T, zb2_s, zbd_s, n_cl, n_sub1, n_predm, n_sc, if_nle, if_nle0, if_nle1, if_le, if_true, if_false, hc]
            exact hg c
    · rw [if_neg h1] at hw
      rw [if_neg h1, if_neg h1, if_pos rfl]
      have hvl := hT2 (fun q => h1 (by rw [q]; decide))
      unfold vl at hvl
      rw [if_neg h1] at hvl
      rw [hvl]
      unfold fM_worked_J65 fM_worked_J87
      rw [if_pos rfl]
      simp (disch := omega) only [zlt_eq, zgd_T, zin_T, zb2_s, zbd_s, n_cl, n_sub1, n_predm, n_sc, if_nle, if_nle0, if_nle1, if_le, if_true, if_false]
      exact go (d + 1) d _ (by omega) (fun j hj => by omega) hw
def TM (σ : zS) (T : Nat → Nat → Int32) (M : Nat → Nat) : Prop := ∀ u, u < 2 → σ 30 0 (60 + 125 * u) = nI (M u) ∧ ∀ k, k < M u → σ 30 0 (60 + 125 * u + 1 + 2 * k) = wh (T u k) ∧ (T u k ≠ 20033 → σ 30 0 (60 + 125 * u + 2 + 2 * k) = vl u (T u k))
theorem M_hasText {σ : zS} {u m : Nat} (hu : u < 2) (hm : m ≤ 60) (h : σ 30 0 (60 + 125 * u) = nI m) : fM_hasText (nI u) σ = some (if m = 0 then 0 else 1) := by
  unfold fM_hasText
  have hq : 60 + 125 * nI u = nI (60 + 125 * u) := by rw [l60, l125, n_mul, n_add]
  simp only [hq]
  simp (disch := omega) only [zlt_eq, zgd_T, zin_T, zb2_s, zbd_s, n_cl, n_sub1, n_predm, n_sc, if_nle, if_nle0, if_nle1, if_le, if_true, if_false, h]
  by_cases h0 : m = 0
  · rw [if_pos h0, h0, if_pos (by decide)]
  · rw [if_neg h0, if_nle0 (by omega) (by omega)]
theorem M_givenBy {N : Nat} {σ : zS} {T : Nat → Nat → Int32} {M : Nat → Nat} (h : TM σ T M) (hW : WT T M) (hN : 61 ≤ N) {u : Nat} {x y z : Int32} (hu : u < 2) : ∃ σ', fM_givenBy N (nI u) x y z σ = some (nI (sG T M u x y z), σ') ∧ (∀ c i k, c ≠ 36 → c ≠ 37 → σ' c i k = σ c i k) := by
  obtain ⟨hM, hw⟩ := hW u hu
  have key : ∃ σ', fM_givenBy_J32 N (nI u) x y z (nI (nm u 1)) (zup σ 36 0 (nm u 0) x) = some (nI (sG T M u x y z), σ') ∧ (∀ c i k, c ≠ 36 → c ≠ 37 → σ' c i k = σ c i k) := by
    have hn0 := nm_lt u 0
    have hn1 := nm_lt u 1
    unfold fM_givenBy_J32
    simp (disch := omega) only [zlt_eq, zgd_T, zin_T, zb2_s, zbd_s, n_cl, n_sub1, n_predm, n_sc, if_nle, if_nle0, if_nle1, if_le, if_true, if_false]
    have hr0 : ∀ c i k, c ≠ 36 → (zup (zup (zup σ 36 0 (nm u 0) x) 36 0 (nm u 1) y) 36 0 100 z) c i k = σ c i k := by
      intro c i k hc
      rw [zup_o hc, zup_o hc, zup_o hc]
    have ha : (zup (zup (zup σ 36 0 (nm u 0) x) 36 0 (nm u 1) y) 36 0 100 z) 36 0 (nm u 0) = x := by
      rcases (show u = 0 ∨ u = 1 by omega) with q | q <;> subst q <;> rfl
    have hb : (zup (zup (zup σ 36 0 (nm u 0) x) 36 0 (nm u 1) y) 36 0 100 z) 36 0 (nm u 1) = y := by
      rcases (show u = 0 ∨ u = 1 by omega) with q | q <;> subst q <;> rfl
    have hc : (zup (zup (zup σ 36 0 (nm u 0) x) 36 0 (nm u 1) y) 36 0 100 z) 36 0 100 = z := zup_s
    generalize (zup (zup (zup σ 36 0 (nm u 0) x) 36 0 (nm u 1) y) 36 0 100 z) = s at hr0 ha hb hc ⊢
    have hJ : ∀ v s', fM_givenBy_J60 N (nI u) v s' = some (nI (fE u v), s') := by
      intro v s'
      unfold fM_givenBy_J60
      rcases (show u = 0 ∨ u = 1 by omega) with q | q <;> subst q
      · rw [if_pos (show nI 0 = 0 from rfl), fM_restOf_eq, fJ_floorMod_4, zbd_s]
      · rw [if_neg (by decide), fM_held_9, zbd_s]
    rw [M_hasText hu hM (by rw [hr0 _ _ _ (by omega)]; exact (h u hu).1), zbd_s]
    unfold sG
    by_cases h0 : M u = 0
    · rw [if_pos h0, if_pos h0, if_pos rfl, hJ]
      exact ⟨s, rfl, fun c i k h1 _ => hr0 c i k h1⟩
    · rw [if_neg h0, if_neg h0, if_neg (by decide)]
      obtain ⟨σ', e1, e2⟩ := M_worked_L (N := N) (u := u) (T := T u) (M := M u) (a := x) (b' := y) (c := z) hu hM (M u) 0 0 N s (fun _ => 0) (by omega) (by omega) (by omega) (fun k hk => absurd hk (by omega)) (by rw [hr0 _ _ _ (by omega)]; exact (h u hu).1) (fun k hk => by rw [hr0 _ _ _ (by omega), hr0 _ _ _ (by omega)]; exact (h u hu).2 k hk) ha hb hc (hw (by omega))
      have hwk : fM_worked N (nI u) s = some (eT (T u) x y z (M u) 0 0 (fun _ => 0), σ') := by
        unfold fM_worked zlt
        dsimp only
        have hq : 60 + 125 * nI u = nI (60 + 125 * u) := by rw [l60, l125, n_mul, n_add]
        rw [hq]
        exact e1
      rw [hwk, zb2_s, hJ]
      exact ⟨σ', rfl, fun c i k h1 h2 => by rw [e2 c i k h2, hr0 c i k h1]⟩
  unfold fM_givenBy
  rcases (show u = 0 ∨ u = 1 by omega) with q | q <;> subst q
  · rw [if_pos (show nI 0 = 0 from rfl)]
    exact key
  · rw [if_neg (by decide)]
    exact key
