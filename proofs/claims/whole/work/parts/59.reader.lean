/-! Pure mathematics: reading texts: the class's reader, the reference's reader. -/
def rk (x : Int32) : Nat := if x = 37 then 5 else if x = 38 then 2 else if x = 42 then 5 else if x = 43 then 4 else if x = 45 then 4 else if x = 47 then 5 else if x = 60 then 3 else if x = 61 then 3 else if x = 62 then 3 else if x = 124 then 1 else 0
theorem D_rank (x : Int32) : fD_rank x = some (nI (rk x)) := by
  unfold fD_rank rk
  by_cases h0 : x = 37
  · rw [if_pos h0, if_pos h0]
    rfl
  rw [if_neg h0, if_neg h0]
  by_cases h1 : x = 38
  · rw [if_pos h1, if_pos h1]
    rfl
  rw [if_neg h1, if_neg h1]
  by_cases h2 : x = 42
  · rw [if_pos h2, if_pos h2]
    rfl
  rw [if_neg h2, if_neg h2]
  by_cases h3 : x = 43
  · rw [if_pos h3, if_pos h3]
    rfl
  rw [if_neg h3, if_neg h3]
  by_cases h4 : x = 45
  · rw [if_pos h4, if_pos h4]
    rfl
  rw [if_neg h4, if_neg h4]
  by_cases h5 : x = 47
  · rw [if_pos h5, if_pos h5]
    rfl
  rw [if_neg h5, if_neg h5]
  by_cases h6 : x = 60
  · rw [if_pos h6, if_pos h6]
    rfl
  rw [if_neg h6, if_neg h6]
  by_cases h7 : x = 61
  · rw [if_pos h7, if_pos h7]
    rfl
  rw [if_neg h7, if_neg h7]
  by_cases h8 : x = 62
  · rw [if_pos h8, if_pos h8]
    rfl
  rw [if_neg h8, if_neg h8]
  by_cases h9 : x = 124
  · rw [if_pos h9, if_pos h9]
    rfl
  rw [if_neg h9, if_neg h9]
  rfl
theorem rk_ten {x : Int32} (h : rk x ≠ 0) : ten x := by
  unfold ten
  unfold rk at h
  by_cases h0 : x = 37
  · exact Or.inl h0
  rw [if_neg h0] at h
  by_cases h1 : x = 38
  · exact Or.inr (Or.inl h1)
  rw [if_neg h1] at h
  by_cases h2 : x = 42
  · exact Or.inr (Or.inr (Or.inl h2))
  rw [if_neg h2] at h
  by_cases h3 : x = 43
  · exact Or.inr (Or.inr (Or.inr (Or.inl h3)))
  rw [if_neg h3] at h
  by_cases h4 : x = 45
  · exact Or.inr (Or.inr (Or.inr (Or.inr (Or.inl h4))))
  rw [if_neg h4] at h
  by_cases h5 : x = 47
  · exact Or.inr (Or.inr (Or.inr (Or.inr (Or.inr (Or.inl h5)))))
  rw [if_neg h5] at h
  by_cases h6 : x = 60
  · exact Or.inr (Or.inr (Or.inr (Or.inr (Or.inr (Or.inr (Or.inl h6))))))
  rw [if_neg h6] at h
  by_cases h7 : x = 61
  · exact Or.inr (Or.inr (Or.inr (Or.inr (Or.inr (Or.inr (Or.inr (Or.inl h7)))))))
  rw [if_neg h7] at h
  by_cases h8 : x = 62
  · exact Or.inr (Or.inr (Or.inr (Or.inr (Or.inr (Or.inr (Or.inr (Or.inr (Or.inl h8))))))))
  rw [if_neg h8] at h
  by_cases h9 : x = 124
  · exact Or.inr (Or.inr (Or.inr (Or.inr (Or.inr (Or.inr (Or.inr (Or.inr (Or.inr (h9)))))))))
  rw [if_neg h9] at h
  exact absurd rfl h
theorem rk_s {P : Int32 → Prop} (h37 : P 37) (h38 : P 38) (h42 : P 42) (h43 : P 43) (h45 : P 45) (h47 : P 47) (h60 : P 60) (h61 : P 61) (h62 : P 62) (h124 : P 124) {x : Int32} (h : rk x ≠ 0) : P x := by
  rcases rk_ten h with q | q | q | q | q | q | q | q | q | q <;> subst q <;> assumption
theorem rk_le (x : Int32) : rk x ≤ 5 := by
  by_cases h : rk x = 0
  · omega
  · exact rk_s (P := fun x => rk x ≤ 5) (by decide) (by decide) (by decide) (by decide) (by decide) (by decide) (by decide) (by decide) (by decide) (by decide) h
theorem rk_1 {x : Int32} : rk x = 1 ↔ x = 124 := ⟨fun h => rk_s (P := fun x => rk x = 1 → x = 124) (by decide) (by decide) (by decide) (by decide) (by decide) (by decide) (by decide) (by decide) (by decide) (by decide) (by omega) h, fun h => by rw [h]; decide⟩
theorem rk_2 {x : Int32} : rk x = 2 ↔ x = 38 := ⟨fun h => rk_s (P := fun x => rk x = 2 → x = 38) (by decide) (by decide) (by decide) (by decide) (by decide) (by decide) (by decide) (by decide) (by decide) (by decide) (by omega) h, fun h => by rw [h]; decide⟩
theorem rk_3 {x : Int32} : rk x = 3 ↔ (x = 60 ∨ x = 61 ∨ x = 62) := ⟨fun h => rk_s (P := fun x => rk x = 3 → (x = 60 ∨ x = 61 ∨ x = 62)) (by decide) (by decide) (by decide) (by decide) (by decide) (by decide) (by decide) (by decide) (by decide) (by decide) (by omega) h, fun h => by rcases h with h | h | h <;> rw [h] <;> decide⟩
theorem rk_4 {x : Int32} : rk x = 4 ↔ (x = 43 ∨ x = 45) := ⟨fun h => rk_s (P := fun x => rk x = 4 → (x = 43 ∨ x = 45)) (by decide) (by decide) (by decide) (by decide) (by decide) (by decide) (by decide) (by decide) (by decide) (by decide) (by omega) h, fun h => by rcases h with h | h <;> rw [h] <;> decide⟩
theorem rk_5 {x : Int32} : rk x = 5 ↔ (x = 42 ∨ x = 47 ∨ x = 37) := ⟨fun h => rk_s (P := fun x => rk x = 5 → (x = 42 ∨ x = 47 ∨ x = 37)) (by decide) (by decide) (by decide) (by decide) (by decide) (by decide) (by decide) (by decide) (by decide) (by decide) (by omega) h, fun h => by rcases h with h | h | h <;> rw [h] <;> decide⟩
theorem rk_33 {x : Int32} (h : rk x ≠ 0) : x ≠ 33 := rk_s (P := fun x => x ≠ 33) (by decide) (by decide) (by decide) (by decide) (by decide) (by decide) (by decide) (by decide) (by decide) (by decide) h
theorem rk_41 {x : Int32} (h : rk x ≠ 0) : x ≠ 41 := rk_s (P := fun x => x ≠ 41) (by decide) (by decide) (by decide) (by decide) (by decide) (by decide) (by decide) (by decide) (by decide) (by decide) h
/-- a sign as a part of a text -/
theorem rk_part {x : Int32} (u : Nat) (h : rk x ≠ 0) : (10000 : Int32) ≤ 20000 + x ∧ (20000 : Int32) ≤ 20000 + x ∧ 20000 + x ≠ 20033 ∧ 20000 + x - 20000 = x ∧ wh (20000 + x) = 3 ∧ vl u (20000 + x) = x := by
  have k : (10000 : Int32) ≤ 20000 + x ∧ (20000 : Int32) ≤ 20000 + x ∧ 20000 + x ≠ 20033 ∧ 20000 + x - 20000 = x := rk_s (P := fun x => (10000 : Int32) ≤ 20000 + x ∧ (20000 : Int32) ≤ 20000 + x ∧ 20000 + x ≠ 20033 ∧ 20000 + x - 20000 = x) (by decide) (by decide) (by decide) (by decide) (by decide) (by decide) (by decide) (by decide) (by decide) (by decide) h
  obtain ⟨k1, k2, k3, k4⟩ := k
  refine ⟨k1, k2, k3, k4, ?_, ?_⟩
  · unfold wh
    rw [if_pos k1, if_pos k2, if_neg k3]
  · unfold vl
    rw [if_pos k1, if_pos k2, k4]
/-- a list lies in a row, its latest ahead -/
def ST (T : Nat → Int32) : List Int32 → Prop
  | [] => True
  | x :: l => T l.length = x ∧ ST T l
theorem ST_e {T T' : Nat → Int32} : ∀ l, ST T l → (∀ k, k < l.length → T' k = T k) → ST T' l
  | [], _, _ => trivial
  | x :: l, h, e => ⟨(e _ (by rw [List.length_cons]; omega)).trans h.1, ST_e l h.2 (fun k hk => e k (by rw [List.length_cons]; omega))⟩
/-- how many values a text leaves -/
def dz : List Int32 → Nat → Prop
  | [], d => d = 0
  | x :: l, d => 1 ≤ d ∧ if 10000 ≤ x then (if 20000 ≤ x then (if x = 20033 then dz l d else (ten (x - 20000) ∧ dz l (d + 1))) else ((x = 10000 ∨ x = 10001 ∨ x = 10002) ∧ dz l (d - 1))) else dz l (d - 1)
theorem dz_wT {T : Nat → Int32} : ∀ l n d, ST T l → dz l d → wT T n l.length d → wT T (n + l.length) 0 0
  | [], n, d, h, hd, hw => by
    have : d = 0 := hd
    subst this
    exact hw
  | x :: l, n, d, h, hd, hw => by
    obtain ⟨h1, h2⟩ := h
    obtain ⟨k1, k2⟩ := hd
    rw [List.length_cons] at hw
    rw [List.length_cons, show n + (l.length + 1) = (n + 1) + l.length by omega]
    by_cases q1 : (10000 : Int32) ≤ x
    · rw [if_pos q1] at k2
      by_cases q2 : (20000 : Int32) ≤ x
      · rw [if_pos q2] at k2
        by_cases q3 : x = 20033
        · rw [if_pos q3] at k2
          refine dz_wT l (n + 1) d h2 k2 ?_
          unfold wT
          rw [h1, if_pos q1, if_pos q2, if_pos q3]
          exact ⟨k1, hw⟩
        · rw [if_neg q3] at k2
          refine dz_wT l (n + 1) (d + 1) h2 k2.2 ?_
          unfold wT
          rw [h1, if_pos q1, if_pos q2, if_neg q3]
          exact ⟨by omega, k2.1, hw⟩
      · rw [if_neg q2] at k2
        refine dz_wT l (n + 1) (d - 1) h2 k2.2 ?_
        unfold wT
        rw [h1, if_pos q1, if_neg q2, show d - 1 + 1 = d by omega]
        exact ⟨k2.1, hw⟩
    · rw [if_neg q1] at k2
      refine dz_wT l (n + 1) (d - 1) h2 k2 ?_
      unfold wT
      rw [h1, if_neg q1, show d - 1 + 1 = d by omega]
      exact hw
/-! the class's reader -/
def CF (B : Nat → Int32) (n due : Nat) (w o : List Int32) (op : Nat) (s : zS) : Prop := s 3 0 1 = nI n ∧ (∀ k, k < n → s 22 0 k = B k) ∧ s 1 0 5 = nI due ∧ s 1 0 3 = nI w.length ∧ ST (s 13 0) w ∧ s 1 0 1 = nI o.length ∧ ST (s 12 0) o ∧ s 1 0 4 = nI op ∧ TB s
def FD (s s' : zS) : Prop := ∀ c i k, c ≠ 1 → c ≠ 12 → c ≠ 13 → s' c i k = s c i k
theorem FD_r {s : zS} : FD s s := fun _ _ _ _ _ _ => rfl
theorem FD_t {s s' s'' : zS} (h : FD s s') (h' : FD s' s'') : FD s s'' := fun c i k a b d => (h' c i k a b d).trans (h c i k a b d)
theorem FD_u {s : zS} {c k : Nat} {v : Int32} (hc : c = 1 ∨ c = 12 ∨ c = 13) : FD s (zup s c 0 k v) := fun c' i k' a b d => zup_o (by omega)
/-- a field of the reader is written -/
theorem CF_u {B : Nat → Int32} {n due due' op op' k : Nat} {w w' o o' : List Int32} {s : zS} {v : Int32} (h : CF B n due w o op s) (h5 : (zup s 1 0 k v) 1 0 5 = nI due') (h3 : (zup s 1 0 k v) 1 0 3 = nI w'.length) (hw : ST (s 13 0) w') (h1 : (zup s 1 0 k v) 1 0 1 = nI o'.length) (ho : ST (s 12 0) o') (h4 : (zup s 1 0 k v) 1 0 4 = nI op') : CF B n due' w' o' op' (zup s 1 0 k v) := by
  obtain ⟨a1, a2, a3, a4, a5, a6, a7, a8, a9⟩ := h
  exact ⟨by rw [zup_o (by omega)]; exact a1, fun k hk => by rw [zup_o (by omega)]; exact a2 k hk, h5, h3, ST_e _ hw (fun k _ => zup_o (by omega)), h1, ST_e _ ho (fun k _ => zup_o (by omega)), h4, TB_e a9 (fun c i k q => zup_o (by omega))⟩
theorem D_write {B : Nat → Int32} {n due op : Nat} {w o : List Int32} {s : zS} {v : Int32} (h : CF B n due w o op s) (ho : o.length < 60) : ∃ s', fD_write v s = some s' ∧ CF B n due w (v :: o) op s' ∧ FD s s' := by
  obtain ⟨a1, a2, a3, a4, a5, a6, a7, a8, a9⟩ := h
  have hq : ¬ ((60 : Int32) ≤ nI o.length) := fun r => absurd ((nI_leI (a := 60) (by omega) (by omega)).mp r) (by omega)
  refine ⟨zup (zup s 12 0 o.length v) 1 0 1 (nI (o.length + 1)), ?_, ⟨?_, fun k hk => ?_, ?_, ?_, ?_, ?_, ⟨?_, ?_⟩, ?_, ?_⟩, FD_t (FD_u (by omega)) (FD_u (by omega))⟩
  · unfold fD_write
    rw [a6, if_neg hq]
    simp (disch := omega) only [zlt_eq, zgd_T, zin_T, zb2_s, zbd_s, n_cl, n_sub1, n_predm, n_sc, if_nle, if_nle0, if_nle1, if_le, if_true, if_false]
    rw [zup_o (by omega), a6, n_sc]
  · rw [zup_o (by omega), zup_o (by omega)]; exact a1
  · rw [zup_o (by omega), zup_o (by omega)]; exact a2 k hk
  · rw [zup_k (by omega), zup_o (by omega)]; exact a3
  · rw [zup_k (by omega), zup_o (by omega)]; exact a4
  · exact ST_e _ a5 (fun k _ => by rw [zup_o (by omega), zup_o (by omega)])
  · rw [zup_s]; rfl
  · rw [zup_o (by omega), zup_s]
  · exact ST_e _ a7 (fun k hk => by rw [zup_o (by omega), zup_k (by omega)])
  · rw [zup_k (by omega), zup_o (by omega)]; exact a8
  · exact TB_e a9 (fun c i k q => by rw [zup_o (by omega), zup_o (by omega)])
theorem D_await {B : Nat → Int32} {n due op : Nat} {w o : List Int32} {s : zS} {v : Int32} (h : CF B n due w o op s) (ho : w.length < 60) : ∃ s', fD_await v s = some s' ∧ CF B n due (v :: w) o op s' ∧ FD s s' := by
  obtain ⟨a1, a2, a3, a4, a5, a6, a7, a8, a9⟩ := h
  have hq : ¬ ((60 : Int32) ≤ nI w.length) := fun r => absurd ((nI_leI (a := 60) (by omega) (by omega)).mp r) (by omega)
  refine ⟨zup (zup s 13 0 w.length v) 1 0 3 (nI (w.length + 1)), ?_, ⟨?_, fun k hk => ?_, ?_, ?_, ⟨?_, ?_⟩, ?_, ?_, ?_, ?_⟩, FD_t (FD_u (by omega)) (FD_u (by omega))⟩
  · unfold fD_await
    rw [a4, if_neg hq]
    simp (disch := omega) only [zlt_eq, zgd_T, zin_T, zb2_s, zbd_s, n_cl, n_sub1, n_predm, n_sc, if_nle, if_nle0, if_nle1, if_le, if_true, if_false]
    rw [zup_o (by omega), a4, n_sc]
  · rw [zup_o (by omega), zup_o (by omega)]; exact a1
  · rw [zup_o (by omega), zup_o (by omega)]; exact a2 k hk
  · rw [zup_k (by omega), zup_o (by omega)]; exact a3
  · rw [zup_s]; rfl
  · rw [zup_o (by omega), zup_s]
  · exact ST_e _ a5 (fun k hk => by rw [zup_o (by omega), zup_k (by omega)])
  · rw [zup_k (by omega), zup_o (by omega)]; exact a6
  · exact ST_e _ a7 (fun k _ => by rw [zup_o (by omega), zup_o (by omega)])
  · rw [zup_k (by omega), zup_o (by omega)]; exact a8
  · exact TB_e a9 (fun c i k q => by rw [zup_o (by omega), zup_o (by omega)])
theorem n_subO (a : Nat) : nI a - 1 = nO a := by
  cases a with
  | zero => decide
  | succ a => rw [nO_s, n_sub1 (by omega)]; rfl
theorem n_predO (a : Nat) : nO (a + 1) + (-1) = nO a := by
  rw [nO_s]
  cases a with
  | zero => decide
  | succ a => rw [nO_s, n_predm (by omega)]; rfl
/-- what is settled comes behind -/
def em : List Int32 → List Int32 → List Int32
  | [], o => o
  | x :: p, o => em p ((20000 + x) :: o)
theorem em_len : ∀ p o, (em p o).length = o.length + p.length
  | [], o => rfl
  | x :: p, o => by
    unfold em
    rw [em_len p, List.length_cons, List.length_cons]
    omega
theorem em_app : ∀ p q o, em (p ++ q) o = em q (em p o)
  | [], q, o => rfl
  | x :: p, q, o => em_app p q _
def hd (Q : Int32 → Prop) : List Int32 → Prop
  | [] => True
  | x :: _ => Q x
theorem hd_i {Q Q' : Int32 → Prop} (h : ∀ x, Q x → Q' x) : ∀ {w}, hd Q w → hd Q' w
  | [], _ => trivial
  | x :: _, q => h x q
theorem CF_pop {B : Nat → Int32} {n due op : Nat} {x : Int32} {w o : List Int32} {s : zS} (h : CF B n due (x :: w) o op s) : (s 1 0 3) - 1 = nI w.length ∧ CF B n due w o op (zup s 1 0 3 (nI w.length)) := by
  have h' := h
  obtain ⟨a1, a2, a3, a4, a5, a6, a7, a8, a9⟩ := h
  refine ⟨?_, CF_u h' ?_ zup_s a5.2 ?_ a7 ?_⟩
  · rw [a4, List.length_cons, n_sub1 (by omega)]; rfl
  · rw [zup_k (by omega)]; exact a3
  · rw [zup_k (by omega)]; exact a6
  · rw [zup_k (by omega)]; exact a8
theorem D_settle_L {N : Nat} {B : Nat → Int32} {n due op l : Nat} {w : List Int32} (hl : l ≤ 10) (hw : hd (fun x => rk x < l) w) : ∀ p o g s, (∀ x ∈ p, l ≤ rk x) → CF B n due (p ++ w) o op s → o.length + p.length ≤ 60 → p.length + w.length ≤ 60 → p.length < g → ∃ s', fD_settle_L7 N g (nI l) (nO (p.length + w.length)) s = some s' ∧ CF B n due w (em p o) op s' ∧ FD s s'
  | p, o, 0, s, h1, h2, h3, h4, h5 => absurd h5 (by omega)
  | [], o, g + 1, s, h1, h2, h3, h4, h5 => by
    rw [fD_settle_L7]
    cases w with
    | nil =>
      have : nO (([] : List Int32).length + ([] : List Int32).length) < 0 := by decide
      rw [if_pos this]
      exact ⟨s, rfl, h2, FD_r⟩
    | cons y w =>
      rw [List.length_nil, List.length_cons] at h4 ⊢
      have e : nO (0 + (w.length + 1)) = nI w.length := by rw [Nat.zero_add]; exact nO_s _
      have hlt : ¬ (nI w.length < 0) := by rw [l0, n_lt (by omega) (by omega)]; omega
      have ey : s 13 0 w.length = y := h2.2.2.2.2.1.1
      have hr := rk_le y
      rw [e, if_neg hlt]
      simp (disch := omega) only [zlt_eq, zgd_T, zin_T, zb2_s, zbd_s, n_cl, n_sub1, n_predm, n_sc, if_nle, if_nle0, if_nle1, if_le, if_true, if_false, ey, D_rank]
      rw [if_pos ((nI_ltI (by omega) (by omega)).mpr hw)]
      exact ⟨s, rfl, h2, FD_r⟩
  | x :: p, o, g + 1, s, h1, h2, h3, h4, h5 => by
    rw [List.length_cons] at h3 h4 h5 ⊢
    have e : nO (p.length + 1 + w.length) = nI (p.length + w.length) := by rw [show p.length + 1 + w.length = p.length + w.length + 1 by omega]; exact nO_s _
    have hlt : ¬ (nI (p.length + w.length) < 0) := by rw [l0, n_lt (by omega) (by omega)]; omega
    have ey : s 13 0 (p.length + w.length) = x := by
      have := h2.2.2.2.2.1
      rw [List.cons_append] at this
      have := this.1
      rw [List.length_append] at this
      exact this
    have hx := h1 x (List.mem_cons_self)
    have hr := rk_le x
    obtain ⟨s1, r1, r2, r3⟩ := D_write (v := 20000 + x) h2 (by omega)
    obtain ⟨q1, q2⟩ := CF_pop (w := p ++ w) r2
    rw [List.length_append] at q1 q2
    obtain ⟨s2, t1, t2, t3⟩ := D_settle_L (N := N) (n := n) hl hw p ((20000 + x) :: o) g _ (fun y hy => h1 y (List.mem_cons_of_mem _ hy)) q2 (by rw [List.length_cons]; omega) (by omega) (by omega)
    rw [fD_settle_L7, e, if_neg hlt]
    simp (disch := omega) only [zlt_eq, zgd_T, zin_T, zb2_s, zbd_s, n_cl, n_sub1, n_predm, n_sc, if_nle, if_nle0, if_nle1, if_le, if_true, if_false, ey, D_rank]
    have ep : nI (p.length + w.length) + (-1) = nO (p.length + w.length) := by rw [← nO_s, n_predO]
    rw [if_neg (fun r => absurd ((nI_ltI (by omega) (by omega)).mp r) (by omega)), r1, zbd_s, q1, ep]
    exact ⟨s2, t1, t2, FD_t r3 (FD_t (FD_u (by omega)) t3)⟩
theorem D_settle {N : Nat} (hN : 901 ≤ N) {B : Nat → Int32} {n due op l : Nat} {w p o : List Int32} {s : zS} (hl : l ≤ 10) (hw : hd (fun x => rk x < l) w) (h1 : ∀ x ∈ p, l ≤ rk x) (h2 : CF B n due (p ++ w) o op s) (h3 : o.length + p.length ≤ 60) (h4 : p.length + w.length ≤ 60) : ∃ s', fD_settle N (nI l) s = some s' ∧ CF B n due w (em p o) op s' ∧ FD s s' := by
  obtain ⟨s', r1, r2⟩ := D_settle_L (N := N) (n := n) hl hw p o N s h1 h2 h3 h4 (by omega)
  refine ⟨s', ?_, r2⟩
  have e := h2.2.2.2.1
  rw [List.length_append] at e
  unfold fD_settle
  rw [zlt_eq, e, n_subO]
  exact r1
/-- so many of one -/
def bg (x : Int32) : Nat → List Int32 → List Int32
  | 0, l => l
  | j + 1, l => x :: bg x j l
theorem bg_len (x : Int32) : ∀ j l, (bg x j l).length = j + l.length
  | 0, l => (Nat.zero_add _).symm
  | j + 1, l => by
    unfold bg
    rw [List.length_cons, bg_len x j l]
    omega
theorem bg_s (x : Int32) : ∀ j l, bg x j (x :: l) = x :: bg x j l
  | 0, l => rfl
  | j + 1, l => by
    unfold bg
    rw [bg_s x j l]
theorem D_end_L {N : Nat} {B : Nat → Int32} {n due : Nat} {w : List Int32} (hw : hd (fun x => x ≠ 33) w) : ∀ j o op g s, j ≤ op → op ≤ 5 → CF B n due (bg 33 j w) o op s → o.length + j ≤ 60 → j + w.length ≤ 60 → j < g → ∃ s', fD_endValue_L12 N g (nO (j + w.length)) s = some s' ∧ CF B n due w (bg 20033 j o) (op - j) s' ∧ FD s s'
  | j, o, op, 0, s, h0, h1, h2, h3, h4, h5 => absurd h5 (by omega)
  | 0, o, op, g + 1, s, h0, h1, h2, h3, h4, h5 => by
    have h2 : CF B n due w o op s := h2
    rw [fD_endValue_L12]
    cases w with
    | nil =>
      have : nO (0 + ([] : List Int32).length) < 0 := by decide
      rw [if_pos this]
      exact ⟨s, rfl, h2, FD_r⟩
    | cons y w =>
      rw [List.length_cons] at h4 ⊢
      have e : nO (0 + (w.length + 1)) = nI w.length := by rw [Nat.zero_add]; exact nO_s _
      have hlt : ¬ (nI w.length < 0) := by rw [l0, n_lt (by omega) (by omega)]; omega
      have ey : s 13 0 w.length = y := h2.2.2.2.2.1.1
      have hy : y ≠ 33 := hw
      rw [e, if_neg hlt, zgd_t (zin_n (by omega) (by omega)), n_cl (by omega), ey, if_neg hy]
      exact ⟨s, rfl, h2, FD_r⟩
  | j + 1, o, op, g + 1, s, h0, h1, h2, h3, h4, h5 => by
    have h2 : CF B n due (33 :: bg 33 j w) o op s := h2
    have e : nO (j + 1 + w.length) = nI (j + w.length) := by rw [show j + 1 + w.length = j + w.length + 1 by omega]; exact nO_s _
    have hlt : ¬ (nI (j + w.length) < 0) := by rw [l0, n_lt (by omega) (by omega)]; omega
    have ey : s 13 0 (j + w.length) = 33 := by
      have := h2.2.2.2.2.1.1
      rw [bg_len] at this
      exact this
    obtain ⟨s1, r1, r2, r3⟩ := D_write (v := 20033) h2 (by omega)
    obtain ⟨q1, q2⟩ := CF_pop r2
    rw [bg_len] at q1 q2
    have e4 : (zup s1 1 0 3 (nI (j + w.length))) 1 0 4 - 1 = nI (op - 1) := by rw [q2.2.2.2.2.2.2.2.1, n_sub1 (by omega)]
    have q3 : CF B n due (bg 33 j w) (20033 :: o) (op - 1) (zup (zup s1 1 0 3 (nI (j + w.length))) 1 0 4 (nI (op - 1))) := by
      obtain ⟨a1, a2, a3, a4, a5, a6, a7, a8, a9⟩ := q2
      refine CF_u ⟨a1, a2, a3, a4, a5, a6, a7, a8, a9⟩ ?_ ?_ a5 ?_ a7 zup_s
      · rw [zup_k (by omega)]; exact a3
      · rw [zup_k (by omega)]; exact a4
      · rw [zup_k (by omega)]; exact a6
    obtain ⟨s2, t1, t2, t3⟩ := D_end_L (N := N) hw j (20033 :: o) (op - 1) g _ (by omega) (by omega) q3 (by rw [List.length_cons]; omega) (by omega) (by omega)
    rw [bg_s, show op - 1 - j = op - (j + 1) by omega] at t2
    rw [fD_endValue_L12, e, if_neg hlt, zgd_t (zin_n (by omega) (by omega)), n_cl (by omega), ey, if_pos rfl, r1, zbd_s, zlt_eq, zlt_eq, q1, e4, ← nO_s, n_predO]
    exact ⟨s2, t1, t2, FD_t r3 (FD_t (FD_u (by omega)) (FD_t (FD_u (by omega)) t3))⟩
theorem D_end {N : Nat} (hN : 901 ≤ N) {B : Nat → Int32} {n due j op : Nat} {w o : List Int32} {s : zS} (hw : hd (fun x => x ≠ 33) w) (h0 : j ≤ op) (h1 : op ≤ 5) (h2 : CF B n due (bg 33 j w) o op s) (h3 : o.length + j ≤ 60) (h4 : j + w.length ≤ 60) : ∃ s', fD_endValue N s = some s' ∧ CF B n 0 w (bg 20033 j o) (op - j) s' ∧ FD s s' := by
  have q : CF B n 0 (bg 33 j w) o op (zup s 1 0 5 0) := by
    obtain ⟨a1, a2, a3, a4, a5, a6, a7, a8, a9⟩ := h2
    refine CF_u ⟨a1, a2, a3, a4, a5, a6, a7, a8, a9⟩ zup_s ?_ a5 ?_ a7 ?_
    · rw [zup_k (by omega)]; exact a4
    · rw [zup_k (by omega)]; exact a6
    · rw [zup_k (by omega)]; exact a8
  obtain ⟨s', r1, r2, r3⟩ := D_end_L (N := N) hw j o op N _ h0 h1 q h3 h4 (by omega)
  refine ⟨s', ?_, r2, FD_t (FD_u (by omega)) r3⟩
  have e := q.2.2.2.1
  rw [bg_len] at e
  unfold fD_endValue
  rw [zlt_eq, zlt_eq, e, n_subO]
  exact r1
/-! the reference's reader -/
def SM (u : Nat) (t : zS) : List Int32 → Prop
  | [] => True
  | x :: l => t 35 0 (2 * l.length) = wh x ∧ (x ≠ 20033 → t 35 0 (2 * l.length + 1) = vl u x) ∧ SM u t l
theorem SM_e {u : Nat} {t t' : zS} : ∀ l, SM u t l → (∀ k, k < 2 * l.length → t' 35 0 k = t 35 0 k) → SM u t' l
  | [], _, _ => trivial
  | x :: l, h, e => by
    rw [List.length_cons] at e
    exact ⟨(e _ (by omega)).trans h.1, fun q => (e _ (by omega)).trans (h.2.1 q), SM_e l h.2.2 (fun k hk => e k (by omega))⟩
def MF (B : Nat → Int32) (n u a op : Nat) (o : List Int32) (t : zS) : Prop := t 30 0 2 = nI n ∧ (∀ k, k < n → t 30 0 (310 + k) = B k) ∧ t 8 0 6 = nI a ∧ t 8 0 7 = nI op ∧ t 8 0 8 = nI o.length ∧ SM u t o ∧ t 8 0 9 = nI u
def FMt (t t' : zS) : Prop := ∀ c i k, ¬ (c = 8 ∧ (k = 6 ∨ k = 7 ∨ k = 8)) → c ≠ 35 → t' c i k = t c i k
theorem FMt_r {t : zS} : FMt t t := fun _ _ _ _ _ => rfl
theorem FMt_t {t t' t'' : zS} (h : FMt t t') (h' : FMt t' t'') : FMt t t'' := fun c i k a b => (h' c i k a b).trans (h c i k a b)
theorem FMt_u {t : zS} {k : Nat} {v : Int32} (hk : k = 6 ∨ k = 7 ∨ k = 8) : FMt t (zup t 8 0 k v) := fun c i k' a b => by
  unfold zup
  rw [if_neg (by omega)]
theorem FMt_35 {t : zS} {k : Nat} {v : Int32} : FMt t (zup t 35 0 k v) := fun c i k' a b => zup_o b
theorem MF_u {B : Nat → Int32} {n u a a' op op' k : Nat} {o : List Int32} {t : zS} {v : Int32} (h : MF B n u a op o t) (hk : k = 6 ∨ k = 7) (h6 : (zup t 8 0 k v) 8 0 6 = nI a') (h7 : (zup t 8 0 k v) 8 0 7 = nI op') : MF B n u a' op' o (zup t 8 0 k v) := by
  obtain ⟨a1, a2, a3, a4, a5, a6, a7⟩ := h
  exact ⟨by rw [zup_o (by omega)]; exact a1, fun k hk => by rw [zup_o (by omega)]; exact a2 k hk, h6, h7, by rw [zup_k (by omega)]; exact a5, SM_e _ a6 (fun k _ => zup_o (by omega)), by rw [zup_k (by omega)]; exact a7⟩
/-- on by one byte -/
theorem M_on {B : Nat → Int32} {n u a op : Nat} {o : List Int32} {t : zS} (h : MF B n u a op o t) : (t 8 0 6) + 1 = nI (a + 1) ∧ MF B n u (a + 1) op o (zup t 8 0 6 (nI (a + 1))) ∧ FMt t (zup t 8 0 6 (nI (a + 1))) := ⟨by rw [h.2.2.1, n_sc], MF_u h (by omega) zup_s (by rw [zup_k (by omega)]; exact h.2.2.2.1), FMt_u (by omega)⟩
def LK (B : Nat → Int32) (n a : Nat) : Int32 := if a < n then B a else -1
theorem M_look {B : Nat → Int32} {n u a op : Nat} {o : List Int32} {t : zS} (hn : n ≤ 60) (ha : a ≤ n) (h : MF B n u a op o t) : fM_look t = some (LK B n a) := by
  obtain ⟨a1, a2, a3, a4, a5, a6, a7⟩ := h
  have h310 : 310 + nI a = nI (310 + a) := n_add 310 a
  unfold fM_look LK
  rw [a1, a3, h310]
  by_cases q : a < n
  · rw [if_nle q (by omega), if_pos q, zgd_t (zin_n (by omega) (by omega)), n_cl (by omega), a2 a q]
  · rw [if_le (by omega) (by omega), if_neg q]
theorem M_step {B : Nat → Int32} {n u a op : Nat} {o : List Int32} {t : zS} {x y v : Int32} (h : MF B n u a op o t) (ho : o.length ≤ 60) (hy : y = wh x) (hv : x ≠ 20033 → v = vl u x) : ∃ t', fM_step1 y v t = some t' ∧ MF B n u a op (x :: o) t' ∧ FMt t t' := by
  obtain ⟨a1, a2, a3, a4, a5, a6, a7⟩ := h
  have h2 : 2 * nI o.length = nI (2 * o.length) := n_mul 2 _
  refine ⟨zup (zup (zup t 35 0 (2 * o.length) y) 35 0 (2 * o.length + 1) v) 8 0 8 (nI (o.length + 1)), ?_, ⟨?_, fun k hk => ?_, ?_, ?_, ?_, ⟨?_, fun q => ?_, ?_⟩, ?_⟩, FMt_t (FMt_t FMt_35 FMt_35) (FMt_u (by omega))⟩
  · unfold fM_step1
    rw [a5, h2]
    simp (disch := omega) only [zlt_eq, zgd_T, zin_T, zb2_s, zbd_s, n_cl, n_sub1, n_predm, n_sc, if_nle, if_nle0, if_nle1, if_le, if_true, if_false]
    rw [zup_o (by omega), a5, h2, n_sc, zup_o (by omega), zup_o (by omega), a5, n_sc]
    simp (disch := omega) only [zlt_eq, zgd_T, zin_T, zb2_s, zbd_s, n_cl, n_sub1, n_predm, n_sc, if_nle, if_nle0, if_nle1, if_le, if_true, if_false]
  · rw [zup_o (by omega), zup_o (by omega), zup_o (by omega)]; exact a1
  · rw [zup_o (by omega), zup_o (by omega), zup_o (by omega)]; exact a2 k hk
  · rw [zup_k (by omega), zup_o (by omega), zup_o (by omega)]; exact a3
  · rw [zup_k (by omega), zup_o (by omega), zup_o (by omega)]; exact a4
  · rw [zup_s]; rfl
  · rw [zup_o (by omega), zup_k (by omega), zup_s, hy]
  · rw [zup_o (by omega), zup_s, hv q]
  · exact SM_e _ a6 (fun k hk => by rw [zup_o (by omega), zup_k (by omega), zup_k (by omega)])
  · rw [zup_k (by omega), zup_o (by omega), zup_o (by omega)]; exact a7
theorem M_opens {B : Nat → Int32} {n u a op : Nat} {o : List Int32} {t : zS} (h : MF B n u a op o t) (hop : op ≤ 5) : (op = 5 → fM_opens t = some (0, t)) ∧ (op ≠ 5 → ∃ t', fM_opens t = some (1, t') ∧ MF B n u (a + 1) (op + 1) o t' ∧ FMt t t') := by
  unfold fM_opens
  rw [h.2.2.2.1]
  constructor
  · intro q
    subst q
    rw [if_pos (show nI 5 = 5 from rfl)]
  · intro q
    have hq : ¬ (nI op = 5) := fun r => q ((nI_eq (b := 5) (by omega) (by omega)).mp r)
    have m1 : MF B n u a (op + 1) o (zup t 8 0 7 (nI (op + 1))) := MF_u h (by omega) (by rw [zup_k (by omega)]; exact h.2.2.1) zup_s
    obtain ⟨e, m2, f2⟩ := M_on m1
    rw [if_neg hq, zlt_eq, zlt_eq, n_sc, e]
    exact ⟨_, rfl, m2, FMt_t (FMt_u (by omega)) f2⟩
