/-! Pure mathematics: reading texts: one turn of the class's reader. -/
theorem nz {a : Nat} (ha : a < 2147483648) (h : a ≠ 0) : ¬ (nI a = 0) := fun r => h ((nI_eq (b := 0) ha (by omega)).mp r)
theorem n3 {a : Nat} (ha : a < 2147483648) (h : a ≠ 3) : ¬ (nI a = 3) := fun r => h ((nI_eq (b := 3) ha (by omega)).mp r)
def RUN (N u f a turn : Nat) (s : zS) : Option (Int32 × zS) := fD_read_L25 N 0 f (nI u) (nI a) (nI turn) s
theorem RUN_v {N u f a turn n op r : Nat} {B : Nat → Int32} {w o : List Int32} {s s1 : zS} (h : CF B n 1 w o op s) (hn : n ≤ 60) (ha : a < n) (ht : turn ≤ a) (hr60 : r ≤ 60) (hr : fD_readValue N 0 (nI a) (nI u) s = some (nI r, s1)) : RUN N u (f + 1) a turn s = if r = 0 then some (nI a, s1) else RUN N u f (a + r) (turn + 1) s1 := by
  have hq : ¬ ((60 : Int32) ≤ nI turn) := fun q => absurd ((nI_leI (a := 60) (by omega) (by omega)).mp q) (by omega)
  unfold RUN
  rw [fD_read_L25, if_neg hq, h.1, if_nle (by omega) (by omega), h.2.2.1, if_neg (by decide), hr, zb2_s]
  unfold fD_read_J67
  rw [n_add, zlt_eq, n_sc]
  by_cases z : r = 0
  · subst z
    rw [if_pos (show nI 0 = 0 from rfl), if_pos rfl]
  · rw [if_neg (nz (by omega) z), if_neg z]
theorem RUN_j {N u f a turn n op r : Nat} {B : Nat → Int32} {w o : List Int32} {s s1 : zS} (h : CF B n 0 w o op s) (hn : n ≤ 60) (ha : a < n) (ht : turn ≤ a) (hr60 : r ≤ 60) (hr : fD_readJoin N (LK B n a) s = some (nI r, s1)) : RUN N u (f + 1) a turn s = if r = 0 then some (nI a, s1) else RUN N u f (a + r) (turn + 1) s1 := by
  have hq : ¬ ((60 : Int32) ≤ nI turn) := fun q => absurd ((nI_leI (a := 60) (by omega) (by omega)).mp q) (by omega)
  have hz : zin (nI a) (if 0 % 2 = 0 then 60 else 24) := zin_n (n := 60) (by omega) (by omega)
  have hb : s 22 0 a = LK B n a := by
    unfold LK
    rw [if_pos ha]
    exact h.2.1 a ha
  unfold RUN
  rw [fD_read_L25, if_neg hq, h.1, if_nle (by omega) (by omega), h.2.2.1, if_pos (show nI 0 = 0 from rfl), zgd_t hz, n_cl (by omega), hb, hr, zb2_s]
  unfold fD_read_J67
  rw [n_add, zlt_eq, n_sc]
  by_cases z : r = 0
  · subst z
    rw [if_pos (show nI 0 = 0 from rfl), if_pos rfl]
  · rw [if_neg (nz (by omega) z), if_neg z]
theorem RUN_x {N u f turn n due op : Nat} {B : Nat → Int32} {w o : List Int32} {s : zS} (h : CF B n due w o op s) (hn : n ≤ 60) : RUN N u (f + 1) n turn s = fD_read_J87 N 0 s := by
  unfold RUN
  rw [fD_read_L25, h.1, if_le (by omega) (by omega)]
  split <;> rfl
theorem RUN_e1 {N u f turn n op : Nat} {B : Nat → Int32} {w o : List Int32} {s : zS} (h : CF B n 1 w o op s) (hn : n ≤ 60) : RUN N u (f + 1) n turn s = some (nI n, s) := by
  rw [RUN_x h hn]
  unfold fD_read_J87
  rw [h.2.2.1, if_neg (by decide), h.1]
/-! names -/
theorem nm_2 (u : Nat) : nm u 2 = 100 := by unfold nm; rw [if_pos rfl]
def ni (u : Nat) (c : Int32) : Nat := if nI (nm u 0) = c then 1 else if nI (nm u 1) = c then 2 else if nI (nm u 2) = c then 3 else 0
theorem zNM : ∀ u : Fin 2, ∀ i : Fin 3, zNAMES.getD (if u.1 = 0 then i.1 else 3 + i.1) 0 = nI (nm u.1 i.1) := by decide +kernel
theorem D_nm_st {N f u i : Nat} {s : zS} {c : Int32} (h : TB s) (hu : u < 2) (hi : i < 3) : fD_nameOf_L2 N (f + 1) c (nI u) (nI i) s = if nI (nm u i) = c then some (nI i) else fD_nameOf_L2 N f c (nI u) (nI (i + 1)) s := by
  have hq : ¬ ((3 : Int32) ≤ nI i) := fun q => absurd ((nI_leI (a := 3) (by omega) (by omega)).mp q) (by omega)
  have e := (h.2.2 (if u = 0 then i else 3 + i)).trans (zNM ⟨u, hu⟩ ⟨i, hi⟩)
  have h3 : 3 + nI i = nI (3 + i) := n_add 3 i
  rw [fD_nameOf_L2, if_neg hq]
  unfold fD_nameOf_J21
  dsimp only
  rw [h3]
  by_cases z : u = 0
  · subst z
    rw [if_pos rfl] at e
    rw [if_pos (show nI 0 = 0 from rfl)]
    simp (disch := omega) only [zlt_eq, zgd_T, zin_T, zb2_s, zbd_s, n_cl, n_sub1, n_predm, n_sc, if_nle, if_nle0, if_nle1, if_le, if_true, if_false, e]
  · rw [if_neg z] at e
    rw [if_neg (nz (by omega) z)]
    simp (disch := omega) only [zlt_eq, zgd_T, zin_T, zb2_s, zbd_s, n_cl, n_sub1, n_predm, n_sc, if_nle, if_nle0, if_nle1, if_le, if_true, if_false, e]
theorem D_nameOf {N u : Nat} {s : zS} {c : Int32} (hN : 901 ≤ N) (h : TB s) (hu : u < 2) : fD_nameOf N c (nI u) s = some (nO (ni u c)) := by
  obtain ⟨f, rfl⟩ : ∃ f, N = f + 4 := ⟨N - 4, by omega⟩
  have a0 := D_nm_st (N := f + 4) (f := f + 3) (c := c) (i := 0) h hu (by omega)
  have a1 := D_nm_st (N := f + 4) (f := f + 2) (c := c) (i := 1) h hu (by omega)
  have a2 := D_nm_st (N := f + 4) (f := f + 1) (c := c) (i := 2) h hu (by omega)
  have a3 : fD_nameOf_L2 (f + 4) (f + 1) c (nI u) (nI (2 + 1)) s = some (-1) := by
    rw [fD_nameOf_L2, if_pos (by decide)]
  have a0' : fD_nameOf (f + 4) c (nI u) s = _ := a0
  rw [a0', a1, a2, a3]
  unfold ni
  split
  · rfl
  · split
    · rfl
    · split <;> rfl
theorem ni_c {u : Nat} {c : Int32} (h : ni u c ≠ 0) : ni u c ≤ 3 ∧ c = nI (nm u (ni u c - 1)) := by
  unfold ni at h ⊢
  by_cases h0 : nI (nm u 0) = c
  · rw [if_pos h0]
    exact ⟨by omega, h0.symm⟩
  · rw [if_neg h0] at h ⊢
    by_cases h1 : nI (nm u 1) = c
    · rw [if_pos h1]
      exact ⟨by omega, h1.symm⟩
    · rw [if_neg h1] at h ⊢
      by_cases h2 : nI (nm u 2) = c
      · rw [if_pos h2]
        exact ⟨by omega, h2.symm⟩
      · rw [if_neg h2] at h
        exact absurd rfl h
theorem nm_s {P : Int32 → Prop} (a : P 121) (b : P 115) (c : P 111) (d : P 100) : ∀ u i, P (nI (nm u i)) := by
  intro u i
  unfold nm
  split
  · exact d
  · split <;> split
    · exact a
    · exact b
    · exact b
    · exact c
theorem M_isName {B : Nat → Int32} {n u a op : Nat} {o : List Int32} {t : zS} {c : Int32} (hu : u < 2) (h : MF B n u a op o t) : fM_isName c t = some (if ni u c = 0 then 0 else 1) := by
  unfold fM_isName fM_isName_J27 ni
  rw [h.2.2.2.2.2.2, nm_2]
  rcases (show u = 0 ∨ u = 1 by omega) with z | z <;> subst z
  · have e0 : nI (nm 0 0) = 121 := rfl
    have e1 : nI (nm 0 1) = 115 := rfl
    have e2 : nI 100 = 100 := rfl
    rw [e0, e1, e2, if_pos (show nI 0 = 0 from rfl)]
    by_cases k1 : c = 115
    · subst k1
      rw [if_pos rfl, if_neg (by decide)]
    · rw [if_neg k1, if_neg (fun q : (115 : Int32) = c => k1 q.symm)]
      by_cases k2 : c = 100
      · subst k2
        rw [if_pos rfl, if_neg (by decide)]
      · rw [if_neg k2, if_neg (fun q : (100 : Int32) = c => k2 q.symm)]
        by_cases k3 : c = 121
        · subst k3
          rw [if_pos rfl, if_pos rfl, if_neg (by decide)]
        · rw [if_neg k3, if_neg (fun q : (121 : Int32) = c => k3 q.symm), if_pos rfl]
  · have e0 : nI (nm 1 0) = 115 := rfl
    have e1 : nI (nm 1 1) = 111 := rfl
    have e2 : nI 100 = 100 := rfl
    rw [e0, e1, e2, if_neg (show ¬ (nI 1 = 0) by decide)]
    by_cases k1 : c = 115
    · subst k1
      rw [if_pos rfl, if_pos rfl, if_neg (by decide)]
    · rw [if_neg k1, if_neg (fun q : (115 : Int32) = c => k1 q.symm)]
      by_cases k2 : c = 100
      · subst k2
        rw [if_pos rfl, if_neg (by decide)]
      · rw [if_neg k2]
        by_cases k3 : c = 111
        · subst k3
          rw [if_pos rfl, if_pos rfl, if_neg (by decide)]
        · rw [if_neg k3, if_neg (fun q : (111 : Int32) = c => k3 q.symm), if_neg (fun q : (100 : Int32) = c => k2 q.symm), if_pos rfl]
/-! digits -/
abbrev isd (c : Int32) : Prop := 48 ≤ c.toInt ∧ c.toInt ≤ 57
theorem M_isd {c : Int32} : (isd c → fM_in c 48 57 = some 1) ∧ (¬ isd c → fM_in c 48 57 = some 0) := by
  have h := M_inr (x := c) (a := 48) (b := 57) (by omega) (by omega)
  rw [rng_iff (by omega)] at h
  exact h
theorem D_isd {c : Int32} : (isd c → fD_isDigit c = some 1) ∧ (¬ isd c → fD_isDigit c = some 0) := M_isd
def dc (B : Nat → Int32) (n : Nat) : Nat → Nat → Nat
  | 0, _ => 0
  | m + 1, a => if isd (LK B n a) then dc B n m (a + 1) + 1 else 0
theorem LK_n {B : Nat → Int32} {n a : Nat} (h : n ≤ a) : LK B n a = -1 := if_neg (by omega)
theorem isd_lt {B : Nat → Int32} {n a : Nat} (h : isd (LK B n a)) : a < n := by
  apply Nat.lt_of_not_le
  intro q
  rw [LK_n q] at h
  have : (-1 : Int32).toInt = -1 := by decide
  omega
theorem dc_le {B : Nat → Int32} {n : Nat} : ∀ m a, dc B n m a ≤ m
  | 0, a => Nat.le_refl _
  | m + 1, a => by
    have := dc_le (B := B) (n := n) m (a + 1)
    unfold dc
    split <;> omega
theorem dc_n {B : Nat → Int32} {n : Nat} : ∀ m a, a ≤ n → a + dc B n m a ≤ n
  | 0, a, h => h
  | m + 1, a, h => by
    unfold dc
    by_cases q : isd (LK B n a)
    · have := isd_lt q
      have := dc_n (B := B) (n := n) m (a + 1) (by omega)
      rw [if_pos q]
      omega
    · rw [if_neg q]
      exact h
theorem dc_i {B : Nat → Int32} {n : Nat} : ∀ m a, dc B n (dc B n m a) a = dc B n m a
  | 0, a => rfl
  | m + 1, a => by
    by_cases q : isd (LK B n a)
    · have e : dc B n (m + 1) a = dc B n m (a + 1) + 1 := if_pos q
      have e2 : dc B n (dc B n m (a + 1) + 1) a = dc B n (dc B n m (a + 1)) (a + 1) + 1 := if_pos q
      rw [e, e2, dc_i m (a + 1)]
    · have e : dc B n (m + 1) a = 0 := if_neg q
      rw [e]
      rfl
theorem D_dg_L {N : Nat} {B : Nat → Int32} {n due op : Nat} {w o : List Int32} {s : zS} (hn : n ≤ 60) (h : CF B n due w o op s) : ∀ m c a g, c + m = 4 → a ≤ n → m < g → fD_digits_L4 N 0 g (nI c) (nI a) s = some (nI (c + dc B n m a))
  | m, c, a, 0, h1, h2, h3 => absurd h3 (by omega)
  | m, c, a, g + 1, h1, h2, h3 => by
    rw [fD_digits_L4, h.1]
    by_cases q : a < n
    · rw [if_nle q (by omega)]
      cases m with
      | zero =>
        have h4 : (4 : Int32) ≤ nI c := (nI_leI (a := 4) (by omega) (by omega)).mpr (by omega)
        rw [if_pos h4]
        rfl
      | succ m =>
        have h4 : ¬ ((4 : Int32) ≤ nI c) := fun r => absurd ((nI_leI (a := 4) (by omega) (by omega)).mp r) (by omega)
        have hz : zin (nI a) (if 0 % 2 = 0 then 60 else 24) := zin_n (n := 60) (by omega) (by omega)
        have hb : s 22 0 a = LK B n a := by
          unfold LK
          rw [if_pos q]
          exact h.2.1 a q
        rw [if_neg h4, zgd_t hz, n_cl (by omega), hb, n_sc, n_sc]
        unfold dc
        by_cases y : isd (LK B n a)
        · rw [D_isd.1 y, zbd_s, if_neg (by decide), if_pos y, D_dg_L hn h m (c + 1) (a + 1) g (by omega) (by omega) (by omega), show c + 1 + dc B n m (a + 1) = c + (dc B n m (a + 1) + 1) by omega]
        · rw [D_isd.2 y, zbd_s, if_pos rfl, if_neg y]
          rfl
    · rw [if_le (by omega) (by omega)]
      cases m with
      | zero => rfl
      | succ m =>
        unfold dc
        rw [if_neg (fun y => q (isd_lt y))]
        rfl
theorem D_digits {N : Nat} (hN : 901 ≤ N) {B : Nat → Int32} {n due op a : Nat} {w o : List Int32} {s : zS} (hn : n ≤ 60) (h : CF B n due w o op s) (ha : a ≤ n) : fD_digits N 0 (nI a) s = some (nI (dc B n 4 a)) := by
  have := D_dg_L (N := N) hn h 4 0 a N (by omega) ha (by omega)
  rw [Nat.zero_add] at this
  exact this
def dl (c : Int32) : Nat := min 9 (c.toInt.toNat - 48)
theorem dl_d {c : Int32} (h : isd c) : c = nI (48 + dl c) := by
  have e := i32_nat (x := c) (by omega)
  have : 48 + dl c = c.toInt.toNat := by unfold dl; omega
  rw [this]
  exact e
def dv (B : Nat → Int32) (n : Nat) : Nat → Nat → Nat → Nat
  | 0, _, v => v
  | k + 1, a, v => dv B n k (a + 1) (10 * v + dl (LK B n a))
theorem dl_9 (c : Int32) : dl c ≤ 9 := by unfold dl; omega
theorem dv_lt {B : Nat → Int32} {n : Nat} : ∀ k a v e, v < e → dv B n k a v < e * 10 ^ k
  | 0, a, v, e, h => by rw [Nat.pow_zero, Nat.mul_one]; exact h
  | k + 1, a, v, e, h => by
    have h9 := dl_9 (LK B n a)
    have := dv_lt (B := B) (n := n) k (a + 1) (10 * v + dl (LK B n a)) (e * 10) (by omega)
    rw [Nat.pow_succ, Nat.mul_comm (10 ^ k) 10, ← Nat.mul_assoc]
    exact this
theorem dv_4 {B : Nat → Int32} {n k a : Nat} (hk : k ≤ 4) : dv B n k a 0 < 10000 := by
  have := dv_lt (B := B) (n := n) k a 0 1 (by omega)
  have h2 : 10 ^ k ≤ 10 ^ 4 := Nat.pow_le_pow_right (by omega) hk
  rw [Nat.one_mul] at this
  omega
theorem dv_step {v d : Nat} : nI v * 10 + nI (48 + d) - 48 = nI (10 * v + d) := by
  rw [l10, n_mul, n_add]
  have h48 : (48 : Int32) = nI 48 := rfl
  rw [h48, n_sub (by omega)]
  congr 1
  omega
theorem dv_step' {v d : Nat} : 10 * nI v + nI (48 + d) - 48 = nI (10 * v + d) := by
  rw [l10, n_mul, n_add]
  have h48 : (48 : Int32) = nI 48 := rfl
  rw [h48, n_sub (by omega)]
  congr 1
  omega
theorem D_nu_L {N : Nat} {B : Nat → Int32} {n due op : Nat} {w o : List Int32} {s : zS} {y1 y2 : Int32} {e : Nat} (hn : n ≤ 60) (h : CF B n due w o op s) (he : y1 + y2 = nI e) : ∀ k a v g, a + k = e → dc B n k a = k → k < g → e < 100 → fD_number_L5 N 0 g y1 y2 (nI v) (nI a) s = some (nI (dv B n k a v))
  | k, a, v, 0, h1, h2, h3, h4 => absurd h3 (by omega)
  | 0, a, v, g + 1, h1, h2, h3, h4 => by
    rw [fD_number_L5, he, if_le (by omega) (by omega)]
    rfl
  | k + 1, a, v, g + 1, h1, h2, h3, h4 => by
    have y : isd (LK B n a) := by
      by_cases y : isd (LK B n a)
      · exact y
      · have : dc B n (k + 1) a = 0 := if_neg y
        omega
    have h2' : dc B n (k + 1) a = dc B n k (a + 1) + 1 := if_pos y
    have q := isd_lt y
    have hz : zin (nI a) (if 0 % 2 = 0 then 60 else 24) := zin_n (n := 60) (by omega) (by omega)
    have hb : s 22 0 a = nI (48 + dl (LK B n a)) := by
      rw [← dl_d y]
      unfold LK
      rw [if_pos q]
      exact h.2.1 a q
    rw [fD_number_L5, he, if_nle (by omega) (by omega), h.1, if_nle (by omega) (by omega), zgd_t hz, zlt_eq, n_cl (by omega), hb, dv_step, n_sc, D_nu_L hn h he k (a + 1) _ g (by omega) (by omega) (by omega) h4]
    rfl
theorem M_nu_L {N G : Nat} {P1 P2 P3 P4 P5 P6 : zS → Option (Int32 × zS)} {B : Nat → Int32} {n u op : Nat} {o : List Int32} (hn : n ≤ 60) : ∀ m c a v g t, c + m = 4 → a ≤ n → m < g → MF B n u a op o t → ∃ t', fM_one0_L46 N G P1 P2 P3 P4 P5 P6 g (nI v) (nI c) t = fM_one0_J94 N G P1 P2 P3 P4 P5 P6 (nI (dv B n (dc B n m a) a v)) t' ∧ MF B n u (a + dc B n m a) op o t' ∧ FMt t t'
  | m, c, a, v, 0, t, h1, h2, h3, h4 => absurd h3 (by omega)
  | 0, c, a, v, g + 1, t, h1, h2, h3, h4 => by
    have h4' : (4 : Int32) ≤ nI c := (nI_leI (a := 4) (by omega) (by omega)).mpr (by omega)
    rw [fM_one0_L46, if_pos h4']
    exact ⟨t, rfl, h4, FMt_r⟩
  | m + 1, c, a, v, g + 1, t, h1, h2, h3, h4 => by
    have h4' : ¬ ((4 : Int32) ≤ nI c) := fun r => absurd ((nI_leI (a := 4) (by omega) (by omega)).mp r) (by omega)
    rw [fM_one0_L46, if_neg h4', M_look hn h2 h4, zbd_s, zbd_s]
    unfold dc
    by_cases y : isd (LK B n a)
    · obtain ⟨e, m1, f1⟩ := M_on h4
      have q := isd_lt y
      have ev : 10 * nI v + LK B n a - 48 = nI (10 * v + dl (LK B n a)) := by
        have hd := dl_d y
        generalize dl (LK B n a) = d at hd
        rw [hd, dv_step']
      rw [M_isd.1 y, zbd_s, if_neg (by decide), if_pos y, zlt_eq, zlt_eq, e, ev, n_sc]
      obtain ⟨t', r1, r2, r3⟩ := M_nu_L (N := N) (G := G) (P1 := P1) (P2 := P2) (P3 := P3) (P4 := P4) (P5 := P5) (P6 := P6) hn m (c + 1) (a + 1) (10 * v + dl (LK B n a)) g _ (by omega) (by omega) (by omega) m1
      exact ⟨t', r1, by rw [show a + (dc B n m (a + 1) + 1) = a + 1 + dc B n m (a + 1) by omega]; exact r2, FMt_t f1 r3⟩
    · rw [M_isd.2 y, zbd_s, if_pos rfl, if_neg y]
      exact ⟨t, rfl, h4, FMt_r⟩
/-! a value, read by the class -/
theorem V_head {N : Nat} {B : Nat → Int32} {n due op a : Nat} {w o : List Int32} {s : zS} {x3 : Int32} (hn : n ≤ 60) (h : CF B n due w o op s) (ha : a < n) : fD_readValue N 0 (nI a) x3 s = (if LK B n a = 33 then fD_readValue_J22 N 0 (LK B n a) s else (if LK B n a = 40 then fD_readValue_J22 N 0 (LK B n a) s else (fD_digits N 0 (nI a) s).bind fun r6 => (if r6 ≤ 0 then (fD_nameOf N (LK B n a) x3 s).bind fun r9 => (if 0 ≤ r9 then (fD_write (10000 + r9) s).bind fun s12 => fD_readValue_J83 N 0 1 s12 else some (0, s)) else (fD_number N 0 (nI a) r6 s).bind fun r14 => (fD_write r14 s).bind fun s16 => fD_readValue_J83 N 0 r6 s16))) := by
  have hz : zin (nI a) (if 0 % 2 = 0 then 60 else 24) := zin_n (n := 60) (by omega) (by omega)
  have hb : s 22 0 a = LK B n a := by
    unfold LK
    rw [if_pos ha]
    exact h.2.1 a ha
  unfold fD_readValue
  rw [zgd_t hz, zlt_eq, n_cl (by omega), hb]
theorem V_name {N : Nat} (hN : 901 ≤ N) {B : Nat → Int32} {n u j op a : Nat} {w o : List Int32} {s : zS} (hn : n ≤ 60) (hu : u < 2) (hw : hd (fun x => x ≠ 33) w) (h0 : j ≤ op) (h1 : op ≤ 5) (h : CF B n 1 (bg 33 j w) o op s) (ha : a < n) (hl : o.length + (j + w.length) ≤ a) (hi : ni u (LK B n a) ≠ 0) : ∃ s', fD_readValue N 0 (nI a) (nI u) s = some (nI 1, s') ∧ CF B n 0 w (bg 20033 j (nI (10000 + (ni u (LK B n a) - 1)) :: o)) (op - j) s' ∧ FD s s' := by
  obtain ⟨k1, k2⟩ := ni_c hi
  have c33 : LK B n a ≠ 33 := by rw [k2]; exact nm_s (P := fun x => x ≠ 33) (by decide) (by decide) (by decide) (by decide) _ _
  have c40 : LK B n a ≠ 40 := by rw [k2]; exact nm_s (P := fun x => x ≠ 40) (by decide) (by decide) (by decide) (by decide) _ _
  have cd : ¬ isd (LK B n a) := by rw [k2]; exact nm_s (P := fun x => ¬ isd x) (by decide) (by decide) (by decide) (by decide) _ _
  have d0 : dc B n 4 a = 0 := if_neg cd
  have hp : (0 : Int32) ≤ nO (ni u (LK B n a)) := by rw [l0, nO_le (by omega)]; exact hi
  have ev : 10000 + nO (ni u (LK B n a)) = nI (10000 + (ni u (LK B n a) - 1)) := by rw [nO_pos hi]; exact n_add 10000 _
  obtain ⟨s1, r1, r2, r3⟩ := D_write (v := nI (10000 + (ni u (LK B n a) - 1))) h (by omega)
  obtain ⟨s2, t1, t2, t3⟩ := D_end hN hw h0 h1 r2 (by rw [List.length_cons]; omega) (by omega)
  refine ⟨s2, ?_, t2, FD_t r3 t3⟩
  rw [V_head hn h ha, if_neg c33, if_neg c40, D_digits hN hn h (by omega), zbd_s, d0, if_pos (by decide), D_nameOf hN h.2.2.2.2.2.2.2.2 hu, zbd_s, if_pos hp, ev, r1, zbd_s]
  unfold fD_readValue_J83
  rw [t1, zbd_s]
  rfl
theorem V_num {N : Nat} (hN : 901 ≤ N) {B : Nat → Int32} {n u j op a : Nat} {w o : List Int32} {s : zS} (hn : n ≤ 60) (hw : hd (fun x => x ≠ 33) w) (h0 : j ≤ op) (h1 : op ≤ 5) (h : CF B n 1 (bg 33 j w) o op s) (ha : a < n) (hl : o.length + (j + w.length) ≤ a) (cd : isd (LK B n a)) : ∃ s', fD_readValue N 0 (nI a) (nI u) s = some (nI (dc B n 4 a), s') ∧ CF B n 0 w (bg 20033 j (nI (dv B n (dc B n 4 a) a 0) :: o)) (op - j) s' ∧ FD s s' := by
  have h33 : (33 : Int32).toInt = 33 := by decide
  have h40 : (40 : Int32).toInt = 40 := by decide
  have c33 : LK B n a ≠ 33 := fun q => by rw [q] at cd; omega
  have c40 : LK B n a ≠ 40 := fun q => by rw [q] at cd; omega
  have d0 : dc B n 4 a = dc B n 3 (a + 1) + 1 := if_pos cd
  have d4 := dc_le (B := B) (n := n) 4 a
  have hnum : fD_number N 0 (nI a) (nI (dc B n 4 a)) s = some (nI (dv B n (dc B n 4 a) a 0)) := D_nu_L (N := N) (e := a + dc B n 4 a) hn h (n_add _ _) (dc B n 4 a) a 0 N rfl (dc_i 4 a) (by omega) (by omega)
  obtain ⟨s1, r1, r2, r3⟩ := D_write (v := nI (dv B n (dc B n 4 a) a 0)) h (by omega)
  obtain ⟨s2, t1, t2, t3⟩ := D_end hN hw h0 h1 r2 (by rw [List.length_cons]; omega) (by omega)
  refine ⟨s2, ?_, t2, FD_t r3 t3⟩
  rw [V_head hn h ha, if_neg c33, if_neg c40, D_digits hN hn h (by omega), zbd_s, if_nle0 (by omega) (by omega), hnum, zbd_s, r1, zbd_s]
  unfold fD_readValue_J83
  rw [t1, zbd_s]
theorem V_open {N : Nat} {B : Nat → Int32} {n u op a : Nat} {w o : List Int32} {s : zS} (hn : n ≤ 60) (h1 : op ≤ 5) (h : CF B n 1 w o op s) (ha : a < n) (hl : o.length + w.length ≤ a) (hc : LK B n a = 33 ∨ LK B n a = 40) : (op = 5 → fD_readValue N 0 (nI a) (nI u) s = some (nI 0, s)) ∧ (op ≠ 5 → ∃ s', fD_readValue N 0 (nI a) (nI u) s = some (nI 1, s') ∧ CF B n 1 (LK B n a :: w) o (op + 1) s' ∧ FD s s') := by
  have e : fD_readValue N 0 (nI a) (nI u) s = fD_openOne (LK B n a) s := by
    rw [V_head hn h ha]
    unfold fD_readValue_J22
    rw [zb2_id]
    rcases hc with q | q
    · rw [if_pos q]
    · rw [if_neg (by rw [q]; decide), if_pos q]
  rw [e]
  unfold fD_openOne
  rw [h.2.2.2.2.2.2.2.1]
  constructor
  · intro q
    subst q
    rw [if_neg (by decide)]
    rfl
  · intro q
    have hq : nI op < 5 := (nI_ltI (b := 5) (by omega) (by omega)).mpr (by omega)
    have m1 : CF B n 1 w o (op + 1) (zup s 1 0 4 (nI (op + 1))) := by
      obtain ⟨a1, a2, a3, a4, a5, a6, a7, a8, a9⟩ := h
      refine CF_u ⟨a1, a2, a3, a4, a5, a6, a7, a8, a9⟩ ?_ ?_ a5 ?_ a7 zup_s
      · rw [zup_k (by omega)]; exact a3
      · rw [zup_k (by omega)]; exact a4
      · rw [zup_k (by omega)]; exact a6
    obtain ⟨s', r1, r2, r3⟩ := D_await (v := LK B n a) m1 (by omega)
    rw [if_pos hq, zlt_eq, n_sc, r1, zbd_s]
    exact ⟨s', rfl, r2, FD_t (FD_u (by omega)) r3⟩
theorem V_none {N : Nat} (hN : 901 ≤ N) {B : Nat → Int32} {n u op a : Nat} {w o : List Int32} {s : zS} (hn : n ≤ 60) (hu : u < 2) (h : CF B n 1 w o op s) (ha : a < n) (c33 : LK B n a ≠ 33) (c40 : LK B n a ≠ 40) (cd : ¬ isd (LK B n a)) (hi : ni u (LK B n a) = 0) : fD_readValue N 0 (nI a) (nI u) s = some (nI 0, s) := by
  have d0 : dc B n 4 a = 0 := if_neg cd
  rw [V_head hn h ha, if_neg c33, if_neg c40, D_digits hN hn h (by omega), zbd_s, d0, if_pos (by decide), D_nameOf hN h.2.2.2.2.2.2.2.2 hu, zbd_s, hi, if_neg (by decide)]
  rfl
/-! a join, read by the class -/
theorem CF_due {B : Nat → Int32} {n due op : Nat} {w o : List Int32} {s : zS} (h : CF B n due w o op s) : CF B n 1 w o op (zup s 1 0 5 1) := by
  obtain ⟨a1, a2, a3, a4, a5, a6, a7, a8, a9⟩ := h
  refine CF_u ⟨a1, a2, a3, a4, a5, a6, a7, a8, a9⟩ zup_s ?_ a5 ?_ a7 ?_
  · rw [zup_k (by omega)]; exact a4
  · rw [zup_k (by omega)]; exact a6
  · rw [zup_k (by omega)]; exact a8
theorem J_64 {N : Nat} {B : Nat → Int32} {n due op : Nat} {c : Int32} {w o : List Int32} {s : zS} (h : CF B n due w o op s) (hw : w.length < 60) : ∃ s', fD_readJoin_J64 N c s = some (nI 1, s') ∧ CF B n 1 (c :: w) o op s' ∧ FD s s' := by
  obtain ⟨s1, r1, r2, r3⟩ := D_await (v := c) h hw
  refine ⟨zup s1 1 0 5 1, ?_, CF_due r2, FD_t r3 (FD_u (by omega))⟩
  unfold fD_readJoin_J64
  rw [r1, zbd_s, zlt_eq]
  rfl
theorem J_op {N : Nat} (hN : 901 ≤ N) {B : Nat → Int32} {n op l : Nat} {c : Int32} {w p o : List Int32} {s : zS} (hc : rk c = l) (hl0 : l ≠ 0) (hl3 : l ≠ 3) (hw : hd (fun x => rk x < l) w) (hp : ∀ x ∈ p, l ≤ rk x) (h : CF B n 0 (p ++ w) o op s) (h3 : o.length + p.length ≤ 60) (h4 : p.length + w.length ≤ 60) (h5 : w.length < 60) : ∃ s', fD_readJoin N c s = some (nI 1, s') ∧ CF B n 1 (c :: w) (em p o) op s' ∧ FD s s' := by
  have hr := rk_le c
  have c41 : c ≠ 41 := rk_41 (by omega)
  obtain ⟨s1, r1, r2, r3⟩ := D_settle hN (l := l) (by omega) hw hp h h3 h4
  obtain ⟨s2, t1, t2, t3⟩ := J_64 (N := N) (c := c) r2 h5
  refine ⟨s2, ?_, t2, FD_t r3 t3⟩
  unfold fD_readJoin
  rw [if_neg c41, D_rank, zbd_s, hc, if_neg (nz (by omega) hl0), if_neg (n3 (by omega) hl3), r1, zbd_s, t1]
theorem J_cmp {N : Nat} (hN : 901 ≤ N) {B : Nat → Int32} {n op : Nat} {c : Int32} {w p o : List Int32} {s : zS} (hc : rk c = 3) (hw : hd (fun x => rk x < 3) w) (hp : ∀ x ∈ p, 4 ≤ rk x) (h : CF B n 0 (p ++ w) o op s) (h3 : o.length + p.length ≤ 60) (h4 : p.length + w.length ≤ 60) (h5 : w.length < 60) : ∃ s', fD_readJoin N c s = some (nI 1, s') ∧ CF B n 1 (c :: w) (em p o) op s' ∧ FD s s' := by
  have c41 : c ≠ 41 := rk_41 (by omega)
  obtain ⟨s1, r1, r2, r3⟩ := D_settle hN (l := 4) (by omega) (hd_i (fun x hx => by omega) hw) hp h h3 h4
  obtain ⟨s2, t1, t2, t3⟩ := J_64 (N := N) (c := c) r2 h5
  refine ⟨s2, ?_, t2, FD_t r3 t3⟩
  have r1' : fD_settle N 4 s = some s1 := r1
  unfold fD_readJoin
  rw [if_neg c41, D_rank, zbd_s, hc, if_neg (by decide), if_pos (show nI 3 = 3 from rfl), r1', zbd_s, r2.2.2.2.1]
  cases w with
  | nil =>
    rw [if_pos (by decide)]
    exact t1
  | cons y w =>
    rw [List.length_cons] at h4 h5
    have ey : s1 13 0 w.length = y := r2.2.2.2.2.1.1
    have hy : rk y < 3 := hw
    have hne : ¬ (nI (rk y) = 3) := fun q => absurd ((nI_eq (b := 3) (by omega) (by omega)).mp q) (by omega)
    rw [List.length_cons, if_nle0 (by omega) (by omega), n_sub1 (by omega), Nat.add_sub_cancel]
    simp (disch := omega) only [zlt_eq, zgd_T, zin_T, zb2_s, zbd_s, n_cl, n_sub1, n_predm, n_sc, if_nle, if_nle0, if_nle1, if_le, if_true, if_false, ey, D_rank]
    rw [if_neg hne]
    exact t1
def stk (l : Nat) (c : Int32) (p : List Int32) : Prop := rk c < l ∨ (rk c = 3 ∧ ∃ p1 y p2, p = p1 ++ y :: p2 ∧ rk y = 3 ∧ ∀ x ∈ p1, 4 ≤ rk x)
theorem J_stuck {N : Nat} (hN : 901 ≤ N) {B : Nat → Int32} {n op : Nat} {c : Int32} {w p o : List Int32} {s : zS} (hc : stk 1 c p) (c41 : c ≠ 41) (h : CF B n 0 (p ++ w) o op s) (h3 : o.length + p.length ≤ 60) (h4 : p.length + w.length ≤ 60) : ∃ s', fD_readJoin N c s = some (nI 0, s') ∧ FD s s' := by
  unfold fD_readJoin
  rcases hc with q | ⟨q, p1, y, p2, e, hy, hp1⟩
  · have e0 : rk c = 0 := by omega
    rw [if_neg c41, D_rank, zbd_s, e0, if_pos (show nI 0 = 0 from rfl)]
    exact ⟨s, rfl, FD_r⟩
  · have e2 : p ++ w = p1 ++ (y :: (p2 ++ w)) := by rw [e, List.append_assoc, List.cons_append]
    rw [e2] at h
    rw [e, List.length_append, List.length_cons] at h3 h4
    obtain ⟨s1, r1, r2, r3⟩ := D_settle hN (l := 4) (by omega) (show hd (fun x => rk x < 4) (y :: (p2 ++ w)) by show rk y < 4; omega) hp1 h (by omega) (by rw [List.length_cons, List.length_append]; omega)
    have r1' : fD_settle N 4 s = some s1 := r1
    have ey : s1 13 0 (p2 ++ w).length = y := r2.2.2.2.2.1.1
    have hlen : (p2 ++ w).length < 60 := by rw [List.length_append]; omega
    rw [if_neg c41, D_rank, zbd_s, q, if_neg (by decide), if_pos (show nI 3 = 3 from rfl), r1', zbd_s, r2.2.2.2.1, List.length_cons, if_nle0 (by omega) (by omega), n_sub1 (by omega), Nat.add_sub_cancel]
    simp (disch := omega) only [zlt_eq, zgd_T, zin_T, zb2_s, zbd_s, n_cl, n_sub1, n_predm, n_sc, if_nle, if_nle0, if_nle1, if_le, if_true, if_false, ey, D_rank]
    rw [hy, if_pos (show nI 3 = 3 from rfl)]
    exact ⟨s1, rfl, r3⟩
theorem J_close {N : Nat} (hN : 901 ≤ N) {B : Nat → Int32} {n j op : Nat} {w p o : List Int32} {s : zS} (hw : hd (fun x => x ≠ 33) w) (h0 : j + 1 ≤ op) (h1 : op ≤ 5) (hp : ∀ x ∈ p, 1 ≤ rk x) (h : CF B n 0 (p ++ 40 :: bg 33 j w) o op s) (h3 : o.length + p.length + j ≤ 60) (h4 : p.length + (1 + (j + w.length)) ≤ 60) : ∃ s', fD_readJoin N 41 s = some (nI 1, s') ∧ CF B n 0 w (bg 20033 j (em p o)) (op - 1 - j) s' ∧ FD s s' := by
  obtain ⟨s1, r1, r2, r3⟩ := D_settle hN (l := 1) (by omega) (show hd (fun x => rk x < 1) (40 :: bg 33 j w) by show rk 40 < 1; decide) hp h (by omega) (by rw [List.length_cons, bg_len]; omega)
  have r1' : fD_settle N 1 s = some s1 := r1
  have hlen : (40 :: bg 33 j w).length = 1 + (j + w.length) := by rw [List.length_cons, bg_len]; omega
  have hne : ¬ (nI (1 + (j + w.length)) = 0) := fun q => absurd ((nI_eq (b := 0) (by omega) (by omega)).mp q) (by omega)
  obtain ⟨q1, q2⟩ := CF_pop r2
  have e4 : (zup s1 1 0 3 (nI (bg 33 j w).length)) 1 0 4 - 1 = nI (op - 1) := by rw [q2.2.2.2.2.2.2.2.1, n_sub1 (by omega)]
  have q3 : CF B n 0 (bg 33 j w) (em p o) (op - 1) (zup (zup s1 1 0 3 (nI (bg 33 j w).length)) 1 0 4 (nI (op - 1))) := by
    obtain ⟨a1, a2, a3, a4, a5, a6, a7, a8, a9⟩ := q2
    refine CF_u ⟨a1, a2, a3, a4, a5, a6, a7, a8, a9⟩ ?_ ?_ a5 ?_ a7 zup_s
    · rw [zup_k (by omega)]; exact a3
    · rw [zup_k (by omega)]; exact a4
    · rw [zup_k (by omega)]; exact a6
  obtain ⟨s2, t1, t2, t3⟩ := D_end hN hw (by omega) (by omega) q3 (by rw [em_len]; omega) (by omega)
  refine ⟨s2, ?_, t2, FD_t r3 (FD_t (FD_u (by omega)) (FD_t (FD_u (by omega)) t3))⟩
  unfold fD_readJoin fD_closeOne
  rw [if_pos rfl, zb2_id, r1', zbd_s, r2.2.2.2.1, hlen, if_neg hne, ← hlen, ← r2.2.2.2.1, q1, zlt_eq, zlt_eq, e4, t1, zbd_s]
  rfl
theorem J_close0 {N : Nat} (hN : 901 ≤ N) {B : Nat → Int32} {n op : Nat} {p o : List Int32} {s : zS} (hp : ∀ x ∈ p, 1 ≤ rk x) (h : CF B n 0 (p ++ []) o op s) (h3 : o.length + p.length ≤ 60) : ∃ s', fD_readJoin N 41 s = some (nI 0, s') ∧ FD s s' := by
  obtain ⟨s1, r1, r2, r3⟩ := D_settle (w := []) hN (l := 1) (by omega) trivial hp h h3 (by rw [List.length_nil]; omega)
  have r1' : fD_settle N 1 s = some s1 := r1
  refine ⟨s1, ?_, r3⟩
  unfold fD_readJoin fD_closeOne
  rw [if_pos rfl, zb2_id, r1', zbd_s, r2.2.2.2.1, List.length_nil, if_pos (show nI 0 = 0 from rfl)]
  rfl
