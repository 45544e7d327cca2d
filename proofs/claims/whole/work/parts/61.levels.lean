/-! Pure mathematics: reading texts: both readers side by side. -/
theorem CF_len {B : Nat → Int32} {n due op : Nat} {w o : List Int32} {s : zS} (h : CF B n due w o op s) : s 1 0 3 = nI w.length := h.2.2.2.1
/-- what comes of it: read on, or the same fault -/
def OC (N u n : Nat) (B : Nat → Int32) (l op : Nat) (w : List Int32) (lo d : Nat) (run res : Option (Int32 × zS)) (s t : zS) : Prop :=
  (∃ p oc o' a' turn' f' s' t', run = RUN N u f' a' turn' s' ∧ res = some (1, t') ∧ CF B n 0 (p ++ w) oc op s' ∧ MF B n u a' op o' t' ∧ em p oc = o' ∧ (∀ x ∈ p, l ≤ rk x) ∧ stk l (LK B n a') p ∧ lo ≤ a' ∧ a' ≤ n ∧ turn' ≤ a' ∧ 62 ≤ f' + turn' ∧ o'.length + w.length ≤ a' ∧ dz o' (d + 1) ∧ FD s s' ∧ FMt t t')
  ∨ (∃ a' s' t', run = some (nI a', s') ∧ res = some (0, t') ∧ t' 8 0 6 = nI a' ∧ a' ≤ n ∧ FD s s' ∧ FMt t t')
theorem OC_t {N u n : Nat} {B : Nat → Int32} {l op : Nat} {w : List Int32} {lo lo' d : Nat} {run run' res res' : Option (Int32 × zS)} {s t s1 t1 : zS} (h : OC N u n B l op w lo d run res s1 t1) (hr : run' = run) (he : res' = res) (hl : lo' ≤ lo) (fs : FD s s1) (ft : FMt t t1) : OC N u n B l op w lo' d run' res' s t := by
  subst hr he
  rcases h with ⟨p, oc, o', a', turn', f', s', t', h1, h2, h3, h4, h5, h6, h7, h8, h9, h10, h11, h12, h13, h14, h15⟩ | ⟨a', s', t', h1, h2, h3, h4, h5, h6⟩
  · exact Or.inl ⟨p, oc, o', a', turn', f', s', t', h1, h2, h3, h4, h5, h6, h7, by omega, h9, h10, h11, h12, h13, FD_t fs h14, FMt_t ft h15⟩
  · exact Or.inr ⟨a', s', t', h1, h2, h3, h4, FD_t fs h5, FMt_t ft h6⟩
def SL (N u n : Nat) (B : Nat → Int32) (l op : Nat) (P : zS → Option (Int32 × zS)) : Prop := ∀ (w o : List Int32) (a turn f d : Nat) (s t : zS), hd (fun x => rk x < l ∧ x ≠ 33) w → CF B n 1 w o op s → MF B n u a op o t → a ≤ n → turn ≤ a → 62 ≤ f + turn → o.length + w.length ≤ a → dz o d → OC N u n B l op w (a + 1) d (RUN N u f a turn s) (P t) s t
theorem dz_op {x : Int32} {o : List Int32} {d : Nat} (h : rk x ≠ 0) (hd : dz o (d + 2)) : dz ((20000 + x) :: o) (d + 1) := by
  obtain ⟨k1, k2, k3, k4, -, -⟩ := rk_part 0 h
  refine ⟨by omega, ?_⟩
  rw [if_pos k1, if_pos k2, if_neg k3, k4]
  exact ⟨rk_ten h, hd⟩
theorem stk_app {l : Nat} {c : Int32} {p q : List Int32} (h : stk l c p) : stk l c (p ++ q) := by
  rcases h with h | ⟨h1, p1, y, p2, e, h2, h3⟩
  · exact Or.inl h
  · exact Or.inr ⟨h1, p1, y, p2 ++ q, by rw [e, List.append_assoc, List.cons_append], h2, h3⟩
theorem stk_down {l : Nat} {c : Int32} {p : List Int32} (h : stk (l + 1) c p) (hc : rk c ≠ l) : stk l c p := by
  rcases h with h | h
  · exact Or.inl (by omega)
  · exact Or.inr h
theorem LK_lt {B : Nat → Int32} {n a : Nat} (h : rk (LK B n a) ≠ 0) : a < n := by
  apply Nat.lt_of_not_le
  intro q
  rw [LK_n q] at h
  exact h (by decide)
/-- a sign, and what stands behind it -/
theorem G_join {N u n : Nat} {B : Nat → Int32} {l op : Nat} {P' : zS → Option (Int32 × zS)} (hN : 901 ≤ N) (hn : n ≤ 60) (hS : SL N u n B (l + 1) op P') {w p oc o' : List Int32} {a turn f d : Nat} {s t : zS} (hc : rk (LK B n a) = l) (hl0 : l ≠ 0) (hw : hd (fun x => rk x < l ∧ x ≠ 33) w) (hp : ∀ x ∈ p, (if l = 3 then 4 else l) ≤ rk x) (h : CF B n 0 (p ++ w) oc op s) (m : MF B n u a op o' t) (he : em p oc = o') (ht : turn ≤ a) (hf : 62 ≤ f + turn) (hb : o'.length + w.length ≤ a) (hz : dz o' (d + 1)) : (∃ p2 oc2 o2 a2 turn2 f2 s2 t2, RUN N u f a turn s = RUN N u f2 a2 turn2 s2 ∧ (zb2 (P' (zup t 8 0 6 (nI (a + 1)))) fun r s => if r = 0 then some ((0 : Int32), s) else (fM_step1 3 (LK B n a) s).bind fun s2 => some ((1 : Int32), s2)) = some (1, t2) ∧ CF B n 0 ((p2 ++ [LK B n a]) ++ w) oc2 op s2 ∧ MF B n u a2 op o2 t2 ∧ em (p2 ++ [LK B n a]) oc2 = o2 ∧ (∀ x ∈ p2, l + 1 ≤ rk x) ∧ stk (l + 1) (LK B n a2) p2 ∧ a + 1 ≤ a2 ∧ a2 ≤ n ∧ turn2 ≤ a2 ∧ 62 ≤ f2 + turn2 ∧ o2.length + w.length ≤ a2 ∧ dz o2 (d + 1) ∧ FD s s2 ∧ FMt t t2) ∨ (∃ a' s' t', RUN N u f a turn s = some (nI a', s') ∧ P' (zup t 8 0 6 (nI (a + 1))) = some (0, t') ∧ t' 8 0 6 = nI a' ∧ a' ≤ n ∧ FD s s' ∧ FMt t t') := by
  have ha : a < n := LK_lt (B := B) (by omega)
  have hel := em_len p oc
  rw [he] at hel
  have hlen : (p ++ w).length = p.length + w.length := List.length_append
  have c33 := rk_33 (x := LK B n a) (by omega)
  have jn' : ∃ s', fD_readJoin N (LK B n a) s = some (nI 1, s') ∧ CF B n 1 (LK B n a :: w) (em p oc) op s' ∧ FD s s' := by
    by_cases z : l = 3
    · rw [if_pos z] at hp
      exact J_cmp hN (by omega) (hd_i (fun x hx => by omega) hw) hp h (by omega) (by omega) (by omega)
    · rw [if_neg z] at hp
      exact J_op hN hc hl0 z (hd_i (fun x hx => hx.1) hw) hp h (by omega) (by omega) (by omega)
  obtain ⟨s1, r1, r2, r3⟩ := jn'
  rw [he] at r2
  obtain ⟨f', rfl⟩ : ∃ f', f = f' + 1 := ⟨f - 1, by omega⟩
  have rr := RUN_j (u := u) (f := f') h hn ha ht (by omega) r1
  rw [if_neg (by omega)] at rr
  obtain ⟨e1, m1, fm1⟩ := M_on m
  have oc1 := hS (LK B n a :: w) o' (a + 1) (turn + 1) f' (d + 1) s1 _ (show rk (LK B n a) < l + 1 ∧ LK B n a ≠ 33 from ⟨by omega, c33⟩) r2 m1 (by omega) (by omega) (by omega) (by rw [List.length_cons]; omega) hz
  rcases oc1 with ⟨p2, oc2, o2, a2, turn2, f2, s2, t2, h1, h2, h3, h4, h5, h6, h7, h8, h9, h10, h11, h12, h13, h14, h15⟩ | ⟨a', s', t', h1, h2, h3, h4, h5, h6⟩
  · rw [List.length_cons] at h12
    obtain ⟨k1, k2, k3, k4, k5, k6⟩ := rk_part u (x := LK B n a) (by omega)
    obtain ⟨t3, x1, x2, x3⟩ := M_step (x := 20000 + LK B n a) (y := 3) (v := LK B n a) h4 (by omega) k5.symm (fun _ => k6.symm)
    refine Or.inl ⟨p2, oc2, (20000 + LK B n a) :: o2, a2, turn2, f2, s2, t3, rr.trans h1, ?_, ?_, x2, ?_, h6, h7, by omega, h9, h10, h11, by rw [List.length_cons]; omega, dz_op (by omega) h13, FD_t r3 h14, FMt_t fm1 (FMt_t h15 x3)⟩
    · rw [h2, zb2_s, if_neg (by decide), x1, zbd_s]
    · rw [List.append_assoc]
      exact h3
    · rw [em_app, h5]
      rfl
  · exact Or.inr ⟨a', s', t', rr.trans h1, h2, h3, h4, FD_t r3 h5, FMt_t fm1 h6⟩
theorem G_loop {N u n : Nat} {B : Nat → Int32} {l op : Nat} {P' : zS → Option (Int32 × zS)} {Lp : Nat → zS → Option (Int32 × zS)} (hN : 901 ≤ N) (hn : n ≤ 60) (hl : l = 1 ∨ l = 2 ∨ l = 4 ∨ l = 5) (hS : SL N u n B (l + 1) op P') (hL : ∀ k a o t, a ≤ n → MF B n u a op o t → Lp (k + 1) t = if rk (LK B n a) = l then zb2 (P' (zup t 8 0 6 (nI (a + 1)))) (fun r s => if r = 0 then some (0, s) else (fM_step1 3 (LK B n a) s).bind fun s2 => Lp k s2) else some (1, t)) : ∀ k (w p oc o' : List Int32) (a turn f d : Nat) (s t : zS), hd (fun x => rk x < l ∧ x ≠ 33) w → CF B n 0 (p ++ w) oc op s → MF B n u a op o' t → em p oc = o' → (∀ x ∈ p, l ≤ rk x) → stk (l + 1) (LK B n a) p → a ≤ n → turn ≤ a → 62 ≤ f + turn → o'.length + w.length ≤ a → dz o' (d + 1) → n < a + k → OC N u n B l op w a d (RUN N u f a turn s) (Lp k t) s t
  | 0, w, p, oc, o', a, turn, f, d, s, t, h1, h2, h3, h4, h5, h6, h7, h8, h9, h10, h11, h12 => absurd h12 (by omega)
  | k + 1, w, p, oc, o', a, turn, f, d, s, t, h1, h2, h3, h4, h5, h6, h7, h8, h9, h10, h11, h12 => by
    rw [hL k a o' t h7 h3]
    by_cases q : rk (LK B n a) = l
    · rw [if_pos q]
      have g := G_join hN hn hS q (by omega) h1 (fun x hx => by rw [if_neg (by omega)]; exact h5 x hx) h2 h3 h4 h8 h9 h10 h11
      rcases g with ⟨p2, oc2, o2, a2, turn2, f2, s2, t2, g1, g2, g3, g4, g5, g6, g7, g8, g9, g10, g11, g12, g13, g14, g15⟩ | ⟨a', s', t', g1, g2, g3, g4, g5, g6⟩
      · have e : zb2 (P' (zup t 8 0 6 (nI (a + 1)))) (fun r s => if r = 0 then some (0, s) else (fM_step1 3 (LK B n a) s).bind fun s2 => Lp k s2) = Lp k t2 := by
          cases hP : P' (zup t 8 0 6 (nI (a + 1))) with
          | none => rw [hP] at g2; cases g2
          | some v =>
            obtain ⟨r, s5⟩ := v
            rw [hP, zb2_s] at g2
            rw [zb2_s]
            by_cases z : r = 0
            · rw [if_pos z] at g2
              have : ((0 : Int32), s5) = (1, t2) := Option.some.inj g2
              have : (0 : Int32) = 1 := congrArg Prod.fst this
              exact absurd this (by decide)
            · rw [if_neg z] at g2 ⊢
              cases hM : fM_step1 3 (LK B n a) s5 with
              | none => rw [hM] at g2; cases g2
              | some s6 =>
                rw [hM, zbd_s] at g2
                have : ((1 : Int32), s6) = (1, t2) := Option.some.inj g2
                have : s6 = t2 := congrArg Prod.snd this
                rw [zbd_s, this]
        have ih := G_loop hN hn hl hS hL k w (p2 ++ [LK B n a]) oc2 o2 a2 turn2 f2 d s2 t2 h1 g3 g4 g5 (fun x hx => by
          rcases List.mem_append.mp hx with y | y
          · have := g6 x y
            omega
          · rw [List.mem_singleton.mp y]
            omega) (stk_app g7) g9 g10 g11 g12 g13 (by omega)
        exact OC_t ih g1 e (by omega) g14 g15
      · refine Or.inr ⟨a', s', t', g1, ?_, g3, g4, g5, g6⟩
        rw [g2, zb2_s, if_pos rfl]
    · rw [if_neg q]
      exact Or.inl ⟨p, oc, o', a, turn, f, s, t, rfl, rfl, h2, h3, h4, h5, stk_down h6 q, Nat.le_refl _, h7, h8, h9, h10, h11, FD_r, FMt_r⟩
theorem G_lvl {N u n : Nat} {B : Nat → Int32} {l op : Nat} {P P' : zS → Option (Int32 × zS)} {Lp : Nat → zS → Option (Int32 × zS)} (hN : 901 ≤ N) (hn : n ≤ 60) (hl : l = 1 ∨ l = 2 ∨ l = 4 ∨ l = 5) (hS : SL N u n B (l + 1) op P') (hL : ∀ k a o t, a ≤ n → MF B n u a op o t → Lp (k + 1) t = if rk (LK B n a) = l then zb2 (P' (zup t 8 0 6 (nI (a + 1)))) (fun r s => if r = 0 then some (0, s) else (fM_step1 3 (LK B n a) s).bind fun s2 => Lp k s2) else some (1, t)) (hP : ∀ t, P t = zb2 (P' t) fun r3 s2 => if r3 = 0 then some (0, s2) else Lp N s2) : SL N u n B l op P := by
  intro w o a turn f d s t h1 h2 h3 h4 h5 h6 h7 h8
  rw [hP]
  have o1 := hS w o a turn f d s t (hd_i (fun x hx => ⟨by omega, hx.2⟩) h1) h2 h3 h4 h5 h6 h7 h8
  rcases o1 with ⟨p2, oc2, o2, a2, turn2, f2, s2, t2, g1, g2, g3, g4, g5, g6, g7, g8, g9, g10, g11, g12, g13, g14, g15⟩ | ⟨a', s', t', g1, g2, g3, g4, g5, g6⟩
  · have ih := G_loop hN hn hl hS hL N w p2 oc2 o2 a2 turn2 f2 d s2 t2 h1 g3 g4 g5 (fun x hx => by have := g6 x hx; omega) g7 g9 g10 g11 g12 g13 (by omega)
    exact OC_t ih g1 (by rw [g2, zb2_s, if_neg (by decide)]) g8 g14 g15
  · refine Or.inr ⟨a', s', t', g1, ?_, g3, g4, g5, g6⟩
    rw [g2, zb2_s, if_pos rfl]
theorem G_cmp {N u n : Nat} {B : Nat → Int32} {op : Nat} {P P' : zS → Option (Int32 × zS)} (hN : 901 ≤ N) (hn : n ≤ 60) (hS : SL N u n B 4 op P') (hP : ∀ t, P t = zb2 (P' t) fun r3 s2 => if r3 = 0 then some (0, s2) else (fM_look s2).bind fun c => if rk c = 3 then zlt (zup s2 8 0 6 ((s2 8 0 6) + 1)) fun s10 => (zb2 (P' s10) fun r s => if r = 0 then some (0, s) else (fM_step1 3 c s).bind fun s2 => some (1, s2)) else some (1, s2)) : SL N u n B 3 op P := by
  intro w o a turn f d s t h1 h2 h3 h4 h5 h6 h7 h8
  rw [hP]
  have o1 := hS w o a turn f d s t (hd_i (fun x hx => ⟨by omega, hx.2⟩) h1) h2 h3 h4 h5 h6 h7 h8
  rcases o1 with ⟨p, oc, o1, a1, turn1, f1, s1, t1, k1, k2, k3, k4, k5, k6, k7, k8, k9, k10, k11, k12, k13, k14, k15⟩ | ⟨a', s', t', g1, g2, g3, g4, g5, g6⟩
  · rw [k2, zb2_s, if_neg (by decide), M_look hn k9 k4, zbd_s]
    by_cases q : rk (LK B n a1) = 3
    · obtain ⟨e1, m1, fm1⟩ := M_on k4
      rw [if_pos q, zlt_eq, e1]
      have g := G_join (l := 3) hN hn hS q (by omega) h1 (fun x hx => by rw [if_pos rfl]; exact k6 x hx) k3 k4 k5 k10 k11 k12 k13
      rcases g with ⟨p2, oc2, o2, a2, turn2, f2, s2, t2, g1, g2, g3, g4, g5, g6, g7, g8, g9, g10, g11, g12, g13, g14, g15⟩ | ⟨a', s', t', g1, g2, g3, g4, g5, g6⟩
      · refine Or.inl ⟨p2 ++ [LK B n a1], oc2, o2, a2, turn2, f2, s2, t2, k1.trans g1, g2, g3, g4, g5, fun x hx => ?_, ?_, by omega, g9, g10, g11, g12, g13, FD_t k14 g14, FMt_t k15 g15⟩
        · rcases List.mem_append.mp hx with y | y
          · have := g6 x y
            omega
          · rw [List.mem_singleton.mp y]
            omega
        · rcases stk_app (q := [LK B n a1]) g7 with y | y
          · by_cases y3 : rk (LK B n a2) = 3
            · exact Or.inr ⟨y3, p2, LK B n a1, [], rfl, q, g6⟩
            · exact Or.inl (by omega)
          · exact Or.inr y
      · refine Or.inr ⟨a', s', t', k1.trans g1, ?_, g3, g4, FD_t k14 g5, FMt_t k15 g6⟩
        rw [g2, zb2_s, if_pos rfl]
    · rw [if_neg q]
      exact Or.inl ⟨p, oc, o1, a1, turn1, f1, s1, t1, k1, rfl, k3, k4, k5, fun x hx => by have := k6 x hx; omega, stk_down k7 q, k8, k9, k10, k11, k12, k13, k14, k15⟩
  · refine Or.inr ⟨a', s', t', g1, ?_, g3, g4, g5, g6⟩
    rw [g2, zb2_s, if_pos rfl]
/-! one value -/
def S1 (N u n : Nat) (B : Nat → Int32) (op : Nat) (P : zS → Option (Int32 × zS)) : Prop := ∀ (j : Nat) (w o : List Int32) (a turn f d : Nat) (s t : zS), hd (fun x => x ≠ 33) w → j ≤ op → CF B n 1 (bg 33 j w) o op s → MF B n u a op o t → a ≤ n → turn ≤ a → 62 ≤ f + turn → o.length + (j + w.length) ≤ a → dz o d → (∃ o' a' turn' f' s' t', RUN N u f a turn s = RUN N u f' a' turn' s' ∧ P t = some (1, t') ∧ CF B n 0 w (bg 20033 j o') (op - j) s' ∧ MF B n u a' op o' t' ∧ a + 1 ≤ a' ∧ a' ≤ n ∧ turn' ≤ a' ∧ 62 ≤ f' + turn' ∧ o'.length + (j + w.length) ≤ a' ∧ dz o' (d + 1) ∧ FD s s' ∧ FMt t t') ∨ (∃ a' s' t', RUN N u f a turn s = some (nI a', s') ∧ P t = some (0, t') ∧ t' 8 0 6 = nI a' ∧ a' ≤ n ∧ FD s s' ∧ FMt t t')
theorem S1_SL {N u n : Nat} {B : Nat → Int32} {op : Nat} {P : zS → Option (Int32 × zS)} (h : S1 N u n B op P) : SL N u n B 6 op P := by
  intro w o a turn f d s t h1 h2 h3 h4 h5 h6 h7 h8
  have g := h 0 w o a turn f d s t (hd_i (fun x hx => hx.2) h1) (Nat.zero_le _) h2 h3 h4 h5 h6 (by omega) h8
  rcases g with ⟨o', a', turn', f', s', t', g1, g2, g3, g4, g5, g6, g7, g8, g9, g10, g11, g12⟩ | g
  · refine Or.inl ⟨[], o', o', a', turn', f', s', t', g1, g2, g3, g4, rfl, fun x hx => absurd hx List.not_mem_nil, Or.inl ?_, g5, g6, g7, g8, by omega, g10, g11, g12⟩
    have := rk_le (LK B n a')
    omega
  · exact Or.inr g
theorem SL_5 {N G u n m : Nat} {B : Nat → Int32} {op : Nat} (hN : 901 ≤ N) (hn : n ≤ 60) (h : SL N u n B 6 op (fM_one0 N G m)) : SL N u n B 5 op (fM_product N G (m + 1)) := by
  refine G_lvl (Lp := fM_product_L9 N G (gM_whole N G m).1 (gM_whole N G m).2.1 (gM_whole N G m).2.2.1 (gM_whole N G m).2.2.2.1 (gM_whole N G m).2.2.2.2.1 (gM_whole N G m).2.2.2.2.2) hN hn (by omega) h (fun k a o t ha hm => ?_) (fun t => rfl)
  obtain ⟨e1, m1, fm1⟩ := M_on hm
  rw [fM_product_L9, M_look hn ha hm, zbd_s, zbd_s, zbd_s]
  unfold fM_product_J36
  dsimp only
  rw [M_look hn ha hm, zbd_s, zlt_eq, e1]
  by_cases q : rk (LK B n a) = 5
  · rw [if_pos q]
    rcases rk_5.mp q with y | y | y
    · rw [if_pos y]
      rfl
    · rw [if_neg (by rw [y]; decide), if_pos y]
      rfl
    · rw [if_neg (by rw [y]; decide), if_neg (by rw [y]; decide), if_pos y]
      rfl
  · rw [if_neg q, if_neg (fun y => q (rk_5.mpr (Or.inl y))), if_neg (fun y => q (rk_5.mpr (Or.inr (Or.inl y)))), if_neg (fun y => q (rk_5.mpr (Or.inr (Or.inr y))))]
theorem SL_4 {N G u n m : Nat} {B : Nat → Int32} {op : Nat} (hN : 901 ≤ N) (hn : n ≤ 60) (h : SL N u n B 5 op (fM_product N G m)) : SL N u n B 4 op (fM_sum N G (m + 1)) := by
  refine G_lvl (Lp := fM_sum_L9 N G (gM_whole N G m).1 (gM_whole N G m).2.1 (gM_whole N G m).2.2.1 (gM_whole N G m).2.2.2.1 (gM_whole N G m).2.2.2.2.1 (gM_whole N G m).2.2.2.2.2) hN hn (by omega) h (fun k a o t ha hm => ?_) (fun t => rfl)
  obtain ⟨e1, m1, fm1⟩ := M_on hm
  rw [fM_sum_L9, M_look hn ha hm, zbd_s, zbd_s]
  unfold fM_sum_J27
  dsimp only
  rw [M_look hn ha hm, zbd_s, zlt_eq, e1]
  by_cases q : rk (LK B n a) = 4
  · rw [if_pos q]
    rcases rk_4.mp q with y | y
    · rw [if_pos y]
      rfl
    · rw [if_neg (by rw [y]; decide), if_pos y]
      rfl
  · rw [if_neg q, if_neg (fun y => q (rk_4.mpr (Or.inl y))), if_neg (fun y => q (rk_4.mpr (Or.inr y)))]
theorem SL_3 {N G u n m : Nat} {B : Nat → Int32} {op : Nat} (hN : 901 ≤ N) (hn : n ≤ 60) (h : SL N u n B 4 op (fM_sum N G m)) : SL N u n B 3 op (fM_compared N G (m + 1)) := by
  refine G_cmp hN hn h (fun t => ?_)
  show fM_compared_b N G (gM_whole N G m).1 (gM_whole N G m).2.1 (gM_whole N G m).2.2.1 (gM_whole N G m).2.2.2.1 (gM_whole N G m).2.2.2.2.1 (gM_whole N G m).2.2.2.2.2 t = _
  unfold fM_compared_b fM_compared_J34
  have e : ∀ (c : Int32) (x y : Option (Int32 × zS)), (if c = 60 then x else if c = 61 then x else if c = 62 then x else y) = if rk c = 3 then x else y := by
    intro c x y
    by_cases q : rk c = 3
    · rw [if_pos q]
      rcases rk_3.mp q with z | z | z
      · rw [if_pos z]
      · rw [if_neg (by rw [z]; decide), if_pos z]
      · rw [if_neg (by rw [z]; decide), if_neg (by rw [z]; decide), if_pos z]
    · rw [if_neg q, if_neg (fun z => q (rk_3.mpr (Or.inl z))), if_neg (fun z => q (rk_3.mpr (Or.inr (Or.inl z)))), if_neg (fun z => q (rk_3.mpr (Or.inr (Or.inr z))))]
  simp only [e]
  rfl
theorem SL_2 {N G u n m : Nat} {B : Nat → Int32} {op : Nat} (hN : 901 ≤ N) (hn : n ≤ 60) (h : SL N u n B 3 op (fM_compared N G m)) : SL N u n B 2 op (fM_both N G (m + 1)) := by
  refine G_lvl (Lp := fM_both_L9 N G (gM_whole N G m).1 (gM_whole N G m).2.1 (gM_whole N G m).2.2.1 (gM_whole N G m).2.2.2.1 (gM_whole N G m).2.2.2.2.1 (gM_whole N G m).2.2.2.2.2) hN hn (by omega) h (fun k a o t ha hm => ?_) (fun t => rfl)
  obtain ⟨e1, m1, fm1⟩ := M_on hm
  rw [fM_both_L9, M_look hn ha hm, zbd_s, zlt_eq, e1]
  by_cases q : rk (LK B n a) = 2
  · have y := rk_2.mp q
    rw [if_pos q, if_pos y, y]
    rfl
  · rw [if_neg q, if_neg (fun y => q (rk_2.mpr y))]
theorem SL_1 {N G u n m : Nat} {B : Nat → Int32} {op : Nat} (hN : 901 ≤ N) (hn : n ≤ 60) (h : SL N u n B 2 op (fM_both N G m)) : SL N u n B 1 op (fM_whole N G (m + 1)) := by
  refine G_lvl (Lp := fM_whole_L9 N G (gM_whole N G m).1 (gM_whole N G m).2.1 (gM_whole N G m).2.2.1 (gM_whole N G m).2.2.2.1 (gM_whole N G m).2.2.2.2.1 (gM_whole N G m).2.2.2.2.2) hN hn (by omega) h (fun k a o t ha hm => ?_) (fun t => rfl)
  obtain ⟨e1, m1, fm1⟩ := M_on hm
  rw [fM_whole_L9, M_look hn ha hm, zbd_s, zlt_eq, e1]
  by_cases q : rk (LK B n a) = 1
  · have y := rk_1.mp q
    rw [if_pos q, if_pos y, y]
    rfl
  · rw [if_neg q, if_neg (fun y => q (rk_1.mpr y))]
theorem SL_all {N G u n m : Nat} {B : Nat → Int32} {op : Nat} (hN : 901 ≤ N) (hn : n ≤ 60) (h : S1 N u n B op (fM_one0 N G m)) : SL N u n B 1 op (fM_whole N G (m + 5)) := SL_1 hN hn (SL_2 hN hn (SL_3 hN hn (SL_4 hN hn (SL_5 hN hn (S1_SL h)))))
