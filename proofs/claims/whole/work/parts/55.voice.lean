/-! Pure mathematics: voices. -/
def BD (i : Nat) : Nat := [10, 11, 12, 13, 20, 0, 0, 21, 0, 30, 0, 0, 0, 0, 40, 0, 50, 0, 51, 0, 0, 60, 0, 0, 70, 71, 0, 0].getD i 0
def ab (q : Nat) : Nat := [0, 1, 1, 1, 2, 3, 1].getD q 0
def boc : Nat → Nat → Nat → Nat
  | 0, _, _ => 0
  | f + 1, c, v => if c = 0 then 0 else if BD (4 * (c - 1) + v) = 0 then boc f (ab (c - 1)) v else BD (4 * (c - 1) + v)
theorem zBD : ∀ i : Fin 28, zBODIES.getD i.1 0 = nI (BD i.1) ∧ BD i.1 < 100 := by decide +kernel
theorem TB_53 {σ : zS} (h : TB σ) {i : Nat} (hi : i < 28) : σ 53 0 i = nI (BD i) := (h.2.1 i).trans (zBD ⟨i, hi⟩).1
theorem BD_lt {i : Nat} (hi : i < 28) : BD i < 100 := (zBD ⟨i, hi⟩).2
theorem TB_52 {σ : zS} (h : TB σ) {q : Nat} (hq : q < 7) : σ 52 0 q = nO (ab q) := by
  obtain ⟨⟨a0, a1, a2, a3, a4, a5, a6⟩, -, -⟩ := h
  rcases (show q = 0 ∨ q = 1 ∨ q = 2 ∨ q = 3 ∨ q = 4 ∨ q = 5 ∨ q = 6 by omega) with z | z | z | z | z | z | z <;> subst z
  · exact a0
  · exact a1
  · exact a2
  · exact a3
  · exact a4
  · exact a5
  · exact a6
theorem ab_le : ∀ q : Fin 7, ab q.1 ≤ 7 := by decide
theorem V_bo_L {N : Nat} {σ : zS} (h : TB σ) {v : Nat} (hv : v < 4) : ∀ f c j g, j + f = 7 → f < g → c ≤ 7 → fV_bodyOf_L4 N g (nI v) (nO c) (nI j) σ = some (nI (boc f c v))
  | f, c, j, 0, h1, h2, h3 => absurd h2 (by omega)
  | 0, c, j, g + 1, h1, h2, h3 => by
    have hq : (6 : Int32) < nI j := (nI_ltI (a := 6) (by omega) (by omega)).mpr (by omega)
    rw [fV_bodyOf_L4, if_pos hq]
    rfl
  | f + 1, c, j, g + 1, h1, h2, h3 => by
    have hq : ¬ ((6 : Int32) < nI j) := fun r => absurd ((nI_ltI (a := 6) (by omega) (by omega)).mp r) (by omega)
    rw [fV_bodyOf_L4, if_neg hq]
    unfold boc
    by_cases z : c = 0
    · have : nO c < 0 := by rw [z]; decide
      rw [if_pos this, if_pos z]
      rfl
    · have hlt : ¬ (nO c < 0) := by rw [l0, nO_lt (by omega)]; exact z
      have hx : 4 * nO c + nI v = nI (4 * (c - 1) + v) := by rw [nO_pos z, l4, n_mul, n_add]
      have e3 := TB_53 h (i := 4 * (c - 1) + v) (by omega)
      have b3 := BD_lt (i := 4 * (c - 1) + v) (by omega)
      have e2 := TB_52 h (q := c - 1) (by omega)
      have b2 : ab (c - 1) ≤ 7 := ab_le ⟨c - 1, by omega⟩
      rw [if_neg hlt, if_neg z, hx]
      simp (disch := omega) only [zlt_eq, zgd_T, zin_T, zb2_s, zbd_s, n_cl, n_sub1, n_predm, n_sc, if_nle, if_nle0, if_nle1, if_le, if_true, if_false, e3]
      by_cases y : BD (4 * (c - 1) + v) = 0
      · rw [if_pos y, if_pos (show nI (BD (4 * (c - 1) + v)) = 0 by rw [y]; rfl), nO_pos z]
        simp (disch := omega) only [zlt_eq, zgd_T, zin_T, zb2_s, zbd_s, n_cl, n_sub1, n_predm, n_sc, if_nle, if_nle0, if_nle1, if_le, if_true, if_false, e2]
        exact V_bo_L h hv f (ab (c - 1)) (j + 1) g (by omega) (by omega) b2
      · rw [if_neg y, if_neg (show ¬ (nI (BD (4 * (c - 1) + v)) = 0) from fun r => y ((nI_eq (b := 0) (by omega) (by omega)).mp r))]
theorem V_bo {N : Nat} (hN : 9 ≤ N) {σ : zS} (h : TB σ) {q v : Nat} (hq : q < 7) (hv : v < 4) : fV_bodyOf N (nI q) (nI v) σ = some (nI (boc 7 (q + 1) v)) := by
  unfold fV_bodyOf
  rw [← nO_s]
  exact V_bo_L h hv 7 (q + 1) 0 N (by omega) (by omega) (by omega)
/-- the class while it speaks, the reference while it speaks -/
def Vc (K o mm p n : Nat) (s : zS) : Prop := s 6 0 1 = nI n ∧ s 6 0 2 = nI p ∧ s 6 0 3 = nI K ∧ s 6 0 4 = nI o ∧ s 6 0 5 = nI mm ∧ TB s
def Vm (K o mm p n : Nat) (t : zS) : Prop := t 8 0 14 = nI n ∧ t 8 0 17 = nI p ∧ t 8 0 16 = nI o ∧ t 30 0 (12 + 6 * o + 0) = nI K ∧ t 30 0 (12 + 6 * o + 1) = nI mm
def Ve (s t : zS) (n : Nat) : Prop := ∀ i, i < n → s 24 0 i = t 38 0 i
def FVc (s s' : zS) : Prop := ∀ c i k, c ≠ 6 → c ≠ 24 → s' c i k = s c i k
def FVm (t t' : zS) : Prop := ∀ c i k, ¬ (c = 8 ∧ (k = 14 ∨ k = 17)) → c ≠ 38 → t' c i k = t c i k
theorem FVc_t {s s' s'' : zS} (h : FVc s s') (h' : FVc s' s'') : FVc s s'' := fun c i k a b => (h' c i k a b).trans (h c i k a b)
theorem FVm_t {s s' s'' : zS} (h : FVm s s') (h' : FVm s' s'') : FVm s s'' := fun c i k a b => (h' c i k a b).trans (h c i k a b)
def bC (s : zS) (n b : Nat) : zS := zup (zup s 24 0 n (nI b)) 6 0 1 (nI (n + 1))
def bM (t : zS) (n b : Nat) : zS := zup (zup t 38 0 n (nI b)) 8 0 14 (nI (n + 1))
def VP (K o mm n need p1 : Nat) (s : zS) (ca cm : zS → Option (Int32 × zS)) : Prop := ∃ r s' n' p, p ≤ p1 ∧ ca s = some (r, s') ∧ n' ≤ n + need ∧ Vc K o mm p n' s' ∧ FVc s s' ∧ ∀ t, Vm K o mm 0 n t → Ve s t n → ∃ t', cm t = some (r, t') ∧ Vm K o mm p n' t' ∧ Ve s' t' n' ∧ FVm t t'
theorem Vc_b {K o mm n b : Nat} {s : zS} (h : Vc K o mm 0 n s) : Vc K o mm 0 (n + 1) (bC s n b) ∧ FVc s (bC s n b) := by
  obtain ⟨h1, h2, h3, h4, h5, h6⟩ := h
  have e : ∀ c i k, ¬ (c = 24) → ¬ (c = 6 ∧ k = 1) → (bC s n b) c i k = s c i k := fun c i k a1 a2 => by
    unfold bC zup
    rw [if_neg (by omega), if_neg (by omega)]
  refine ⟨⟨zup_s, by rw [e _ _ _ (by omega) (by omega)]; exact h2, by rw [e _ _ _ (by omega) (by omega)]; exact h3, by rw [e _ _ _ (by omega) (by omega)]; exact h4, by rw [e _ _ _ (by omega) (by omega)]; exact h5, TB_e h6 (fun c i k q => e _ _ _ (by omega) (by omega))⟩, fun c i k a1 a2 => e _ _ _ (by omega) (by omega)⟩
theorem Vm_b {K o mm n b : Nat} {t : zS} (h : Vm K o mm 0 n t) : Vm K o mm 0 (n + 1) (bM t n b) ∧ FVm t (bM t n b) := by
  obtain ⟨h1, h2, h3, h4, h5⟩ := h
  have e : ∀ c i k, ¬ (c = 38) → ¬ (c = 8 ∧ k = 14) → (bM t n b) c i k = t c i k := fun c i k a1 a2 => by
    unfold bM zup
    rw [if_neg (by omega), if_neg (by omega)]
  exact ⟨⟨zup_s, by rw [e _ _ _ (by omega) (by omega)]; exact h2, by rw [e _ _ _ (by omega) (by omega)]; exact h3, by rw [e _ _ _ (by omega) (by omega)]; exact h4, by rw [e _ _ _ (by omega) (by omega)]; exact h5⟩, fun c i k a1 a2 => e _ _ _ (by omega) (by omega)⟩
theorem Ve_b {s t : zS} {n b : Nat} (h : Ve s t n) : Ve (bC s n b) (bM t n b) (n + 1) := by
  intro i hi
  have e1 : (bC s n b) 24 0 i = (zup s 24 0 n (nI b)) 24 0 i := zup_o (by omega)
  have e2 : (bM t n b) 38 0 i = (zup t 38 0 n (nI b)) 38 0 i := zup_o (by omega)
  rw [e1, e2]
  by_cases q : i = n
  · subst q
    rw [zup_s, zup_s]
  · rw [zup_k q, zup_k q]
    exact h i (by omega)
theorem M_beg {K o mm p n b : Nat} {t : zS} (h : Vm K o mm p n t) (hn : n < 30) : fM_begins (nI b) t = some (bM t n b) := by
  have hq : ¬ ((30 : Int32) ≤ nI n) := fun r => absurd ((nI_leI (a := 30) (by omega) (by omega)).mp r) (by omega)
  unfold fM_begins bM
  rw [h.1, if_neg hq]
  simp (disch := omega) only [zlt_eq, zgd_T, zin_T, zb2_s, zbd_s, n_cl, n_sub1, n_predm, n_sc, if_nle, if_nle0, if_nle1, if_le, if_true, if_false]
  rw [zup_o (by omega), h.1, n_sc]
theorem S_speak {N G g K o mm n q v b d : Nat} {x : Int32} {s : zS} (hN : 9 ≤ N) (h : Vc K o mm 0 n s) (hn : n < 30) (hq : q < 7) (hv : v < 4) (hb : boc 7 (q + 1) v = b) (hb0 : 0 < b) (hb1 : b < 100) (hd : d ≤ 40) : fV_speak N G (g + 1) (nI q) (nI v) x (nI d) s = if 20 ≤ b then fV_speakOther N G g (nI b) x (nI (d + 1)) (bC s n b) else fV_speakMother N G g (nI b) x (nI (d + 1)) (bC s n b) := by
  have hq1 : ¬ ((30 : Int32) ≤ nI n) := fun r => absurd ((nI_leI (a := 30) (by omega) (by omega)).mp r) (by omega)
  have hq2 : ¬ ((40 : Int32) < nI d) := fun r => absurd ((nI_ltI (a := 40) (by omega) (by omega)).mp r) (by omega)
  have hq3 : ¬ (nI b = 0) := fun r => absurd ((nI_eq (b := 0) (by omega) (by omega)).mp r) (by omega)
  show fV_speak_b N G (gV_speak N G g).1 (gV_speak N G g).2.1 (gV_speak N G g).2.2 (nI q) (nI v) x (nI d) s = _
  unfold fV_speak_b
  rw [V_bo hN h.2.2.2.2.2 hq hv, hb, zbd_s, if_neg hq2, if_neg hq3, h.1, if_neg hq1]
  simp (disch := omega) only [zlt_eq, zgd_T, zin_T, zb2_s, zbd_s, n_cl, n_sub1, n_predm, n_sc, if_nle, if_nle0, if_nle1, if_le, if_true, if_false]
  rw [zup_o (by omega), h.1, n_sc]
  unfold fV_speak_J51
  rw [zb2_id, zb2_id, n_sc]
  by_cases y : 20 ≤ b
  · have : (20 : Int32) ≤ nI b := (nI_leI (a := 20) (by omega) (by omega)).mpr y
    rw [if_pos this, if_pos y]
    rfl
  · have : ¬ ((20 : Int32) ≤ nI b) := fun r => y ((nI_leI (a := 20) (by omega) (by omega)).mp r)
    rw [if_neg this, if_neg y]
    rfl
theorem V_bg {K o mm n need p1 b : Nat} {s : zS} {ca cm ca' cm' : zS → Option (Int32 × zS)} (f : Int32 → Int32) (hs : Vc K o mm 0 n s) (h : VP K o mm (n + 1) need p1 (bC s n b) ca' cm') (ha : ∀ r s' p n', ca' (bC s n b) = some (r, s') → Vc K o mm p n' s' → ca s = some (f r, s')) (hm : ∀ t r t' p n', Vm K o mm 0 n t → cm' (bM t n b) = some (r, t') → Vm K o mm p n' t' → cm t = some (f r, t')) : VP K o mm n (need + 1) p1 s ca cm := by
  obtain ⟨r, s', n', p, a1, a2, a3, a4, a5, a6⟩ := h
  refine ⟨f r, s', n', p, a1, ha r s' p n' a2 a4, by omega, a4, FVc_t (Vc_b hs).2 a5, fun t ht hte => ?_⟩
  obtain ⟨t', b1, b2, b3, b4⟩ := a6 (bM t n b) (Vm_b ht).1 (Ve_b hte)
  exact ⟨t', hm t r t' p n' ht b1 b2, b2, b3, FVm_t (Vm_b ht).2 b4⟩
theorem V_up {K o mm n need p1 : Nat} {s : zS} {ca cm ca' cm' : zS → Option (Int32 × zS)} (h : VP K o mm n need p1 s ca' cm') (ha : ca s = ca' s) (hm : ∀ t, cm t = cm' t) : VP K o mm n need p1 s ca cm := by
  obtain ⟨r, s', n', p, a1, a2, a3, a4, a5, a6⟩ := h
  refine ⟨r, s', n', p, a1, ha.trans a2, a3, a4, a5, fun t ht hte => ?_⟩
  obtain ⟨t', b1, b2⟩ := a6 t ht hte
  exact ⟨t', (hm t).trans b1, b2⟩
theorem V_wk {K o mm n need need' p1 : Nat} {s : zS} {ca cm : zS → Option (Int32 × zS)} (h : VP K o mm n need p1 s ca cm) (hn : need ≤ need') : VP K o mm n need' p1 s ca cm := by
  obtain ⟨r, s', n', p, a1, a2, a3, a4⟩ := h
  exact ⟨r, s', n', p, a1, a2, by omega, a4⟩
/-- an answer at once -/
theorem V_now {K o mm n : Nat} {s : zS} (hs : Vc K o mm 0 n s) (r : Int32) : VP K o mm n 0 0 s (fun s => some (r, s)) (fun t => some (r, t)) := ⟨r, s, n, 0, by omega, rfl, by omega, hs, fun _ _ _ _ _ => rfl, fun t ht hte => ⟨t, rfl, ht, hte, fun _ _ _ _ _ => rfl⟩⟩
theorem V_O20 {N G g : Nat} {x y : Int32} {σ : zS} (h : TB σ) : fV_speakOther N G (g + 1) (nI 20) x y σ = zb2 (fV_speak N G g (nI 0) (nI 0) x y σ) fun r s => some (r - 4, s) := by
  have e : nI 20 / 10 - 1 = nI 1 := by decide
  have e2 : σ 52 0 1 = nI 0 := TB_52 h (q := 1) (by omega)
  show fV_speakOther_b N G (gV_speak N G g).1 (gV_speak N G g).2.1 (gV_speak N G g).2.2 (nI 20) x y σ = _
  unfold fV_speakOther_b
  rw [e, zgd_t (zin_n (by omega) (by omega)), n_cl (by omega), zlt_eq, e2, if_pos (by decide)]
  rfl
theorem V_O21 {N G g : Nat} {x y : Int32} {σ : zS} (h : TB σ) : fV_speakOther N G (g + 1) (nI 21) x y σ = zb2 (fV_speak N G g (nI 0) (nI 3) x y σ) fun r9 s8 => (if (s8 6 0 2) = 0 then zb2 (fV_speak N G g (s8 6 0 3) (nI 1) 1 y s8) fun r13 s12 => some (r9 + r13, s12) else some (0, s8)) := by
  have e : nI 21 / 10 - 1 = nI 1 := by decide
  have e2 : σ 52 0 1 = nI 0 := TB_52 h (q := 1) (by omega)
  show fV_speakOther_b N G (gV_speak N G g).1 (gV_speak N G g).2.1 (gV_speak N G g).2.2 (nI 21) x y σ = _
  unfold fV_speakOther_b
  rw [e, zgd_t (zin_n (by omega) (by omega)), n_cl (by omega), zlt_eq, e2, if_neg (by decide), if_pos (by decide)]
  rfl
theorem V_O30 {N G g : Nat} {x y : Int32} {σ : zS} (h : TB σ) : fV_speakOther N G (g + 1) (nI 30) x y σ = zb2 (fV_speak N G g (nI 0) (nI 1) x y σ) fun r s => some (0 - r, s) := by
  have e : nI 30 / 10 - 1 = nI 2 := by decide
  have e2 : σ 52 0 2 = nI 0 := TB_52 h (q := 2) (by omega)
  show fV_speakOther_b N G (gV_speak N G g).1 (gV_speak N G g).2.1 (gV_speak N G g).2.2 (nI 30) x y σ = _
  unfold fV_speakOther_b
  rw [e, zgd_t (zin_n (by omega) (by omega)), n_cl (by omega), zlt_eq, e2, if_neg (by decide), if_neg (by decide), if_pos (by decide)]
  rfl
theorem V_O40 {N G g : Nat} {x y : Int32} {σ : zS} (h : TB σ) : fV_speakOther N G (g + 1) (nI 40) x y σ = zb2 (fV_speak N G g (nI 0) (nI 2) (x / 2) y σ) fun r s => some (r, s) := by
  have e : nI 40 / 10 - 1 = nI 3 := by decide
  have e2 : σ 52 0 3 = nI 0 := TB_52 h (q := 3) (by omega)
  show fV_speakOther_b N G (gV_speak N G g).1 (gV_speak N G g).2.1 (gV_speak N G g).2.2 (nI 40) x y σ = _
  unfold fV_speakOther_b
  rw [e, zgd_t (zin_n (by omega) (by omega)), n_cl (by omega), zlt_eq, e2, if_neg (by decide), if_neg (by decide), if_neg (by decide), if_pos (by decide)]
  rfl
theorem V_O50 {N G g : Nat} {x y : Int32} {σ : zS} (h : TB σ) : fV_speakOther N G (g + 1) (nI 50) x y σ = zb2 (fV_speak N G g (nI 1) (nI 0) x y σ) fun r s => some (r * 3, s) := by
  have e : nI 50 / 10 - 1 = nI 4 := by decide
  have e2 : σ 52 0 4 = nI 1 := TB_52 h (q := 4) (by omega)
  show fV_speakOther_b N G (gV_speak N G g).1 (gV_speak N G g).2.1 (gV_speak N G g).2.2 (nI 50) x y σ = _
  unfold fV_speakOther_b
  rw [e, zgd_t (zin_n (by omega) (by omega)), n_cl (by omega), zlt_eq, e2, if_neg (by decide), if_neg (by decide), if_neg (by decide), if_neg (by decide), if_pos (by decide)]
  rfl
theorem V_O51 {N G g : Nat} {x y : Int32} {σ : zS} (h : TB σ) : fV_speakOther N G (g + 1) (nI 51) x y σ = zb2 (fV_speak N G g (nI 1) (nI 2) x y σ) fun r s => some (r ^^^ (s 6 0 4), s) := by
  have e : nI 51 / 10 - 1 = nI 4 := by decide
  have e2 : σ 52 0 4 = nI 1 := TB_52 h (q := 4) (by omega)
  show fV_speakOther_b N G (gV_speak N G g).1 (gV_speak N G g).2.1 (gV_speak N G g).2.2 (nI 51) x y σ = _
  unfold fV_speakOther_b
  rw [e, zgd_t (zin_n (by omega) (by omega)), n_cl (by omega), zlt_eq, e2, if_neg (by decide), if_neg (by decide), if_neg (by decide), if_neg (by decide), if_neg (by decide), if_pos (by decide)]
  rfl
theorem V_O60 {N G g : Nat} {x y : Int32} {σ : zS} (h : TB σ) : fV_speakOther N G (g + 1) (nI 60) x y σ = zb2 (fV_speak N G g (nI 2) (nI 1) (x + 1) y σ) fun r s => some (r, s) := by
  have e : nI 60 / 10 - 1 = nI 5 := by decide
  have e2 : σ 52 0 5 = nI 2 := TB_52 h (q := 5) (by omega)
  show fV_speakOther_b N G (gV_speak N G g).1 (gV_speak N G g).2.1 (gV_speak N G g).2.2 (nI 60) x y σ = _
  unfold fV_speakOther_b
  rw [e, zgd_t (zin_n (by omega) (by omega)), n_cl (by omega), zlt_eq, e2, if_neg (by decide), if_neg (by decide), if_neg (by decide), if_neg (by decide), if_neg (by decide), if_neg (by decide), if_pos (by decide)]
  rfl
theorem V_O70 {N G g : Nat} {x y : Int32} {σ : zS} (h : TB σ) : fV_speakOther N G (g + 1) (nI 70) x y σ = some (9, σ) := by
  have e : nI 70 / 10 - 1 = nI 6 := by decide
  have e2 : σ 52 0 6 = nI 0 := TB_52 h (q := 6) (by omega)
  show fV_speakOther_b N G (gV_speak N G g).1 (gV_speak N G g).2.1 (gV_speak N G g).2.2 (nI 70) x y σ = _
  unfold fV_speakOther_b
  rw [e, zgd_t (zin_n (by omega) (by omega)), n_cl (by omega), zlt_eq, e2, if_neg (by decide), if_neg (by decide), if_neg (by decide), if_neg (by decide), if_neg (by decide), if_neg (by decide), if_neg (by decide), if_pos (by decide)]
theorem V_O71 {N G g : Nat} {x y : Int32} {σ : zS} (h : TB σ) : fV_speakOther N G (g + 1) (nI 71) x y σ = zb2 (fV_speak N G g (nI 0) (nI 1) x y σ) fun r s => some (r + (s 6 0 5), s) := by
  have e : nI 71 / 10 - 1 = nI 6 := by decide
  have e2 : σ 52 0 6 = nI 0 := TB_52 h (q := 6) (by omega)
  show fV_speakOther_b N G (gV_speak N G g).1 (gV_speak N G g).2.1 (gV_speak N G g).2.2 (nI 71) x y σ = _
  unfold fV_speakOther_b
  rw [e, zgd_t (zin_n (by omega) (by omega)), n_cl (by omega), zlt_eq, e2, if_neg (by decide), if_neg (by decide), if_neg (by decide), if_neg (by decide), if_neg (by decide), if_neg (by decide), if_neg (by decide), if_neg (by decide)]
  rfl
theorem V_O10 {N G g : Nat} {x y : Int32} {σ : zS} : fV_speakMother N G (g + 1) (nI 10) x y σ = some (x + (σ 6 0 4), σ) := by
  show fV_speakMother_b N G (gV_speak N G g).1 (gV_speak N G g).2.1 (gV_speak N G g).2.2 (nI 10) x y σ = _
  unfold fV_speakMother_b
  rw [if_pos (by decide)]
theorem V_O11 {N G g : Nat} {x y : Int32} {σ : zS} : fV_speakMother N G (g + 1) (nI 11) x y σ = zb2 (fV_speak N G g (σ 6 0 3) (nI 0) x y σ) fun r s => some (r * 2, s) := by
  show fV_speakMother_b N G (gV_speak N G g).1 (gV_speak N G g).2.1 (gV_speak N G g).2.2 (nI 11) x y σ = _
  unfold fV_speakMother_b
  rw [if_neg (by decide), if_pos (by decide)]
  rfl
theorem V_O12 {N G g : Nat} {x y : Int32} {σ : zS} : fV_speakMother N G (g + 1) (nI 12) x y σ = zb2 (fV_speak N G g (σ 6 0 3) (nI 1) x y σ) fun r s => some (r - (s 6 0 5), s) := by
  show fV_speakMother_b N G (gV_speak N G g).1 (gV_speak N G g).2.1 (gV_speak N G g).2.2 (nI 12) x y σ = _
  unfold fV_speakMother_b
  rw [if_neg (by decide), if_neg (by decide), if_pos (by decide)]
  rfl
theorem V_O13 {N G g : Nat} {x y : Int32} {σ : zS} : fV_speakMother N G (g + 1) (nI 13) x y σ = (if (σ 6 0 5) = (σ 6 0 4) then some (0, zup σ 6 0 2 1) else zgd (¬ ((σ 6 0 5) - (σ 6 0 4)) = 0) (some (x / ((σ 6 0 5) - (σ 6 0 4)), σ))) := by
  show fV_speakMother_b N G (gV_speak N G g).1 (gV_speak N G g).2.1 (gV_speak N G g).2.2 (nI 13) x y σ = _
  unfold fV_speakMother_b
  rw [if_neg (by decide), if_neg (by decide), if_neg (by decide)]
  rfl
theorem V_Mties2 {G h : Nat} {x : Int32} {t : zS} : fM_tiesAs G (h + 1) (nI 2) x t = fM_tiesAs G h (nI 0) x t := by
  show fM_tiesAs_b G (gM_tiesAs G h) (nI 2) x t = _
  unfold fM_tiesAs_b fM_above
  rw [if_neg (by decide), if_neg (by decide), if_pos (by decide), if_neg (by decide), if_neg (by decide), zbd_s, zb2_id]
  rfl
theorem V_Mties3 {G h : Nat} {x : Int32} {t : zS} : fM_tiesAs G (h + 1) (nI 3) x t = fM_tiesAs G h (nI 0) x t := by
  show fM_tiesAs_b G (gM_tiesAs G h) (nI 3) x t = _
  unfold fM_tiesAs_b fM_above
  rw [if_neg (by decide), if_neg (by decide), if_neg (by decide), if_pos (by decide), if_neg (by decide), if_neg (by decide), zbd_s, zb2_id]
  rfl
theorem V_Mties5 {G h : Nat} {x : Int32} {t : zS} : fM_tiesAs G (h + 1) (nI 5) x t = fM_tiesAs G h (nI 2) x t := by
  show fM_tiesAs_b G (gM_tiesAs G h) (nI 5) x t = _
  unfold fM_tiesAs_b fM_above
  rw [if_neg (by decide), if_neg (by decide), if_neg (by decide), if_neg (by decide), if_neg (by decide), if_pos (by decide), if_neg (by decide), if_pos (by decide), zbd_s, zb2_id]
  rfl
theorem V_Mlets1 {G h : Nat} {x : Int32} {t : zS} : fM_letsAs G (h + 1) (nI 1) x t = fM_letsAs G h (nI 0) x t := by
  show fM_letsAs_b G (gM_letsAs G h) (nI 1) x t = _
  unfold fM_letsAs_b fM_above
  rw [if_neg (by decide), if_pos (by decide), if_neg (by decide), if_neg (by decide), zbd_s, zb2_id]
  rfl
theorem V_Mlets3 {G h : Nat} {x : Int32} {t : zS} : fM_letsAs G (h + 1) (nI 3) x t = fM_letsAs G h (nI 0) x t := by
  show fM_letsAs_b G (gM_letsAs G h) (nI 3) x t = _
  unfold fM_letsAs_b fM_above
  rw [if_neg (by decide), if_neg (by decide), if_neg (by decide), if_pos (by decide), if_neg (by decide), if_neg (by decide), zbd_s, zb2_id]
  rfl
theorem V_Mlets4 {G h : Nat} {x : Int32} {t : zS} : fM_letsAs G (h + 1) (nI 4) x t = fM_letsAs G h (nI 1) x t := by
  show fM_letsAs_b G (gM_letsAs G h) (nI 4) x t = _
  unfold fM_letsAs_b fM_above
  rw [if_neg (by decide), if_neg (by decide), if_neg (by decide), if_neg (by decide), if_pos (by decide), if_pos (by decide), zbd_s, zb2_id]
  rfl
theorem V_Mpulls1 {G h : Nat} {x : Int32} {t : zS} : fM_pullsAs G (h + 1) (nI 1) x t = fM_pullsAs G h (nI 0) x t := by
  show fM_pullsAs_b G (gM_pullsAs G h) (nI 1) x t = _
  unfold fM_pullsAs_b fM_above
  rw [if_neg (by decide), if_pos (by decide), if_neg (by decide), if_neg (by decide), zbd_s, zb2_id]
  rfl
theorem V_Mpulls2 {G h : Nat} {x : Int32} {t : zS} : fM_pullsAs G (h + 1) (nI 2) x t = fM_pullsAs G h (nI 0) x t := by
  show fM_pullsAs_b G (gM_pullsAs G h) (nI 2) x t = _
  unfold fM_pullsAs_b fM_above
  rw [if_neg (by decide), if_neg (by decide), if_pos (by decide), if_neg (by decide), if_neg (by decide), zbd_s, zb2_id]
  rfl
theorem V_Mpulls5 {G h : Nat} {x : Int32} {t : zS} : fM_pullsAs G (h + 1) (nI 5) x t = fM_pullsAs G h (nI 2) x t := by
  show fM_pullsAs_b G (gM_pullsAs G h) (nI 5) x t = _
  unfold fM_pullsAs_b fM_above
  rw [if_neg (by decide), if_neg (by decide), if_neg (by decide), if_neg (by decide), if_neg (by decide), if_neg (by decide), if_pos (by decide), zbd_s, zb2_id]
  rfl
theorem V_Mpulls6 {G h : Nat} {x : Int32} {t : zS} : fM_pullsAs G (h + 1) (nI 6) x t = fM_pullsAs G h (nI 0) x t := by
  show fM_pullsAs_b G (gM_pullsAs G h) (nI 6) x t = _
  unfold fM_pullsAs_b fM_above
  rw [if_neg (by decide), if_neg (by decide), if_neg (by decide), if_neg (by decide), if_neg (by decide), if_neg (by decide), if_neg (by decide), zbd_s, zb2_id]
  rfl
theorem V_Mparts2 {G h : Nat} {x : Int32} {t : zS} : fM_partsAs G (h + 1) (nI 2) x t = fM_partsAs G h (nI 0) x t := by
  show fM_partsAs_b G (gM_partsAs G h) (nI 2) x t = _
  unfold fM_partsAs_b fM_above
  rw [if_neg (by decide), if_neg (by decide), if_neg (by decide), if_neg (by decide), zbd_s, zb2_id]
  rfl
theorem V_Mparts3 {G h : Nat} {x : Int32} {t : zS} : fM_partsAs G (h + 1) (nI 3) x t = fM_partsAs G h (nI 0) x t := by
  show fM_partsAs_b G (gM_partsAs G h) (nI 3) x t = _
  unfold fM_partsAs_b fM_above
  rw [if_neg (by decide), if_neg (by decide), if_neg (by decide), if_neg (by decide), zbd_s, zb2_id]
  rfl
theorem V_Mparts4 {G h : Nat} {x : Int32} {t : zS} : fM_partsAs G (h + 1) (nI 4) x t = fM_partsAs G h (nI 1) x t := by
  show fM_partsAs_b G (gM_partsAs G h) (nI 4) x t = _
  unfold fM_partsAs_b fM_above
  rw [if_neg (by decide), if_neg (by decide), if_pos (by decide), zbd_s, zb2_id]
  rfl
theorem V_Mparts5 {G h : Nat} {x : Int32} {t : zS} : fM_partsAs G (h + 1) (nI 5) x t = fM_partsAs G h (nI 2) x t := by
  show fM_partsAs_b G (gM_partsAs G h) (nI 5) x t = _
  unfold fM_partsAs_b fM_above
  rw [if_neg (by decide), if_neg (by decide), if_neg (by decide), if_pos (by decide), zbd_s, zb2_id]
  rfl
theorem V_Mparts6 {G h : Nat} {x : Int32} {t : zS} : fM_partsAs G (h + 1) (nI 6) x t = fM_partsAs G h (nI 0) x t := by
  show fM_partsAs_b G (gM_partsAs G h) (nI 6) x t = _
  unfold fM_partsAs_b fM_above
  rw [if_neg (by decide), if_neg (by decide), if_neg (by decide), if_neg (by decide), zbd_s, zb2_id]
  rfl

theorem V_ties0 {N G g h K o mm n d : Nat} {x : Int32} {s : zS} (hN : 9 ≤ N) (hK : K ≤ 6) (ho : o < 8) (hs : Vc K o mm 0 n s)  (hn : n + 1 ≤ 30) (hd : d ≤ 40) : VP K o mm n 1 0 s (fV_speak N G (g + 2) (nI 0) (nI 0) x (nI d)) (fM_tiesAs G (h + 1) (nI 0) x) := by
  refine V_bg (b := 10) (fun r => r) hs (V_now (Vc_b (b := 10) hs).1 (x + nI o)) (fun r s' p n' e hv => ?_) (fun t r t' p n' ht e hv => ?_)
  · have e : some (x + nI o, bC s n 10) = some (r, s') := e
    cases e
    rw [S_speak (b := 10) hN hs (by omega) (by omega) (by omega) (by decide) (by omega) (by omega) (by omega), if_neg (by decide), V_O10, (Vc_b hs).1.2.2.2.1]
  · have e : some (x + nI o, bM t n 10) = some (r, t') := e
    cases e
    have mb : fM_begins 10 t = some (bM t n 10) := M_beg ht (by omega)
    show fM_tiesAs_b G (gM_tiesAs G h) (nI 0) x t = _
    unfold fM_tiesAs_b
    rw [if_pos (by decide), mb, zbd_s, (Vm_b ht).1.2.2.1]
theorem V_ties6 {N G g h K o mm n d : Nat} {x : Int32} {s : zS} (hN : 9 ≤ N) (hK : K ≤ 6) (ho : o < 8) (hs : Vc K o mm 0 n s)  (hn : n + 1 ≤ 30) (hd : d ≤ 40) : VP K o mm n 1 0 s (fV_speak N G (g + 2) (nI 6) (nI 0) x (nI d)) (fM_tiesAs G (h + 1) (nI 6) x) := by
  refine V_bg (b := 70) (fun r => r) hs (V_now (Vc_b (b := 70) hs).1 (9)) (fun r s' p n' e hv => ?_) (fun t r t' p n' ht e hv => ?_)
  · have e : some (9, bC s n 70) = some (r, s') := e
    cases e
    rw [S_speak (b := 70) hN hs (by omega) (by omega) (by omega) (by decide) (by omega) (by omega) (by omega), if_pos (by decide), V_O70 (Vc_b hs).1.2.2.2.2.2]
  · have e : some (9, bM t n 70) = some (r, t') := e
    cases e
    have mb : fM_begins 70 t = some (bM t n 70) := M_beg ht (by omega)
    show fM_tiesAs_b G (gM_tiesAs G h) (nI 6) x t = _
    unfold fM_tiesAs_b
    rw [if_neg (by decide), if_neg (by decide), if_neg (by decide), if_neg (by decide), if_neg (by decide), if_neg (by decide), if_pos (by decide), mb, zbd_s]
theorem V_ties1 {N G g h K o mm n d : Nat} {x : Int32} {s : zS} (hN : 9 ≤ N) (hK : K ≤ 6) (ho : o < 8) (hs : Vc K o mm 0 n s)  (hn : n + 2 ≤ 30) (hd : d ≤ 38) : VP K o mm n 2 0 s (fV_speak N G (g + 4) (nI 1) (nI 0) x (nI d)) (fM_tiesAs G (h + 2) (nI 1) x) := by
  refine V_bg (b := 20) (fun r => r - 4) hs (V_ties0 (G := G) (g := g) (h := h) (x := x) (d := d + 1) hN hK ho (Vc_b hs).1 (by omega) (by omega)) (fun r s' p n' e hv => ?_) (fun t r t' p n' ht e hv => ?_)
  · rw [S_speak (b := 20) hN hs (by omega) (by omega) (by omega) (by decide) (by omega) (by omega) (by omega), if_pos (by decide), V_O20 (Vc_b hs).1.2.2.2.2.2, e, zb2_s]
  · have mb : fM_begins 20 t = some (bM t n 20) := M_beg ht (by omega)
    have e' : gM_tiesAs G (h + 1) 0 x (bM t n 20) = some (r, t') := e
    show fM_tiesAs_b G (gM_tiesAs G (h + 1)) (nI 1) x t = _
    unfold fM_tiesAs_b fM_above
    rw [if_neg (by decide), if_pos (by decide), mb, zbd_s, if_neg (by decide), if_neg (by decide), zbd_s, e', zb2_s]
theorem V_ties4 {N G g h K o mm n d : Nat} {x : Int32} {s : zS} (hN : 9 ≤ N) (hK : K ≤ 6) (ho : o < 8) (hs : Vc K o mm 0 n s)  (hn : n + 3 ≤ 30) (hd : d ≤ 36) : VP K o mm n 3 0 s (fV_speak N G (g + 6) (nI 4) (nI 0) x (nI d)) (fM_tiesAs G (h + 3) (nI 4) x) := by
  refine V_bg (b := 50) (fun r => r * 3) hs (V_ties1 (G := G) (g := g) (h := h) (x := x) (d := d + 1) hN hK ho (Vc_b hs).1 (by omega) (by omega)) (fun r s' p n' e hv => ?_) (fun t r t' p n' ht e hv => ?_)
  · rw [S_speak (b := 50) hN hs (by omega) (by omega) (by omega) (by decide) (by omega) (by omega) (by omega), if_pos (by decide), V_O50 (Vc_b hs).1.2.2.2.2.2, e, zb2_s]
  · have mb : fM_begins 50 t = some (bM t n 50) := M_beg ht (by omega)
    have e' : gM_tiesAs G (h + 2) 1 x (bM t n 50) = some (r, t') := e
    show fM_tiesAs_b G (gM_tiesAs G (h + 2)) (nI 4) x t = _
    unfold fM_tiesAs_b fM_above
    rw [if_neg (by decide), if_neg (by decide), if_neg (by decide), if_neg (by decide), if_pos (by decide), mb, zbd_s, if_pos (by decide), zbd_s, e', zb2_s]
theorem V_ties2 {N G g h K o mm n d : Nat} {x : Int32} {s : zS} (hN : 9 ≤ N) (hK : K ≤ 6) (ho : o < 8) (hs : Vc K o mm 0 n s)  (hn : n + 1 ≤ 30) (hd : d ≤ 40) : VP K o mm n 1 0 s (fV_speak N G (g + 2) (nI 2) (nI 0) x (nI d)) (fM_tiesAs G (h + 2) (nI 2) x) := by
  refine V_up (V_ties0 (G := G) (x := x) (d := d) (g := g + 0) (h := h + 0) hN hK ho hs hn hd) ?_ (fun t => ?_)
  · rw [S_speak (b := 10) hN hs (by omega) (by omega) (by omega) (by decide) (by omega) (by omega) (by omega), S_speak (b := 10) hN hs (by omega) (by omega) (by omega) (by decide) (by omega) (by omega) (by omega)]
  · exact V_Mties2
theorem V_ties3 {N G g h K o mm n d : Nat} {x : Int32} {s : zS} (hN : 9 ≤ N) (hK : K ≤ 6) (ho : o < 8) (hs : Vc K o mm 0 n s)  (hn : n + 1 ≤ 30) (hd : d ≤ 40) : VP K o mm n 1 0 s (fV_speak N G (g + 2) (nI 3) (nI 0) x (nI d)) (fM_tiesAs G (h + 2) (nI 3) x) := by
  refine V_up (V_ties0 (G := G) (x := x) (d := d) (g := g + 0) (h := h + 0) hN hK ho hs hn hd) ?_ (fun t => ?_)
  · rw [S_speak (b := 10) hN hs (by omega) (by omega) (by omega) (by decide) (by omega) (by omega) (by omega), S_speak (b := 10) hN hs (by omega) (by omega) (by omega) (by decide) (by omega) (by omega) (by omega)]
  · exact V_Mties3
theorem V_ties5 {N G g h K o mm n d : Nat} {x : Int32} {s : zS} (hN : 9 ≤ N) (hK : K ≤ 6) (ho : o < 8) (hs : Vc K o mm 0 n s)  (hn : n + 1 ≤ 30) (hd : d ≤ 40) : VP K o mm n 1 0 s (fV_speak N G (g + 2) (nI 5) (nI 0) x (nI d)) (fM_tiesAs G (h + 3) (nI 5) x) := by
  refine V_up (V_ties2 (G := G) (x := x) (d := d) (g := g + 0) (h := h + 0) hN hK ho hs hn hd) ?_ (fun t => ?_)
  · rw [S_speak (b := 10) hN hs (by omega) (by omega) (by omega) (by decide) (by omega) (by omega) (by omega), S_speak (b := 10) hN hs (by omega) (by omega) (by omega) (by decide) (by omega) (by omega) (by omega)]
  · exact V_Mties5
theorem V_ties {N G g h K o mm n d : Nat} {x : Int32} {s : zS} (hN : 9 ≤ N) (hK : K ≤ 6) (ho : o < 8) (hs : Vc K o mm 0 n s) {q : Nat} (hq : q ≤ 6) (hn : n + 3 ≤ 30) (hd : d ≤ 36) : VP K o mm n 3 0 s (fV_speak N G (g + 6) (nI q) (nI 0) x (nI d)) (fM_tiesAs G (h + 3) (nI q) x) := by
  rcases (show q = 0 ∨ q = 1 ∨ q = 2 ∨ q = 3 ∨ q = 4 ∨ q = 5 ∨ q = 6 by omega) with z | z | z | z | z | z | z <;> subst z
  · exact V_wk (V_ties0 (G := G) (x := x) (d := d) (g := g + 4) (h := h + 2) hN hK ho hs (by omega) (by omega)) (by omega)
  · exact V_wk (V_ties1 (G := G) (x := x) (d := d) (g := g + 2) (h := h + 1) hN hK ho hs (by omega) (by omega)) (by omega)
  · exact V_wk (V_ties2 (G := G) (x := x) (d := d) (g := g + 4) (h := h + 1) hN hK ho hs (by omega) (by omega)) (by omega)
  · exact V_wk (V_ties3 (G := G) (x := x) (d := d) (g := g + 4) (h := h + 1) hN hK ho hs (by omega) (by omega)) (by omega)
  · exact V_wk (V_ties4 (G := G) (x := x) (d := d) (g := g + 0) (h := h + 0) hN hK ho hs (by omega) (by omega)) (by omega)
  · exact V_wk (V_ties5 (G := G) (x := x) (d := d) (g := g + 4) (h := h + 0) hN hK ho hs (by omega) (by omega)) (by omega)
  · exact V_wk (V_ties6 (G := G) (x := x) (d := d) (g := g + 4) (h := h + 2) hN hK ho hs (by omega) (by omega)) (by omega)
theorem M_kindNow {K o mm p n : Nat} {t : zS} (ho : o < 8) (h : Vm K o mm p n t) : fM_kindNow t = some (nI K) := by
  have hq : 12 + 6 * nI o + 0 = nI (12 + 6 * o + 0) := by rw [l12, l6, l0, n_mul, n_add, n_add]
  unfold fM_kindNow fM_its
  rw [h.2.2.1, hq, zgd_t (zin_n (by omega) (by omega)), n_cl (by omega), h.2.2.2.1, zbd_s]
theorem M_mNow {K o mm p n : Nat} {t : zS} (ho : o < 8) (h : Vm K o mm p n t) : fM_mNow t = some (nI mm) := by
  have hq : 12 + 6 * nI o + 1 = nI (12 + 6 * o + 1) := by rw [l12, l6, l1, n_mul, n_add, n_add]
  unfold fM_mNow fM_its
  rw [h.2.2.1, hq, zgd_t (zin_n (by omega) (by omega)), n_cl (by omega), h.2.2.2.2, zbd_s]
theorem V_lets0 {N G g h K o mm n d : Nat} {x : Int32} {s : zS} (hN : 9 ≤ N) (hK : K ≤ 6) (ho : o < 8) (hs : Vc K o mm 0 n s) (hn : n + 4 ≤ 30) (hd : d ≤ 34) (hG : 12 ≤ G) : VP K o mm n 4 0 s (fV_speak N G (g + 8) (nI 0) (nI 1) x (nI d)) (fM_letsAs G (h + 1) (nI 0) x) := by
  obtain ⟨G', hG'⟩ : ∃ G', G = G' + 3 := ⟨G - 3, by omega⟩
  have inner := V_ties (G := G) (g := g) (h := G') (x := x) (d := d + 1) hN hK ho (Vc_b (b := 11) hs).1 hK (by omega) (by omega)
  rw [← hG'] at inner
  refine V_bg (b := 11) (fun r => r * 2) hs inner (fun r s' p n' e hv => ?_) (fun t r t' p n' ht e hv => ?_)
  · rw [S_speak (b := 11) hN hs (by omega) (by omega) (by omega) (by decide) (by omega) (by omega) (by omega), if_neg (by decide), V_O11, (Vc_b hs).1.2.2.1, e, zb2_s]
  · have mb : fM_begins 11 t = some (bM t n 11) := M_beg ht (by omega)
    show fM_letsAs_b G (gM_letsAs G h) (nI 0) x t = _
    unfold fM_letsAs_b
    rw [if_pos (by decide), mb, zbd_s, M_kindNow ho (Vm_b ht).1, zbd_s, e, zb2_s]
theorem V_lets2 {N G g h K o mm n d : Nat} {x : Int32} {s : zS} (hN : 9 ≤ N) (hK : K ≤ 6) (ho : o < 8) (hs : Vc K o mm 0 n s)   (hn : n + 5 ≤ 30) (hd : d ≤ 32) (hG : 12 ≤ G) : VP K o mm n 5 0 s (fV_speak N G (g + 10) (nI 2) (nI 1) x (nI d)) (fM_letsAs G (h + 2) (nI 2) x) := by
  refine V_bg (b := 30) (fun r => 0 - r) hs (V_lets0 (G := G) (g := g) (h := h) (x := x) (d := d + 1) hN hK ho (Vc_b hs).1 (by omega) (by omega) hG) (fun r s' p n' e hv => ?_) (fun t r t' p n' ht e hv => ?_)
  · rw [S_speak (b := 30) hN hs (by omega) (by omega) (by omega) (by decide) (by omega) (by omega) (by omega), if_pos (by decide), V_O30 (Vc_b hs).1.2.2.2.2.2, e, zb2_s]
  · have mb : fM_begins 30 t = some (bM t n 30) := M_beg ht (by omega)
    have e' : gM_letsAs G (h + 1) 0 x (bM t n 30) = some (r, t') := e
    show fM_letsAs_b G (gM_letsAs G (h + 1)) (nI 2) x t = _
    unfold fM_letsAs_b fM_above
    rw [if_neg (by decide), if_neg (by decide), if_pos (by decide), mb, zbd_s, if_neg (by decide), if_neg (by decide), zbd_s, e', zb2_s]
theorem V_lets1 {N G g h K o mm n d : Nat} {x : Int32} {s : zS} (hN : 9 ≤ N) (hK : K ≤ 6) (ho : o < 8) (hs : Vc K o mm 0 n s)   (hn : n + 4 ≤ 30) (hd : d ≤ 34) (hG : 12 ≤ G) : VP K o mm n 4 0 s (fV_speak N G (g + 8) (nI 1) (nI 1) x (nI d)) (fM_letsAs G (h + 2) (nI 1) x) := by
  refine V_up (V_lets0 (G := G) (x := x) (d := d) (g := g + 0) (h := h + 0) hN hK ho hs hn hd hG) ?_ (fun t => ?_)
  · rw [S_speak (b := 11) hN hs (by omega) (by omega) (by omega) (by decide) (by omega) (by omega) (by omega), S_speak (b := 11) hN hs (by omega) (by omega) (by omega) (by decide) (by omega) (by omega) (by omega)]
  · exact V_Mlets1
theorem V_lets3 {N G g h K o mm n d : Nat} {x : Int32} {s : zS} (hN : 9 ≤ N) (hK : K ≤ 6) (ho : o < 8) (hs : Vc K o mm 0 n s)   (hn : n + 4 ≤ 30) (hd : d ≤ 34) (hG : 12 ≤ G) : VP K o mm n 4 0 s (fV_speak N G (g + 8) (nI 3) (nI 1) x (nI d)) (fM_letsAs G (h + 2) (nI 3) x) := by
  refine V_up (V_lets0 (G := G) (x := x) (d := d) (g := g + 0) (h := h + 0) hN hK ho hs hn hd hG) ?_ (fun t => ?_)
  · rw [S_speak (b := 11) hN hs (by omega) (by omega) (by omega) (by decide) (by omega) (by omega) (by omega), S_speak (b := 11) hN hs (by omega) (by omega) (by omega) (by decide) (by omega) (by omega) (by omega)]
  · exact V_Mlets3
theorem V_lets4 {N G g h K o mm n d : Nat} {x : Int32} {s : zS} (hN : 9 ≤ N) (hK : K ≤ 6) (ho : o < 8) (hs : Vc K o mm 0 n s)   (hn : n + 4 ≤ 30) (hd : d ≤ 34) (hG : 12 ≤ G) : VP K o mm n 4 0 s (fV_speak N G (g + 8) (nI 4) (nI 1) x (nI d)) (fM_letsAs G (h + 3) (nI 4) x) := by
  refine V_up (V_lets1 (G := G) (x := x) (d := d) (g := g + 0) (h := h + 0) hN hK ho hs hn hd hG) ?_ (fun t => ?_)
  · rw [S_speak (b := 11) hN hs (by omega) (by omega) (by omega) (by decide) (by omega) (by omega) (by omega), S_speak (b := 11) hN hs (by omega) (by omega) (by omega) (by decide) (by omega) (by omega) (by omega)]
  · exact V_Mlets4
theorem V_lets5 {N G g h K o mm n d : Nat} {x : Int32} {s : zS} (hN : 9 ≤ N) (hK : K ≤ 6) (ho : o < 8) (hs : Vc K o mm 0 n s)   (hn : n + 6 ≤ 30) (hd : d ≤ 30) (hG : 12 ≤ G) : VP K o mm n 6 0 s (fV_speak N G (g + 12) (nI 5) (nI 1) x (nI d)) (fM_letsAs G (h + 3) (nI 5) x) := by
  refine V_bg (b := 60) (fun r => r) hs (V_lets2 (G := G) (g := g) (h := h) (x := (x + 1)) (d := d + 1) hN hK ho (Vc_b hs).1 (by omega) (by omega) hG) (fun r s' p n' e hv => ?_) (fun t r t' p n' ht e hv => ?_)
  · rw [S_speak (b := 60) hN hs (by omega) (by omega) (by omega) (by decide) (by omega) (by omega) (by omega), if_pos (by decide), V_O60 (Vc_b hs).1.2.2.2.2.2, e, zb2_s]
  · have mb : fM_begins 60 t = some (bM t n 60) := M_beg ht (by omega)
    have e' : gM_letsAs G (h + 2) 2 (x + 1) (bM t n 60) = some (r, t') := e
    show fM_letsAs_b G (gM_letsAs G (h + 2)) (nI 5) x t = _
    unfold fM_letsAs_b fM_above
    rw [if_neg (by decide), if_neg (by decide), if_neg (by decide), if_neg (by decide), if_neg (by decide), if_pos (by decide), mb, zbd_s, if_neg (by decide), if_pos (by decide), zbd_s, e', zb2_s]
theorem V_lets6 {N G g h K o mm n d : Nat} {x : Int32} {s : zS} (hN : 9 ≤ N) (hK : K ≤ 6) (ho : o < 8) (hs : Vc K o mm 0 n s)   (hn : n + 5 ≤ 30) (hd : d ≤ 32) (hG : 12 ≤ G) : VP K o mm n 5 0 s (fV_speak N G (g + 10) (nI 6) (nI 1) x (nI d)) (fM_letsAs G (h + 2) (nI 6) x) := by
  refine V_bg (b := 71) (fun r => r + nI mm) hs (V_lets0 (G := G) (g := g) (h := h) (x := x) (d := d + 1) hN hK ho (Vc_b hs).1 (by omega) (by omega) hG) (fun r s' p n' e hv => ?_) (fun t r t' p n' ht e hv => ?_)
  · rw [S_speak (b := 71) hN hs (by omega) (by omega) (by omega) (by decide) (by omega) (by omega) (by omega), if_pos (by decide), V_O71 (Vc_b hs).1.2.2.2.2.2, e, zb2_s, hv.2.2.2.2.1]
  · have mb : fM_begins 71 t = some (bM t n 71) := M_beg ht (by omega)
    have e' : gM_letsAs G (h + 1) 0 x (bM t n 71) = some (r, t') := e
    show fM_letsAs_b G (gM_letsAs G (h + 1)) (nI 6) x t = _
    unfold fM_letsAs_b fM_above
    rw [if_neg (by decide), if_neg (by decide), if_neg (by decide), if_neg (by decide), if_neg (by decide), if_neg (by decide), if_pos (by decide), mb, zbd_s, if_neg (by decide), if_neg (by decide), zbd_s, e', zb2_s, M_mNow ho hv, zbd_s]
theorem V_lets {N G g h K o mm n d : Nat} {x : Int32} {s : zS} (hN : 9 ≤ N) (hK : K ≤ 6) (ho : o < 8) (hs : Vc K o mm 0 n s) {q : Nat} (hq : q ≤ 6)  (hn : n + 6 ≤ 30) (hd : d ≤ 30) (hG : 12 ≤ G) : VP K o mm n 6 0 s (fV_speak N G (g + 12) (nI q) (nI 1) x (nI d)) (fM_letsAs G (h + 3) (nI q) x) := by
  rcases (show q = 0 ∨ q = 1 ∨ q = 2 ∨ q = 3 ∨ q = 4 ∨ q = 5 ∨ q = 6 by omega) with z | z | z | z | z | z | z <;> subst z
  · exact V_wk (V_lets0 (G := G) (x := x) (d := d) (g := g + 4) (h := h + 2) hN hK ho hs (by omega) (by omega) hG) (by omega)
  · exact V_wk (V_lets1 (G := G) (x := x) (d := d) (g := g + 4) (h := h + 1) hN hK ho hs (by omega) (by omega) hG) (by omega)
  · exact V_wk (V_lets2 (G := G) (x := x) (d := d) (g := g + 2) (h := h + 1) hN hK ho hs (by omega) (by omega) hG) (by omega)
  · exact V_wk (V_lets3 (G := G) (x := x) (d := d) (g := g + 4) (h := h + 1) hN hK ho hs (by omega) (by omega) hG) (by omega)
  · exact V_wk (V_lets4 (G := G) (x := x) (d := d) (g := g + 4) (h := h + 0) hN hK ho hs (by omega) (by omega) hG) (by omega)
  · exact V_wk (V_lets5 (G := G) (x := x) (d := d) (g := g + 0) (h := h + 0) hN hK ho hs (by omega) (by omega) hG) (by omega)
  · exact V_wk (V_lets6 (G := G) (x := x) (d := d) (g := g + 2) (h := h + 1) hN hK ho hs (by omega) (by omega) hG) (by omega)
theorem V_pulls0 {N G g h K o mm n d : Nat} {x : Int32} {s : zS} (hN : 9 ≤ N) (hK : K ≤ 6) (ho : o < 8) (hs : Vc K o mm 0 n s) (hn : n + 7 ≤ 30) (hd : d ≤ 28) (hG : 12 ≤ G) : VP K o mm n 7 0 s (fV_speak N G (g + 14) (nI 0) (nI 2) x (nI d)) (fM_pullsAs G (h + 1) (nI 0) x) := by
  obtain ⟨G', hG'⟩ : ∃ G', G = G' + 3 := ⟨G - 3, by omega⟩
  have inner := V_lets (G := G) (g := g) (h := G') (x := x) (d := d + 1) hN hK ho (Vc_b (b := 12) hs).1 hK (by omega) (by omega) hG
  rw [← hG'] at inner
  refine V_bg (b := 12) (fun r => r - nI mm) hs inner (fun r s' p n' e hv => ?_) (fun t r t' p n' ht e hv => ?_)
  · rw [S_speak (b := 12) hN hs (by omega) (by omega) (by omega) (by decide) (by omega) (by omega) (by omega), if_neg (by decide), V_O12, (Vc_b hs).1.2.2.1, e, zb2_s, hv.2.2.2.2.1]
  · have mb : fM_begins 12 t = some (bM t n 12) := M_beg ht (by omega)
    show fM_pullsAs_b G (gM_pullsAs G h) (nI 0) x t = _
    unfold fM_pullsAs_b
    rw [if_pos (by decide), mb, zbd_s, M_kindNow ho (Vm_b ht).1, zbd_s, e, zb2_s, M_mNow ho hv, zbd_s]
theorem V_pulls1 {N G g h K o mm n d : Nat} {x : Int32} {s : zS} (hN : 9 ≤ N) (hK : K ≤ 6) (ho : o < 8) (hs : Vc K o mm 0 n s)   (hn : n + 7 ≤ 30) (hd : d ≤ 28) (hG : 12 ≤ G) : VP K o mm n 7 0 s (fV_speak N G (g + 14) (nI 1) (nI 2) x (nI d)) (fM_pullsAs G (h + 2) (nI 1) x) := by
  refine V_up (V_pulls0 (G := G) (x := x) (d := d) (g := g + 0) (h := h + 0) hN hK ho hs hn hd hG) ?_ (fun t => ?_)
  · rw [S_speak (b := 12) hN hs (by omega) (by omega) (by omega) (by decide) (by omega) (by omega) (by omega), S_speak (b := 12) hN hs (by omega) (by omega) (by omega) (by decide) (by omega) (by omega) (by omega)]
  · exact V_Mpulls1
theorem V_pulls2 {N G g h K o mm n d : Nat} {x : Int32} {s : zS} (hN : 9 ≤ N) (hK : K ≤ 6) (ho : o < 8) (hs : Vc K o mm 0 n s)   (hn : n + 7 ≤ 30) (hd : d ≤ 28) (hG : 12 ≤ G) : VP K o mm n 7 0 s (fV_speak N G (g + 14) (nI 2) (nI 2) x (nI d)) (fM_pullsAs G (h + 2) (nI 2) x) := by
  refine V_up (V_pulls0 (G := G) (x := x) (d := d) (g := g + 0) (h := h + 0) hN hK ho hs hn hd hG) ?_ (fun t => ?_)
  · rw [S_speak (b := 12) hN hs (by omega) (by omega) (by omega) (by decide) (by omega) (by omega) (by omega), S_speak (b := 12) hN hs (by omega) (by omega) (by omega) (by decide) (by omega) (by omega) (by omega)]
  · exact V_Mpulls2
theorem V_pulls6 {N G g h K o mm n d : Nat} {x : Int32} {s : zS} (hN : 9 ≤ N) (hK : K ≤ 6) (ho : o < 8) (hs : Vc K o mm 0 n s)   (hn : n + 7 ≤ 30) (hd : d ≤ 28) (hG : 12 ≤ G) : VP K o mm n 7 0 s (fV_speak N G (g + 14) (nI 6) (nI 2) x (nI d)) (fM_pullsAs G (h + 2) (nI 6) x) := by
  refine V_up (V_pulls0 (G := G) (x := x) (d := d) (g := g + 0) (h := h + 0) hN hK ho hs hn hd hG) ?_ (fun t => ?_)
  · rw [S_speak (b := 12) hN hs (by omega) (by omega) (by omega) (by decide) (by omega) (by omega) (by omega), S_speak (b := 12) hN hs (by omega) (by omega) (by omega) (by decide) (by omega) (by omega) (by omega)]
  · exact V_Mpulls6
theorem V_pulls5 {N G g h K o mm n d : Nat} {x : Int32} {s : zS} (hN : 9 ≤ N) (hK : K ≤ 6) (ho : o < 8) (hs : Vc K o mm 0 n s)   (hn : n + 7 ≤ 30) (hd : d ≤ 28) (hG : 12 ≤ G) : VP K o mm n 7 0 s (fV_speak N G (g + 14) (nI 5) (nI 2) x (nI d)) (fM_pullsAs G (h + 3) (nI 5) x) := by
  refine V_up (V_pulls2 (G := G) (x := x) (d := d) (g := g + 0) (h := h + 0) hN hK ho hs hn hd hG) ?_ (fun t => ?_)
  · rw [S_speak (b := 12) hN hs (by omega) (by omega) (by omega) (by decide) (by omega) (by omega) (by omega), S_speak (b := 12) hN hs (by omega) (by omega) (by omega) (by decide) (by omega) (by omega) (by omega)]
  · exact V_Mpulls5
theorem V_pulls3 {N G g h K o mm n d : Nat} {x : Int32} {s : zS} (hN : 9 ≤ N) (hK : K ≤ 6) (ho : o < 8) (hs : Vc K o mm 0 n s)   (hn : n + 8 ≤ 30) (hd : d ≤ 26) (hG : 12 ≤ G) : VP K o mm n 8 0 s (fV_speak N G (g + 16) (nI 3) (nI 2) x (nI d)) (fM_pullsAs G (h + 2) (nI 3) x) := by
  refine V_bg (b := 40) (fun r => r) hs (V_pulls0 (G := G) (g := g) (h := h) (x := (x / 2)) (d := d + 1) hN hK ho (Vc_b hs).1 (by omega) (by omega) hG) (fun r s' p n' e hv => ?_) (fun t r t' p n' ht e hv => ?_)
  · rw [S_speak (b := 40) hN hs (by omega) (by omega) (by omega) (by decide) (by omega) (by omega) (by omega), if_pos (by decide), V_O40 (Vc_b hs).1.2.2.2.2.2, e, zb2_s]
  · have mb : fM_begins 40 t = some (bM t n 40) := M_beg ht (by omega)
    have e' : gM_pullsAs G (h + 1) 0 (x / 2) (bM t n 40) = some (r, t') := e
    show fM_pullsAs_b G (gM_pullsAs G (h + 1)) (nI 3) x t = _
    unfold fM_pullsAs_b fM_above
    rw [if_neg (by decide), if_neg (by decide), if_neg (by decide), if_pos (by decide), mb, zbd_s, if_neg (by decide), if_neg (by decide), zbd_s, e', zb2_s]
theorem V_pulls4 {N G g h K o mm n d : Nat} {x : Int32} {s : zS} (hN : 9 ≤ N) (hK : K ≤ 6) (ho : o < 8) (hs : Vc K o mm 0 n s)   (hn : n + 8 ≤ 30) (hd : d ≤ 26) (hG : 12 ≤ G) : VP K o mm n 8 0 s (fV_speak N G (g + 16) (nI 4) (nI 2) x (nI d)) (fM_pullsAs G (h + 3) (nI 4) x) := by
  refine V_bg (b := 51) (fun r => r ^^^ nI o) hs (V_pulls1 (G := G) (g := g) (h := h) (x := x) (d := d + 1) hN hK ho (Vc_b hs).1 (by omega) (by omega) hG) (fun r s' p n' e hv => ?_) (fun t r t' p n' ht e hv => ?_)
  · rw [S_speak (b := 51) hN hs (by omega) (by omega) (by omega) (by decide) (by omega) (by omega) (by omega), if_pos (by decide), V_O51 (Vc_b hs).1.2.2.2.2.2, e, zb2_s, hv.2.2.2.1]
  · have mb : fM_begins 51 t = some (bM t n 51) := M_beg ht (by omega)
    have e' : gM_pullsAs G (h + 2) 1 x (bM t n 51) = some (r, t') := e
    show fM_pullsAs_b G (gM_pullsAs G (h + 2)) (nI 4) x t = _
    unfold fM_pullsAs_b fM_above
    rw [if_neg (by decide), if_neg (by decide), if_neg (by decide), if_neg (by decide), if_pos (by decide), mb, zbd_s, if_pos (by decide), zbd_s, e', zb2_s, hv.2.2.1]
theorem V_pulls {N G g h K o mm n d : Nat} {x : Int32} {s : zS} (hN : 9 ≤ N) (hK : K ≤ 6) (ho : o < 8) (hs : Vc K o mm 0 n s) {q : Nat} (hq : q ≤ 6)  (hn : n + 8 ≤ 30) (hd : d ≤ 26) (hG : 12 ≤ G) : VP K o mm n 8 0 s (fV_speak N G (g + 16) (nI q) (nI 2) x (nI d)) (fM_pullsAs G (h + 3) (nI q) x) := by
  rcases (show q = 0 ∨ q = 1 ∨ q = 2 ∨ q = 3 ∨ q = 4 ∨ q = 5 ∨ q = 6 by omega) with z | z | z | z | z | z | z <;> subst z
  · exact V_wk (V_pulls0 (G := G) (x := x) (d := d) (g := g + 2) (h := h + 2) hN hK ho hs (by omega) (by omega) hG) (by omega)
  · exact V_wk (V_pulls1 (G := G) (x := x) (d := d) (g := g + 2) (h := h + 1) hN hK ho hs (by omega) (by omega) hG) (by omega)
  · exact V_wk (V_pulls2 (G := G) (x := x) (d := d) (g := g + 2) (h := h + 1) hN hK ho hs (by omega) (by omega) hG) (by omega)
  · exact V_wk (V_pulls3 (G := G) (x := x) (d := d) (g := g + 0) (h := h + 1) hN hK ho hs (by omega) (by omega) hG) (by omega)
  · exact V_wk (V_pulls4 (G := G) (x := x) (d := d) (g := g + 0) (h := h + 0) hN hK ho hs (by omega) (by omega) hG) (by omega)
  · exact V_wk (V_pulls5 (G := G) (x := x) (d := d) (g := g + 2) (h := h + 0) hN hK ho hs (by omega) (by omega) hG) (by omega)
  · exact V_wk (V_pulls6 (G := G) (x := x) (d := d) (g := g + 2) (h := h + 1) hN hK ho hs (by omega) (by omega) hG) (by omega)
theorem V_parts0 {N G g h K o mm n d : Nat} {x : Int32} {s : zS} (hN : 9 ≤ N) (hK : K ≤ 6) (ho : o < 8) (hs : Vc K o mm 0 n s) (hG : 12 ≤ G) (hm : mm ≤ 9) (hn : n + 1 ≤ 30) (hd : d ≤ 40) : VP K o mm n 1 1 s (fV_speak N G (g + 2) (nI 0) (nI 3) x (nI d)) (fM_partsAs G (h + 1) (nI 0) x) := by
  obtain ⟨c1, c2, c3, c4, c5, c6⟩ := (Vc_b (b := 13) hs).1
  have hf := (Vc_b (b := 13) hs).2
  have e13 : fV_speak N G (g + 2) (nI 0) (nI 3) x (nI d) s = (if nI mm = nI o then some (0, zup (bC s n 13) 6 0 2 1) else zgd (¬ (nI mm - nI o = 0)) (some (x / (nI mm - nI o), bC s n 13))) := by
    rw [S_speak (b := 13) hN hs (by omega) (by omega) (by omega) (by decide) (by omega) (by omega) (by omega), if_neg (by decide), V_O13, c4, c5]
  have mm13 : ∀ t, Vm K o mm 0 n t → fM_partsAs G (h + 1) (nI 0) x t = (if nI mm - nI o = 0 then fM_partsAs_J54 G (gM_partsAs G h) x (nI mm - nI o) 1 (bM t n 13) else fM_partsAs_J54 G (gM_partsAs G h) x (nI mm - nI o) 0 (bM t n 13)) := by
    intro t ht
    have mb : fM_begins 13 t = some (bM t n 13) := M_beg ht (by omega)
    show fM_partsAs_b G (gM_partsAs G h) (nI 0) x t = _
    unfold fM_partsAs_b
    rw [if_pos (by decide), mb, zbd_s, M_mNow ho (Vm_b ht).1, zbd_s, (Vm_b ht).1.2.2.1, zlt_eq]
  have hsub := pk_sub_toInt (a := mm) (b := o) (by omega) (by omega)
  have h0 : (0 : Int32).toInt = 0 := by decide
  have vt : ∀ t p v, Vm K o mm 0 n t → v = nI p → Vm K o mm p (n + 1) (zup (bM t n 13) 8 0 17 v) ∧ FVm t (zup (bM t n 13) 8 0 17 v) := by
    intro t p v ht hv
    obtain ⟨d1, d2, d3, d4, d5⟩ := (Vm_b (b := 13) ht).1
    refine ⟨⟨by rw [zup_k (by omega)]; exact d1, by rw [zup_s, hv], by rw [zup_k (by omega)]; exact d3, by rw [zup_o (by omega)]; exact d4, by rw [zup_o (by omega)]; exact d5⟩, FVm_t (Vm_b (b := 13) ht).2 (fun c i k a1 a2 => ?_)⟩
    unfold zup
    rw [if_neg (by omega)]
  by_cases z : mm = o
  · have hz : nI mm - nI o = 0 := by rw [i32_eq, hsub, h0]; omega
    refine ⟨0, zup (bC s n 13) 6 0 2 1, n + 1, 1, by omega, ?_, by omega, ⟨by rw [zup_k (by omega)]; exact c1, zup_s, by rw [zup_k (by omega)]; exact c3, by rw [zup_k (by omega)]; exact c4, by rw [zup_k (by omega)]; exact c5, TB_e c6 (fun c i k q => zup_o (by omega))⟩, FVc_t hf (fun c i k a1 a2 => zup_o (by omega)), fun t ht hte => ⟨zup (bM t n 13) 8 0 17 1, ?_, (vt t 1 1 ht rfl).1, fun i hi => ?_, (vt t 1 1 ht rfl).2⟩⟩
    · rw [e13, if_pos (by rw [z])]
    · rw [mm13 t ht, if_pos hz]
      unfold fM_partsAs_J54
      rw [zgd_t (Or.inr rfl), zlt_eq, if_pos hz]
    · rw [zup_o (by omega), zup_o (by omega)]
      exact Ve_b hte i hi
  · have hz : ¬ (nI mm - nI o = 0) := by rw [i32_eq, hsub, h0]; omega
    refine ⟨x / (nI mm - nI o), bC s n 13, n + 1, 0, by omega, ?_, by omega, ⟨c1, c2, c3, c4, c5, c6⟩, hf, fun t ht hte => ⟨zup (bM t n 13) 8 0 17 0, ?_, (vt t 0 0 ht rfl).1, fun i hi => ?_, (vt t 0 0 ht rfl).2⟩⟩
    · rw [e13, if_neg (fun r => z ((nI_eq (by omega) (by omega)).mp r)), zgd_t hz]
    · rw [mm13 t ht, if_neg hz]
      unfold fM_partsAs_J54
      rw [zgd_t (Or.inl rfl), zlt_eq, if_neg hz]
      by_cases y : nI mm - nI o = -1
      · rw [if_pos y, y, i32_div_m1]
      · rw [if_neg y, zgd_t hz]
    · rw [zup_o (by omega)]
      exact Ve_b hte i hi
theorem V_parts1 {N G g h K o mm n d : Nat} {x : Int32} {s : zS} (hN : 9 ≤ N) (hK : K ≤ 6) (ho : o < 8) (hs : Vc K o mm 0 n s) (hG : 12 ≤ G) (hm : mm ≤ 9) (hn : n + 8 ≤ 30) (hd : d ≤ 28) : VP K o mm n 8 1 s (fV_speak N G (g + 14) (nI 1) (nI 3) x (nI d)) (fM_partsAs G (h + 2) (nI 1) x) := by
  obtain ⟨G', hG'⟩ : ∃ G', G = G' + 3 := ⟨G - 3, by omega⟩
  obtain ⟨r, s1, n1, p, a1, a2, a3, a4, a5, a6⟩ := V_parts0 (G := G) (g := g + 10) (h := h) (x := x) (d := d + 1) hN hK ho (Vc_b (b := 21) hs).1 hG hm (by omega) (by omega)
  have cl : fV_speak N G (g + 14) (nI 1) (nI 3) x (nI d) s = (if (s1 6 0 2) = 0 then zb2 (fV_speak N G (g + 12) (s1 6 0 3) (nI 1) 1 (nI (d + 1)) s1) fun r13 s12 => some (r + r13, s12) else some (0, s1)) := by
    rw [S_speak (b := 21) hN hs (by omega) (by omega) (by omega) (by decide) (by omega) (by omega) (by omega), if_pos (by decide), V_O21 (Vc_b hs).1.2.2.2.2.2, a2, zb2_s]
  have rf : ∀ t t1, Vm K o mm 0 n t → fM_partsAs G (h + 1) (nI 0) x (bM t n 21) = some (r, t1) → Vm K o mm p n1 t1 → fM_partsAs G (h + 2) (nI 1) x t = (if (t1 8 0 17) = 0 then zb2 (fM_letsAs G G (nI K) 1 t1) fun r20 s19 => some (r + r20, s19) else some (0, t1)) := by
    intro t t1 ht e hv
    have mb : fM_begins 21 t = some (bM t n 21) := M_beg ht (by omega)
    have e' : gM_partsAs G (h + 1) 0 x (bM t n 21) = some (r, t1) := e
    show fM_partsAs_b G (gM_partsAs G (h + 1)) (nI 1) x t = _
    unfold fM_partsAs_b fM_above
    rw [if_neg (by decide), if_pos (by decide), mb, zbd_s, if_neg (by decide), if_neg (by decide), zbd_s, e', zb2_s, M_kindNow ho hv, zbd_s]
  rcases (show p = 0 ∨ p = 1 by omega) with z | z
  · subst z
    obtain ⟨r2, s2, n2, p2, b1, b2, b3, b4, b5, b6⟩ := V_lets (G := G) (g := g) (h := G') (x := 1) (d := d + 1) hN hK ho a4 hK (by omega) (by omega) hG
    refine ⟨r + r2, s2, n2, p2, by omega, ?_, by omega, b4, FVc_t (Vc_b hs).2 (FVc_t a5 b5), fun t ht hte => ?_⟩
    · rw [cl, a4.2.1, if_pos (show nI 0 = 0 from rfl), a4.2.2.1, b2, zb2_s]
    · obtain ⟨t1, d1, d2, d3, d4⟩ := a6 (bM t n 21) (Vm_b ht).1 (Ve_b hte)
      obtain ⟨t2, f1, f2, f3, f4⟩ := b6 t1 d2 d3
      rw [← hG'] at f1
      exact ⟨t2, by rw [rf t t1 ht d1 d2, d2.2.1, if_pos (show nI 0 = 0 from rfl), f1, zb2_s], f2, f3, FVm_t (Vm_b ht).2 (FVm_t d4 f4)⟩
  · subst z
    refine ⟨0, s1, n1, 1, by omega, ?_, by omega, a4, FVc_t (Vc_b hs).2 a5, fun t ht hte => ?_⟩
    · rw [cl, a4.2.1, if_neg (by decide)]
    · obtain ⟨t1, d1, d2, d3, d4⟩ := a6 (bM t n 21) (Vm_b ht).1 (Ve_b hte)
      exact ⟨t1, by rw [rf t t1 ht d1 d2, d2.2.1, if_neg (by decide)], d2, d3, FVm_t (Vm_b ht).2 d4⟩
theorem V_parts2 {N G g h K o mm n d : Nat} {x : Int32} {s : zS} (hN : 9 ≤ N) (hK : K ≤ 6) (ho : o < 8) (hs : Vc K o mm 0 n s) (hG : 12 ≤ G) (hm : mm ≤ 9) (hn : n + 1 ≤ 30) (hd : d ≤ 40) : VP K o mm n 1 1 s (fV_speak N G (g + 2) (nI 2) (nI 3) x (nI d)) (fM_partsAs G (h + 2) (nI 2) x) := by
  refine V_up (V_parts0 (G := G) (x := x) (d := d) (g := g + 0) (h := h + 0) hN hK ho hs hG hm hn hd) ?_ (fun t => ?_)
  · rw [S_speak (b := 13) hN hs (by omega) (by omega) (by omega) (by decide) (by omega) (by omega) (by omega), S_speak (b := 13) hN hs (by omega) (by omega) (by omega) (by decide) (by omega) (by omega) (by omega)]
  · exact V_Mparts2
theorem V_parts3 {N G g h K o mm n d : Nat} {x : Int32} {s : zS} (hN : 9 ≤ N) (hK : K ≤ 6) (ho : o < 8) (hs : Vc K o mm 0 n s) (hG : 12 ≤ G) (hm : mm ≤ 9) (hn : n + 1 ≤ 30) (hd : d ≤ 40) : VP K o mm n 1 1 s (fV_speak N G (g + 2) (nI 3) (nI 3) x (nI d)) (fM_partsAs G (h + 2) (nI 3) x) := by
  refine V_up (V_parts0 (G := G) (x := x) (d := d) (g := g + 0) (h := h + 0) hN hK ho hs hG hm hn hd) ?_ (fun t => ?_)
  · rw [S_speak (b := 13) hN hs (by omega) (by omega) (by omega) (by decide) (by omega) (by omega) (by omega), S_speak (b := 13) hN hs (by omega) (by omega) (by omega) (by decide) (by omega) (by omega) (by omega)]
  · exact V_Mparts3
theorem V_parts6 {N G g h K o mm n d : Nat} {x : Int32} {s : zS} (hN : 9 ≤ N) (hK : K ≤ 6) (ho : o < 8) (hs : Vc K o mm 0 n s) (hG : 12 ≤ G) (hm : mm ≤ 9) (hn : n + 1 ≤ 30) (hd : d ≤ 40) : VP K o mm n 1 1 s (fV_speak N G (g + 2) (nI 6) (nI 3) x (nI d)) (fM_partsAs G (h + 2) (nI 6) x) := by
  refine V_up (V_parts0 (G := G) (x := x) (d := d) (g := g + 0) (h := h + 0) hN hK ho hs hG hm hn hd) ?_ (fun t => ?_)
  · rw [S_speak (b := 13) hN hs (by omega) (by omega) (by omega) (by decide) (by omega) (by omega) (by omega), S_speak (b := 13) hN hs (by omega) (by omega) (by omega) (by decide) (by omega) (by omega) (by omega)]
  · exact V_Mparts6
theorem V_parts5 {N G g h K o mm n d : Nat} {x : Int32} {s : zS} (hN : 9 ≤ N) (hK : K ≤ 6) (ho : o < 8) (hs : Vc K o mm 0 n s) (hG : 12 ≤ G) (hm : mm ≤ 9) (hn : n + 1 ≤ 30) (hd : d ≤ 40) : VP K o mm n 1 1 s (fV_speak N G (g + 2) (nI 5) (nI 3) x (nI d)) (fM_partsAs G (h + 3) (nI 5) x) := by
  refine V_up (V_parts2 (G := G) (x := x) (d := d) (g := g + 0) (h := h + 0) hN hK ho hs hG hm hn hd) ?_ (fun t => ?_)
  · rw [S_speak (b := 13) hN hs (by omega) (by omega) (by omega) (by decide) (by omega) (by omega) (by omega), S_speak (b := 13) hN hs (by omega) (by omega) (by omega) (by decide) (by omega) (by omega) (by omega)]
  · exact V_Mparts5
theorem V_parts4 {N G g h K o mm n d : Nat} {x : Int32} {s : zS} (hN : 9 ≤ N) (hK : K ≤ 6) (ho : o < 8) (hs : Vc K o mm 0 n s) (hG : 12 ≤ G) (hm : mm ≤ 9) (hn : n + 8 ≤ 30) (hd : d ≤ 28) : VP K o mm n 8 1 s (fV_speak N G (g + 14) (nI 4) (nI 3) x (nI d)) (fM_partsAs G (h + 3) (nI 4) x) := by
  refine V_up (V_parts1 (G := G) (x := x) (d := d) (g := g + 0) (h := h + 0) hN hK ho hs hG hm hn hd) ?_ (fun t => ?_)
  · rw [S_speak (b := 21) hN hs (by omega) (by omega) (by omega) (by decide) (by omega) (by omega) (by omega), S_speak (b := 21) hN hs (by omega) (by omega) (by omega) (by decide) (by omega) (by omega) (by omega)]
  · exact V_Mparts4
theorem V_parts {N G g h K o mm n d : Nat} {x : Int32} {s : zS} (hN : 9 ≤ N) (hK : K ≤ 6) (ho : o < 8) (hs : Vc K o mm 0 n s) {q : Nat} (hq : q ≤ 6) (hG : 12 ≤ G) (hm : mm ≤ 9) (hn : n + 8 ≤ 30) (hd : d ≤ 28) : VP K o mm n 8 1 s (fV_speak N G (g + 14) (nI q) (nI 3) x (nI d)) (fM_partsAs G (h + 3) (nI q) x) := by
  rcases (show q = 0 ∨ q = 1 ∨ q = 2 ∨ q = 3 ∨ q = 4 ∨ q = 5 ∨ q = 6 by omega) with z | z | z | z | z | z | z <;> subst z
  · exact V_wk (V_parts0 (G := G) (x := x) (d := d) (g := g + 12) (h := h + 2) hN hK ho hs hG hm (by omega) (by omega)) (by omega)
  · exact V_wk (V_parts1 (G := G) (x := x) (d := d) (g := g + 0) (h := h + 1) hN hK ho hs hG hm (by omega) (by omega)) (by omega)
  · exact V_wk (V_parts2 (G := G) (x := x) (d := d) (g := g + 12) (h := h + 1) hN hK ho hs hG hm (by omega) (by omega)) (by omega)
  · exact V_wk (V_parts3 (G := G) (x := x) (d := d) (g := g + 12) (h := h + 1) hN hK ho hs hG hm (by omega) (by omega)) (by omega)
  · exact V_wk (V_parts4 (G := G) (x := x) (d := d) (g := g + 0) (h := h + 0) hN hK ho hs hG hm (by omega) (by omega)) (by omega)
  · exact V_wk (V_parts5 (G := G) (x := x) (d := d) (g := g + 12) (h := h + 0) hN hK ho hs hG hm (by omega) (by omega)) (by omega)
  · exact V_wk (V_parts6 (G := G) (x := x) (d := d) (g := g + 12) (h := h + 1) hN hK ho hs hG hm (by omega) (by omega)) (by omega)
