def qad (ad : Nat → Nat) : Nat → Nat → Nat := fun k _ => ad k
def qov (ad : Nat → Nat) : Option zA → Value
  | none => .null
  | some v => zenc (qad ad) v
def qce (cI cS : ClassId) (ad : Nat → Nat) : qE → va_E
  | .inl q => .inr (q.1, q.2.map (qov ad))
  | .inr (.inl l) => .inl (cI, l.length, .inl (fun k => l.getD k 0))
  | .inr (.inr l) => .inl (cS, l.length, .inr (.inr (.inr (.inr (fun k => (l.getD k none).map ad)))))
def qwl (cI cS : ClassId) (ad : Nat → Nat) (w : qW) : va_W := w.zipIdx.map (fun q => (ad q.2, qce cI cS ad q.1))
theorem qwl_len {cI cS : ClassId} {ad : Nat → Nat} {w : qW} : (qwl cI cS ad w).length = w.length := by simp [qwl]
theorem qwl_at {cI cS : ClassId} {ad : Nat → Nat} {w : qW} {k : Nat} {e : qE} (h : w[k]? = some e) : (qwl cI cS ad w)[k]? = some (ad k, qce cI cS ad e) := by
  simp [qwl, List.getElem?_zipIdx, h]
theorem qwl_set {cI cS : ClassId} {ad : Nat → Nat} {w : qW} {k : Nat} {e : qE} (hk : k < w.length) : (qwl cI cS ad w).set k (ad k, qce cI cS ad e) = qwl cI cS ad (w.set k e) := by
  apply List.ext_getElem?
  intro n
  by_cases hn : k = n
  · subst hn
    rw [List.getElem?_set_self (by rw [qwl_len]; exact hk), qwl_at (List.getElem?_set_self hk)]
  · rw [List.getElem?_set_ne hn]
    simp [qwl, List.getElem?_zipIdx, List.getElem?_set_ne hn]
def qin (n k : Nat) : Prop := k < n ∨ 1000 ≤ k
theorem qvok_enc {ad ad' : Nat → Nat} {n : Nat} (h : ∀ k, qin n k → ad' k = ad k) {v : zA} (hv : qvok n v = true) : zenc (qad ad') v = zenc (qad ad) v := by
  rcases v with x | x | q
  · rfl
  · rfl
  · have hv0 := hv
    simp only [qvok, Bool.and_eq_true, decide_eq_true_eq] at hv
    show Value.ref (ad' q.1) = .ref (ad q.1)
    rw [h _ (show q.1 < n ∨ 1000 ≤ q.1 by simpa using hv.1)]
theorem qeok_enc {cI cS : ClassId} {ad ad' : Nat → Nat} {n : Nat} (h : ∀ k, qin n k → ad' k = ad k) {e : qE} (hv : qeok n e = true) : qce cI cS ad' e = qce cI cS ad e := by
  rcases e with q | l | l
  · simp only [qeok, List.all_eq_true] at hv
    simp only [qce]
    congr 2
    apply List.map_congr_left
    intro o ho
    have := hv o ho
    cases o with
    | none => rfl
    | some v => exact qvok_enc h this
  · rfl
  · simp only [qeok, List.all_eq_true] at hv
    simp only [qce]
    congr 7
    funext k
    cases hk : l[k]? with
    | none => simp [hk]
    | some o =>
      have := hv o (List.mem_of_getElem? hk)
      cases o with
      | none => simp [hk]
      | some j =>
        simp only [qrok, decide_eq_true_eq] at this
        simp [hk, h j (Or.inl this)]
theorem qwl_ext {cI cS : ClassId} {ad ad' : Nat → Nat} {w : qW} (h : ∀ k, qin w.length k → ad' k = ad k) (hw : w.all (qeok w.length) = true) : qwl cI cS ad' w = qwl cI cS ad w := by
  apply List.ext_getElem?
  intro n
  cases hn : w[n]? with
  | none => simp [qwl, List.getElem?_zipIdx, hn]
  | some e =>
    rw [qwl_at hn, qwl_at hn, qeok_enc h (List.all_eq_true.mp hw e (List.mem_of_getElem? hn)), h n (Or.inl (List.getElem?_eq_some_iff.mp hn).1)]
theorem qwl_app {cI cS : ClassId} {ad : Nat → Nat} {w : qW} {e : qE} : qwl cI cS ad (w ++ [e]) = qwl cI cS ad w ++ [(ad w.length, qce cI cS ad e)] := by
  simp [qwl, List.zipIdx_append]
def qext (ad : Nat → Nat) (n q : Nat) : Nat → Nat := fun k => if k = n then q else ad k
theorem qext_lt {ad : Nat → Nat} {n q k : Nat} (hn : n < 1000) (h : qin n k) : qext ad n q k = ad k := by
  unfold qext
  rcases h with h | h <;> rw [if_neg (by omega)]
theorem qext_self {ad : Nat → Nat} {n q : Nat} : qext ad n q n = q := by simp [qext]
theorem qst_enc {ad ad' : Nat → Nat} {n : Nat} (h : ∀ k, qin n k → ad' k = ad k) {st : List zA} (hv : st.all (qvok n) = true) : st.map (zenc (qad ad')) = st.map (zenc (qad ad)) :=
  List.map_congr_left (fun v hv2 => qvok_enc h (List.all_eq_true.mp hv v hv2))
theorem qls_enc {ad ad' : Nat → Nat} {n : Nat} (h : ∀ k, qin n k → ad' k = ad k) : ∀ (ls : zO) (i : Nat), ls.all (qook n) = true → zpr (qad ad') i ls = zpr (qad ad) i ls := by
  intro ls
  induction ls with
  | nil => intro i _; rfl
  | cons a r ih =>
    intro i hv
    simp only [List.all_cons, Bool.and_eq_true] at hv
    cases a with
    | none => exact ih _ hv.2
    | some v =>
      simp only [zpr]
      rw [ih _ hv.2, qvok_enc h (show qvok n v = true from hv.1)]
theorem qok_iff {w : qW} {ls : zO} {st : List zA} (h : qok w ls st = true) : w.all (qeok w.length) = true ∧ st.all (qvok w.length) = true ∧ ls.all (qook w.length) = true ∧ w.length < 1000 := by
  simp only [qok, Bool.and_eq_true, decide_eq_true_eq] at h
  exact ⟨h.1.1.2, h.1.2, h.2, h.1.1.1⟩
/-- what the state gives of classes, in a constructor -/
def qG (D : va_G) (cI cS : ClassId) (U : State) : Prop := va_K D vwCl (zTy cI cS) U ∧ (∀ q ∈ qmT, va_Nw (.methodLinkNest (zC q.1) q.2.1 (qy q.2.2.1) "ApronStrings") U) ∧ va_AO "ApronStrings$Sheet" U
theorem qG.moved {D : va_G} {cI cS : ClassId} {s U : State} (hW : s.WarmedH U.vm) (h : qG D cI cS s) : qG D cI cS U := ⟨h.1.moved hW.alike, fun q hq => va_Nw.warmM hW (h.2.1 q hq), h.2.2.moved hW.alike⟩
theorem qG.same {D : va_G} {cI cS : ClassId} {s U : State} (hW : s.vm = U.vm) (h : qG D cI cS s) : qG D cI cS U := ⟨h.1.moved (by rw [hW]; exact Vm.Alike.refl _), fun q hq => va_Nw.same rfl hW (h.2.1 q hq), h.2.2.moved (by rw [hW]; exact Vm.Alike.refl _)⟩
def qWd (D : va_G) (cI cS : ClassId) (hb : Nat) (ad : Nat → Nat) (w : qW) (H : Heap) : Prop := va_P D vwCl (qwl cI cS ad w) H ∧ va_D (zA0 hb) (qwl cI cS ad w)
def qSt (D : va_G) (cI cS : ClassId) (hb : Nat) (s : State) (nL : Nat) (ad : Nat → Nat) (H : Heap) (locs : List Loc) (lsA : Array Slot) (ls : zO) (w : qW) : Prop :=
  qWd D cI cS hb ad w H ∧ va_S (zA0 hb) s.heap H locs ∧ (ls.length = nL ∧ lv_has lsA nL (zpr (qad ad) 0 ls))
abbrev qGoal (p : Program) (l : Launch) (e : Env) (R : Room) (s : State) (m : MethodId) (args : Array Value) (below : List Frame) (meth : Method) (c : Code) (cells slots : Nat) (Q : State → Prop) (ad : Nat → Nat) (H : Heap) (locs : List Loc) (lsA : Array Slot) (pc : Nat) (st : List zA) : Prop := W p l e R s m args below meth c H locs cells slots Q (F0 m pc lsA (st.map (zenc (qad ad))))
theorem qnf_ok {o x ci : Nat} (h : qnf o x = some ci) : ci < 9 ∧ .classLink (zC o) x (zC ci) ∈ zTb := by
  unfold qnf at h
  obtain ⟨q, hq, he⟩ := Option.map_eq_some_iff.mp h
  have h1 := List.find?_some hq
  have h2 := qnT_ok q (List.mem_of_find?_eq_some hq)
  obtain ⟨a, b, c', w⟩ := q
  simp only [Bool.and_eq_true, beq_iff_eq] at h1
  obtain ⟨rfl, rfl⟩ := h1
  simp only at he
  subst he
  exact ⟨h2.1, zTb_of h2.2.1 h2.2.2⟩
theorem qkf_ok {o x j : Nat} (h : qkf o x = some j) : j < 9 ∧ .methodLink (zC o) x (qy j) ∈ zTb := by
  unfold qkf at h
  obtain ⟨q, hq, he⟩ := Option.map_eq_some_iff.mp h
  have h1 := List.find?_some hq
  have h2 := qkT_ok q (List.mem_of_find?_eq_some hq)
  obtain ⟨a, b, c', w⟩ := q
  simp only [Bool.and_eq_true, beq_iff_eq] at h1
  obtain ⟨rfl, rfl⟩ := h1
  simp only at he
  subst he
  exact ⟨h2.1, zTb_of h2.2.1 h2.2.2⟩
theorem qmf_ok {o x j : Nat} (h : qmf o x = some j) : j < 9 ∧ ∃ w, (o, x, j, w) ∈ qmT := by
  unfold qmf at h
  obtain ⟨q, hq, he⟩ := Option.map_eq_some_iff.mp h
  have h1 := List.find?_some hq
  have h3 := List.mem_of_find?_eq_some hq
  have h2 := qmT_ok q h3
  obtain ⟨a, b, c', w⟩ := q
  simp only [Bool.and_eq_true, beq_iff_eq] at h1
  obtain ⟨rfl, rfl⟩ := h1
  simp only at he
  subst he
  exact ⟨h2.1, w, h3⟩
theorem qof_ok {o x : Nat} (h : qof o x = true) : .methodLink (zC o) x objectInit ∈ zTb := by
  unfold qof at h
  obtain ⟨q, hq⟩ := Option.isSome_iff_exists.mp h
  have h1 := List.find?_some hq
  have h2 := qoT_ok q (List.mem_of_find?_eq_some hq)
  obtain ⟨a, b, w⟩ := q
  simp only [Bool.and_eq_true, beq_iff_eq] at h1
  obtain ⟨rfl, rfl⟩ := h1
  exact zTb_of h2.1 h2.2
theorem qfit_ok {ad : Nat → Nat} {ty : FieldType} {v : zA} (h : qfit ty v = true) : narrow ty (zenc (qad ad) v) = zenc (qad ad) v ∧ fits ty (zenc (qad ad) v) = true := by
  rcases v with x | x | q <;> cases ty <;> simp [qfit] at h <;> exact ⟨rfl, rfl⟩
theorem qdf_val {ad : Nat → Nat} : ∀ ci, ci < 9 → ∀ j, j < znf ci → defaultValue (zty ci j) = vp_V ((qdf ci).map (qov ad)) j := by
  intro ci h
  refine z9 (P := fun ci => ∀ j, j < znf ci → defaultValue (zty ci j) = vp_V ((qdf ci).map (qov ad)) j) h ?_ ?_ ?_ ?_ ?_ ?_ ?_ ?_ ?_
  all_goals
    intro j hj
    have hj2 : j < 22 := Nat.lt_of_lt_of_le hj (by decide)
    have : j = 0 ∨ j = 1 ∨ j = 2 ∨ j = 3 ∨ j = 4 ∨ j = 5 ∨ j = 6 ∨ j = 7 ∨ j = 8 ∨ j = 9 ∨ j = 10 ∨ j = 11 ∨ j = 12 ∨ j = 13 ∨ j = 14 ∨ j = 15 ∨ j = 16 ∨ j = 17 ∨ j = 18 ∨ j = 19 ∨ j = 20 ∨ j = 21 := by omega
    rcases this with rfl | rfl | rfl | rfl | rfl | rfl | rfl | rfl | rfl | rfl | rfl | rfl | rfl | rfl | rfl | rfl | rfl | rfl | rfl | rfl | rfl | rfl <;> first | rfl | (exact absurd hj (by decide))
