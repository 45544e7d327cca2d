/-! The machine's world as cells of the heap. -/
def zcell (cI cS : ClassId) (ad : Nat → Nat → Nat) (σ : zS) (c i : Nat) : va_E :=
  if c < 9 then .inr (c, (List.range (znf c)).map (fun k => match zfr c k i with
    | some q => Value.ref (ad q.1 q.2)
    | none => Value.int (σ c i k)))
  else if c = 25 then .inl (cS, 4, .inr (.inr (.inr (.inr (fun k => some (ad 4 k))))))
  else .inl (cI, zlen c i, .inl (σ c i))
def zwl (cI cS : ClassId) (ad : Nat → Nat → Nat) (σ : zS) : va_W := zpls.map (fun q => (ad q.1 q.2, zcell cI cS ad σ q.1 q.2))
def zenc (ad : Nat → Nat → Nat) : zA → Value
  | .inl x => .int x
  | .inr (.inl x) => .long x
  | .inr (.inr q) => .ref (ad q.1 q.2)
def zokp (c i : Nat) : Prop := i < zcnt c ∨ (50 ≤ c ∧ c < 54 ∧ i = 0)
def zok : zA → Prop
  | .inr (.inr q) => zokp q.1 q.2
  | _ => True
theorem zcat_enc (ad : Nat → Nat → Nat) (v : zA) : (zenc ad v).category = zcat v := by
  rcases v with x | x | q <;> rfl
theorem zcat_sum (ad : Nat → Nat → Nat) (r : List zA) : ((r.map (zenc ad)).map fun v => v.category).sum = (r.map zcat).sum := by
  rw [List.map_map]
  congr 1
  exact List.map_congr_left (fun v _ => zcat_enc ad v)
theorem zlong_cat {ad : Nat → Nat → Nat} {v : zA} (h : zlong v = false) : (zenc ad v).category = 1 := by
  rcases v with x | x | q
  · rfl
  · simp [zlong] at h
  · rfl
theorem zcnt_le : ∀ c, c < 43 → zcnt c ≤ 4 := by decide +kernel
theorem zcnt_big {c i : Nat} (h : i < zcnt c) : c < 43 ∧ i < 4 := by
  rcases Nat.lt_or_ge c 43 with hc | hc
  · exact ⟨hc, Nat.lt_of_lt_of_le h (zcnt_le c hc)⟩
  · exfalso
    unfold zcnt at h
    split at h <;> omega
theorem zmem0 : ∀ c, c < 43 → ∀ i, i < zcnt c → (c, i) ∈ zpls := by decide +kernel
theorem zpl_at {c i : Nat} (h : i < zcnt c) : ∃ k : Nat, zpls[k]? = some (c, i) := List.getElem?_of_mem (zmem0 c (zcnt_big h).1 i h)
theorem zpl_nd : zpls.Nodup := by decide +kernel
theorem zpl_ok : ∀ q ∈ zpls, q.2 < zcnt q.1 := by decide +kernel
theorem zwl_at {cI cS : ClassId} {ad : Nat → Nat → Nat} {σ : zS} {k c i : Nat} (h : zpls[k]? = some (c, i)) : (zwl cI cS ad σ)[k]? = some (ad c i, zcell cI cS ad σ c i) := by
  simp [zwl, h]
theorem zcell_congr {cI cS : ClassId} {ad : Nat → Nat → Nat} {σ σ' : zS} {c i : Nat} (h : σ c i = σ' c i) : zcell cI cS ad σ c i = zcell cI cS ad σ' c i := by
  unfold zcell
  rw [h]
theorem zwl_set {cI cS : ClassId} {ad : Nat → Nat → Nat} {σ σ' : zS} {k c i : Nat} (h : zpls[k]? = some (c, i)) (hn : ∀ c' i', (c', i') ≠ (c, i) → σ' c' i' = σ c' i') : (zwl cI cS ad σ).set k (ad c i, zcell cI cS ad σ' c i) = zwl cI cS ad σ' := by
  apply List.ext_getElem?
  intro n
  have hk : k < zpls.length := (List.getElem?_eq_some_iff.mp h).1
  by_cases hnk : k = n
  · subst hnk
    rw [List.getElem?_set_self (by simpa [zwl] using hk), zwl_at h]
  · rw [List.getElem?_set_ne hnk]
    cases hq : zpls[n]? with
    | none => simp [zwl, hq]
    | some q =>
      have hne : q ≠ (c, i) := by
        rintro rfl
        exact hnk ((List.getElem?_inj hk zpl_nd).mp (h.trans hq.symm))
      rw [zwl_at (c := q.1) (i := q.2) hq, zwl_at (c := q.1) (i := q.2) hq, zcell_congr (hn q.1 q.2 hne)]
theorem zup_ne {σ : zS} {c i k : Nat} {v : Int32} {c' i' : Nat} (h : (c', i') ≠ (c, i)) : zup σ c i k v c' i' = σ c' i' := by
  funext j
  unfold zup
  rw [if_neg]
  rintro ⟨h1, h2, -⟩
  exact h (by rw [h1, h2])
theorem zup_self {σ : zS} {c i k : Nat} {v : Int32} : zup σ c i k v c i = upd (σ c i) k v := by
  funext j
  simp [zup, upd]
theorem zcp_ne {σ : zS} {c i c2 i2 sp dp n : Nat} {c' i' : Nat} (h : (c', i') ≠ (c2, i2)) : zcp σ c i c2 i2 sp dp n c' i' = σ c' i' := by
  funext j
  unfold zcp
  rw [if_neg]
  rintro ⟨h1, h2⟩
  exact h (by rw [h1, h2])
theorem zcp_self {σ : zS} {c i c2 i2 sp dp n : Nat} : zcp σ c i c2 i2 sp dp n c2 i2 = va_cpy (σ c i) (σ c2 i2) sp dp n := by
  funext j
  simp [zcp]
/-- the list of the locals that are known -/
def zpr (ad : Nat → Nat → Nat) : Nat → zO → List (Nat × Value)
  | _, [] => []
  | i, none :: r => zpr ad (i + 1) r
  | i, some v :: r => (i, zenc ad v) :: zpr ad (i + 1) r
theorem zpr_mem {ad : Nat → Nat → Nat} (ls : zO) : ∀ (n j : Nat) (w : Value), (j, w) ∈ zpr ad n ls ↔ ∃ (k : Nat) (v : zA), j = n + k ∧ ls[k]? = some (some v) ∧ w = zenc ad v := by
  induction ls with
  | nil => intro n j w; simp [zpr]
  | cons a r ih =>
    intro n j w
    cases a with
    | none =>
      simp only [zpr, ih]
      constructor
      · rintro ⟨k, v, h1, h2, h3⟩
        exact ⟨k + 1, v, by omega, by simpa using h2, h3⟩
      · rintro ⟨k, v, h1, h2, h3⟩
        cases k with
        | zero => simp at h2
        | succ k => exact ⟨k, v, by omega, by simpa using h2, h3⟩
    | some x =>
      simp only [zpr, List.mem_cons, ih, Prod.mk.injEq]
      constructor
      · rintro (⟨h1, h2⟩ | ⟨k, v, h1, h2, h3⟩)
        · exact ⟨0, x, by omega, by simp, h2⟩
        · exact ⟨k + 1, v, by omega, by simpa using h2, h3⟩
      · rintro ⟨k, v, h1, h2, h3⟩
        cases k with
        | zero =>
          left
          simp at h2
          subst h2
          exact ⟨by omega, h3⟩
        | succ k => right; exact ⟨k, v, by omega, by simpa using h2, h3⟩
theorem zget_some {ls : zO} {k : Nat} {v : zA} (h : zget ls k = some v) : ls[k]? = some (some v) := by
  unfold zget at h
  split at h
  · rename_i w hw
    cases h
    exact hw
  · cases h
theorem zls_get {ad : Nat → Nat → Nat} {lsA : Array Slot} {nL : Nat} {ls : zO} (h : lv_has lsA nL (zpr ad 0 ls)) {k : Nat} {v : zA} (hk : zget ls k = some v) : lsA[k]? = some (.val (zenc ad v)) :=
  h.2.2 (k, zenc ad v) ((zpr_mem ls 0 k _).mpr ⟨k, v, by omega, zget_some hk, rfl⟩)
theorem zset_some {ls ls' : zO} {k : Nat} {v : zA} (h : zset ls k v = some ls') : k < ls.length ∧ ls' = ls.set k (some v) ∧ ∀ j w, k = j + 1 → ls[j]? = some (some w) → zlong w = false := by
  unfold zset at h
  split at h
  · rename_i hk
    refine ⟨hk, ?_⟩
    split at h
    · cases h
      exact ⟨rfl, fun j w h1 => by omega⟩
    · split at h
      · rename_i j h0 w hw
        split at h
        · cases h
        · cases h
          rename_i hl
          refine ⟨rfl, fun j2 w2 h1 h2 => ?_⟩
          cases h1
          rw [hw] at h2
          cases h2
          simpa using hl
      · rename_i j hj
        cases h
        refine ⟨rfl, fun j2 w2 h1 h2 => ?_⟩
        cases h1
        exact absurd h2 (hj w2)
  · cases h
theorem zls_set {ad : Nat → Nat → Nat} {lsB : Array Slot} {nL : Nat} {ls ls' : zO} {k : Nat} {v : zA} (hs : zset ls k v = some ls') (h : lv_has lsB nL ((k, zenc ad v) :: (zpr ad 0 ls).filter (fun q => !(q.1 == k) && !(q.1 + 1 == k && q.2.category == 2)))) : lv_has lsB nL (zpr ad 0 ls') := by
  obtain ⟨h1, h2, h3⟩ := zset_some hs
  refine ⟨h.1, h.2.1, ?_⟩
  rintro ⟨j, w⟩ hq
  obtain ⟨n, x, rfl, hn, rfl⟩ := (zpr_mem ls' 0 j w).mp hq
  apply h.2.2
  rw [Nat.zero_add]
  subst h2
  by_cases hkn : k = n
  · subst hkn
    rw [List.getElem?_set_self h1] at hn
    cases hn
    exact List.mem_cons_self
  · rw [List.getElem?_set_ne hkn] at hn
    refine List.mem_cons_of_mem _ (List.mem_filter.mpr ⟨(zpr_mem ls 0 n _).mpr ⟨n, x, by omega, hn, rfl⟩, ?_⟩)
    have e1 : (n == k) = false := by simpa using fun q => hkn q.symm
    have e2 : (n + 1 == k && (zenc ad x).category == 2) = false := by
      by_cases hq : n + 1 = k
      · have := zlong_cat (ad := ad) (h3 n x hq.symm hn)
        rw [this]
        simp
      · simp [hq]
    simp only [e1, e2]
    rfl
theorem zset_len {ls ls' : zO} {k : Nat} {v : zA} (hs : zset ls k v = some ls') : ls'.length = ls.length := by
  rw [(zset_some hs).2.1, List.length_set]
theorem zset_mem {ls ls' : zO} {k : Nat} {v : zA} (hs : zset ls k v = some ls') {w : zA} (h : some w ∈ ls') : w = v ∨ some w ∈ ls := by
  rw [(zset_some hs).2.1] at h
  rcases List.mem_or_eq_of_mem_set h with h | h
  · exact Or.inr h
  · exact Or.inl (Option.some.inj h)
theorem zel_len_sl (ad : Nat → Nat → Nat) (as : List zA) : (lg_sl (as.map (zenc ad))).length = (zel as).length := by
  induction as with
  | nil => rfl
  | cons a r ih =>
    simp only [lg_sl, zel, List.map_cons, List.flatMap_cons, List.length_append] at ih ⊢
    rw [ih]
    rcases a with x | x | q <;> simp [zenc, zlong, Value.category]
theorem zel_args {ad : Nat → Nat → Nat} (as : List zA) : ∀ (n k : Nat) (v : zA), (zel as)[k]? = some (some v) → (n + k, zenc ad v) ∈ lv_args n (as.map (zenc ad)) := by
  induction as with
  | nil => intro n k v h; simp [zel] at h
  | cons a r ih =>
    intro n k v h
    have hc : (zel (a :: r)) = (if zlong a then [some a, none] else [some a]) ++ zel r := by simp [zel]
    rw [hc] at h
    by_cases hl : zlong a = true
    · have h2 : (zenc ad a).category = 2 := by
        rcases a with x | x | q
        · simp [zlong] at hl
        · rfl
        · simp [zlong] at hl
      simp only [hl, if_true] at h
      simp only [List.map_cons, lv_args, h2, if_true]
      match k, h with
      | 0, h =>
        simp at h
        subst h
        exact List.mem_cons_self
      | 1, h => simp at h
      | k + 2, h =>
        refine List.mem_cons_of_mem _ ?_
        have := ih (n + 2) k v (by simpa using h)
        rwa [show n + (k + 2) = n + 2 + k by omega]
    · have hl2 : zlong a = false := by simpa using hl
      have h2 : ¬ (zenc ad a).category = 2 := by rw [zlong_cat hl2]; decide
      simp only [hl2] at h
      simp only [List.map_cons, lv_args, if_neg h2]
      match k, h with
      | 0, h =>
        simp at h
        subst h
        exact List.mem_cons_self
      | k + 1, h =>
        refine List.mem_cons_of_mem _ ?_
        have := ih (n + 1) k v (by simpa using h)
        rwa [show n + (k + 1) = n + 1 + k by omega]
theorem zent_get {as : List zA} {nL k : Nat} {v : zA} (h : (zent as nL)[k]? = some (some v)) : (zel as)[k]? = some (some v) := by
  unfold zent at h
  rcases Nat.lt_or_ge k (zel as).length with hk | hk
  · rwa [List.getElem?_append_left hk] at h
  · rw [List.getElem?_append_right hk, List.getElem?_replicate] at h
    split at h <;> cases h
theorem zent_has {ad : Nat → Nat → Nat} {as : List zA} {nL : Nat} (h : (zel as).length ≤ nL) : lv_has ((lg_sl (as.map (zenc ad)) ++ List.replicate (nL - (lg_sl (as.map (zenc ad))).length) Slot.unset).toArray) nL (zpr ad 0 (zent as nL)) := by
  have h0 := lv_entry (as.map (zenc ad)) (n := nL) (by rw [zel_len_sl]; exact h)
  refine ⟨h0.1, h0.2.1, ?_⟩
  rintro ⟨j, w⟩ hq
  obtain ⟨n, x, rfl, hn, rfl⟩ := (zpr_mem _ 0 j w).mp hq
  exact h0.2.2 _ (zel_args as 0 n x (zent_get hn))
theorem zent_len {as : List zA} {nL : Nat} (h : (zel as).length ≤ nL) : (zent as nL).length = nL := by
  simp [zent]
  omega
theorem zel_mem {as : List zA} {v : zA} (h : some v ∈ zel as) : v ∈ as := by
  obtain ⟨a, h1, h2⟩ := List.mem_flatMap.mp h
  split at h2
  · simp at h2
    rw [h2]
    exact h1
  · simp at h2
    rw [h2]
    exact h1
theorem zent_mem {as : List zA} {nL : Nat} {v : zA} (h : some v ∈ zent as nL) : v ∈ as := by
  rcases List.mem_append.mp h with h | h
  · exact zel_mem h
  · have := (List.mem_replicate.mp h).2
    cases this
