/-! One step of the small machine is a step of the JVM's. -/
def zA0 (hb : Nat) : Nat → Prop := fun q => hb ≤ q
def zWd (D : va_G) (cI cS : ClassId) (ad : Nat → Nat → Nat) (hb : Nat) (σ : zS) (H : Heap) : Prop := va_P D vwCl (zwl cI cS ad σ) H ∧ va_D (zA0 hb) (zwl cI cS ad σ)
def zTy (cI cS : ClassId) : List (ClassId × FieldType) := [(cI, .int), (cS, .object "ApronStrings$Sheet")]
def zGood (D : va_G) (cI cS : ClassId) (ad : Nat → Nat → Nat) (hb L : Nat) (ρ : zS) (U : State) (H : Heap) : Prop :=
  va_K D vwCl (zTy cI cS) U ∧ va_T .int (ad 50 0) L (fun j => .int (ρ 50 0 j)) (zA0 hb) U H ∧ va_T .char (ad 51 0) 6 (fun j => .int (ρ 51 0 j)) (zA0 hb) U H ∧ va_T .int (ad 52 0) 7 (fun j => .int (ρ 52 0 j)) (zA0 hb) U H ∧ va_T .int (ad 53 0) 28 (fun j => .int (ρ 53 0 j)) (zA0 hb) U H ∧ (∀ t, 51 ≤ t → t < 54 → va_Z (zsC t).1 (zsC t).2.1 (zsC t).2.2 (.ref (ad t 0)) (zA0 hb) U H) ∧ (ρ 50 1 0).toNatClampNeg = L
theorem zGood.moved {D : va_G} {cI cS : ClassId} {ad : Nat → Nat → Nat} {hb L : Nat} {ρ : zS} {u U : State} {H0 H : Heap} (hvm : u.vm.Alike U.vm) (hq : ∀ a : Nat, a < H0.size → ¬ zA0 hb a → H[a]? = H0[a]?) (h : zGood D cI cS ad hb L ρ u H0) : zGood D cI cS ad hb L ρ U H := by
  obtain ⟨h1, h2, h3, h4, h5, h6, h7⟩ := h
  exact ⟨h1.moved hvm, (h2.kept hq).moved hvm, (h3.kept hq).moved hvm, (h4.kept hq).moved hvm, (h5.kept hq).moved hvm, fun t a b => ((h6 t a b).kept hq).moved hvm, h7⟩
/-- all that holds between two instructions -/
def zSt (D : va_G) (cI cS : ClassId) (ad : Nat → Nat → Nat) (hb : Nat) (ρ : zS) (s : State) (nL : Nat) (H : Heap) (locs : List Loc) (lsA : Array Slot) (ls : zO) (st : List zA) (σ : zS) : Prop :=
  zWd D cI cS ad hb σ H ∧ va_S (zA0 hb) s.heap H locs ∧ (∀ c i k, 50 ≤ c → σ c i k = ρ c i k) ∧ (ls.length = nL ∧ lv_has lsA nL (zpr ad 0 ls)) ∧ (∀ v ∈ st, zok v) ∧ (∀ v, some v ∈ ls → zok v)
section ZS
variable {p : Program} {l : Launch} {e : Env} {R : Room} {s : State} {m : MethodId} {args : Array Value} {below : List Frame} {meth : Method} {c : Code} {cells slots : Nat} {Q : State → Prop}
variable {D : va_G} {cI cS : ClassId} {ad : Nat → Nat → Nat} {hb L : Nat} {ρ : zS} {nL : Nat} {cc : ByteArray}
theorem zSt.st {H : Heap} {locs : List Loc} {lsA : Array Slot} {ls : zO} {st st' : List zA} {σ : zS} (h : zSt D cI cS ad hb ρ s nL H locs lsA ls st σ) (hs : ∀ v ∈ st', zok v) : zSt D cI cS ad hb ρ s nL H locs lsA ls st' σ := ⟨h.1, h.2.1, h.2.2.1, h.2.2.2.1, hs, h.2.2.2.2.2⟩
theorem zok_cons {v : zA} {st : List zA} (h : ∀ w ∈ v :: st, zok w) : zok v ∧ ∀ w ∈ st, zok w := ⟨h v List.mem_cons_self, fun w hw => h w (List.mem_cons_of_mem _ hw)⟩
theorem zok_push {v : zA} {st : List zA} (hv : zok v) (h : ∀ w ∈ st, zok w) : ∀ w ∈ v :: st, zok w := fun w hw => by
  rcases List.mem_cons.mp hw with rfl | hw
  · exact hv
  · exact h w hw
theorem zget_ok {ls : zO} {k : Nat} {v : zA} (h : ∀ v, some v ∈ ls → zok v) (hk : zget ls k = some v) : zok v := h v (List.mem_of_getElem? (zget_some hk))
theorem ztg_eq {pc t : Nat} {off : Int} (h : ztg pc off = some t) : (pc : Int) + off = (t : Int) := by
  unfold ztg at h
  split at h
  · cases h
    omega
  · cases h
theorem zbin_inv {f : Int32 → Int32 → Int32} {pc : Nat} {ls : zO} {st : List zA} {σ : zS} {q : Nat × zO × List zA × zS} (h : zbin f pc ls st σ = some q) : ∃ x y r, st = zI y :: zI x :: r ∧ q = (pc + 1, ls, zI (f x y) :: r, σ) := by
  unfold zbin at h
  split at h
  · cases h
    exact ⟨_, _, _, rfl, rfl⟩
  · cases h
theorem zbr1_inv {f : Int32 → Bool} {off : Int} {pc : Nat} {ls : zO} {st : List zA} {σ : zS} {q : Nat × zO × List zA × zS} (h : zbr1 f off pc ls st σ = some q) : ∃ (x : Int32) (r : List zA) (t : Nat), st = zI x :: r ∧ (pc : Int) + off = (t : Int) ∧ q = (if f x then t else pc + 3, ls, r, σ) := by
  unfold zbr1 at h
  split at h
  · split at h
    · rename_i t ht
      cases h
      exact ⟨_, _, t, rfl, ztg_eq ht, rfl⟩
    · cases h
  · cases h
theorem zbr2_inv {f : Int32 → Int32 → Bool} {off : Int} {pc : Nat} {ls : zO} {st : List zA} {σ : zS} {q : Nat × zO × List zA × zS} (h : zbr2 f off pc ls st σ = some q) : ∃ (x y : Int32) (r : List zA) (t : Nat), st = zI y :: zI x :: r ∧ (pc : Int) + off = (t : Int) ∧ q = (if f x y then t else pc + 3, ls, r, σ) := by
  unfold zbr2 at h
  split at h
  · split at h
    · rename_i t ht
      cases h
      exact ⟨_, _, _, t, rfl, ztg_eq ht, rfl⟩
    · cases h
  · cases h
theorem zldi_inv {k ln pc : Nat} {ls : zO} {st : List zA} {σ : zS} {q : Nat × zO × List zA × zS} (h : zldi k ln pc ls st σ = some q) : ∃ x, zget ls k = some (zI x) ∧ q = (pc + ln, ls, zI x :: st, σ) := by
  unfold zldi at h
  split at h
  · rename_i x hx
    cases h
    exact ⟨x, hx, rfl⟩
  · cases h
theorem zlda_inv {k ln pc : Nat} {ls : zO} {st : List zA} {σ : zS} {q : Nat × zO × List zA × zS} (h : zlda k ln pc ls st σ = some q) : ∃ a i, zget ls k = some (zR a i) ∧ q = (pc + ln, ls, zR a i :: st, σ) := by
  unfold zlda at h
  split at h
  · rename_i x hx
    cases h
    exact ⟨x.1, x.2, hx, rfl⟩
  · cases h
theorem zsti_inv {k ln pc : Nat} {ls : zO} {st : List zA} {σ : zS} {q : Nat × zO × List zA × zS} (h : zsti k ln pc ls st σ = some q) : ∃ x r ls', st = zI x :: r ∧ zset ls k (zI x) = some ls' ∧ q = (pc + ln, ls', r, σ) := by
  unfold zsti at h
  split at h
  · split at h
    · rename_i ls' hs
      cases h
      exact ⟨_, _, ls', rfl, hs, rfl⟩
    · cases h
  · cases h
theorem zsta_inv {k ln pc : Nat} {ls : zO} {st : List zA} {σ : zS} {q : Nat × zO × List zA × zS} (h : zsta k ln pc ls st σ = some q) : ∃ a i r ls', st = zR a i :: r ∧ zset ls k (zR a i) = some ls' ∧ q = (pc + ln, ls', r, σ) := by
  unfold zsta at h
  split at h
  · split at h
    · rename_i ls' hs
      cases h
      exact ⟨_, _, _, ls', rfl, hs, rfl⟩
    · cases h
  · cases h
theorem zSt.set {H : Heap} {locs : List Loc} {lsA lsB : Array Slot} {ls ls' : zO} {k : Nat} {v : zA} {st : List zA} {σ : zS} (h : zSt D cI cS ad hb ρ s nL H locs lsA ls st σ) (hs : zset ls k v = some ls') (hv : zok v) (hB : lv_has lsB nL ((k, zenc ad v) :: (zpr ad 0 ls).filter (fun q => !(q.1 == k) && !(q.1 + 1 == k && q.2.category == 2)))) : zSt D cI cS ad hb ρ s nL H locs lsB ls' st σ := by
  refine ⟨h.1, h.2.1, h.2.2.1, ⟨(zset_len hs).trans h.2.2.2.1.1, zls_set hs hB⟩, h.2.2.2.2.1, fun w hw => ?_⟩
  rcases zset_mem hs hw with rfl | hw
  · exact hv
  · exact h.2.2.2.2.2 w hw
theorem zset_lt {ls ls' : zO} {k : Nat} {v : zA} (hs : zset ls k v = some ls') (hl : ls.length = nL) : k < nL := by
  rw [← hl]
  exact (zset_some hs).1
theorem zW_zpush {H : Heap} {locs : List Loc} {lsA : Array Slot} {ls : zO} {st : List zA} {σ : zS} {v : zA} (S : zSt D cI cS ad hb ρ s nL H locs lsA ls st σ) (hv : zok v) : zSt D cI cS ad hb ρ s nL H locs lsA ls (v :: st) σ := S.st (zok_push hv S.2.2.2.2.1)
theorem zia_cases {c : Nat} (h : zia c = true) : ¬ c < 9 ∧ ¬ c = 25 ∧ c < 50 ∧ ∀ σ i, zln σ c i = zlen c i := by
  simp only [zia, Bool.and_eq_true, decide_eq_true_eq, bne_iff_ne, ne_eq] at h
  obtain ⟨⟨h1, h2⟩, h3⟩ := h
  refine ⟨by omega, h3, by omega, fun σ i => ?_⟩
  unfold zln
  split <;> first | omega | rfl
theorem zcell_ia {σ : zS} {a i : Nat} (h : zia a = true) : zcell cI cS ad σ a i = .inl (cI, zln σ a i, .inl (σ a i)) := by
  obtain ⟨h1, h2, h3, h4⟩ := zia_cases h
  rw [zcell, if_neg h1, if_neg h2, h4]
theorem zcell_obj {σ : zS} {a i : Nat} (h : a < 9) : zcell cI cS ad σ a i = .inr (a, (List.range (znf a)).map (fun k => zenc ad (zfv σ a i k))) := by
  rw [zcell, if_pos h]
  congr 2
  apply List.map_congr_left
  intro k _
  unfold zfv
  cases h2 : zfr a k i <;> rfl
theorem zWd.set {σ σ' : zS} {k a i : Nat} (hk : zpls[k]? = some (a, i)) (hn : ∀ c' i', (c', i') ≠ (a, i) → σ' c' i' = σ c' i') {H1 : Heap} (hP : va_P D vwCl ((zwl cI cS ad σ).set k (ad a i, zcell cI cS ad σ' a i)) H1) (hD : va_D (zA0 hb) ((zwl cI cS ad σ).set k (ad a i, zcell cI cS ad σ' a i))) : zWd D cI cS ad hb σ' H1 := by
  rw [zwl_set hk hn] at hP hD
  exact ⟨hP, hD⟩
abbrev zGoal (p : Program) (l : Launch) (e : Env) (R : Room) (s : State) (m : MethodId) (args : Array Value) (below : List Frame) (meth : Method) (c : Code) (cells slots : Nat) (Q : State → Prop) (ad : Nat → Nat → Nat) (H : Heap) (locs : List Loc) (lsA : Array Slot) (pc : Nat) (st : List zA) : Prop := W p l e R s m args below meth c H locs cells slots Q (F0 m pc lsA (st.map (zenc ad)))
theorem zs_bin {f : Int32 → Int32 → Int32} {pc : Nat} {ls : zO} {st : List zA} {σ : zS} {q : Nat × zO × List zA × zS} (h : zbin f pc ls st σ = some q) {H : Heap} {locs : List Loc} {lsA : Array Slot} (S : zSt D cI cS ad hb ρ s nL H locs lsA ls st σ)
    (K : ∀ H1 locs1 lsA1, zSt D cI cS ad hb ρ s nL H1 locs1 lsA1 q.2.1 q.2.2.1 q.2.2.2 → zGoal p l e R s m args below meth c cells slots Q ad H1 locs1 lsA1 q.1 q.2.2.1)
    (row : ∀ (x y : Int32) (rest : List Value), W p l e R s m args below meth c H locs cells slots Q (F0 m (pc + 1) lsA (.int (f x y) :: rest)) → W p l e R s m args below meth c H locs cells slots Q (F0 m pc lsA (.int y :: .int x :: rest))) : zGoal p l e R s m args below meth c cells slots Q ad H locs lsA pc st := by
  obtain ⟨x, y, r, rfl, rfl⟩ := zbin_inv h
  exact row x y _ (K H locs lsA (S.st (zok_push trivial (zok_cons (zok_cons S.2.2.2.2.1).2).2)))
theorem zs_br1 {f : Int32 → Bool} {off : Int} {pc : Nat} {ls : zO} {st : List zA} {σ : zS} {q : Nat × zO × List zA × zS} (h : zbr1 f off pc ls st σ = some q) {H : Heap} {locs : List Loc} {lsA : Array Slot} (S : zSt D cI cS ad hb ρ s nL H locs lsA ls st σ)
    (K : ∀ H1 locs1 lsA1, zSt D cI cS ad hb ρ s nL H1 locs1 lsA1 q.2.1 q.2.2.1 q.2.2.2 → zGoal p l e R s m args below meth c cells slots Q ad H1 locs1 lsA1 q.1 q.2.2.1)
    (row : ∀ (x : Int32) (t : Nat) (rest : List Value), (pc : Int) + off = (t : Int) → (f x = true → W p l e R s m args below meth c H locs cells slots Q (F0 m t lsA rest)) → (¬ f x = true → W p l e R s m args below meth c H locs cells slots Q (F0 m (pc + 3) lsA rest)) → W p l e R s m args below meth c H locs cells slots Q (F0 m pc lsA (.int x :: rest))) : zGoal p l e R s m args below meth c cells slots Q ad H locs lsA pc st := by
  obtain ⟨x, r, t, rfl, ht, rfl⟩ := zbr1_inv h
  have k := K H locs lsA (S.st (zok_cons S.2.2.2.2.1).2)
  refine row x t _ ht (fun hf => ?_) (fun hf => ?_)
  · simpa only [hf, if_true] using k
  · dsimp only at k
    rw [if_neg hf] at k
    exact k
theorem zs_br2 {f : Int32 → Int32 → Bool} {off : Int} {pc : Nat} {ls : zO} {st : List zA} {σ : zS} {q : Nat × zO × List zA × zS} (h : zbr2 f off pc ls st σ = some q) {H : Heap} {locs : List Loc} {lsA : Array Slot} (S : zSt D cI cS ad hb ρ s nL H locs lsA ls st σ)
    (K : ∀ H1 locs1 lsA1, zSt D cI cS ad hb ρ s nL H1 locs1 lsA1 q.2.1 q.2.2.1 q.2.2.2 → zGoal p l e R s m args below meth c cells slots Q ad H1 locs1 lsA1 q.1 q.2.2.1)
    (row : ∀ (x y : Int32) (t : Nat) (rest : List Value), (pc : Int) + off = (t : Int) → (f x y = true → W p l e R s m args below meth c H locs cells slots Q (F0 m t lsA rest)) → (¬ f x y = true → W p l e R s m args below meth c H locs cells slots Q (F0 m (pc + 3) lsA rest)) → W p l e R s m args below meth c H locs cells slots Q (F0 m pc lsA (.int y :: .int x :: rest))) : zGoal p l e R s m args below meth c cells slots Q ad H locs lsA pc st := by
  obtain ⟨x, y, r, t, rfl, ht, rfl⟩ := zbr2_inv h
  have k := K H locs lsA (S.st (zok_cons (zok_cons S.2.2.2.2.1).2).2)
  refine row x y t _ ht (fun hf => ?_) (fun hf => ?_)
  · simpa only [hf, if_true] using k
  · dsimp only at k
    rw [if_neg hf] at k
    exact k
theorem zsw_in {x : Int32} : ∀ (offs : List Int) (lo d : Int), (¬ x.toInt < lo → ∀ o, offs[(x.toInt - lo).toNat]? = some o → zsw x lo offs d = o) ∧ (x.toInt < lo → zsw x lo offs d = d) ∧ (lo + offs.length ≤ x.toInt → zsw x lo offs d = d) := by
  intro offs
  induction offs with
  | nil => intro lo d; exact ⟨fun _ o h => by simp at h, fun _ => rfl, fun _ => rfl⟩
  | cons a r ih =>
    intro lo d
    obtain ⟨i1, i2, i3⟩ := ih (lo + 1) d
    refine ⟨fun h o ho => ?_, fun h => ?_, fun h => ?_⟩
    · unfold zsw
      by_cases e : x.toInt = lo
      · rw [if_pos e]
        rw [e, Int.sub_self] at ho
        simpa using ho
      · rw [if_neg e]
        refine i1 (by omega) o ?_
        rw [show (x.toInt - lo).toNat = (x.toInt - (lo + 1)).toNat + 1 by omega] at ho
        simpa using ho
    · unfold zsw
      rw [if_neg (by omega)]
      exact i2 (by omega)
    · unfold zsw
      simp only [List.length_cons] at h
      rw [if_neg (by omega)]
      exact i3 (by omega)
theorem zlk_eq {x : Int32} : ∀ (ps : List (Int × Int)) (d : Int), zlk x ps d = Op.lookupswitch.offset ps d x.toInt := by
  intro ps
  induction ps with
  | nil => intro d; rfl
  | cons q r ih =>
    intro d
    obtain ⟨a, b⟩ := q
    show (if x.toInt = a then b else zlk x r d) = _
    rw [ih]
    simp only [Op.lookupswitch.offset]
    by_cases e : x.toInt = a
    · simp [e]
    · have e2 : ¬ a = x.toInt := fun h => e h.symm
      simp [e, e2]
end ZS
