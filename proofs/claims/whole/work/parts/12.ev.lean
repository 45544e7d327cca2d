/-! Runs, without counting. -/
def zfetch (mi pc : Nat) : Option (Nat × Instr × Nat) := match decode (zb mi) pc with
  | .ok (i, ln) => if zlo i ln = true then some (zo mi, i, ln) else none
  | .error _ => none
theorem zfetch_inv {mi pc o ln : Nat} {i : Instr} (h : zfetch mi pc = some (o, i, ln)) : decode (zb mi) pc = .ok (i, ln) ∧ zlo i ln = true ∧ zo mi = o := by
  unfold zfetch at h
  split at h
  · rename_i i' ln' hd
    split at h
    · rename_i hl
      cases h
      exact ⟨hd, hl, rfl⟩
    · cases h
  · cases h
theorem zrun_one {n d mi pc o ln : Nat} {i : Instr} {ls : zO} {st : List zA} {σ : zS} (h : zfetch mi pc = some (o, i, ln)) : zrun (n + 1) d mi pc ls st σ = (match zstep o i ln pc ls st σ with
      | some (pc', ls', st', σ') => zrun n d mi pc' ls' st' σ'
      | none =>
        match zret mi i st with
        | some r => some (r, σ)
        | none =>
          match zcall o i st with
          | none => none
          | some (mj, as, rest) =>
            match d with
            | 0 => none
            | d' + 1 =>
              match zrun n d' mj 0 (zent as (zn mj)) [] σ with
              | none => none
              | some (r, σ') => zrun n (d' + 1) mi (pc + 3) ls (r.toList ++ rest) σ') := by
  obtain ⟨h1, h2, h3⟩ := zfetch_inv h
  subst h3
  simp only [zrun, h1, h2]
  rw [if_neg (by decide)]
  rfl
theorem zrun_none {n d mi pc : Nat} {ls : zO} {st : List zA} {σ : zS} (h : zfetch mi pc = none) : zrun (n + 1) d mi pc ls st σ = none := by
  unfold zfetch at h
  rw [zrun]
  split at h
  · rename_i i ln hd
    split at h
    · cases h
    · rename_i hl
      simp only [hd]
      rw [if_pos (by simpa using hl)]
  · rename_i er hd
    simp only [hd]
theorem zrun_mono : ∀ (n d mi pc : Nat) (ls : zO) (st : List zA) (σ : zS) (out : Option zA × zS), zrun n d mi pc ls st σ = some out → zrun (n + 1) d mi pc ls st σ = some out := by
  intro n
  induction n with
  | zero => intro d mi pc ls st σ out h; simp [zrun] at h
  | succ n ih =>
    intro d mi pc ls st σ out h
    cases hf : zfetch mi pc with
    | none =>
      rw [zrun_none hf] at h
      cases h
    | some q =>
      obtain ⟨o, i, ln⟩ := q
      rw [zrun_one hf] at h ⊢
      cases hs : zstep o i ln pc ls st σ with
      | some q =>
        simp only [hs] at h ⊢
        exact ih _ _ _ _ _ _ _ h
      | none =>
        simp only [hs] at h ⊢
        cases hr : zret mi i st with
        | some r =>
          simp only [hr] at h ⊢
          exact h
        | none =>
          simp only [hr] at h ⊢
          cases hc : zcall o i st with
          | none =>
            simp only [hc] at h
            cases h
          | some q =>
            obtain ⟨mj, as, rest⟩ := q
            simp only [hc] at h ⊢
            cases d with
            | zero => cases h
            | succ d =>
              simp only at h ⊢
              cases hrun : zrun n d mj 0 (zent as (zn mj)) [] σ with
              | none =>
                rw [hrun] at h
                cases h
              | some q =>
                rw [hrun] at h
                rw [ih _ _ _ _ _ _ _ hrun]
                exact ih _ _ _ _ _ _ _ h
theorem zrun_le {n k d mi pc : Nat} {ls : zO} {st : List zA} {σ : zS} {out : Option zA × zS} (h : zrun n d mi pc ls st σ = some out) (hk : n ≤ k) : zrun k d mi pc ls st σ = some out := by
  induction hk with
  | refl => exact h
  | step _ ih => exact zrun_mono _ _ _ _ _ _ _ _ ih
def zEv (d mi pc : Nat) (ls : zO) (st : List zA) (σ : zS) (out : Option zA × zS) : Prop := ∃ n, zrun n d mi pc ls st σ = some out
def zlt {α β : Type} (a : α) (f : α → Option β) : Option β := f a
def zgd {β : Type} (p : Prop) [Decidable p] (f : Option β) : Option β := if p then f else none
def zb2 {α β γ : Type} (a : Option (α × γ)) (f : α → γ → Option β) : Option β := a.bind (fun v => f v.1 v.2)
def zld (c : Nat) : Bool := zia c || c == 50 || c == 52 || c == 53
section EV
variable {d mi pc o ln : Nat} {i : Instr} {ls : zO} {st : List zA} {σ : zS} {out : Option zA × zS}
theorem ev_s (hf : zfetch mi pc = some (o, i, ln)) {p : Nat} {l : zO} {t : List zA} {s : zS} (hs : zstep o i ln pc ls st σ = some (p, l, t, s)) (E : zEv d mi p l t s out) : zEv d mi pc ls st σ out := by
  obtain ⟨n, h⟩ := E
  refine ⟨n + 1, ?_⟩
  rw [zrun_one hf, hs]
  exact h
theorem ev_ret (hf : zfetch mi pc = some (o, i, ln)) {r : Option zA} (hs : zstep o i ln pc ls st σ = none) (hr : zret mi i st = some r) : zEv d mi pc ls st σ (r, σ) := by
  refine ⟨1, ?_⟩
  rw [zrun_one hf, hs, hr]
theorem ev_let {α : Type} {x : Int32} {F : Int32 → Option α} {w : α} (h : zlt x F = some w) (A : ∀ y, y = x → F y = some w → zEv d mi pc ls (zI y :: st) σ out) : zEv d mi pc ls (zI x :: st) σ out := A x rfl h
theorem ev_lets {α : Type} {F : zS → Option α} {w : α} (h : zlt σ F = some w) (A : ∀ s, s = σ → F s = some w → zEv d mi pc ls st s out) : zEv d mi pc ls st σ out := A σ rfl h
theorem ev_iinc {k : Nat} {n : Int} {v x : Int32} (hf : zfetch mi pc = some (o, .iinc k n, 3)) (hv : Int32.ofInt n = v) (hg : zget ls k = some (zI x)) {l : zO} (hs : zset ls k (zI (x + v)) = some l) {p : Nat} (hp : pc + 3 = p) (E : zEv d mi p l st σ out) : zEv d mi pc ls st σ out := by
  subst hp
  refine ev_s hf (p := pc + 3) (l := l) (t := st) (s := σ) ?_ E
  subst hv
  simp only [zstep, if_true, hg, hs]
theorem ztg_of {pc t : Nat} {off : Int} (h : (pc : Int) + off = (t : Int)) : ztg pc off = some t := by
  unfold ztg
  rw [h]
  simp
section BR
variable {α : Type} {F G : Option α} {w : α} {x y : Int32} {off : Int} {r : List zA} {t p : Nat}
theorem ev_ifeq (hf : zfetch mi pc = some (o, .ifCond .eq off, 3)) (ht : (pc : Int) + off = (t : Int)) (hp : pc + 3 = p) (h : (if x = 0 then F else G) = some w) (A : x = 0 → F = some w → zEv d mi t ls r σ out) (B : ¬ x = 0 → G = some w → zEv d mi p ls r σ out) : zEv d mi pc ls (zI x :: r) σ out := by
  subst hp
  refine ev_s hf (p := if x = 0 then t else pc + 3) (l := ls) (t := r) (s := σ) (by simp [zstep, zbr1, ztg_of ht]) ?_
  by_cases c : x = 0
  · rw [if_pos c] at h ⊢; exact A c h
  · rw [if_neg c] at h ⊢; exact B c h
theorem ev_ifne (hf : zfetch mi pc = some (o, .ifCond .ne off, 3)) (ht : (pc : Int) + off = (t : Int)) (hp : pc + 3 = p) (h : (if x = 0 then F else G) = some w) (A : x = 0 → F = some w → zEv d mi p ls r σ out) (B : ¬ x = 0 → G = some w → zEv d mi t ls r σ out) : zEv d mi pc ls (zI x :: r) σ out := by
  subst hp
  refine ev_s hf (p := if x = 0 then pc + 3 else t) (l := ls) (t := r) (s := σ) (by by_cases c : x = 0 <;> simp [zstep, zbr1, ztg_of ht, c]) ?_
  by_cases c : x = 0
  · rw [if_pos c] at h ⊢; exact A c h
  · rw [if_neg c] at h ⊢; exact B c h
theorem ev_iflt (hf : zfetch mi pc = some (o, .ifCond .lt off, 3)) (ht : (pc : Int) + off = (t : Int)) (hp : pc + 3 = p) (h : (if x < 0 then F else G) = some w) (A : x < 0 → F = some w → zEv d mi t ls r σ out) (B : ¬ x < 0 → G = some w → zEv d mi p ls r σ out) : zEv d mi pc ls (zI x :: r) σ out := by
  subst hp
  refine ev_s hf (p := if x < 0 then t else pc + 3) (l := ls) (t := r) (s := σ) (by by_cases c : x < 0 <;> simp only [zstep, zbr1, ztg_of ht, c, decide_true, decide_false, if_true, if_false] <;> rfl) ?_
  by_cases c : x < 0
  · rw [if_pos c] at h ⊢; exact A c h
  · rw [if_neg c] at h ⊢; exact B c h
theorem ev_ifge (hf : zfetch mi pc = some (o, .ifCond .ge off, 3)) (ht : (pc : Int) + off = (t : Int)) (hp : pc + 3 = p) (h : (if 0 ≤ x then F else G) = some w) (A : 0 ≤ x → F = some w → zEv d mi t ls r σ out) (B : ¬ 0 ≤ x → G = some w → zEv d mi p ls r σ out) : zEv d mi pc ls (zI x :: r) σ out := by
  subst hp
  refine ev_s hf (p := if 0 ≤ x then t else pc + 3) (l := ls) (t := r) (s := σ) (by by_cases c : 0 ≤ x <;> simp only [zstep, zbr1, ztg_of ht, c, decide_true, decide_false, if_true, if_false] <;> rfl) ?_
  by_cases c : 0 ≤ x
  · rw [if_pos c] at h ⊢; exact A c h
  · rw [if_neg c] at h ⊢; exact B c h
theorem ev_ifle (hf : zfetch mi pc = some (o, .ifCond .le off, 3)) (ht : (pc : Int) + off = (t : Int)) (hp : pc + 3 = p) (h : (if x ≤ 0 then F else G) = some w) (A : x ≤ 0 → F = some w → zEv d mi t ls r σ out) (B : ¬ x ≤ 0 → G = some w → zEv d mi p ls r σ out) : zEv d mi pc ls (zI x :: r) σ out := by
  subst hp
  refine ev_s hf (p := if x ≤ 0 then t else pc + 3) (l := ls) (t := r) (s := σ) (by by_cases c : x ≤ 0 <;> simp only [zstep, zbr1, ztg_of ht, c, decide_true, decide_false, if_true, if_false] <;> rfl) ?_
  by_cases c : x ≤ 0
  · rw [if_pos c] at h ⊢; exact A c h
  · rw [if_neg c] at h ⊢; exact B c h
theorem ev_cmpeq (hf : zfetch mi pc = some (o, .if_icmp .eq off, 3)) (ht : (pc : Int) + off = (t : Int)) (hp : pc + 3 = p) (h : (if x = y then F else G) = some w) (A : x = y → F = some w → zEv d mi t ls r σ out) (B : ¬ x = y → G = some w → zEv d mi p ls r σ out) : zEv d mi pc ls (zI y :: zI x :: r) σ out := by
  subst hp
  refine ev_s hf (p := if x = y then t else pc + 3) (l := ls) (t := r) (s := σ) (by by_cases c : x = y <;> simp [zstep, zbr2, ztg_of ht, c]) ?_
  by_cases c : x = y
  · rw [if_pos c] at h ⊢; exact A c h
  · rw [if_neg c] at h ⊢; exact B c h
theorem ev_cmpne (hf : zfetch mi pc = some (o, .if_icmp .ne off, 3)) (ht : (pc : Int) + off = (t : Int)) (hp : pc + 3 = p) (h : (if x = y then F else G) = some w) (A : x = y → F = some w → zEv d mi p ls r σ out) (B : ¬ x = y → G = some w → zEv d mi t ls r σ out) : zEv d mi pc ls (zI y :: zI x :: r) σ out := by
  subst hp
  refine ev_s hf (p := if x = y then pc + 3 else t) (l := ls) (t := r) (s := σ) (by by_cases c : x = y <;> simp [zstep, zbr2, ztg_of ht, c]) ?_
  by_cases c : x = y
  · rw [if_pos c] at h ⊢; exact A c h
  · rw [if_neg c] at h ⊢; exact B c h
theorem ev_cmplt (hf : zfetch mi pc = some (o, .if_icmp .lt off, 3)) (ht : (pc : Int) + off = (t : Int)) (hp : pc + 3 = p) (h : (if x < y then F else G) = some w) (A : x < y → F = some w → zEv d mi t ls r σ out) (B : ¬ x < y → G = some w → zEv d mi p ls r σ out) : zEv d mi pc ls (zI y :: zI x :: r) σ out := by
  subst hp
  refine ev_s hf (p := if x < y then t else pc + 3) (l := ls) (t := r) (s := σ) (by by_cases c : x < y <;> simp only [zstep, zbr2, ztg_of ht, c, decide_true, decide_false, if_true, if_false] <;> rfl) ?_
  by_cases c : x < y
  · rw [if_pos c] at h ⊢; exact A c h
  · rw [if_neg c] at h ⊢; exact B c h
theorem ev_cmpge (hf : zfetch mi pc = some (o, .if_icmp .ge off, 3)) (ht : (pc : Int) + off = (t : Int)) (hp : pc + 3 = p) (h : (if y ≤ x then F else G) = some w) (A : y ≤ x → F = some w → zEv d mi t ls r σ out) (B : ¬ y ≤ x → G = some w → zEv d mi p ls r σ out) : zEv d mi pc ls (zI y :: zI x :: r) σ out := by
  subst hp
  refine ev_s hf (p := if y ≤ x then t else pc + 3) (l := ls) (t := r) (s := σ) (by by_cases c : y ≤ x <;> simp only [zstep, zbr2, ztg_of ht, c, decide_true, decide_false, if_true, if_false] <;> rfl) ?_
  by_cases c : y ≤ x
  · rw [if_pos c] at h ⊢; exact A c h
  · rw [if_neg c] at h ⊢; exact B c h
theorem ev_cmpgt (hf : zfetch mi pc = some (o, .if_icmp .gt off, 3)) (ht : (pc : Int) + off = (t : Int)) (hp : pc + 3 = p) (h : (if y < x then F else G) = some w) (A : y < x → F = some w → zEv d mi t ls r σ out) (B : ¬ y < x → G = some w → zEv d mi p ls r σ out) : zEv d mi pc ls (zI y :: zI x :: r) σ out := by
  subst hp
  refine ev_s hf (p := if y < x then t else pc + 3) (l := ls) (t := r) (s := σ) (by by_cases c : y < x <;> simp only [zstep, zbr2, ztg_of ht, c, decide_true, decide_false, if_true, if_false] <;> rfl) ?_
  by_cases c : y < x
  · rw [if_pos c] at h ⊢; exact A c h
  · rw [if_neg c] at h ⊢; exact B c h
theorem ev_cmple (hf : zfetch mi pc = some (o, .if_icmp .le off, 3)) (ht : (pc : Int) + off = (t : Int)) (hp : pc + 3 = p) (h : (if x ≤ y then F else G) = some w) (A : x ≤ y → F = some w → zEv d mi t ls r σ out) (B : ¬ x ≤ y → G = some w → zEv d mi p ls r σ out) : zEv d mi pc ls (zI y :: zI x :: r) σ out := by
  subst hp
  refine ev_s hf (p := if x ≤ y then t else pc + 3) (l := ls) (t := r) (s := σ) (by by_cases c : x ≤ y <;> simp only [zstep, zbr2, ztg_of ht, c, decide_true, decide_false, if_true, if_false] <;> rfl) ?_
  by_cases c : x ≤ y
  · rw [if_pos c] at h ⊢; exact A c h
  · rw [if_neg c] at h ⊢; exact B c h
theorem ev_goto (hf : zfetch mi pc = some (o, .goto off, 3)) (ht : (pc : Int) + off = (t : Int)) (E : zEv d mi t ls st σ out) : zEv d mi pc ls st σ out :=
  ev_s hf (by simp only [zstep, ztg_of ht]) E
/-- a switch by places, the goal read off the list of its targets -/
theorem ev_tsw {dd lo hi : Int} {offs : Array Int} (hf : zfetch mi pc = some (o, .tableswitch dd lo hi offs, ln)) (hsz : hi + 1 = lo + offs.size) (ht : (pc : Int) + zsw x lo offs.toList dd = (t : Int)) (E : zEv d mi t ls r σ out) : zEv d mi pc ls (zI x :: r) σ out :=
  ev_s hf (by simp only [zstep, if_pos hsz, ztg_of ht]) E
theorem ev_lsw {dd : Int} {ps : Array (Int × Int)} (hf : zfetch mi pc = some (o, .lookupswitch dd ps, ln)) (hsz : (ps.toList.zip (ps.toList.drop 1)).all (fun (a, next) => a.1 < next.1) = true) (ht : (pc : Int) + zlk x ps.toList dd = (t : Int)) (E : zEv d mi t ls r σ out) : zEv d mi pc ls (zI x :: r) σ out :=
  ev_s hf (by simp only [zstep, if_pos hsz, ztg_of ht]) E
end BR
section AC
variable {α : Type} {F : Option α} {w : α} {x y v : Int32} {r : List zA} {c k n p i0 : Nat} {j : Int32}
theorem ev_idiv (hf : zfetch mi pc = some (o, .idiv, 1)) (hp : pc + 1 = p) (h : zgd (¬ y = 0) F = some w) (A : ¬ y = 0 → F = some w → zEv d mi p ls (zI (x / y) :: r) σ out) : zEv d mi pc ls (zI y :: zI x :: r) σ out := by
  subst hp
  unfold zgd at h
  split at h
  · rename_i hy
    exact ev_s hf (by simp only [zstep, if_neg hy]) (A hy h)
  · cases h
theorem ev_irem (hf : zfetch mi pc = some (o, .irem, 1)) (hp : pc + 1 = p) (h : zgd (¬ y = 0) F = some w) (A : ¬ y = 0 → F = some w → zEv d mi p ls (zI (x - x / y * y) :: r) σ out) : zEv d mi pc ls (zI y :: zI x :: r) σ out := by
  subst hp
  unfold zgd at h
  split at h
  · rename_i hy
    exact ev_s hf (by simp only [zstep, if_neg hy]) (A hy h)
  · cases h
theorem ev_idivK (hf : zfetch mi pc = some (o, .idiv, 1)) (hp : pc + 1 = p) (hy : ¬ y = 0) (A : zEv d mi p ls (zI (x / y) :: r) σ out) : zEv d mi pc ls (zI y :: zI x :: r) σ out := by
  subst hp
  exact ev_s hf (by simp only [zstep, if_neg hy]) A
theorem ev_iremK (hf : zfetch mi pc = some (o, .irem, 1)) (hp : pc + 1 = p) (hy : ¬ y = 0) (A : zEv d mi p ls (zI (x - x / y * y) :: r) σ out) : zEv d mi pc ls (zI y :: zI x :: r) σ out := by
  subst hp
  exact ev_s hf (by simp only [zstep, if_neg hy]) A
theorem ev_getf {z : Nat} (hf : zfetch mi pc = some (o, .getfield z, 3)) (hz : zf o z = some (c, k)) {u : zA} (hu : zfv σ c i0 k = u) (hp : pc + 3 = p) (E : zEv d mi p ls (u :: r) σ out) : zEv d mi pc ls (zR c i0 :: r) σ out := by
  subst hp
  subst hu
  refine ev_s hf (p := pc + 3) (l := ls) (t := zfv σ c i0 k :: r) (s := σ) ?_ E
  simp only [zstep, hz, if_true]
theorem ev_putf {z : Nat} (hf : zfetch mi pc = some (o, .putfield z, 3)) (hz : zf o z = some (c, k)) (h1 : zfr c k i0 = none) (h2 : (zT c k).2.2.2 = false) (h3 : zfb c k = false) (hp : pc + 3 = p) (E : zEv d mi p ls r (zup σ c i0 k v) out) : zEv d mi pc ls (zI v :: zR c i0 :: r) σ out := by
  subst hp
  refine ev_s hf (p := pc + 3) (l := ls) (t := r) (s := zup σ c i0 k v) ?_ E
  have h4 : True ∧ zfr c k i0 = none ∧ (zT c k).2.2.2 = false ∧ (zfb c k = true → v = 0 ∨ v = 1) := ⟨trivial, h1, h2, fun q => by rw [h3] at q; cases q⟩
  simp only [zstep, hz]
  rw [if_pos h4]
theorem ev_putz {z : Nat} (hf : zfetch mi pc = some (o, .putfield z, 3)) (hz : zf o z = some (c, k)) (h1 : zfr c k i0 = none) (h2 : (zT c k).2.2.2 = false) (hp : pc + 3 = p) (h : zgd (v = 0 ∨ v = 1) F = some w) (E : (v = 0 ∨ v = 1) → F = some w → zEv d mi p ls r (zup σ c i0 k v) out) : zEv d mi pc ls (zI v :: zR c i0 :: r) σ out := by
  subst hp
  unfold zgd at h
  split at h
  · rename_i hv
    refine ev_s hf (p := pc + 3) (l := ls) (t := r) (s := zup σ c i0 k v) ?_ (E hv h)
    have h4 : True ∧ zfr c k i0 = none ∧ (zT c k).2.2.2 = false ∧ (zfb c k = true → v = 0 ∨ v = 1) := ⟨trivial, h1, h2, fun _ => hv⟩
    simp only [zstep, hz]
    rw [if_pos h4]
  · cases h
theorem ev_putzK {z : Nat} (hf : zfetch mi pc = some (o, .putfield z, 3)) (hz : zf o z = some (c, k)) (h1 : zfr c k i0 = none) (h2 : (zT c k).2.2.2 = false) (hv : v = 0 ∨ v = 1) (hp : pc + 3 = p) (E : zEv d mi p ls r (zup σ c i0 k v) out) : zEv d mi pc ls (zI v :: zR c i0 :: r) σ out := by
  subst hp
  refine ev_s hf (p := pc + 3) (l := ls) (t := r) (s := zup σ c i0 k v) ?_ E
  have h4 : True ∧ zfr c k i0 = none ∧ (zT c k).2.2.2 = false ∧ (zfb c k = true → v = 0 ∨ v = 1) := ⟨trivial, h1, h2, fun _ => hv⟩
  simp only [zstep, hz]
  rw [if_pos h4]
theorem ev_gets {z t : Nat} (hf : zfetch mi pc = some (o, .getstatic z, 3)) (hz : zg o z = some t) (hp : pc + 3 = p) (E : zEv d mi p ls (zR t 0 :: st) σ out) : zEv d mi pc ls st σ out := by
  subst hp
  exact ev_s hf (by simp only [zstep, hz]) E
theorem zld_or {c : Nat} (h : zld c = true) : zia c = true ∨ c = 50 ∨ c = 52 ∨ c = 53 := by
  simp only [zld, Bool.or_eq_true, beq_iff_eq] at h
  rcases h with ((h | h) | h) | h
  · exact Or.inl h
  · exact Or.inr (Or.inl h)
  · exact Or.inr (Or.inr (Or.inl h))
  · exact Or.inr (Or.inr (Or.inr h))
theorem ev_ialdK (hf : zfetch mi pc = some (o, .iaload, 1)) (hz : zld c = true) (hn : zln σ c i0 = n) (hj : zin j n) (hp : pc + 1 = p) (A : zEv d mi p ls (zI (σ c i0 j.toNatClampNeg) :: r) σ out) : zEv d mi pc ls (zI j :: zR c i0 :: r) σ out := by
  subst hp
  subst hn
  refine ev_s hf (p := pc + 1) (l := ls) (t := zI (σ c i0 j.toNatClampNeg) :: r) (s := σ) ?_ A
  simp only [zstep]
  rw [if_pos ⟨zld_or hz, hj⟩]
theorem ev_iald (hf : zfetch mi pc = some (o, .iaload, 1)) (hz : zld c = true) (hn : zln σ c i0 = n) (hp : pc + 1 = p) (h : zgd (zin j n) F = some w) (A : zin j n → F = some w → zEv d mi p ls (zI (σ c i0 j.toNatClampNeg) :: r) σ out) : zEv d mi pc ls (zI j :: zR c i0 :: r) σ out := by
  unfold zgd at h
  split at h
  · rename_i hj
    exact ev_ialdK hf hz hn hj hp (A hj h)
  · cases h
theorem ev_cald (hf : zfetch mi pc = some (o, .caload, 1)) (hp : pc + 1 = p) (h : zgd (zin j 6) F = some w) (A : zin j 6 → F = some w → zEv d mi p ls (zI (σ 51 i0 j.toNatClampNeg) :: r) σ out) : zEv d mi pc ls (zI j :: zR 51 i0 :: r) σ out := by
  subst hp
  unfold zgd at h
  split at h
  · rename_i hj
    refine ev_s hf (p := pc + 1) (l := ls) (t := zI (σ 51 i0 j.toNatClampNeg) :: r) (s := σ) ?_ (A hj h)
    simp only [zstep]
    rw [if_pos ⟨trivial, hj⟩]
  · cases h
theorem ev_aald (hf : zfetch mi pc = some (o, .aaload, 1)) (hp : pc + 1 = p) (h : zgd (zin j 4) F = some w) (A : zin j 4 → F = some w → zEv d mi p ls (zR 4 j.toNatClampNeg :: r) σ out) : zEv d mi pc ls (zI j :: zR 25 i0 :: r) σ out := by
  subst hp
  unfold zgd at h
  split at h
  · rename_i hj
    refine ev_s hf (p := pc + 1) (l := ls) (t := zR 4 j.toNatClampNeg :: r) (s := σ) ?_ (A hj h)
    simp only [zstep]
    rw [if_pos ⟨trivial, hj⟩]
  · cases h
theorem ev_iastK (hf : zfetch mi pc = some (o, .iastore, 1)) (hz : zia c = true) (hn : zln σ c i0 = n) (hj : zin j n) (hp : pc + 1 = p) (A : zEv d mi p ls r (zup σ c i0 j.toNatClampNeg v) out) : zEv d mi pc ls (zI v :: zI j :: zR c i0 :: r) σ out := by
  subst hp
  subst hn
  refine ev_s hf (p := pc + 1) (l := ls) (t := r) (s := zup σ c i0 j.toNatClampNeg v) ?_ A
  simp only [zstep]
  rw [if_pos ⟨hz, hj⟩]
theorem ev_iast (hf : zfetch mi pc = some (o, .iastore, 1)) (hz : zia c = true) (hn : zln σ c i0 = n) (hp : pc + 1 = p) (h : zgd (zin j n) F = some w) (A : zin j n → F = some w → zEv d mi p ls r (zup σ c i0 j.toNatClampNeg v) out) : zEv d mi pc ls (zI v :: zI j :: zR c i0 :: r) σ out := by
  unfold zgd at h
  split at h
  · rename_i hj
    exact ev_iastK hf hz hn hj hp (A hj h)
  · cases h
theorem ev_alen (hf : zfetch mi pc = some (o, .arraylength, 1)) (hz : zld c = true) (hn : Int32.ofNat (zln σ c i0) = v) (hp : pc + 1 = p) (A : zEv d mi p ls (zI v :: r) σ out) : zEv d mi pc ls (zR c i0 :: r) σ out := by
  subst hp
  subst hn
  refine ev_s hf (p := pc + 1) (l := ls) (t := zI (Int32.ofNat (zln σ c i0)) :: r) (s := σ) ?_ A
  simp only [zstep]
  rw [if_pos]
  rcases zld_or hz with h | h | h | h
  · exact Or.inl h
  · exact Or.inr (Or.inl h)
  · exact Or.inr (Or.inr (Or.inl h))
  · exact Or.inr (Or.inr (Or.inr (Or.inl h)))
/-- System.arraycopy -/
theorem ev_copy {z c1 c2 i1 i2 n1 n2 : Nat} {sp dp nn : Int32} (hf : zfetch mi pc = some (o, .invokestatic z, 3)) (hz : za o z = true) (h1 : zia c1 = true) (h2 : zia c2 = true) (hn1 : zln σ c1 i1 = n1) (hn2 : zln σ c2 i2 = n2) (h8 : (r.map zcat).sum ≤ 8) (hp : pc + 3 = p)
    (h : zgd (¬ sp < 0 ∧ ¬ dp < 0 ∧ ¬ nn < 0 ∧ sp.toNatClampNeg + nn.toNatClampNeg ≤ n1 ∧ dp.toNatClampNeg + nn.toNatClampNeg ≤ n2) F = some w)
    (A : F = some w → zEv d mi p ls r (zcp σ c1 i1 c2 i2 sp.toNatClampNeg dp.toNatClampNeg nn.toNatClampNeg) out) : zEv d mi pc ls (zI nn :: zI dp :: zR c2 i2 :: zI sp :: zR c1 i1 :: r) σ out := by
  subst hp
  subst hn1
  subst hn2
  unfold zgd at h
  split at h
  · rename_i hg
    refine ev_s hf (p := pc + 3) (l := ls) (t := r) (s := zcp σ c1 i1 c2 i2 sp.toNatClampNeg dp.toNatClampNeg nn.toNatClampNeg) ?_ (A h)
    simp only [zstep, hz, if_true]
    rw [if_pos ⟨h1, h2, hg.1, hg.2.1, hg.2.2.1, hg.2.2.2.1, hg.2.2.2.2, h8⟩]
  · cases h
theorem ev_iret (hf : zfetch mi pc = some (o, .ireturn, 1)) (hr : zr mi = some .int) : zEv d mi pc ls [zI x] σ (some (zI x), σ) :=
  ev_ret hf rfl (by simp only [zret, hr])
theorem ev_zret (hf : zfetch mi pc = some (o, .ireturn, 1)) (hr : zr mi = some .boolean) (hx : x = 0 ∨ x = 1) : zEv d mi pc ls [zI x] σ (some (zI x), σ) :=
  ev_ret hf rfl (by simp only [zret, hr, if_pos hx])
theorem ev_aret {nm : String} {a b : Nat} (hf : zfetch mi pc = some (o, .areturn, 1)) (hr : zr mi = some (.object nm)) : zEv d mi pc ls [zR a b] σ (some (zR a b), σ) :=
  ev_ret hf rfl (by simp only [zret, hr])
theorem ev_vret (hf : zfetch mi pc = some (o, .return_, 1)) (hr : zr mi = none) : zEv d mi pc ls [] σ (none, σ) :=
  ev_ret hf rfl (by simp only [zret, hr])
end AC
section CA
variable {z mj : Nat} {as rest : List zA} {l0 : zO} {p : Nat}
theorem ev_callE (hf : zfetch mi pc = some (o, i, 3)) (hs : zstep o i 3 pc ls st σ = none) (hr : zret mi i st = none) (hc : zcall o i st = some (mj, as, rest)) (hd : 0 < d) (he : zent as (zn mj) = l0) {r : Option zA} {σ1 : zS} (hE : zEv (d - 1) mj 0 l0 [] σ (r, σ1)) (E : zEv d mi (pc + 3) ls (r.toList ++ rest) σ1 out) : zEv d mi pc ls st σ out := by
  subst he
  obtain ⟨d', rfl⟩ : ∃ d', d = d' + 1 := ⟨d - 1, by omega⟩
  obtain ⟨n1, h1⟩ := hE
  obtain ⟨n2, h2⟩ := E
  refine ⟨max n1 n2 + 1, ?_⟩
  rw [zrun_one hf, hs, hr, hc]
  have e1 := zrun_le h1 (Nat.le_max_left n1 n2)
  have e2 := zrun_le h2 (Nat.le_max_right n1 n2)
  rw [Nat.add_sub_cancel] at e1
  simp only [e1]
  exact e2
theorem zstep_vi {o z pc : Nat} {ls : zO} {st : List zA} {σ : zS} : zstep o (.invokevirtual z) 3 pc ls st σ = none := rfl
theorem zstep_st {o z pc : Nat} {ls : zO} {st : List zA} {σ : zS} (h : za o z = false) : zstep o (.invokestatic z) 3 pc ls st σ = none := by
  simp only [zstep, h]
  rfl
theorem ev_callS (hf : zfetch mi pc = some (o, .invokestatic z, 3)) (hza : za o z = false) (hz : zc o z = some mj) {na nl : Nat} (hm : zst mj = true ∧ zna mj = na ∧ zn mj = nl) (hst : st.take na = as.reverse) (hre : st.drop na = rest) (hsz : na ≤ st.length) (h8 : (rest.map zcat).sum ≤ 8) (hl : (zel as).length ≤ nl) (hd : 0 < d) (he : zent as nl = l0) (hp : pc + 3 = p) {r : Option zA} {σ1 : zS} (hE : zEv (d - 1) mj 0 l0 [] σ (r, σ1)) (E : zEv d mi p ls (r.toList ++ rest) σ1 out) : zEv d mi pc ls st σ out := by
  obtain ⟨m1, m2, m3⟩ := hm
  subst m2 m3 hp
  refine ev_callE hf (zstep_st hza) rfl (as := as) (rest := rest) ?_ hd he hE E
  simp only [zcall, hz]
  rw [hst, hre, List.reverse_reverse, if_pos ⟨m1, hsz, h8, hl⟩]
theorem ev_callV (hf : zfetch mi pc = some (o, .invokevirtual z, 3)) (hz : zc o z = some mj) {na nl oj : Nat} (hm : zst mj = false ∧ zna mj = na ∧ zn mj = nl) (ho : zo mj = oj) {i0 : Nat} {as' : List zA} (hst : st.take na = (zR oj i0 :: as').reverse) (hre : st.drop na = rest) (hsz : na ≤ st.length) (h8 : (rest.map zcat).sum ≤ 8) (hl : (zel (zR oj i0 :: as')).length ≤ nl) (hd : 0 < d) (he : zent (zR oj i0 :: as') nl = l0) (hp : pc + 3 = p) {r : Option zA} {σ1 : zS} (hE : zEv (d - 1) mj 0 l0 [] σ (r, σ1)) (E : zEv d mi p ls (r.toList ++ rest) σ1 out) : zEv d mi pc ls st σ out := by
  obtain ⟨m1, m2, m3⟩ := hm
  subst m2 m3 hp ho
  refine ev_callE hf zstep_vi rfl (as := zR (zo mj) i0 :: as') (rest := rest) ?_ hd he hE E
  simp only [zcall, hz]
  rw [hst, hre, List.reverse_reverse, if_pos ⟨m1, hsz, h8, hl, by simp [zrcv]⟩]
theorem bd_some {α β : Type} {a : Option α} {f : α → Option β} {w : β} (h : a.bind f = some w) : ∃ v, a = some v ∧ f v = some w := Option.bind_eq_some_iff.mp h
theorem b2_some {α β γ : Type} {a : Option (α × γ)} {f : α → γ → Option β} {w : β} (h : zb2 a f = some w) : ∃ v s, a = some (v, s) ∧ f v s = some w := by
  obtain ⟨q, h1, h2⟩ := Option.bind_eq_some_iff.mp h
  exact ⟨q.1, q.2, h1, h2⟩
end CA
end EV
