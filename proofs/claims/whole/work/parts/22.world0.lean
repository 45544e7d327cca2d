/-! The world behind the two constructors. -/
def qW0 : qW := [.inl (7, [some (zR 1 0), some (zR 21 0), some (zR 8 0), some (zR 48 0), some (zR 41 0), some (zR 44 0), some (zR 46 0), some (zR 47 0), some (zI 0)]),
  .inl (5, [some (zR 2 0), some (zR 5 0), some (zR 8 0), some (zR 17 0), some (zR 19 0)]),
  .inl (0, [some (zR 3 0), some (zI 0), some (zI 0), some (zR 4 0)]),
  .inr (.inl (List.replicate 60 0)),
  .inr (.inl (List.replicate 61 0)),
  .inl (0, [some (zR 6 0), some (zI 0), some (zI 1), some (zR 7 0)]),
  .inr (.inl (List.replicate 60 0)),
  .inr (.inl (List.replicate 61 0)),
  .inl (2, [some (zR 2 0), some (zR 5 0), some (zR 9 0), some (zR 10 0), some (zR 11 0), some (zR 12 0), some (zR 13 0), some (zR 14 0), some (zR 15 0), some (zI 0), some (zI 0), some (zI 0), some (zI 1), some (zR 16 0), some (zI 0)]),
  .inr (.inl (List.replicate 8 0)),
  .inr (.inl (List.replicate 8 0)),
  .inr (.inl (List.replicate 8 0)),
  .inr (.inl (List.replicate 8 0)),
  .inr (.inl (List.replicate 8 0)),
  .inr (.inl (List.replicate 8 0)),
  .inr (.inl [1, 11, 21, 31, 41, 51]),
  .inr (.inl (List.replicate 33 0)),
  .inl (3, [some (zR 18 0), some (zI 0)]),
  .inr (.inl (List.replicate 60 0)),
  .inl (3, [some (zR 20 0), some (zI 0)]),
  .inr (.inl (List.replicate 24 0)),
  .inl (5, [some (zR 22 0), some (zR 25 0), some (zR 28 0), some (zR 37 0), some (zR 39 0)]),
  .inl (0, [some (zR 23 0), some (zI 0), some (zI 0), some (zR 24 0)]),
  .inr (.inl (List.replicate 60 0)),
  .inr (.inl (List.replicate 61 0)),
  .inl (0, [some (zR 26 0), some (zI 0), some (zI 1), some (zR 27 0)]),
  .inr (.inl (List.replicate 60 0)),
  .inr (.inl (List.replicate 61 0)),
  .inl (2, [some (zR 22 0), some (zR 25 0), some (zR 29 0), some (zR 30 0), some (zR 31 0), some (zR 32 0), some (zR 33 0), some (zR 34 0), some (zR 35 0), some (zI 0), some (zI 0), some (zI 0), some (zI 1), some (zR 36 0), some (zI 0)]),
  .inr (.inl (List.replicate 8 0)),
  .inr (.inl (List.replicate 8 0)),
  .inr (.inl (List.replicate 8 0)),
  .inr (.inl (List.replicate 8 0)),
  .inr (.inl (List.replicate 8 0)),
  .inr (.inl (List.replicate 8 0)),
  .inr (.inl [1, 11, 21, 31, 41, 51]),
  .inr (.inl (List.replicate 33 0)),
  .inl (3, [some (zR 38 0), some (zI 0)]),
  .inr (.inl (List.replicate 60 0)),
  .inl (3, [some (zR 40 0), some (zI 0)]),
  .inr (.inl (List.replicate 24 0)),
  .inl (1, [some (zR 42 0), some (zI 0), some (zR 43 0), some (zI 0), some (zI 0), some (zI 0)]),
  .inr (.inl (List.replicate 60 0)),
  .inr (.inl (List.replicate 60 0)),
  .inl (6, [some (zR 45 0), some (zI 0), some (zI 0), some (zI 0), some (zI 0), some (zI 0)]),
  .inr (.inl (List.replicate 30 0)),
  .inr (.inr [some 57, some 59, some 61, some 63]),
  .inr (.inl (List.replicate 7 0)),
  .inl (2, [some (zR 2 0), some (zR 5 0), some (zR 49 0), some (zR 50 0), some (zR 51 0), some (zR 52 0), some (zR 53 0), some (zR 54 0), some (zR 55 0), some (zI 0), some (zI 0), some (zI 0), some (zI 1), some (zR 56 0), some (zI 0)]),
  .inr (.inl (List.replicate 8 0)),
  .inr (.inl (List.replicate 8 0)),
  .inr (.inl (List.replicate 8 0)),
  .inr (.inl (List.replicate 8 0)),
  .inr (.inl (List.replicate 8 0)),
  .inr (.inl (List.replicate 8 0)),
  .inr (.inl [1, 11, 21, 31, 41, 51]),
  .inr (.inl (List.replicate 33 0)),
  .inl (4, [some (zR 58 0), some (zI 0), some (zI 0)]),
  .inr (.inl (List.replicate 24 0)),
  .inl (4, [some (zR 60 0), some (zI 0), some (zI 0)]),
  .inr (.inl (List.replicate 24 0)),
  .inl (4, [some (zR 62 0), some (zI 0), some (zI 0)]),
  .inr (.inl (List.replicate 24 0)),
  .inl (4, [some (zR 64 0), some (zI 0), some (zI 0)]),
  .inr (.inl (List.replicate 24 0)),
  .inl (8, [some (zR 66 0), some (zR 67 0), some (zR 68 0), some (zR 69 0), some (zI 0), some (zR 70 0), some (zI 0), some (zI 0), some (zI 0), some (zI 0), some (zR 71 0), some (zR 72 0), some (zR 73 0), some (zI 0), some (zI 0), some (zR 74 0), some (zI 0), some (zI 0), some (zR 75 0), some (zR 76 0), some (zR 77 0), some (zR 78 0)]),
  .inr (.inl ([0, 1, 0, 0, 0, 0, 1, 11, 21, 31, 41, 51] ++ List.replicate 382 0)),
  .inr (.inl (List.replicate 394 0)),
  .inr (.inl (List.replicate 60 0)),
  .inr (.inl (List.replicate 60 0)),
  .inr (.inl (List.replicate 7 0)),
  .inr (.inl (List.replicate 124 0)),
  .inr (.inl (List.replicate 128 0)),
  .inr (.inl (List.replicate 64 0)),
  .inr (.inl (List.replicate 30 0)),
  .inr (.inl (List.replicate 4 0)),
  .inr (.inl (List.replicate 4 0)),
  .inr (.inl (List.replicate 96 0)),
  .inr (.inl (List.replicate 24 0))]
def zix : Nat → Nat → Nat
  | 0, 0 => 2
  | 0, 1 => 5
  | 0, 2 => 22
  | 0, 3 => 25
  | 1, 0 => 41
  | 2, 0 => 8
  | 2, 1 => 28
  | 2, 2 => 48
  | 3, 0 => 17
  | 3, 1 => 19
  | 3, 2 => 37
  | 3, 3 => 39
  | 4, 0 => 57
  | 4, 1 => 59
  | 4, 2 => 61
  | 4, 3 => 63
  | 5, 0 => 1
  | 5, 1 => 21
  | 6, 0 => 44
  | 7, 0 => 0
  | 8, 0 => 65
  | 10, 0 => 3
  | 10, 1 => 6
  | 10, 2 => 23
  | 10, 3 => 26
  | 11, 0 => 4
  | 11, 1 => 7
  | 11, 2 => 24
  | 11, 3 => 27
  | 12, 0 => 42
  | 13, 0 => 43
  | 14, 0 => 9
  | 14, 1 => 29
  | 14, 2 => 49
  | 15, 0 => 10
  | 15, 1 => 30
  | 15, 2 => 50
  | 16, 0 => 11
  | 16, 1 => 31
  | 16, 2 => 51
  | 17, 0 => 12
  | 17, 1 => 32
  | 17, 2 => 52
  | 18, 0 => 13
  | 18, 1 => 33
  | 18, 2 => 53
  | 19, 0 => 14
  | 19, 1 => 34
  | 19, 2 => 54
  | 20, 0 => 15
  | 20, 1 => 35
  | 20, 2 => 55
  | 21, 0 => 16
  | 21, 1 => 36
  | 21, 2 => 56
  | 22, 0 => 18
  | 22, 1 => 20
  | 22, 2 => 38
  | 22, 3 => 40
  | 23, 0 => 58
  | 23, 1 => 60
  | 23, 2 => 62
  | 23, 3 => 64
  | 24, 0 => 45
  | 25, 0 => 46
  | 26, 0 => 47
  | 30, 0 => 66
  | 31, 0 => 67
  | 32, 0 => 68
  | 33, 0 => 69
  | 34, 0 => 70
  | 35, 0 => 71
  | 36, 0 => 72
  | 37, 0 => 73
  | 38, 0 => 74
  | 39, 0 => 75
  | 40, 0 => 76
  | 41, 0 => 77
  | 42, 0 => 78
  | _, _ => 79
def qleq {α : Type} (f : α → α → Bool) : List α → List α → Bool
  | [], [] => true
  | a :: l, b :: m => f a b && qleq f l m
  | _, _ => false
theorem qleq_eq {α : Type} {f : α → α → Bool} (hf : ∀ a b, f a b = true → a = b) : ∀ l m : List α, qleq f l m = true → l = m := by
  intro l
  induction l with
  | nil =>
    intro m h
    cases m with
    | nil => rfl
    | cons b m => simp [qleq] at h
  | cons a l ih =>
    intro m h
    cases m with
    | nil => simp [qleq] at h
    | cons b m =>
      simp only [qleq, Bool.and_eq_true] at h
      rw [hf a b h.1, ih m h.2]
def qAeq : zA → zA → Bool
  | .inl x, .inl y => x == y
  | .inr (.inl x), .inr (.inl y) => x == y
  | .inr (.inr p), .inr (.inr q) => p.1 == q.1 && p.2 == q.2
  | _, _ => false
theorem qAeq_eq : ∀ a b, qAeq a b = true → a = b := by
  rintro (x | x | ⟨a, b⟩) (y | y | ⟨c, d⟩) h <;> simp [qAeq] at h
  · rw [h]
  · rw [h]
  · rw [h.1, h.2]
def qOeq {α : Type} (f : α → α → Bool) : Option α → Option α → Bool
  | none, none => true
  | some a, some b => f a b
  | _, _ => false
theorem qOeq_eq {α : Type} {f : α → α → Bool} (hf : ∀ a b, f a b = true → a = b) : ∀ a b : Option α, qOeq f a b = true → a = b := by
  intro a b h
  cases a <;> cases b <;> simp [qOeq] at h
  · rfl
  · rw [hf _ _ h]
def qEeq : qE → qE → Bool
  | .inl p, .inl q => p.1 == q.1 && qleq (qOeq qAeq) p.2 q.2
  | .inr (.inl l), .inr (.inl m) => l == m
  | .inr (.inr l), .inr (.inr m) => l == m
  | _, _ => false
theorem qEeq_eq : ∀ a b, qEeq a b = true → a = b := by
  rintro (⟨a, b⟩ | x | x) (⟨c, d⟩ | y | y) h <;> simp [qEeq] at h
  · rw [h.1, qleq_eq (qOeq_eq qAeq_eq) _ _ h.2]
  · rw [h]
  · rw [h]
def qRes : Option (qR × Nat × Nat) → Bool
  | some (f, c, s) => f.1 == 16 && qleq (qOeq qAeq) f.2.1 [some (zR 1000 0), some (zR 0 0), some (zR 65 0), none] && f.2.2.1.isEmpty && qleq qEeq f.2.2.2 qW0 && c == 79 && s == 2693
  | none => false
theorem qinit_b : qRes qinit = true := by decide +kernel
theorem qinit_eq : qinit = some ((16, [some (zR 1000 0), some (zR 0 0), some (zR 65 0), none], [], qW0), 79, 2693) := by
  have h := qinit_b
  cases hq : qinit with
  | none => rw [hq] at h; cases h
  | some q =>
    rw [hq] at h
    obtain ⟨⟨a, b, c, d⟩, e, f⟩ := q
    simp only [qRes, Bool.and_eq_true, beq_iff_eq] at h
    obtain ⟨⟨⟨⟨⟨h1, h2⟩, h3⟩, h4⟩, h5⟩, h6⟩ := h
    rw [h1, qleq_eq (qOeq_eq qAeq_eq) _ _ h2, List.isEmpty_iff.mp h3, qleq_eq qEeq_eq _ _ h4, h5, h6]
def zNAMES : List Int32 := [121, 115, 100, 115, 111, 100]
def zABOVE : List Int32 := [-1, 0, 0, 0, 1, 2, 0]
def zBODIES : List Int32 := [10, 11, 12, 13, 20, 0, 0, 21, 0, 30, 0, 0, 0, 0, 40, 0, 50, 0, 51, 0, 0, 60, 0, 0, 70, 71, 0, 0]
/-- the numbers at the start, the script and the static arrays among them -/
def zs0 (L : Nat) (xs : Nat → Int32) : zS := fun c i k => match c with
  | 50 => if i = 0 then xs k else if k = 0 then nI L else 0
  | 51 => zNAMES.getD k 0
  | 52 => zABOVE.getD k 0
  | 53 => zBODIES.getD k 0
  | c => match qW0[zix c i]? with
    | some (.inl q) => (match q.2[k]? with
      | some (some (.inl x)) => x
      | _ => 0)
    | some (.inr (.inl l)) => l.getD k 0
    | _ => 0
theorem zix_inj : ∀ p ∈ zpls, ∀ q ∈ zpls, zix p.1 p.2 = zix q.1 q.2 → p = q := by decide +kernel
def zobj0 (c i : Nat) : List (Option zA) := (List.range (znf c)).map (fun k => match zfr c k i with
    | some q => some (zR (zix q.1 q.2) 0)
    | none => some (zI (zs0 0 (fun _ => 0) c i k)))
theorem z0_objb : ∀ q ∈ zpls, q.1 < 9 → qOeq qEeq (qW0[zix q.1 q.2]?) (some (.inl (q.1, zobj0 q.1 q.2))) = true := by decide +kernel
theorem z0_obj : ∀ q ∈ zpls, q.1 < 9 → qW0[zix q.1 q.2]? = some (.inl (q.1, zobj0 q.1 q.2)) := fun q h1 h2 => qOeq_eq qEeq_eq _ _ (z0_objb q h1 h2)
def zlst (c i : Nat) : Option (List Int32) := match qW0[zix c i]? with
    | some (.inr (.inl l)) => some l
    | _ => none
theorem zlst_some {c i : Nat} {l : List Int32} (h : zlst c i = some l) : qW0[zix c i]? = some (.inr (.inl l)) := by
  unfold zlst at h
  split at h
  · rename_i l' hl
    cases h
    exact hl
  · cases h
theorem z0_arr : ∀ q ∈ zpls, ¬ q.1 < 9 → q.1 ≠ 25 → (zlst q.1 q.2).map List.length = some (zlen q.1 q.2) := by decide +kernel
theorem z0_shb : ∀ q ∈ zpls, q.1 = 25 → qOeq qEeq (qW0[zix q.1 q.2]?) (some (.inr (.inr [some (zix 4 0), some (zix 4 1), some (zix 4 2), some (zix 4 3)]))) = true := by decide +kernel
theorem zpls_lt : ∀ q ∈ zpls, q.1 < 43 := by decide +kernel
theorem zix_lt : ∀ q ∈ zpls, zix q.1 q.2 < 79 := by decide +kernel
theorem zs0_in (L : Nat) (xs : Nat → Int32) {c i : Nat} (h : c < 43) : zs0 L xs c i = zs0 0 (fun _ => 0) c i := by
  funext k
  unfold zs0
  split <;> first | omega | rfl
theorem arrV_ext {cI : ClassId} {N : Nat} {f g : Nat → Value} (h : ∀ j, j < N → f j = g j) : arrV cI N f = arrV cI N g := by
  unfold arrV
  congr 1
  congr 1
  funext j
  exact h j.val j.isLt
/-- the world that the constructors leave is the small machine's -/
theorem z0_world {D : va_G} {cI cS : ClassId} {hb L : Nat} {xs : Nat → Int32} {ad : Nat → Nat} {H : Heap} {ad2 : Nat → Nat → Nat} (ha : ∀ q ∈ zpls, ad2 q.1 q.2 = ad (zix q.1 q.2)) (h : qWd D cI cS hb ad qW0 H) : zWd D cI cS ad2 hb (zs0 L xs) H := by
  obtain ⟨hP, hD⟩ := h
  have at1 : ∀ (k : Nat) (x : Nat × va_E), (zwl cI cS ad2 (zs0 L xs))[k]? = some x → ∃ q, zpls[k]? = some q ∧ q ∈ zpls ∧ x = (ad (zix q.1 q.2), zcell cI cS ad2 (zs0 L xs) q.1 q.2) := by
    intro k x hx
    cases hq : zpls[k]? with
    | none => simp [zwl, hq] at hx
    | some q =>
      have hm := List.mem_of_getElem? hq
      rw [zwl_at (c := q.1) (i := q.2) hq] at hx
      refine ⟨q, rfl, hm, ?_⟩
      rw [← ha q hm]
      exact (Option.some.inj hx).symm
  refine ⟨fun k x hx => ?_, fun i j x y hx hy hxy => ?_, fun k x hx => ?_⟩
  · obtain ⟨q, hq, hm, rfl⟩ := at1 k x hx
    have hlt := zpls_lt q hm
    by_cases h9 : q.1 < 9
    · have h0 := z0_obj q hm h9
      have hat := hP _ _ (qwl_at (cI := cI) (cS := cS) (ad := ad) h0)
      have e : qce cI cS ad (.inl (q.1, zobj0 q.1 q.2)) = zcell cI cS ad2 (zs0 L xs) q.1 q.2 := by
        rw [zcell, if_pos h9]
        simp only [qce, zobj0, List.map_map]
        congr 2
        apply List.map_congr_left
        intro k hk
        simp only [Function.comp]
        have hk : k < znf q.1 := List.mem_range.mp hk
        cases hr : zfr q.1 k q.2 with
        | none =>
          show Value.int _ = _
          rw [zs0_in L xs hlt]
        | some r =>
          show Value.ref (ad (zix r.1 r.2)) = _
          rw [← ha r ?_]
          have h1 := zfr_ok h9 k hk q.2 (zpl_ok q hm) r hr
          exact zmem0 r.1 (zcnt_big h1).1 r.2 h1
      rw [e] at hat
      exact hat
    · by_cases h25 : q.1 = 25
      · have h0 := qOeq_eq qEeq_eq _ _ (z0_shb q hm h25)
        have hat := hP _ _ (qwl_at (cI := cI) (cS := cS) (ad := ad) h0)
        have hat : H[ad (zix q.1 q.2)]? = some (arrV cS 4 (fun j => va_rf (([some (zix 4 0), some (zix 4 1), some (zix 4 2), some (zix 4 3)].getD j none).map ad))) := hat
        show va_at D vwCl (ad (zix q.1 q.2), zcell cI cS ad2 (zs0 L xs) q.1 q.2) H
        rw [zcell, if_neg h9, if_pos h25]
        show H[ad (zix q.1 q.2)]? = some (arrV cS 4 (fun j => va_rf (some (ad2 4 j))))
        rw [hat]
        congr 1
        apply arrV_ext
        intro j hj
        have h4 : ∀ j, j < 4 → (4, j) ∈ zpls := by decide +kernel
        rw [ha (4, j) (h4 j hj)]
        have : j = 0 ∨ j = 1 ∨ j = 2 ∨ j = 3 := by omega
        rcases this with rfl | rfl | rfl | rfl <;> rfl
      · have h0 := z0_arr q hm h9 h25
        obtain ⟨l, hl, hlen⟩ := Option.map_eq_some_iff.mp h0
        have hl := zlst_some hl
        have hat := hP _ _ (qwl_at (cI := cI) (cS := cS) (ad := ad) hl)
        have e : qce cI cS ad (.inr (.inl l)) = zcell cI cS ad2 (zs0 L xs) q.1 q.2 := by
          rw [zcell, if_neg h9, if_neg h25, ← hlen]
          simp only [qce]
          congr 3
          rw [zs0_in L xs hlt]
          refine congrArg Sum.inl ?_
          funext k
          unfold zs0
          split
          · omega
          · omega
          · omega
          · omega
          · rw [hl]
        rw [e] at hat
        exact hat
  · obtain ⟨q, hq, hm, rfl⟩ := at1 i x hx
    obtain ⟨r, hr, hm2, rfl⟩ := at1 j y hy
    have l1 := zix_lt q hm
    have l2 := zix_lt r hm2
    have hw : qW0.length = 79 := rfl
    have g1 : qW0[zix q.1 q.2]? = some (qW0[zix q.1 q.2]'(by omega)) := List.getElem?_eq_getElem _
    have g2 : qW0[zix r.1 r.2]? = some (qW0[zix r.1 r.2]'(by omega)) := List.getElem?_eq_getElem _
    have := hD.1 _ _ _ _ (qwl_at (cI := cI) (cS := cS) (ad := ad) g1) (qwl_at (cI := cI) (cS := cS) (ad := ad) g2) hxy
    have hqr := zix_inj q hm r hm2 this
    subst hqr
    exact (List.getElem?_inj (List.getElem?_eq_some_iff.mp hq).1 zpl_nd).mp (hq.trans hr.symm)
  · obtain ⟨q, hq, hm, rfl⟩ := at1 k x hx
    have l1 := zix_lt q hm
    have hw : qW0.length = 79 := rfl
    have g1 : qW0[zix q.1 q.2]? = some (qW0[zix q.1 q.2]'(by omega)) := List.getElem?_eq_getElem _
    have h2 := hD.2 _ _ (qwl_at (cI := cI) (cS := cS) (ad := ad) g1)
    exact h2
