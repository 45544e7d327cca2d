/-! The law from its entry, given what its function gives. -/
theorem zN_lt {j : Nat} (h : j < 6) {P : Nat → Prop} (h0 : P 0) (h1 : P 1) (h2 : P 2) (h3 : P 3) (h4 : P 4) (h5 : P 5) : P j := by
  have : j = 0 ∨ j = 1 ∨ j = 2 ∨ j = 3 ∨ j = 4 ∨ j = 5 := by omega
  rcases this with rfl | rfl | rfl | rfl | rfl | rfl <;> assumption
def zstw : List (String × String × String × Nat × List Int32) := [("ApronStrings$Reader", "NAMES", "[C", 6, zNAMES), ("ApronStrings$Voices", "ABOVE", "[I", 7, zABOVE), ("ApronStrings$Voices", "BODIES", "[I", 28, zBODIES)]
theorem z_el {args : Array Value} {s : State} (hgv : (Jvm.Cond.and given_1 narrow_1).before args s = true) {C n d : String} {l : List Int32} {N : Nat} (h : ∀ j, j < N → Cond.eq (.elem (.static C n d) (.int (Int32.ofNat j))) (.int (l.getD j 0)) ∈ flatC (Jvm.Cond.and given_1 narrow_1)) : ∀ j, j < N → (Term.elem (.static C n d) (.int (Int32.ofNat j))).eval args s none [] s = some (.int (l.getD j 0)) :=
  fun j hj => va_eqt (flat_of_before _ hgv _ (h j hj))
/-- a static array as the Statement has it -/
theorem z_static {args : Array Value} {s : State} {A : Nat → Prop} (hgv : (Jvm.Cond.and given_1 narrow_1).before args s = true) (hts : ∀ w ∈ lw_tbl, w.before args s = true) (hA : ∀ a : Nat, a < s.heap.size → ¬ A a) {C n d : String} {ty : FieldType} {l : List Int32} {N : Nat} (hN : N < 2 ^ 31)
    (h : ∀ j, j < N → Cond.eq (.elem (.static C n d) (.int (Int32.ofNat j))) (.int (l.getD j 0)) ∈ flatC (Jvm.Cond.and given_1 narrow_1))
    (hlen : Cond.eq (.length (.static C n d)) (.int (Int32.ofNat N)) ∈ flatC (Jvm.Cond.and given_1 narrow_1)) (harr : Cond.arrayOf (.static C n d) ty ∈ flatC (Jvm.Cond.and given_1 narrow_1))
    (hl : Cond.laysStatic C n d ∈ lw_tbl) (hi : Cond.initialized C ∈ lw_tbl) : ∃ t : Nat, va_T ty t N (fun j => .int (l.getD j 0)) A s s.heap ∧ va_Z C n d (.ref t) A s s.heap := by
  obtain ⟨t, ht, hT⟩ := va_Tof hN (flat_of_before _ hgv _ harr) (va_eqt (flat_of_before _ hgv _ hlen)) (z_el hgv h) hA
  exact ⟨t, hT, va_Zof (hts _ hl) (hts _ hi) ht hA⟩
theorem z_known {args : Array Value} {s : State} (hts : ∀ w ∈ zTb, w.before args s = true) : ∃ D : va_G, ∀ (c : Nat) (q : vw_C), vwCl[c]? = some q → u_Kn s q.1 q.2.1 q.2.2 (D.1 c) (D.2 c) := by
  have h1 : ∀ c : Nat, ∃ x : ClassId × (Nat → Nat), c < 9 → u_Kn s (zC c) (zT c) (znf c) x.1 x.2 := by
    intro c
    by_cases hc : c < 9
    · obtain ⟨cC, iS, hK⟩ := u_known hts (zlay hc) (hts _ (qw hc).1.2)
      exact ⟨(cC, iS), fun _ => hK⟩
    · exact ⟨(0, fun _ => 0), fun h => absurd h hc⟩
  refine ⟨(fun c => (h1 c).choose.1, fun c => (h1 c).choose.2), fun c q hq => ?_⟩
  have hc : c < 9 := (List.getElem?_eq_some_iff.mp hq).1
  have := zcl_at hc
  rw [this] at hq
  cases hq
  exact (h1 c).choose_spec hc
theorem z_cI {args : Array Value} {s : State} (hts : ∀ w ∈ lw_tbl, w.before args s = true) : ∃ cI : ClassId, ArrOfT s cI .int ∧ va_RA s cI .int := by
  obtain ⟨c, k, comp, h1, h2, h3⟩ := Cond.arrayClass_spec (hts _ (List.mem_filter.mp q_arr).1)
  exact ⟨c, fun n z => ⟨fun k h => (by cases h), k, h2, comp, h3⟩, h1⟩
theorem z_cS {args : Array Value} {s : State} (hts : ∀ w ∈ lw_tbl, w.before args s = true) : ∃ cS : ClassId, ArrOfT s cS (.object "ApronStrings$Sheet") ∧ va_RA s cS (.object "ApronStrings$Sheet") := by
  obtain ⟨comp, c, k, h1, h2, h3, h4, h5⟩ := Cond.arrayOver_spec (hts _ q_over)
  exact ⟨c, fun n z => ⟨fun k h => (by cases h), k, h3, comp, h4⟩, k, comp, h3, h4, h1, h5⟩
set_option maxHeartbeats 4000000 in
set_option maxRecDepth 100000 in
theorem z_start (pure : ∀ (L : Nat) (xs : Nat → Int32), L ≤ 3072 → ∃ (N G : Nat) (σ' : zS), G ≤ 200 ∧ fX_law_50 N G (zs0 L xs) = some (1, σ')) {p : Program} {e : Env} {s : State} {m : MethodId} {below : List Frame} {meth : Method} {c : Code} (l : Launch) {b L : Nat} {xs : Nat → Int32} (hL : L ≤ 3072) (C0 : lw_At p s m meth c b L xs) : W p l e room_1 s m #[Value.ref b] below meth c s.heap [] 0 0 (lw_Z below #[Value.ref b] s) (entryFrame m ([Value.ref b] : List Value).toArray 4) := by
  obtain ⟨hx, hb9, hr, hml, hown, hts, hX, hbl, hlocks, hgv⟩ := id C0
  have htb : ∀ w ∈ zTb, w.before #[Value.ref b] s = true := fun w hw => hts w (List.mem_filter.mp hw).1
  have hA : ∀ q : Nat, s.heap.size ≤ q → zA0 s.heap.size q := fun _ h => h
  have hnA : ∀ a : Nat, a < s.heap.size → ¬ zA0 s.heap.size a := fun a h => Nat.not_le.mpr h
  obtain ⟨tN, hTN, hZN⟩ := z_static (A := zA0 s.heap.size) (C := "ApronStrings$Reader") (n := "NAMES") (d := "[C") (ty := .char) (l := zNAMES) (N := 6) hgv hts hnA (by decide) (by decide +kernel) (by decide +kernel) (by decide +kernel) (by decide +kernel) (by decide +kernel)
  obtain ⟨tA, hTA, hZA⟩ := z_static (A := zA0 s.heap.size) (C := "ApronStrings$Voices") (n := "ABOVE") (d := "[I") (ty := .int) (l := zABOVE) (N := 7) hgv hts hnA (by decide) (by decide +kernel) (by decide +kernel) (by decide +kernel) (by decide +kernel) (by decide +kernel)
  obtain ⟨tB, hTB, hZB⟩ := z_static (A := zA0 s.heap.size) (C := "ApronStrings$Voices") (n := "BODIES") (d := "[I") (ty := .int) (l := zBODIES) (N := 28) hgv hts hnA (by decide) (by decide +kernel) (by decide +kernel) (by decide +kernel) (by decide +kernel) (by decide +kernel)
  obtain ⟨D, hKn⟩ := z_known htb
  obtain ⟨cI, hI1, hI2⟩ := z_cI hts
  obtain ⟨cS, hS1, hS2⟩ := z_cS hts
  have hK : va_K D vwCl (zTy cI cS) s := ⟨hKn, fun k q hq => by
    match k, hq with
    | 0, hq => cases hq; exact ⟨hI1, hI2⟩
    | 1, hq => cases hq; exact ⟨hS1, hS2⟩
    | k + 2, hq => simp [zTy] at hq⟩
  have hG : qG D cI cS s := ⟨hK, fun q hq => va_Nw.of rfl (hts _ (List.mem_of_getElem? (qmT_ok q hq).2)), va_AO.of (hts _ q_over)⟩
  obtain ⟨N, G, σ', hG9, hlaw⟩ := pure L xs hL
  have hl := lv_entry ([.ref b]) (n := 4) (Nat.le_of_ble_eq_true rfl)
  rw [lg_entry_eq]
  generalize (lg_sl ([.ref b]) ++ List.replicate (4 - (lg_sl ([.ref b])).length) Slot.unset).toArray = ls at hl ⊢
  have hl : lv_has ls 4 [(0, .ref b)] := hl
  refine qrun_sound l D cI cS s.heap.size 400 8 9 0 [some (zR 1000 0), none, none, none] [] [] _ _ _ qinit_eq p e room_1 s m #[Value.ref b] below meth c 0 0 _ (fun _ => b) s.heap [] ls hx hb9 hml hown htb hG (Nat.le_refl _) (fun h => absurd h (by decide)) ⟨by decide, by decide, by decide, by decide⟩ ⟨⟨fun k q h => by simp [qwl] at h, ⟨fun i j p q h => by simp [qwl] at h, fun k q h => by simp [qwl] at h⟩⟩, va_S.rf, rfl, hl⟩ ?_
  intro ad' H locs lsA hag S hpc
  -- the addresses of the small machine
  have hb1 : ad' 1000 = b := hag 1000 (Or.inr (Nat.le_refl _))
  obtain ⟨ad2, e50, e51, e52, e53, ead⟩ : ∃ ad2 : Nat → Nat → Nat, ad2 50 0 = b ∧ ad2 51 0 = tN ∧ ad2 52 0 = tA ∧ ad2 53 0 = tB ∧ ∀ c i, c < 43 → ad2 c i = ad' (zix c i) := by
    refine ⟨fun c i => if c = 50 then b else if c = 51 then tN else if c = 52 then tA else if c = 53 then tB else ad' (zix c i), rfl, rfl, rfl, rfl, fun c i h => ?_⟩
    show (if c = 50 then b else if c = 51 then tN else if c = 52 then tA else if c = 53 then tB else ad' (zix c i)) = _
    rw [if_neg (by omega), if_neg (by omega), if_neg (by omega), if_neg (by omega)]
  have hWd : zWd D cI cS ad2 s.heap.size (zs0 L xs) H := z0_world (fun q hq => ead q.1 q.2 (zpls_lt q hq)) S.1
  have hev := kX_law_50 N G (zs0 L xs) (1, σ') hlaw 1000 (by omega)
  obtain ⟨n, hrun⟩ := hev
  have hL31 : L < 2 ^ 31 := by omega
  have hX2 : va_T .int b L (fun j => .int (xs j)) (zA0 s.heap.size) s s.heap := by
    obtain ⟨scr, g1, g2, g3, g4, g5⟩ := hX
    exact ⟨scr, g1, g2, g3, by omega, by rw [g4] <;> rfl, g5, hnA b hbl⟩
  have hGood : zGood D cI cS ad2 s.heap.size L (zs0 L xs) s s.heap := by
    refine ⟨hK, ?_, ?_, ?_, ?_, ?_, ?_⟩
    · rw [e50]; exact hX2
    · rw [e51]; exact hTN
    · rw [e52]; exact hTA
    · rw [e53]; exact hTB
    · intro t h1 h2
      have : t = 51 ∨ t = 52 ∨ t = 53 := by omega
      rcases this with rfl | rfl | rfl
      · rw [e51]; exact hZN
      · rw [e52]; exact hZA
      · rw [e53]; exact hZB
    · show (nI L).toNatClampNeg = L
      exact nI_clamp hL31
  have hlsA : lv_has lsA 4 (zpr ad2 0 [some (zR 50 0), some (zR 7 0), some (zR 8 0), none]) := by
    have h := S.2.2.2
    have e : zpr (qad ad') 0 [some (zR 1000 0), some (zR 0 0), some (zR 65 0), none] = zpr ad2 0 [some (zR 50 0), some (zR 7 0), some (zR 8 0), none] := by
      show [(0, Value.ref (ad' 1000)), (1, Value.ref (ad' 0)), (2, Value.ref (ad' 65))] = [(0, Value.ref (ad2 50 0)), (1, Value.ref (ad2 7 0)), (2, Value.ref (ad2 8 0))]
      rw [hb1, e50, ead 7 0 (by decide), ead 8 0 (by decide)]
      rfl
    rw [← e]
    exact h
  refine zrun_sound l D cI cS ad2 s.heap.size L (zs0 L xs) n 1000 224 16 _ [] (zs0 L xs) _ hrun p e room_1 s m #[Value.ref b] below meth c (0 + 79) (0 + 2693) _ H locs lsA hx hb9 hml hown htb hGood (Nat.le_refl _) ⟨by decide, by decide, by decide, by decide⟩ ⟨hWd, S.2.1, fun _ _ _ _ => rfl, ⟨rfl, hlsA⟩, fun v hv => absurd hv List.not_mem_nil, fun v hv => ?_⟩ ?_
  · have : v = zR 50 0 ∨ v = zR 7 0 ∨ v = zR 8 0 := by simpa using hv
    rcases this with rfl | rfl | rfl
    · exact Or.inr ⟨by decide, by decide, rfl⟩
    · exact Or.inl (by decide)
    · exact Or.inl (by decide)
  · intro pc i ln H locs lsA ls st hd hlo hret S
    rcases zret_inv hret with ⟨rfl, x, rfl, h2, -⟩ | ⟨-, a, k, nm, -, h2, -⟩ | ⟨-, -, h2, -⟩
    · obtain rfl : ln = 1 := by simpa [zlo] using hlo
      have hx1 : (1 : Int32) = x := by
        have h2 : some (zI 1) = some (zI x) := h2
        cases h2
        rfl
      subst hx1
      show W p l e room_1 s m #[Value.ref b] below meth c H locs (0 + 79) (0 + 2693) (lw_Z below #[Value.ref b] s) (F0 m pc lsA [.int 1])
      refine va_forget (fun q hq => S.2.1.2.2 q hq) ?_
      refine W.widen (k := 600000) (n := 7302250) (by decide) (by decide) ?_
      exact lw_ret hx hb9 hr hlocks hd
    · cases h2
    · cases h2
