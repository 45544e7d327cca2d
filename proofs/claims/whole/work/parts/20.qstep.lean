section QS
variable {p : Program} {l : Launch} {e : Env} {R : Room} {s : State} {m : MethodId} {args : Array Value} {below : List Frame} {meth : Method} {c : Code} {cells slots : Nat} {Q : State → Prop}
variable {D : va_G} {cI cS : ClassId} {hb : Nat} {nL : Nat} {cc : ByteArray} {ad : Nat → Nat}
theorem qSt.setl {H : Heap} {locs : List Loc} {lsA lsB : Array Slot} {ls ls' : zO} {k : Nat} {v : zA} {w : qW} (h : qSt D cI cS hb s nL ad H locs lsA ls w) (hs : zset ls k v = some ls') (hB : lv_has lsB nL ((k, zenc (qad ad) v) :: (zpr (qad ad) 0 ls).filter (fun q => !(q.1 == k) && !(q.1 + 1 == k && q.2.category == 2)))) : qSt D cI cS hb s nL ad H locs lsB ls' w :=
  ⟨h.1, h.2.1, (zset_len hs).trans h.2.2.1, zls_set hs hB⟩
theorem qSt.push {H H1 : Heap} {locs : List Loc} {lsA : Array Slot} {ls : zO} {st : List zA} {w : qW} (S : qSt D cI cS hb s nL ad H locs lsA ls w) (hok : qok w ls st = true) {q : Nat} {e : qE} {e' : va_E} (he : ∀ ad', qce cI cS ad' e = e') (hP : va_P D vwCl (qwl cI cS ad w ++ [(q, e')]) H1) (hD : va_D (zA0 hb) (qwl cI cS ad w ++ [(q, e')])) (hS : va_S (zA0 hb) s.heap H1 locs) : qSt D cI cS hb s nL (qext ad w.length q) H1 locs lsA ls (w ++ [e]) := by
  obtain ⟨ok1, ok2, ok3, ok4⟩ := qok_iff hok
  have hag : ∀ k, qin w.length k → qext ad w.length q k = ad k := fun k hk => qext_lt ok4 hk
  have e1 : qwl cI cS (qext ad w.length q) (w ++ [e]) = qwl cI cS ad w ++ [(q, e')] := by
    rw [qwl_app, qwl_ext hag ok1, qext_self, he]
  refine ⟨⟨?_, ?_⟩, hS, S.2.2.1, ?_⟩
  · rw [e1]
    exact hP
  · rw [e1]
    exact hD
  · rw [qls_enc hag ls 0 ok3]
    exact S.2.2.2
theorem q_top {w : qW} {q : Nat} {r : List zA} (ok4 : w.length < 1000) (ok2 : r.all (qvok w.length) = true) : (zR w.length 0 :: r).map (zenc (qad (qext ad w.length q))) = Value.ref q :: r.map (zenc (qad ad)) := by
  rw [List.map_cons, qst_enc (fun k hk => qext_lt ok4 hk) ok2]
  congr 1
  show Value.ref (qext ad w.length q w.length) = _
  rw [qext_self]
theorem q_rep {n : Nat} : (fun k => (List.replicate n (0 : Int32)).getD k 0) = fun _ => 0 := by
  funext k
  by_cases hk : k < n <;> simp [List.getD, List.getElem?_replicate, hk]
theorem q_repn {n : Nat} {ad : Nat → Nat} : (fun k => ((List.replicate n (none : Option Nat)).getD k none).map ad) = fun _ => none := by
  funext k
  by_cases hk : k < n <;> simp [List.getD, List.getElem?_replicate, hk]
theorem qstep_len {o : Nat} {i : Instr} {ln pc : Nat} {ls : zO} {st : List zA} {w : qW} {q : qR} {dc ds : Nat} (h : qstep o i ln pc ls st w = some (q, dc, ds)) : w.length ≤ q.2.2.2.length := by
  unfold qstep at h
  repeat' split at h
  all_goals first
    | (cases h; simp; done)
    | (cases h; done)
    | (simp at h; done)
set_option maxHeartbeats 4000000 in
theorem qstep_sound {o : Nat} {i : Instr} {ln pc : Nat} {ls : zO} {st : List zA} {w : qW} {q : qR} {dc ds : Nat} (h : qstep o i ln pc ls st w = some (q, dc, ds)) (hlo : qlo i ln = true)
    (hx : p.tables.exec = Jvm.exec) (hb9 : c.code = cc) (hml : c.maxLocals = nL) (hown : s.vm.findClass (zC o) = some m.cls) (hts : ∀ w ∈ zTb, w.before args s = true) (hG : qG D cI cS s) (hbs : hb ≤ s.heap.size) (hin9 : o < 9 → meth.name = "<init>") (hd : decode cc pc = .ok (i, ln)) (hR : 1 ≤ R.frames ∧ 60 ≤ R.locals) (hcnt : cells + dc ≤ R.cells ∧ slots + ds ≤ R.slots)
    {H : Heap} {locs : List Loc} {lsA : Array Slot} (S : qSt D cI cS hb s nL ad H locs lsA ls w)
    (K : ∀ ad' H1 locs1 lsA1, (∀ k, qin w.length k → ad' k = ad k) → qSt D cI cS hb s nL ad' H1 locs1 lsA1 q.2.1 q.2.2.2 → qGoal p l e R s m args below meth c (cells + dc) (slots + ds) Q ad' H1 locs1 lsA1 q.1 q.2.2.1) : qGoal p l e R s m args below meth c cells slots Q ad H locs lsA pc st := by
  have hA : ∀ q : Nat, s.heap.size ≤ q → zA0 hb q := fun q h => Nat.le_trans hbs h
  cases i with
  | iconst n =>
    obtain rfl : ln = 1 := by simpa [qlo, zlo] using hlo
    cases h
    exact lv_iconst hx hb9 hd rfl (K ad H locs lsA (fun _ _ => rfl) S)
  | bipush n =>
    obtain rfl : ln = 2 := by simpa [qlo, zlo] using hlo
    cases h
    exact lv_bipush hx hb9 hd rfl (K ad H locs lsA (fun _ _ => rfl) S)
  | sipush n =>
    obtain rfl : ln = 3 := by simpa [qlo, zlo] using hlo
    cases h
    exact lv_sipush hx hb9 hd rfl (K ad H locs lsA (fun _ _ => rfl) S)
  | iload_n k =>
    obtain rfl : ln = 1 := by simpa [qlo, zlo] using hlo
    simp only [qstep] at h
    split at h
    · rename_i x hk
      cases h
      exact lv_iload_n hx hb9 hd rfl (zls_get S.2.2.2 hk) (K ad H locs lsA (fun _ _ => rfl) S)
    · cases h
  | aload_n k =>
    obtain rfl : ln = 1 := by simpa [qlo, zlo] using hlo
    simp only [qstep] at h
    split at h
    · rename_i x hk
      cases h
      exact lv_aload_n hx hb9 hd rfl (zls_get S.2.2.2 hk) (K ad H locs lsA (fun _ _ => rfl) S)
    · cases h
  | istore_n k =>
    obtain rfl : ln = 1 := by simpa [qlo, zlo] using hlo
    simp only [qstep] at h
    split at h
    · split at h
      · rename_i ls' hs
        cases h
        exact lv_istore_n hx hb9 hd rfl S.2.2.2 (zset_lt hs S.2.2.1) rfl (fun lsB hB => K ad H locs lsB (fun _ _ => rfl) (S.setl hs hB))
      · cases h
    · cases h
  | astore_n k =>
    obtain rfl : ln = 1 := by simpa [qlo, zlo] using hlo
    simp only [qstep] at h
    split at h
    · split at h
      · rename_i ls' hs
        cases h
        exact lv_astore_n hx hb9 hd rfl S.2.2.2 (zset_lt hs S.2.2.1) rfl (fun lsB hB => K ad H locs lsB (fun _ _ => rfl) (S.setl hs hB))
      · cases h
    · cases h
  | iinc k n =>
    obtain rfl : ln = 3 := by simpa [qlo, zlo] using hlo
    simp only [qstep] at h
    split at h
    · rename_i x hk
      split at h
      · rename_i ls' hs
        cases h
        obtain ⟨k0, hk0⟩ : ∃ k0 : Nat, (zpr (qad ad) 0 ls)[k0]? = some (k, .int x) := List.getElem?_of_mem ((zpr_mem ls 0 k (.int x)).mpr ⟨k, zI x, by omega, zget_some hk, rfl⟩)
        exact lv_iinc hx hb9 hd S.2.2.2 hk0 rfl (zset_lt hs S.2.2.1) rfl (fun lsB hB => K ad H locs lsB (fun _ _ => rfl) (S.setl hs hB))
      · cases h
    · cases h
  | iadd =>
    obtain rfl : ln = 1 := by simpa [qlo, zlo] using hlo
    simp only [qstep] at h
    split at h
    · cases h
      exact lv_iadd hx hb9 hd (K ad H locs lsA (fun _ _ => rfl) S)
    · cases h
  | imul =>
    obtain rfl : ln = 1 := by simpa [qlo, zlo] using hlo
    simp only [qstep] at h
    split at h
    · cases h
      exact lv_imul hx hb9 hd (K ad H locs lsA (fun _ _ => rfl) S)
    · cases h
  | dup =>
    obtain rfl : ln = 1 := by simpa [qlo, zlo] using hlo
    simp only [qstep] at h
    split at h
    · split at h
      · cases h
      · rename_i v r hl
        cases h
        exact lv_dup hx hb9 hd (zlong_cat (by simpa using hl)) (K ad H locs lsA (fun _ _ => rfl) S)
    · cases h
  | goto off =>
    obtain rfl : ln = 3 := by simpa [qlo, zlo] using hlo
    simp only [qstep] at h
    split at h
    · rename_i t ht
      cases h
      exact lv_goto hx hb9 hd (ztg_eq ht) (K ad H locs lsA (fun _ _ => rfl) S)
    · cases h
  | if_icmp cd off =>
    obtain rfl : ln = 3 := by simpa [qlo, zlo] using hlo
    cases cd with
    | ge =>
      simp only [qstep] at h
      split at h
      · split at h
        · rename_i t ht
          cases h
          have k := K ad H locs lsA (fun _ _ => rfl) S
          refine lv_icmp_ge hx hb9 hd (ztg_eq ht) (fun hc => ?_) (fun hc => ?_)
          · dsimp only at k
            rw [if_pos hc] at k
            exact k
          · dsimp only at k
            rw [if_neg hc] at k
            exact k
        · cases h
      · cases h
    | _ => simp [qstep] at h
  | ifCond cd off =>
    obtain rfl : ln = 3 := by simpa [qlo, zlo] using hlo
    cases cd with
    | le =>
      simp only [qstep] at h
      split at h
      · split at h
        · rename_i t ht
          cases h
          have k := K ad H locs lsA (fun _ _ => rfl) S
          refine lv_if_le hx hb9 hd (ztg_eq ht) (fun hc => ?_) (fun hc => ?_)
          · dsimp only at k
            rw [if_pos hc] at k
            exact k
          · dsimp only at k
            rw [if_neg hc] at k
            exact k
        · cases h
      · cases h
    | _ => simp [qstep] at h
  | newarray aty =>
    obtain rfl : ln = 2 := by simpa [qlo, zlo] using hlo
    cases aty with
    | int =>
      simp only [qstep] at h
      split at h
      · rename_i n r
        split at h
        · rename_i hq
          cases h
          obtain ⟨hn, hn2, hok⟩ := hq
          obtain ⟨ok1, ok2, ok3, ok4⟩ := qok_iff hok
          have ok2 : r.all (qvok w.length) = true := by
            simp only [List.all_cons, Bool.and_eq_true] at ok2
            exact ok2.2
          refine va_newa (atype := .int) (N' := n.toNatClampNeg) (a0 := (n.toNatClampNeg, .inl (fun _ => 0))) hx hb9 (hts _ q_arr) rfl hG.1 S.1.1 S.1.2 S.2.1 hA (fun _ => rfl) hn rfl (by show n.toNatClampNeg * 4 ≤ 536870912; omega) hcnt.1 hcnt.2 hd (fun q cA H1 hK hP hD hS => ?_)
          have hcA : cA = cI := by
            have h1 := (hK.2 2 (cA, .int) rfl).2
            have h2 := (hK.2 0 (cI, .int) rfl).2
            exact Option.some.inj (h1.symm.trans h2)
          subst hcA
          have k := K (qext ad w.length q) H1 locs lsA (fun k hk => qext_lt ok4 hk) (S.push hok (e := .inr (.inl (List.replicate n.toNatClampNeg 0))) (fun ad' => by simp only [qce, List.length_replicate, q_rep]) hP hD hS)
          have k : W p l e R s m args below meth c H1 locs (cells + 1) (slots + n.toNatClampNeg) Q (F0 m (pc + 2) lsA ((zR w.length 0 :: r).map (zenc (qad (qext ad w.length q))))) := k
          rw [q_top ok4 ok2] at k
          exact k
        · cases h
      · cases h
    | _ => simp [qstep] at h
  | anewarray x =>
    obtain rfl : ln = 3 := by simpa [qlo, zlo] using hlo
    simp only [qstep] at h
    split at h
    · rename_i n r
      split at h
      · rename_i hq
        cases h
        obtain ⟨hn, hn2, hok, hqn⟩ := hq
        obtain ⟨ok1, ok2, ok3, ok4⟩ := qok_iff hok
        have ok2 : r.all (qvok w.length) = true := by
          simp only [List.all_cons, Bool.and_eq_true] at ok2
          exact ok2.2
        obtain ⟨-, hcl⟩ := qnf_ok hqn
        refine va_newq (own := zC o) (C := "ApronStrings$Sheet") (N' := n.toNatClampNeg) hx hb9 hown (hts _ hcl) hG.2.2 hG.1 S.1.1 S.1.2 S.2.1 hA hn rfl (by omega) hcnt.1 hcnt.2 hd (fun q cA H1 hK hP hD hS => ?_)
        have hcA : cA = cS := by
          obtain ⟨-, kA, comp, -, -, -, h1⟩ := hK.2 2 (cA, .object "ApronStrings$Sheet") rfl
          obtain ⟨-, kB, comp2, -, -, -, h2⟩ := hK.2 1 (cS, .object "ApronStrings$Sheet") rfl
          exact Option.some.inj (h1.symm.trans h2)
        subst hcA
        have k := K (qext ad w.length q) H1 locs lsA (fun k hk => qext_lt ok4 hk) (S.push hok (e := .inr (.inr (List.replicate n.toNatClampNeg none))) (fun ad' => by simp only [qce, List.length_replicate, q_repn]) hP hD hS)
        have k : W p l e R s m args below meth c H1 locs (cells + 1) (slots + n.toNatClampNeg) Q (F0 m (pc + 3) lsA ((zR w.length 0 :: r).map (zenc (qad (qext ad w.length q))))) := k
        rw [q_top ok4 ok2] at k
        exact k
      · cases h
    · cases h
  | new x =>
    obtain rfl : ln = 3 := by simpa [qlo, zlo] using hlo
    simp only [qstep] at h
    split at h
    · rename_i ci hci
      split at h
      · rename_i hok
        cases h
        obtain ⟨ok1, ok2, ok3, ok4⟩ := qok_iff hok
        obtain ⟨h9, hcl⟩ := qnf_ok hci
        obtain ⟨⟨-, hinst⟩, hini, -⟩ := qw h9
        refine va_new (own := zC o) (C := zC ci) (T := zT ci) (N := znf ci) (fs := (qdf ci).map (qov ad)) hx hb9 hts (zlay h9) (zty ci) (zty_ok h9) hown (hts _ hcl) (hts _ hinst) (hts _ hini) hG.1 S.1.1 S.1.2 S.2.1 hA (zcl_at h9) (qdf_val ci h9) hcnt.1 hcnt.2 hd (fun q H1 hP hD hS => ?_)
        have hdf : ∀ ad', (qdf ci).map (qov ad') = (qdf ci).map (qov ad) := fun ad' => by
          refine z9 (P := fun ci => (qdf ci).map (qov ad') = (qdf ci).map (qov ad)) h9 rfl rfl rfl rfl rfl rfl rfl rfl rfl
        have k := K (qext ad w.length q) H1 locs lsA (fun k hk => qext_lt ok4 hk) (S.push hok (e := .inl (ci, qdf ci)) (e' := .inr (ci, (qdf ci).map (qov ad))) (fun ad' => by simp only [qce, hdf]) hP hD hS)
        have k : W p l e R s m args below meth c H1 locs (cells + 1) (slots + znf ci) Q (F0 m (pc + 3) lsA ((zR w.length 0 :: st).map (zenc (qad (qext ad w.length q))))) := k
        rw [q_top ok4 ok2] at k
        exact k
      · cases h
    · cases h
  | getfield x =>
    obtain rfl : ln = 3 := by simpa [qlo, zlo] using hlo
    simp only [qstep] at h
    split at h
    · rename_i q0 r
      split at h
      · rename_i c0 k ci fs hf hw
        split at h
        · rename_i v hv
          split at h
          · rename_i hci
            cases h
            subst hci
            obtain ⟨⟨h9, hk, hT⟩, hwd⟩ := zf_ok hf
            have he := qwl_at (cI := cI) (cS := cS) (ad := ad) hw
            exact va_get (own := zC o) (C := zC ci) (T := zT ci) (N := znf ci) hx hb9 hts (zlay h9) hown hG.1 S.1.1 q0.1 he (zcl_at h9) k hk (hts _ hwd) (fun y hy => by rw [← hT]; exact hy) (v := zenc (qad ad) v) (by simp [hv, qov]) hd (K ad H locs lsA (fun _ _ => rfl) S)
          · cases h
        · cases h
      · cases h
    · cases h
  | putfield x =>
    obtain rfl : ln = 3 := by simpa [qlo, zlo] using hlo
    simp only [qstep] at h
    split at h
    · rename_i v q0 r
      split at h
      · rename_i c0 k ci fs hf hw
        split at h
        · rename_i hq
          cases h
          obtain ⟨hci, hco, hkl, hfit⟩ := hq
          subst hci
          obtain ⟨⟨h9, hk, hT⟩, hwd⟩ := zf_ok hf
          have he := qwl_at (cI := cI) (cS := cS) (ad := ad) hw
          have hlt : q0.1 < w.length := (List.getElem?_eq_some_iff.mp hw).1
          obtain ⟨hn1, hn2⟩ := qfit_ok (ad := ad) hfit
          have hset : ∀ v' : Value, v' = zenc (qad ad) v → (ad q0.1, (Sum.inr (ci, (fs.map (qov ad)).set k v') : va_E)) = (ad q0.1, qce cI cS ad (.inl (ci, fs.set k (some v)))) := by
            rintro v' rfl
            simp only [qce, List.map_set]
            rfl
          have fin : ∀ (H1 : Heap) (locs1 : List Loc), va_P D vwCl ((qwl cI cS ad w).set q0.1 (ad q0.1, .inr (ci, (fs.map (qov ad)).set k (zenc (qad ad) v)))) H1 → va_D (zA0 hb) ((qwl cI cS ad w).set q0.1 (ad q0.1, .inr (ci, (fs.map (qov ad)).set k (zenc (qad ad) v)))) → va_S (zA0 hb) s.heap H1 locs1 → W p l e R s m args below meth c H1 locs1 cells slots Q (F0 m (pc + 3) lsA (r.map (zenc (qad ad)))) := by
            intro H1 locs1 hP hD hS
            rw [hset _ rfl, qwl_set hlt] at hP hD
            exact K ad H1 locs1 lsA (fun _ _ => rfl) ⟨⟨hP, hD⟩, hS, S.2.2⟩
          cases hfin : (zT ci k).2.2.2 with
          | true => exact va_putF (own := zC o) (C := zC ci) (T := zT ci) (N := znf ci) hx hb9 hts (zlay h9) (zty ci) (zty_ok h9) (znm_ok h9) hown hG.1 S.1.1 S.1.2 S.2.1 q0.1 he (zcl_at h9) k hk (hts _ hwd) (fun y hy => by rw [← hT]; exact hy) hfin (hin9 (by omega)) (by rw [hT, hco]) (zty_ok h9 k hk) hn1 hn2 (by simpa using hkl) hd fin
          | false => exact va_put (own := zC o) (C := zC ci) (T := zT ci) (N := znf ci) hx hb9 hts (zlay h9) (zty ci) (zty_ok h9) (znm_ok h9) hown hG.1 S.1.1 S.1.2 S.2.1 q0.1 he (zcl_at h9) k hk (hts _ hwd) (fun y hy => by rw [← hT]; exact hy) hfin (zty_ok h9 k hk) hn1 hn2 (by simpa using hkl) hd fin
        · cases h
      · cases h
    · cases h
  | iastore =>
    obtain rfl : ln = 1 := by simpa [qlo, zlo] using hlo
    simp only [qstep] at h
    split at h
    · rename_i v j q0 r
      split at h
      · rename_i li hw
        split at h
        · rename_i hin
          cases h
          have he := qwl_at (cI := cI) (cS := cS) (ad := ad) hw
          have hlt : q0.1 < w.length := (List.getElem?_eq_some_iff.mp hw).1
          have hset : (Sum.inl (cI, li.length, .inl (upd (fun k => li.getD k 0) j.toNatClampNeg v)) : va_E) = qce cI cS ad (.inr (.inl (li.set j.toNatClampNeg v))) := by
            have hj : j.toNatClampNeg < li.length := Nat.not_le.mp fun q => hin (Or.inr q)
            have hf : (fun k => (li.set j.toNatClampNeg v).getD k 0) = upd (fun k => li.getD k 0) j.toNatClampNeg v := by
              funext k
              unfold upd
              by_cases hk : k = j.toNatClampNeg
              · subst hk
                simp [List.getD, List.getElem?_set_self hj]
              · rw [if_neg hk]
                simp only [List.getD]
                rw [List.getElem?_set_ne (fun q => hk q.symm)]
            simp only [qce, List.length_set, hf]
          refine va_iast hx hb9 hG.1 S.1.1 S.1.2 S.2.1 q0.1 0 he rfl hin hd (fun H1 locs1 hP hD hS => ?_)
          rw [hset, qwl_set hlt] at hP hD
          exact K ad H1 locs1 lsA (fun _ _ => rfl) ⟨⟨hP, hD⟩, hS, S.2.2⟩
        · cases h
      · cases h
    · cases h
  | aastore =>
    obtain rfl : ln = 1 := by simpa [qlo, zlo] using hlo
    simp only [qstep] at h
    split at h
    · rename_i v j q0 r
      split at h
      · rename_i li ci fs hw hwv
        split at h
        · rename_i hq
          cases h
          obtain ⟨hin, rfl⟩ := hq
          have he := qwl_at (cI := cI) (cS := cS) (ad := ad) hw
          have hev := qwl_at (cI := cI) (cS := cS) (ad := ad) hwv
          have hlt : q0.1 < w.length := (List.getElem?_eq_some_iff.mp hw).1
          have hset : (Sum.inl (cS, li.length, .inr (.inr (.inr (.inr (va_up (fun k => (li.getD k none).map ad) j.toNatClampNeg (some (ad v.1))))))) : va_E) = qce cI cS ad (.inr (.inr (li.set j.toNatClampNeg (some v.1)))) := by
            have hj : j.toNatClampNeg < li.length := Nat.not_le.mp fun q => hin (Or.inr q)
            have hf : (fun k => ((li.set j.toNatClampNeg (some v.1)).getD k none).map ad) = va_up (fun k => (li.getD k none).map ad) j.toNatClampNeg (some (ad v.1)) := by
              funext k
              unfold va_up
              by_cases hk : k = j.toNatClampNeg
              · subst hk
                simp [List.getD, List.getElem?_set_self hj]
              · rw [if_neg hk]
                simp only [List.getD]
                rw [List.getElem?_set_ne (fun q => hk q.symm)]
            simp only [qce, List.length_set, hf]
          refine va_astq hx hb9 hG.1 S.1.1 S.1.2 S.2.1 q0.1 1 v.1 4 (r := (zC 4, zT 4, znf 4)) he rfl hev (zcl_at (by decide)) hin hd (fun H1 locs1 hP hD hS => ?_)
          rw [hset, qwl_set hlt] at hP hD
          exact K ad H1 locs1 lsA (fun _ _ => rfl) ⟨⟨hP, hD⟩, hS, S.2.2⟩
        · cases h
      · cases h
    · cases h
  | invokespecial x =>
    obtain rfl : ln = 3 := by simpa [qlo, zlo] using hlo
    simp only [qstep] at h
    split at h
    · rename_i ho
      split at h
      · rename_i q0 r
        split at h
        · rename_i h8
          cases h
          have hsz : lsA.size = c.maxLocals := S.2.2.2.1.trans hml.symm
          refine W.objInit (own := zC o) (g := F0 m pc lsA (Value.ref (ad q0.1) :: r.map (zenc (qad ad)))) hx hb9 hown (hts _ (qof_ok ho)) (hts _ q_obj.1) (hts _ q_obj.2) rfl hsz rfl hd hR.1 ?_ (K ad H locs lsA (fun _ _ => rfl) S)
          have := lv_room (m := m) (pc := pc) (ls := lsA) (rest := Value.ref (ad q0.1) :: r.map (zenc (qad ad))) (st := r.map (zenc (qad ad))) (by rw [zcat_sum]; exact h8)
          have := hR.2
          omega
        · cases h
      · cases h
    · cases h
  | _ => exact absurd h (by simp [qstep])
end QS
