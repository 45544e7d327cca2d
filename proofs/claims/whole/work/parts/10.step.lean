section ZT
variable {p : Program} {l : Launch} {e : Env} {R : Room} {s : State} {m : MethodId} {args : Array Value} {below : List Frame} {meth : Method} {c : Code} {cells slots : Nat} {Q : State → Prop}
variable {D : va_G} {cI cS : ClassId} {ad : Nat → Nat → Nat} {hb L : Nat} {ρ : zS} {nL : Nat} {cc : ByteArray}
theorem zx1 {v : Int32} {ty : FieldType} {c k i : Nat} (hc : c < 9) (hk : k < znf c) (hi : i < 4) (hf : zfr c k i = none) (hz : zfb c k = true → v = 0 ∨ v = 1) (hd : parseFieldDescriptor (zT c k).2.2.1 = some ty) : narrow ty (.int v) = .int v ∧ fits ty (.int v) = true := by
  have h1 := zty_ok hc k hk
  have h2 := zty_i hc k hk i hi hf
  have h3 : ty = zty c k := Option.some.inj (hd.symm.trans h1)
  rw [h3, h2]
  by_cases hb : zfb c k = true
  · rw [if_pos hb]
    rcases hz hb with rfl | rfl <;> exact ⟨rfl, rfl⟩
  · rw [if_neg hb]
    exact ⟨rfl, rfl⟩
set_option maxHeartbeats 4000000 in
theorem zstep_sound {o : Nat} {i : Instr} {ln pc : Nat} {ls : zO} {st : List zA} {σ : zS} {q : Nat × zO × List zA × zS} (h : zstep o i ln pc ls st σ = some q) (hlo : zlo i ln = true)
    (hx : p.tables.exec = Jvm.exec) (hb9 : c.code = cc) (hml : c.maxLocals = nL) (hown : s.vm.findClass (zC o) = some m.cls) (hts : ∀ w ∈ zTb, w.before args s = true) (hG : zGood D cI cS ad hb L ρ s s.heap) (hd : decode cc pc = .ok (i, ln)) (hR : 1 ≤ R.frames ∧ 60 ≤ R.locals)
    {H : Heap} {locs : List Loc} {lsA : Array Slot} (S : zSt D cI cS ad hb ρ s nL H locs lsA ls st σ)
    (K : ∀ H1 locs1 lsA1, zSt D cI cS ad hb ρ s nL H1 locs1 lsA1 q.2.1 q.2.2.1 q.2.2.2 → zGoal p l e R s m args below meth c cells slots Q ad H1 locs1 lsA1 q.1 q.2.2.1) : zGoal p l e R s m args below meth c cells slots Q ad H locs lsA pc st := by
  cases i with
  | iconst n =>
    obtain rfl : ln = 1 := by simpa [zlo] using hlo
    cases h
    exact lv_iconst hx hb9 hd rfl (K H locs lsA (zW_zpush S trivial))
  | bipush n =>
    obtain rfl : ln = 2 := by simpa [zlo] using hlo
    cases h
    exact lv_bipush hx hb9 hd rfl (K H locs lsA (zW_zpush S trivial))
  | sipush n =>
    obtain rfl : ln = 3 := by simpa [zlo] using hlo
    cases h
    exact lv_sipush hx hb9 hd rfl (K H locs lsA (zW_zpush S trivial))
  | ldc x =>
    obtain rfl : ln = 2 := by simpa [zlo] using hlo
    simp only [zstep] at h
    split at h
    · rename_i v hv
      cases h
      exact lv_ldc hx hb9 hown (hts _ (zk_ok hv)) hd (K H locs lsA (zW_zpush S trivial))
    · cases h
  | ldc_w x =>
    obtain rfl : ln = 3 := by simpa [zlo] using hlo
    simp only [zstep] at h
    split at h
    · rename_i v hv
      cases h
      exact lv_ldcw hx hb9 hown (hts _ (zk_ok hv)) hd (K H locs lsA (zW_zpush S trivial))
    · cases h
  | ldc2_w x =>
    obtain rfl : ln = 3 := by simpa [zlo] using hlo
    simp only [zstep] at h
    split at h
    · rename_i v hv
      cases h
      exact lv_ldc2 hx hb9 hown (hts _ (zkL_ok hv)) hd (K H locs lsA (zW_zpush S trivial))
    · cases h
  | iload k =>
    obtain rfl : ln = 2 := by simpa [zlo] using hlo
    obtain ⟨x, hk, rfl⟩ := zldi_inv h
    exact lv_iload hx hb9 hd (zls_get S.2.2.2.1.2 hk) (K H locs lsA (zW_zpush S trivial))
  | iload_n k =>
    obtain rfl : ln = 1 := by simpa [zlo] using hlo
    obtain ⟨x, hk, rfl⟩ := zldi_inv h
    exact lv_iload_n hx hb9 hd rfl (zls_get S.2.2.2.1.2 hk) (K H locs lsA (zW_zpush S trivial))
  | lload_n k =>
    obtain rfl : ln = 1 := by simpa [zlo] using hlo
    simp only [zstep] at h
    split at h
    · rename_i x hk
      cases h
      exact lv_lload_n hx hb9 hd rfl (zls_get S.2.2.2.1.2 hk) (K H locs lsA (zW_zpush S trivial))
    · cases h
  | aload k =>
    obtain rfl : ln = 2 := by simpa [zlo] using hlo
    obtain ⟨a, i, hk, rfl⟩ := zlda_inv h
    exact lv_aload hx hb9 hd (zls_get S.2.2.2.1.2 hk) (K H locs lsA (zW_zpush S (zget_ok S.2.2.2.2.2 hk)))
  | aload_n k =>
    obtain rfl : ln = 1 := by simpa [zlo] using hlo
    obtain ⟨a, i, hk, rfl⟩ := zlda_inv h
    exact lv_aload_n hx hb9 hd rfl (zls_get S.2.2.2.1.2 hk) (K H locs lsA (zW_zpush S (zget_ok S.2.2.2.2.2 hk)))
  | istore k =>
    obtain rfl : ln = 2 := by simpa [zlo] using hlo
    obtain ⟨x, r, ls', rfl, hs, rfl⟩ := zsti_inv h
    have S2 := S.st (zok_cons S.2.2.2.2.1).2
    exact lv_istore hx hb9 hd S.2.2.2.1.2 (zset_lt hs S.2.2.2.1.1) rfl (fun lsB hB => K H locs lsB (S2.set hs trivial hB))
  | istore_n k =>
    obtain rfl : ln = 1 := by simpa [zlo] using hlo
    obtain ⟨x, r, ls', rfl, hs, rfl⟩ := zsti_inv h
    have S2 := S.st (zok_cons S.2.2.2.2.1).2
    exact lv_istore_n hx hb9 hd rfl S.2.2.2.1.2 (zset_lt hs S.2.2.2.1.1) rfl (fun lsB hB => K H locs lsB (S2.set hs trivial hB))
  | astore k =>
    obtain rfl : ln = 2 := by simpa [zlo] using hlo
    obtain ⟨a, i, r, ls', rfl, hs, rfl⟩ := zsta_inv h
    have S2 := S.st (zok_cons S.2.2.2.2.1).2
    exact lv_astore hx hb9 hd S.2.2.2.1.2 (zset_lt hs S.2.2.2.1.1) rfl (fun lsB hB => K H locs lsB (S2.set hs (zok_cons S.2.2.2.2.1).1 hB))
  | astore_n k =>
    obtain rfl : ln = 1 := by simpa [zlo] using hlo
    obtain ⟨a, i, r, ls', rfl, hs, rfl⟩ := zsta_inv h
    have S2 := S.st (zok_cons S.2.2.2.2.1).2
    exact lv_astore_n hx hb9 hd rfl S.2.2.2.1.2 (zset_lt hs S.2.2.2.1.1) rfl (fun lsB hB => K H locs lsB (S2.set hs (zok_cons S.2.2.2.2.1).1 hB))
  | iinc k n =>
    obtain rfl : ln = 3 := by simpa [zlo] using hlo
    simp only [zstep, if_true] at h
    split at h
    · rename_i x hk
      split at h
      · rename_i ls' hs
        cases h
        obtain ⟨k0, hk0⟩ : ∃ k0 : Nat, (zpr ad 0 ls)[k0]? = some (k, .int x) := List.getElem?_of_mem ((zpr_mem ls 0 k (.int x)).mpr ⟨k, zI x, by omega, zget_some hk, rfl⟩)
        exact lv_iinc hx hb9 hd S.2.2.2.1.2 hk0 rfl (zset_lt hs S.2.2.2.1.1) rfl (fun lsB hB => K H locs lsB (S.set hs trivial hB))
      · cases h
    · cases h
  | iadd => obtain rfl : ln = 1 := by simpa [zlo] using hlo
            exact zs_bin h S K (fun x y rest k => lv_iadd hx hb9 hd k)
  | isub => obtain rfl : ln = 1 := by simpa [zlo] using hlo
            exact zs_bin h S K (fun x y rest k => lv_isub hx hb9 hd k)
  | imul => obtain rfl : ln = 1 := by simpa [zlo] using hlo
            exact zs_bin h S K (fun x y rest k => lv_imul hx hb9 hd k)
  | iand => obtain rfl : ln = 1 := by simpa [zlo] using hlo
            exact zs_bin h S K (fun x y rest k => lv_iand hx hb9 hd k)
  | ior => obtain rfl : ln = 1 := by simpa [zlo] using hlo
           exact zs_bin h S K (fun x y rest k => lv_ior hx hb9 hd k)
  | ixor => obtain rfl : ln = 1 := by simpa [zlo] using hlo
            exact zs_bin h S K (fun x y rest k => lv_ixor hx hb9 hd k)
  | ishl => obtain rfl : ln = 1 := by simpa [zlo] using hlo
            exact zs_bin h S K (fun x y rest k => lv_ishl hx hb9 hd k)
  | ishr => obtain rfl : ln = 1 := by simpa [zlo] using hlo
            exact zs_bin h S K (fun x y rest k => lv_ishr hx hb9 hd k)
  | iushr => obtain rfl : ln = 1 := by simpa [zlo] using hlo
             exact zs_bin h S K (fun x y rest k => lv_iushr hx hb9 hd rfl k)
  | idiv =>
    obtain rfl : ln = 1 := by simpa [zlo] using hlo
    simp only [zstep] at h
    split at h
    · split at h
      · cases h
      · rename_i hne
        cases h
        exact lv_idiv hx hb9 hd hne (K H locs lsA (S.st (zok_push trivial (zok_cons (zok_cons S.2.2.2.2.1).2).2)))
    · cases h
  | irem =>
    obtain rfl : ln = 1 := by simpa [zlo] using hlo
    simp only [zstep] at h
    split at h
    · split at h
      · cases h
      · rename_i hne
        cases h
        exact lv_irem hx hb9 hd hne (K H locs lsA (S.st (zok_push trivial (zok_cons (zok_cons S.2.2.2.2.1).2).2)))
    · cases h
  | ineg =>
    obtain rfl : ln = 1 := by simpa [zlo] using hlo
    simp only [zstep] at h
    split at h
    · cases h
      exact lv_ineg hx hb9 hd (K H locs lsA (S.st (zok_push trivial (zok_cons S.2.2.2.2.1).2)))
    · cases h
  | i2l =>
    obtain rfl : ln = 1 := by simpa [zlo] using hlo
    simp only [zstep] at h
    split at h
    · cases h
      exact lv_i2l hx hb9 hd rfl (K H locs lsA (S.st (zok_push trivial (zok_cons S.2.2.2.2.1).2)))
    · cases h
  | l2i =>
    obtain rfl : ln = 1 := by simpa [zlo] using hlo
    simp only [zstep] at h
    split at h
    · cases h
      exact lv_l2i hx hb9 hd rfl (K H locs lsA (S.st (zok_push trivial (zok_cons S.2.2.2.2.1).2)))
    · cases h
  | land =>
    obtain rfl : ln = 1 := by simpa [zlo] using hlo
    simp only [zstep] at h
    split at h
    · cases h
      exact lv_land hx hb9 hd (K H locs lsA (S.st (zok_push trivial (zok_cons (zok_cons S.2.2.2.2.1).2).2)))
    · cases h
  | lor =>
    obtain rfl : ln = 1 := by simpa [zlo] using hlo
    simp only [zstep] at h
    split at h
    · cases h
      exact lv_lor hx hb9 hd (K H locs lsA (S.st (zok_push trivial (zok_cons (zok_cons S.2.2.2.2.1).2).2)))
    · cases h
  | lshl =>
    obtain rfl : ln = 1 := by simpa [zlo] using hlo
    simp only [zstep] at h
    split at h
    · cases h
      exact lv_lshl hx hb9 hd rfl (K H locs lsA (S.st (zok_push trivial (zok_cons (zok_cons S.2.2.2.2.1).2).2)))
    · cases h
  | lshr =>
    obtain rfl : ln = 1 := by simpa [zlo] using hlo
    simp only [zstep] at h
    split at h
    · cases h
      exact lv_lshr hx hb9 hd rfl (K H locs lsA (S.st (zok_push trivial (zok_cons (zok_cons S.2.2.2.2.1).2).2)))
    · cases h
  | lushr =>
    obtain rfl : ln = 1 := by simpa [zlo] using hlo
    simp only [zstep] at h
    split at h
    · cases h
      exact lv_lushr hx hb9 hd rfl (K H locs lsA (S.st (zok_push trivial (zok_cons (zok_cons S.2.2.2.2.1).2).2)))
    · cases h
  | dup =>
    obtain rfl : ln = 1 := by simpa [zlo] using hlo
    simp only [zstep] at h
    split at h
    · split at h
      · cases h
      · rename_i v r hl
        cases h
        exact lv_dup hx hb9 hd (zlong_cat (by simpa using hl)) (K H locs lsA (S.st (zok_push (zok_cons S.2.2.2.2.1).1 S.2.2.2.2.1)))
    · cases h
  | dup2 =>
    obtain rfl : ln = 1 := by simpa [zlo] using hlo
    simp only [zstep] at h
    split at h
    · split at h
      · cases h
      · rename_i v w r hl
        cases h
        simp only [Bool.or_eq_true, not_or, Bool.not_eq_true] at hl
        have o1 := zok_cons S.2.2.2.2.1
        have o2 := zok_cons o1.2
        exact lv_dup2_11 hx hb9 hd (zlong_cat hl.1) (zlong_cat hl.2) (K H locs lsA (S.st (zok_push o1.1 (zok_push o2.1 S.2.2.2.2.1))))
    · cases h
  | getfield x =>
    obtain rfl : ln = 3 := by simpa [zlo] using hlo
    simp only [zstep] at h
    split at h
    · rename_i w r
      split at h
      · rename_i c0 k hf
        split at h
        · rename_i hq
          cases h
          obtain ⟨⟨h9, hk, hT⟩, hw⟩ := zf_ok hf
          obtain ⟨a0, i0⟩ := w
          simp only at hq
          subst hq
          have hok : zokp a0 i0 := (zok_cons S.2.2.2.2.1).1
          have hi : i0 < zcnt a0 := by
            rcases hok with h | ⟨h, -⟩
            · exact h
            · omega
          obtain ⟨n, hn⟩ := zpl_at hi
          have he := zwl_at (cI := cI) (cS := cS) (ad := ad) (σ := σ) hn
          rw [zcell_obj h9] at he
          refine va_get (own := zC o) (C := zC a0) (T := zT a0) (N := znf a0) hx hb9 hts (zlay h9) hown hG.1 S.1.1 n he (zcl_at h9) k hk (hts _ hw) (fun y hy => by rw [← hT]; exact hy) (v := zenc ad (zfv σ a0 i0 k)) (by simp [List.getElem?_map, List.getElem?_range hk]) hd ?_
          refine K H locs lsA (S.st (zok_push ?_ (zok_cons S.2.2.2.2.1).2))
          unfold zfv
          cases hr : zfr a0 k i0 with
          | none => trivial
          | some q =>
            exact Or.inl (zfr_ok h9 k hk i0 hi q hr)
        · cases h
      · cases h
    · cases h
  | putfield x =>
    obtain rfl : ln = 3 := by simpa [zlo] using hlo
    simp only [zstep] at h
    split at h
    · rename_i v w r
      split at h
      · rename_i c0 k hf
        split at h
        · rename_i hq
          cases h
          obtain ⟨⟨h9, hk, hT⟩, hw⟩ := zf_ok hf
          obtain ⟨a0, i0⟩ := w
          obtain ⟨hq, hfr, hfin, hz⟩ := hq
          simp only at hq
          subst hq
          have o1 := zok_cons S.2.2.2.2.1
          have hok : zokp a0 i0 := (zok_cons o1.2).1
          have hi : i0 < zcnt a0 := by
            rcases hok with h | ⟨h, -⟩
            · exact h
            · omega
          obtain ⟨n, hn⟩ := zpl_at hi
          have he := zwl_at (cI := cI) (cS := cS) (ad := ad) (σ := σ) hn
          rw [zcell_obj h9] at he
          have hty := zty_ok h9 k hk
          obtain ⟨hn1, hn2⟩ := zx1 (v := v) h9 hk (zcnt_big hi).2 hfr hz hty
          have hset : zcell cI cS ad (zup σ a0 i0 k v) a0 i0 = .inr (a0, ((List.range (znf a0)).map (fun k => zenc ad (zfv σ a0 i0 k))).set k (.int v)) := by
            rw [zcell_obj h9]
            congr 2
            apply List.ext_getElem?
            intro j
            by_cases hj : k = j
            · subst hj
              rw [List.getElem?_set_self (by simpa using hk)]
              simp [List.getElem?_map, List.getElem?_range hk, zfv, hfr, zup, zenc]
            · rw [List.getElem?_set_ne hj]
              simp only [List.getElem?_map]
              cases hr : (List.range (znf a0))[j]? with
              | none => rfl
              | some j' =>
                have : j' = j := by
                  obtain ⟨h1, h2⟩ := List.getElem?_eq_some_iff.mp hr
                  simpa using h2.symm
                subst this
                simp only [Option.map_some, Option.some.injEq]
                congr 1
                unfold zfv
                cases zfr a0 j' i0 with
                | none =>
                  have hj2 : ¬ j' = k := fun q => hj q.symm
                  simp [zup, hj2]
                | some q => rfl
          refine va_put (own := zC o) (C := zC a0) (T := zT a0) (N := znf a0) hx hb9 hts (zlay h9) (zty a0) (zty_ok h9) (znm_ok h9) hown hG.1 S.1.1 S.1.2 S.2.1 n he (zcl_at h9) k hk (hts _ hw) (fun y hy => by rw [← hT]; exact hy) hfin hty hn1 hn2 (by simpa using hk) hd (fun H1 locs1 hP hD hS => ?_)
          change va_P D vwCl ((zwl cI cS ad σ).set n (ad a0 i0, .inr (a0, ((List.range (znf a0)).map (fun k => zenc ad (zfv σ a0 i0 k))).set k (.int v)))) H1 at hP
          change va_D (zA0 hb) ((zwl cI cS ad σ).set n (ad a0 i0, .inr (a0, ((List.range (znf a0)).map (fun k => zenc ad (zfv σ a0 i0 k))).set k (.int v)))) at hD
          rw [← hset] at hP hD
          refine K H1 locs1 lsA ⟨zWd.set hn (fun c' i' hne => zup_ne hne) hP hD, hS, fun c' i' k' hc => ?_, S.2.2.2.1, (zok_cons o1.2).2, S.2.2.2.2.2⟩
          show zup σ a0 i0 k v c' i' k' = _
          rw [show zup σ a0 i0 k v c' i' = σ c' i' from zup_ne (fun q => by cases q; omega)]
          exact S.2.2.1 c' i' k' hc
        · cases h
      · cases h
    · cases h
  | getstatic x =>
    obtain rfl : ln = 3 := by simpa [zlo] using hlo
    simp only [zstep] at h
    split at h
    · rename_i t ht
      cases h
      obtain ⟨⟨h1, h2⟩, hw⟩ := zg_ok ht
      exact va_gets (own := zC o) hx hb9 (hG.2.2.2.2.2.1 t h1 h2) S.2.1 hown (hts _ hw) (fun _ hy => hy) hd (K H locs lsA (zW_zpush S (Or.inr ⟨by omega, h2, rfl⟩)))
    · cases h
  | iaload =>
    obtain rfl : ln = 1 := by simpa [zlo] using hlo
    simp only [zstep] at h
    split at h
    · rename_i j w r
      split at h
      · rename_i hq
        cases h
        obtain ⟨a0, i0⟩ := w
        obtain ⟨hq, hin⟩ := hq
        simp only at hq hin
        have o1 := zok_cons S.2.2.2.2.1
        have hok : zokp a0 i0 := (zok_cons o1.2).1
        have k2 := K H locs lsA (S.st (zok_push trivial (zok_cons o1.2).2))
        rcases hq with hq | hq | hq | hq
        · have hi : i0 < zcnt a0 := by
            have := (zia_cases hq).2.2.1
            rcases hok with h | ⟨h, -⟩
            · exact h
            · omega
          obtain ⟨n, hn⟩ := zpl_at hi
          have he := zwl_at (cI := cI) (cS := cS) (ad := ad) (σ := σ) hn
          rw [zcell_ia hq] at he
          exact va_iald hx hb9 hG.1 S.1.1 n 0 he rfl hin hd k2
        · subst hq
          obtain rfl : i0 = 0 := by
            rcases hok with h | ⟨-, -, h⟩
            · exact absurd (zcnt_big h).1 (by omega)
            · exact h
          refine va_ti hx hb9 hG.2.1 S.2.1 (i := j) ?_ rfl hd ?_
          · have : zln σ 50 0 = L := by
              show (σ 50 1 0).toNatClampNeg = L
              rw [S.2.2.1 50 1 0 (by omega)]
              exact hG.2.2.2.2.2.2
            rw [this] at hin
            exact hin
          · rw [← S.2.2.1 50 0 j.toNatClampNeg (by omega)]
            exact k2
        · subst hq
          obtain rfl : i0 = 0 := by
            rcases hok with h | ⟨-, -, h⟩
            · exact absurd (zcnt_big h).1 (by omega)
            · exact h
          refine va_ti hx hb9 hG.2.2.2.1 S.2.1 (i := j) hin rfl hd ?_
          rw [← S.2.2.1 52 0 j.toNatClampNeg (by omega)]
          exact k2
        · subst hq
          obtain rfl : i0 = 0 := by
            rcases hok with h | ⟨-, -, h⟩
            · exact absurd (zcnt_big h).1 (by omega)
            · exact h
          refine va_ti hx hb9 hG.2.2.2.2.1 S.2.1 (i := j) hin rfl hd ?_
          rw [← S.2.2.1 53 0 j.toNatClampNeg (by omega)]
          exact k2
      · cases h
    · cases h
  | caload =>
    obtain rfl : ln = 1 := by simpa [zlo] using hlo
    simp only [zstep] at h
    split at h
    · rename_i j w r
      split at h
      · rename_i hq
        cases h
        obtain ⟨a0, i0⟩ := w
        obtain ⟨hq, hin⟩ := hq
        simp only at hq hin
        have o1 := zok_cons S.2.2.2.2.1
        have hok : zokp a0 i0 := (zok_cons o1.2).1
        subst hq
        obtain rfl : i0 = 0 := by
          rcases hok with h | ⟨-, -, h⟩
          · exact absurd (zcnt_big h).1 (by omega)
          · exact h
        refine va_tc hx hb9 hG.2.2.1 S.2.1 (i := j) hin rfl hd ?_
        rw [← S.2.2.1 51 0 j.toNatClampNeg (by omega)]
        exact K H locs lsA (S.st (zok_push trivial (zok_cons o1.2).2))
      · cases h
    · cases h
  | aaload =>
    obtain rfl : ln = 1 := by simpa [zlo] using hlo
    simp only [zstep] at h
    split at h
    · rename_i j w r
      split at h
      · rename_i hq
        cases h
        obtain ⟨a0, i0⟩ := w
        obtain ⟨hq, hin⟩ := hq
        simp only at hq hin
        subst hq
        have o1 := zok_cons S.2.2.2.2.1
        have hok : zokp 25 i0 := (zok_cons o1.2).1
        have hi : i0 < zcnt 25 := by
          rcases hok with h | ⟨h, -⟩
          · exact h
          · omega
        obtain ⟨n, hn⟩ := zpl_at hi
        have he := zwl_at (cI := cI) (cS := cS) (ad := ad) (σ := σ) hn
        have hj : j.toNatClampNeg < 4 := Nat.not_le.mp fun q => hin (Or.inr q)
        exact va_aldq hx hb9 hG.1 S.1.1 n 1 (C := "ApronStrings$Sheet") he rfl hin hd (K H locs lsA (S.st (zok_push (Or.inl hj) (zok_cons o1.2).2)))
      · cases h
    · cases h
  | iastore =>
    obtain rfl : ln = 1 := by simpa [zlo] using hlo
    simp only [zstep] at h
    split at h
    · rename_i v j w r
      split at h
      · rename_i hq
        cases h
        obtain ⟨a0, i0⟩ := w
        obtain ⟨hq, hin⟩ := hq
        simp only at hq hin
        have o1 := zok_cons S.2.2.2.2.1
        have o2 := zok_cons o1.2
        have hok : zokp a0 i0 := (zok_cons o2.2).1
        have h50 := (zia_cases hq).2.2.1
        have hi : i0 < zcnt a0 := by
          rcases hok with h | ⟨h, -⟩
          · exact h
          · omega
        obtain ⟨n, hn⟩ := zpl_at hi
        have he := zwl_at (cI := cI) (cS := cS) (ad := ad) (σ := σ) hn
        rw [zcell_ia hq] at he
        have hset : zcell cI cS ad (zup σ a0 i0 j.toNatClampNeg v) a0 i0 = .inl (cI, zln σ a0 i0, .inl (upd (σ a0 i0) j.toNatClampNeg v)) := by
          rw [zcell_ia hq, zup_self, (zia_cases hq).2.2.2, (zia_cases hq).2.2.2]
        refine va_iast hx hb9 hG.1 S.1.1 S.1.2 S.2.1 n 0 he rfl hin hd (fun H1 locs1 hP hD hS => ?_)
        rw [← hset] at hP hD
        refine K H1 locs1 lsA ⟨zWd.set hn (fun c' i' hne => zup_ne hne) hP hD, hS, fun c' i' k' hc => ?_, S.2.2.2.1, (zok_cons o2.2).2, S.2.2.2.2.2⟩
        show zup σ a0 i0 j.toNatClampNeg v c' i' k' = _
        rw [show zup σ a0 i0 j.toNatClampNeg v c' i' = σ c' i' from zup_ne (fun q => by cases q; omega)]
        exact S.2.2.1 c' i' k' hc
      · cases h
    · cases h
  | arraylength =>
    obtain rfl : ln = 1 := by simpa [zlo] using hlo
    simp only [zstep] at h
    split at h
    · rename_i w r
      split at h
      · rename_i hq
        cases h
        obtain ⟨a0, i0⟩ := w
        simp only at hq
        have o1 := zok_cons S.2.2.2.2.1
        have hok : zokp a0 i0 := o1.1
        have k2 := K H locs lsA (S.st (zok_push trivial o1.2))
        have hz : 50 ≤ a0 → i0 = 0 := fun h5 => by
          rcases hok with h | ⟨-, -, h⟩
          · exact absurd (zcnt_big h).1 (by omega)
          · exact h
        rcases hq with hq | hq | hq | hq | hq
        · have hi : i0 < zcnt a0 := by
            have := (zia_cases hq).2.2.1
            rcases hok with h | ⟨h, -⟩
            · exact h
            · omega
          obtain ⟨n, hn⟩ := zpl_at hi
          have he := zwl_at (cI := cI) (cS := cS) (ad := ad) (σ := σ) hn
          rw [zcell_ia hq] at he
          exact va_alen hx hb9 hG.1 S.1.1 n 0 he rfl rfl hd k2
        · subst hq
          obtain rfl := hz (by omega)
          refine va_tlen hx hb9 hG.2.1 S.2.1 ?_ hd k2
          show _ = Int32.ofNat (σ 50 1 0).toNatClampNeg
          rw [S.2.2.1 50 1 0 (by omega), hG.2.2.2.2.2.2]
        · subst hq
          obtain rfl := hz (by omega)
          exact va_tlen hx hb9 hG.2.2.2.1 S.2.1 rfl hd k2
        · subst hq
          obtain rfl := hz (by omega)
          exact va_tlen hx hb9 hG.2.2.2.2.1 S.2.1 rfl hd k2
        · subst hq
          obtain rfl := hz (by omega)
          exact va_tlen hx hb9 hG.2.2.1 S.2.1 rfl hd k2
      · cases h
    · cases h
  | ifCond cd off =>
    obtain rfl : ln = 3 := by simpa [zlo] using hlo
    cases cd with
    | eq => exact zs_br1 h S K (fun x t rest ht kt kf => lv_if_eq hx hb9 hd ht (fun hc => kt (by simpa using hc)) (fun hc => kf (by simpa using hc)))
    | ne => exact zs_br1 h S K (fun x t rest ht kt kf => lv_if_ne hx hb9 hd ht (fun hc => kt (by simpa using hc)) (fun hc => kf (by simpa using hc)))
    | lt => exact zs_br1 h S K (fun x t rest ht kt kf => lv_if_lt hx hb9 hd ht (fun hc => kt (by simpa only [decide_eq_true_eq] using hc)) (fun hc => kf (by simpa only [decide_eq_true_eq] using hc)))
    | ge => exact zs_br1 h S K (fun x t rest ht kt kf => lv_if_ge hx hb9 hd ht (fun hc => kt (by simpa only [decide_eq_true_eq] using hc)) (fun hc => kf (by simpa only [decide_eq_true_eq] using hc)))
    | gt => exact zs_br1 h S K (fun x t rest ht kt kf => lv_if_gt hx hb9 hd ht (fun hc => kt (by simpa only [decide_eq_true_eq] using hc)) (fun hc => kf (by simpa only [decide_eq_true_eq] using hc)))
    | le => exact zs_br1 h S K (fun x t rest ht kt kf => lv_if_le hx hb9 hd ht (fun hc => kt (by simpa only [decide_eq_true_eq] using hc)) (fun hc => kf (by simpa only [decide_eq_true_eq] using hc)))
  | if_icmp cd off =>
    obtain rfl : ln = 3 := by simpa [zlo] using hlo
    cases cd with
    | eq => exact zs_br2 h S K (fun x y t rest ht kt kf => lv_icmp_eq hx hb9 hd ht (fun hc => kt (by simpa using hc)) (fun hc => kf (by simpa using hc)))
    | ne => exact zs_br2 h S K (fun x y t rest ht kt kf => lv_icmp_ne hx hb9 hd ht (fun hc => kt (by simpa using hc)) (fun hc => kf (by simpa using hc)))
    | lt => exact zs_br2 h S K (fun x y t rest ht kt kf => lv_icmp_lt hx hb9 hd ht (fun hc => kt (by simpa only [decide_eq_true_eq] using hc)) (fun hc => kf (by simpa only [decide_eq_true_eq] using hc)))
    | ge => exact zs_br2 h S K (fun x y t rest ht kt kf => lv_icmp_ge hx hb9 hd ht (fun hc => kt (by simpa only [decide_eq_true_eq] using hc)) (fun hc => kf (by simpa only [decide_eq_true_eq] using hc)))
    | gt => exact zs_br2 h S K (fun x y t rest ht kt kf => lv_icmp_gt hx hb9 hd ht (fun hc => kt (by simpa only [decide_eq_true_eq] using hc)) (fun hc => kf (by simpa only [decide_eq_true_eq] using hc)))
    | le => exact zs_br2 h S K (fun x y t rest ht kt kf => lv_icmp_le hx hb9 hd ht (fun hc => kt (by simpa only [decide_eq_true_eq] using hc)) (fun hc => kf (by simpa only [decide_eq_true_eq] using hc)))
  | goto off =>
    obtain rfl : ln = 3 := by simpa [zlo] using hlo
    simp only [zstep] at h
    split at h
    · rename_i t ht
      cases h
      exact lv_goto hx hb9 hd (ztg_eq ht) (K H locs lsA S)
    · cases h
  | tableswitch d lo hi offs =>
    simp only [zstep] at h
    split at h
    · rename_i x r
      split at h
      · rename_i hsz
        split at h
        · rename_i t ht
          cases h
          have k2 := K H locs lsA (S.st (zok_cons S.2.2.2.2.1).2)
          obtain ⟨g1, g2, g3⟩ := zsw_in (x := x) offs.toList lo d
          have hl : offs.toList.length = offs.size := Array.length_toList
          by_cases hlo2 : x.toInt < lo
          · rw [g2 hlo2] at ht
            exact lv_tableOut hx hb9 hd (Or.inl hlo2) (ztg_eq ht) k2
          · by_cases hhi : hi < x.toInt
            · rw [g3 (by omega)] at ht
              exact lv_tableOut hx hb9 hd (Or.inr hhi) (ztg_eq ht) k2
            · have hlt : (x.toInt - lo).toNat < offs.size := by omega
              have ho : offs[(x.toInt - lo).toNat]? = some offs[(x.toInt - lo).toNat] := Array.getElem?_eq_getElem hlt
              rw [g1 hlo2 _ (by rw [Array.getElem?_toList]; exact ho)] at ht
              exact lv_tableIn hx hb9 hd hlo2 hhi ho (ztg_eq ht) k2
        · cases h
      · cases h
    · cases h
  | lookupswitch d ps =>
    simp only [zstep] at h
    split at h
    · rename_i x r
      split at h
      · rename_i hp
        split at h
        · rename_i t ht
          cases h
          rw [zlk_eq] at ht
          exact lv_lookup hx hb9 hd hp rfl (ztg_eq ht) (K H locs lsA (S.st (zok_cons S.2.2.2.2.1).2))
        · cases h
      · cases h
    · cases h
  | invokestatic x =>
    obtain rfl : ln = 3 := by simpa [zlo] using hlo
    simp only [zstep] at h
    split at h
    · rename_i hza
      split at h
      · rename_i n dp w2 sp w1 r
        split at h
        · rename_i hq
          cases h
          obtain ⟨a1, i1⟩ := w1
          obtain ⟨a2, i2⟩ := w2
          obtain ⟨q1, q2, q3, q4, q5, q6, q7, q8⟩ := hq
          simp only at q1 q2 q6 q7
          have o1 := zok_cons S.2.2.2.2.1
          have o2 := zok_cons o1.2
          have o3 := zok_cons o2.2
          have o4 := zok_cons o3.2
          have o5 := zok_cons o4.2
          have v2 : zokp a2 i2 := o3.1
          have v1 : zokp a1 i1 := o5.1
          have b1 := (zia_cases q1).2.2.1
          have b2 := (zia_cases q2).2.2.1
          have j1 : i1 < zcnt a1 := by
            rcases v1 with h | ⟨h, -⟩
            · exact h
            · omega
          have j2 : i2 < zcnt a2 := by
            rcases v2 with h | ⟨h, -⟩
            · exact h
            · omega
          obtain ⟨n1, hn1⟩ := zpl_at j1
          obtain ⟨n2, hn2⟩ := zpl_at j2
          have e1 := zwl_at (cI := cI) (cS := cS) (ad := ad) (σ := σ) hn1
          have e2 := zwl_at (cI := cI) (cS := cS) (ad := ad) (σ := σ) hn2
          rw [zcell_ia q1] at e1
          rw [zcell_ia q2] at e2
          have hset : zcell cI cS ad (zcp σ a1 i1 a2 i2 sp.toNatClampNeg dp.toNatClampNeg n.toNatClampNeg) a2 i2 = .inl (cI, zln σ a2 i2, .inl (va_cpy (σ a1 i1) (σ a2 i2) sp.toNatClampNeg dp.toNatClampNeg n.toNatClampNeg)) := by
            rw [zcell_ia q2, zcp_self, (zia_cases q2).2.2.2, (zia_cases q2).2.2.2]
          have hmls : c.maxLocals = lsA.size := hml.trans S.2.2.2.1.2.1.symm
          refine va_copyi (own := zC o) hx hb9 hmls hown (hts _ (za_ok hza)) (hts _ zcopy_words.1) (hts _ zcopy_words.2.1) (hts _ zcopy_words.2.2) hG.1 S.1.1 S.1.2 S.2.1 n1 n2 0 0 e1 e2 rfl rfl rfl q3 q4 q5 q6 q7 (fun _ _ => rfl) hR.1 ?_ hd (fun H1 locs1 hP hD hS => ?_)
          · rw [zcat_sum]
            have : nativeFrameWords "java/lang/System" "arraycopy" 5 = 7 := by decide +kernel
            rw [this]
            have := hR.2
            omega
          · rw [← hset] at hP hD
            refine K H1 locs1 lsA ⟨zWd.set hn2 (fun c' i' hne => zcp_ne hne) hP hD, hS, fun c' i' k' hc => ?_, S.2.2.2.1, o5.2, S.2.2.2.2.2⟩
            show zcp σ a1 i1 a2 i2 sp.toNatClampNeg dp.toNatClampNeg n.toNatClampNeg c' i' k' = _
            rw [show zcp σ a1 i1 a2 i2 sp.toNatClampNeg dp.toNatClampNeg n.toNatClampNeg c' i' = σ c' i' from zcp_ne (fun q => by cases q; omega)]
            exact S.2.2.1 c' i' k' hc
        · cases h
      · cases h
    · cases h
  | _ => exact absurd h (by simp [zstep])
end ZT
