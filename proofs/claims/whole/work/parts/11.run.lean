/-! A run of the small machine is a run of the JVM's. -/
def zrm (d : Nat) : Room := { frames := d + 1, cells := 0, slots := 0, locals := 60 * (d + 1) }
def zws (mj : Nat) : List Cond := .code (zy mj) (zb mj) (zn mj) (zr mj) :: zTb
theorem zn_le : ∀ mj, mj < zMN → zn mj ≤ 41 := by decide +kernel
theorem zws_good {mj : Nat} (h : mj < zMN) (h9 : zo mj ≠ 9) : GoodIn zTb (zws mj) := by
  intro w hw
  rcases List.mem_cons.mp hw with rfl | hw
  · exact zTb_good _ (zm_code h h9)
  · exact zTb_good _ hw
/-- the words of a call -/
theorem zm_init {mj : Nat} (h : mj < zMN) (h9 : zo mj ≠ 9) : Cond.initialized (zC (zo mj)) ∈ zTb ∧ (zy mj).cls = zC (zo mj) ∧ (zy mj).cls ≠ "java/lang/invoke/MethodHandle" ∧ (zy mj).cls ≠ "java/lang/invoke/VarHandle" ∧ plainFor (zy mj) = true := by
  obtain ⟨q, hq, rfl⟩ := zmT_all mj h h9
  have h2 := zmT_ok2 q hq
  exact ⟨zTb_of h2.1 h2.2.1, h2.2.2.1, h2.2.2.2.1, h2.2.2.2.2, zmT_plain q hq⟩
theorem zm_st {mj : Nat} (h : mj < zMN) (h9 : zo mj ≠ 9) (hs : zst mj = true) : Cond.static (zy mj) ∈ zTb ∧ (parseMethodDescriptor (zy mj).desc).map (fun d => d.parameters.length) = some (zna mj) := by
  obtain ⟨q, hq, rfl⟩ := zmT_all mj h h9
  have h3 := zmT_ok3 q hq
  have h4 := zmT_ok4 q hq
  have e : q.2.1 = true := h3.1.symm.trans hs
  rw [e, if_pos rfl] at h4
  have h5 := h3.2.2.1
  rw [e, if_pos rfl] at h5
  exact ⟨zTb_of h4.1 h4.2, h5⟩
theorem zm_vi {mj : Nat} (h : mj < zMN) (h9 : zo mj ≠ 9) (hs : zst mj = false) : Cond.instanceMethod (zy mj) ∈ zTb ∧ Cond.selects (zC (zo mj)) (zy mj) (zy mj) ∈ zTb ∧ zo mj < 9 ∧ 1 ≤ zna mj ∧ (parseMethodDescriptor (zy mj).desc).map (fun d => d.parameters.length) = some (zna mj - 1) := by
  obtain ⟨q, hq, rfl⟩ := zmT_all mj h h9
  have h3 := zmT_ok3 q hq
  have h4 := zmT_ok4 q hq
  have e : q.2.1 = false := h3.1.symm.trans hs
  have e2 : ¬ q.2.1 = true := by rw [e]; decide
  rw [if_neg e2] at h4
  have h5 := h3.2.2.1
  rw [if_neg e2] at h5
  exact ⟨zTb_of h4.1.1 h4.1.2, zTb_of h4.2.1 h4.2.2.1, h4.2.2.2, h3.2.2.2 e, h5⟩
/-- a method's start, and its end -/
def zPc (D : va_G) (cI cS : ClassId) (ad : Nat → Nat → Nat) (hb L : Nat) (ρ σ : zS) (as : List zA) : Array Value → State → Prop := va_Pc (as.map (zenc ad)) (fun U => hb ≤ U.heap.size ∧ zWd D cI cS ad hb σ U.heap ∧ zGood D cI cS ad hb L ρ U U.heap)
def zQc (D : va_G) (cI cS : ClassId) (ad : Nat → Nat → Nat) (hb : Nat) (ρ : zS) (out : Option zA × zS) : Array Value → State → Outcome → State → Prop := fun _ st oc t => ((oc = .returned (out.1.map (zenc ad)) ∧ zWd D cI cS ad hb out.2 t.heap) ∧ (∀ c i k, 50 ≤ c → out.2 c i k = ρ c i k) ∧ ∀ v, out.1 = some v → zok v) ∧ va_F (zA0 hb) st t
section ZU
variable {p : Program} {l : Launch} {e : Env} {R : Room} {s : State} {m : MethodId} {args : Array Value} {below : List Frame} {meth : Method} {c : Code} {cells slots : Nat} {Q : State → Prop}
variable {D : va_G} {cI cS : ClassId} {ad : Nat → Nat → Nat} {hb L : Nat} {ρ : zS} {nL : Nat} {cc : ByteArray}
theorem zPc_blind {σ : zS} {as : List zA} : FrameBlind (zPc D cI cS ad hb L ρ σ as) := by
  intro a U g mk h
  obtain ⟨h1, h2, h3, h4⟩ := h
  exact ⟨h1, h2, h3, zGood.moved (u := U) (U := U.calling g mk a) (Vm.Alike.refl U.vm) (fun _ _ _ => rfl) h4⟩
theorem zcallW {H : Heap} {locs : List Loc} {pc : Nat} {lsA : Array Slot} {st0 rest : List Value} {out : Option zA × zS} {a : Array Value}
    (hr : va_Run p l e R s m args below meth c H locs cells slots 0 0 (F0 m pc lsA st0) rest (zQc D cI cS ad hb ρ out a) (zA0 hb)) (hS : va_S (zA0 hb) s.heap H locs)
    (kk : ∀ (H1 : Heap) (locs1 : List Loc), zWd D cI cS ad hb out.2 H1 → va_S (zA0 hb) s.heap H1 locs1 → (∀ c i k, 50 ≤ c → out.2 c i k = ρ c i k) → (∀ v, out.1 = some v → zok v) → W p l e R s m args below meth c H1 locs1 cells slots Q (F0 m (pc + 3) lsA ((out.1.map (zenc ad)).toList ++ rest))) : W p l e R s m args below meth c H locs cells slots Q (F0 m pc lsA st0) := by
  intro T hT X
  obtain ⟨v, st₀, t, T', L2, h0, X', hL, e1, e2, ⟨⟨⟨hv, hb2⟩, hρ, hv1⟩, hz, hk⟩, st⟩ := hr T hT X
  cases hv
  rw [h0] at hz hk
  obtain ⟨t2, a1, b1⟩ := kk T'.heap (locs ++ L2) (by rw [e1]; exact hb2)
    ⟨Nat.le_trans hS.1 (by rw [e1]; exact hz), fun q h1 h2 => by rw [e1, hk q (Nat.lt_of_lt_of_le h1 hS.1) h2]; exact hS.2.1 q h1 h2, fun q hq => by
      rcases List.mem_append.mp hq with h | h
      · exact hS.2.2 q h
      · exact hL q h⟩ hρ hv1 T' rfl X'
  exact ⟨t2, st t2 a1, b1⟩
end ZU
theorem zel_len_map {ad : Nat → Nat → Nat} (as : List zA) : (as.map (zenc ad)).length = as.length := List.length_map _
theorem zret_inv {mi : Nat} {i : Instr} {st : List zA} {r : Option zA} (h : zret mi i st = some r) : (i = .ireturn ∧ ∃ x, st = [zI x] ∧ r = some (zI x) ∧ (zr mi = some .int ∨ (zr mi = some .boolean ∧ (x = 0 ∨ x = 1)))) ∨ (i = .areturn ∧ ∃ a k nm, st = [zR a k] ∧ r = some (zR a k) ∧ zr mi = some (.object nm)) ∨ (i = .return_ ∧ st = [] ∧ r = none ∧ zr mi = none) := by
  cases i with
  | ireturn =>
    left
    refine ⟨rfl, ?_⟩
    rcases st with _ | ⟨a, _ | ⟨b, r2⟩⟩
    · simp [zret] at h
    · rcases a with x | x | q
      · cases hz : zr mi with
        | none => simp [zret, hz] at h
        | some ty =>
          cases ty with
          | int =>
            simp [zret, hz] at h
            exact ⟨x, rfl, h.symm, Or.inl rfl⟩
          | boolean =>
            simp [zret, hz] at h
            exact ⟨x, rfl, h.2.symm, Or.inr ⟨rfl, h.1⟩⟩
          | _ => simp [zret, hz] at h
      · simp [zret] at h
      · simp [zret] at h
    · rcases a with x | x | q <;> simp [zret] at h
  | areturn =>
    right; left
    refine ⟨rfl, ?_⟩
    rcases st with _ | ⟨a, _ | ⟨b, r2⟩⟩
    · simp [zret] at h
    · rcases a with x | x | q
      · simp [zret] at h
      · simp [zret] at h
      · cases hz : zr mi with
        | none => simp [zret, hz] at h
        | some ty =>
          cases ty with
          | object nm =>
            simp [zret, hz] at h
            exact ⟨q.1, q.2, nm, rfl, h.symm, rfl⟩
          | _ => simp [zret, hz] at h
    · rcases a with x | x | q <;> simp [zret] at h
  | return_ =>
    right; right
    refine ⟨rfl, ?_⟩
    rcases st with _ | ⟨a, r2⟩
    · cases hz : zr mi with
      | none =>
        simp [zret, hz] at h
        exact ⟨rfl, h.symm, rfl⟩
      | some ty => simp [zret, hz] at h
    · simp [zret] at h
  | _ => simp [zret] at h
theorem zcall_inv {o : Nat} {i : Instr} {st as rest : List zA} {mj : Nat} (h : zcall o i st = some (mj, as, rest)) : ((∃ x, i = .invokestatic x ∧ zc o x = some mj ∧ zst mj = true) ∨ (∃ x, i = .invokevirtual x ∧ zc o x = some mj ∧ zst mj = false ∧ zrcv mj as = true)) ∧ zna mj ≤ st.length ∧ (rest.map zcat).sum ≤ 8 ∧ (zel as).length ≤ zn mj ∧ as = (st.take (zna mj)).reverse ∧ rest = st.drop (zna mj) := by
  cases i with
  | invokestatic x =>
    simp only [zcall] at h
    split at h
    · rename_i mk hk
      split at h
      · rename_i hc
        cases h
        exact ⟨Or.inl ⟨x, rfl, hk, hc.1⟩, hc.2.1, hc.2.2.1, hc.2.2.2, rfl, rfl⟩
      · cases h
    · cases h
  | invokevirtual x =>
    simp only [zcall] at h
    split at h
    · rename_i mk hk
      split at h
      · rename_i hc
        cases h
        exact ⟨Or.inr ⟨x, rfl, hk, hc.1, hc.2.2.2.2⟩, hc.2.1, hc.2.2.1, hc.2.2.2.1, rfl, rfl⟩
      · cases h
    · cases h
  | _ => simp [zcall] at h
set_option maxHeartbeats 4000000 in
theorem zrun_sound (l : Launch) (D : va_G) (cI cS : ClassId) (ad : Nat → Nat → Nat) (hb L : Nat) (ρ : zS) : ∀ (n d mi pc : Nat) (ls : zO) (st : List zA) (σ : zS) (out : Option zA × zS), zrun n d mi pc ls st σ = some out →
    ∀ (p : Program) (e : Env) (R : Room) (s : State) (m : MethodId) (args : Array Value) (below : List Frame) (meth : Method) (c : Code) (cells slots : Nat) (Q : State → Prop) (H : Heap) (locs : List Loc) (lsA : Array Slot),
    p.tables.exec = Jvm.exec → c.code = zb mi → c.maxLocals = zn mi → s.vm.findClass (zC (zo mi)) = some m.cls → (∀ w ∈ zTb, w.before args s = true) → zGood D cI cS ad hb L ρ s s.heap → hb ≤ s.heap.size → (d + 1 ≤ R.frames ∧ 60 * (d + 1) ≤ R.locals ∧ cells ≤ R.cells ∧ slots ≤ R.slots) →
    zSt D cI cS ad hb ρ s (zn mi) H locs lsA ls st σ →
    (∀ (pc : Nat) (i : Instr) (ln : Nat) (H : Heap) (locs : List Loc) (lsA : Array Slot) (ls : zO) (st : List zA), decode (zb mi) pc = .ok (i, ln) → zlo i ln = true → zret mi i st = some out.1 → zSt D cI cS ad hb ρ s (zn mi) H locs lsA ls st out.2 → zGoal p l e R s m args below meth c cells slots Q ad H locs lsA pc st) →
    zGoal p l e R s m args below meth c cells slots Q ad H locs lsA pc st := by
  intro n
  induction n with
  | zero =>
    intro d mi pc ls st σ out h
    simp [zrun] at h
  | succ n ih =>
    intro d mi pc ls st σ out h p e R s m args below meth c cells slots Q H locs lsA hx hb9 hml hown hts hG hbs hR S hret
    simp only [zrun] at h
    split at h
    · cases h
    · rename_i i ln hd
      split at h
      · cases h
      · rename_i hlo
        have hlo : zlo i ln = true := by simpa using hlo
        split at h
        · rename_i pc' ls' st' σ' hs
          exact zstep_sound hs hlo hx hb9 hml hown hts hG hd ⟨by omega, by omega⟩ S (fun H1 locs1 lsA1 S1 => ih d mi pc' ls' st' σ' out h p e R s m args below meth c cells slots Q H1 locs1 lsA1 hx hb9 hml hown hts hG hbs hR S1 hret)
        · split at h
          · rename_i r hr
            cases h
            exact hret pc i ln H locs lsA ls st hd hlo hr S
          · split at h
            · cases h
            · rename_i mj as rest hc
              split at h
              · cases h
              · rename_i d' 
                split at h
                · cases h
                · rename_i r σ' hrun
                  -- the contract of the method called
                  have key : ∀ (hj : mj < zMN) (hj9 : zo mj ≠ 9) (hlen : (zel as).length ≤ zn mj) (hok : ∀ v ∈ as, zok v), Met l (zy mj) (zws mj) (zrm d') (zPc D cI cS ad hb L ρ σ as) (zQc D cI cS ad hb ρ (r, σ')) 0 0 (zA0 hb) := by
                    intro hj hj9 hlen hok
                    refine va_MetF (cc := zb mj) (maxL := zn mj) (ret := zr mj) (zm_init hj hj9).2.2.2.2 rfl ?_
                    intro p e s m args below meth c s₁ B hml hv
                    obtain ⟨rfl, hbs, hW, hG⟩ := hv
                    have hts0 := atoms_spec (ws := zws mj) B.pre
                    have hts : ∀ w ∈ zTb, w.before _ s = true := fun w hw => hts0 w (List.mem_cons_of_mem _ hw)
                    have hown : s.vm.findClass (zC (zo mj)) = some m.cls := by
                      rw [← (zm_init hj hj9).2.1]
                      exact findClass_of_methodNamed B.named
                    have hlocks := B.notSynchronized
                    rw [lg_entry_eq]
                    refine ih d' mj 0 (zent as (zn mj)) [] σ (r, σ') hrun p e _ s m _ below meth c 0 0 _ s.heap [] _ B.exec B.bytes hml hown hts hG hbs ⟨Nat.le_refl _, Nat.le_refl _, Nat.zero_le _, Nat.zero_le _⟩ ⟨hW, va_S.rf, ?_, ⟨zent_len hlen, zent_has hlen⟩, fun v hv => absurd hv List.not_mem_nil, fun v hv => hok v (zent_mem hv)⟩ ?_
                    · exact S.2.2.1
                    · intro pc i ln H locs lsA ls st hd hlo hr S
                      have hq : ∀ (v : Option Value), v = r.map (zenc ad) → ∀ t : State, t.heap = H → s.WarmedH t.vm → zQc D cI cS ad hb ρ (r, σ') ((as.map (zenc ad)).toArray) s (.returned v) t := fun v hv t ht _ => ⟨⟨⟨by rw [hv], by rw [ht]; exact S.1⟩, S.2.2.1, fun v hv => by
                        rcases zret_inv hr with ⟨-, x, -, h2, -⟩ | ⟨-, a, k, nm, h1, h2, -⟩ | ⟨-, -, h2, -⟩
                        · cases h2.symm.trans hv; trivial
                        · cases h2.symm.trans hv
                          exact S.2.2.2.2.1 _ (by rw [h1]; exact List.mem_cons_self)
                        · cases h2.symm.trans hv⟩, S.2.1.F ht⟩
                      rcases zret_inv hr with ⟨rfl, x, rfl, h2, h3⟩ | ⟨rfl, a, k, nm, rfl, h2, h3⟩ | ⟨rfl, rfl, h2, h3⟩
                      · obtain rfl : ln = 1 := by simpa [zlo] using hlo
                        have h2 : r = some (zI x) := h2
                        rcases h3 with h3 | ⟨h3, h4⟩
                        · exact W.iret (v := x) B.exec B.bytes (B.returns.trans h3) (hq _ (by rw [h2]; rfl)) S.2.1.2.2 hd
                        · exact W.zret (v := x) B.exec B.bytes (B.returns.trans h3) (by rcases h4 with rfl | rfl <;> rfl) (hq _ (by rw [h2]; rfl)) S.2.1.2.2 hd
                      · obtain rfl : ln = 1 := by simpa [zlo] using hlo
                        have h2 : r = some (zR a k) := h2
                        exact W.aret (v := .ref (ad a k)) B.exec B.bytes (B.returns.trans h3) (Or.inl ⟨nm, rfl⟩) (Or.inr ⟨_, rfl⟩) (hq _ (by rw [h2]; rfl)) S.2.1.2.2 hd
                      · obtain rfl : ln = 1 := by simpa [zlo] using hlo
                        have h2 : r = none := h2
                        exact W.vret B.exec B.bytes (B.returns.trans h3) (hq _ (by rw [h2]; rfl)) S.2.1.2.2 hd
                  -- behind the call
                  have kk : ∀ (H1 : Heap) (locs1 : List Loc), (∀ v ∈ rest, zok v) → zWd D cI cS ad hb σ' H1 → va_S (zA0 hb) s.heap H1 locs1 → (∀ c i k, 50 ≤ c → σ' c i k = ρ c i k) → (∀ v, r = some v → zok v) → W p l e R s m args below meth c H1 locs1 cells slots Q (F0 m (pc + 3) lsA ((r.map (zenc ad)).toList ++ rest.map (zenc ad))) := by
                    intro H1 locs1 hrest hW1 hS1 hρ hrv
                    have hst : ∀ v ∈ r.toList ++ rest, zok v := by
                      intro v hv
                      rcases List.mem_append.mp hv with hv | hv
                      · exact hrv v (Option.mem_toList.mp hv)
                      · exact hrest v hv
                    have := ih (d' + 1) mi (pc + 3) ls (r.toList ++ rest) σ' out h p e R s m args below meth c cells slots Q H1 locs1 lsA hx hb9 hml hown hts hG hbs hR ⟨hW1, hS1, hρ, S.2.2.2.1, hst, S.2.2.2.2.2⟩ hret
                    have e1 : (r.toList ++ rest).map (zenc ad) = (r.map (zenc ad)).toList ++ rest.map (zenc ad) := by
                      cases r <;> simp
                    rw [← e1]
                    exact this
                  obtain ⟨hkind, hlen0, hsum, hlen, has, hrest⟩ := zcall_inv hc
                  have hokas : ∀ v ∈ as, zok v := fun v hv => S.2.2.2.2.1 v (List.mem_of_mem_take (List.mem_reverse.mp (has ▸ hv)))
                  have hokr : ∀ v ∈ rest, zok v := fun v hv => S.2.2.2.2.1 v (List.mem_of_mem_drop (hrest ▸ hv))
                  have hstk : st.map (zenc ad) = (as.map (zenc ad)).reverse ++ rest.map (zenc ad) := by
                    rw [has, hrest, ← List.map_reverse, List.reverse_reverse, ← List.map_append, List.take_append_drop]
                  have haslen : as.length = zna mj := by
                    rw [has, List.length_reverse, List.length_take]
                    omega
                  have hmlz : ∀ hj : mj < zMN, (zrm d').frames + 1 ≤ R.frames ∧ 8 + (zn mj + 11) + (zrm d').locals ≤ R.locals := fun hj => by
                    have := zn_le mj hj
                    show d' + 1 + 1 ≤ R.frames ∧ 8 + (zn mj + 11) + 60 * (d' + 1) ≤ R.locals
                    omega
                  have hPU : ∀ U : State, U.heap = H → s.WarmedH U.vm → zPc D cI cS ad hb L ρ σ as ((as.map (zenc ad)).toArray) U := fun U hU hW => ⟨rfl, by
                    show hb ≤ U.heap.size ∧ zWd D cI cS ad hb σ U.heap ∧ zGood D cI cS ad hb L ρ U U.heap
                    rw [hU]
                    exact ⟨Nat.le_trans hbs S.2.1.1, S.1, hG.moved hW.alike S.2.1.2.1⟩⟩
                  rcases hkind with ⟨x, rfl, hcx, hstat⟩ | ⟨x, rfl, hcx, hstat, hrcv⟩
                  · obtain rfl : ln = 3 := by simpa [zlo] using hlo
                    obtain ⟨hj, hj9, hlink⟩ := zc_ok hcx
                    obtain ⟨hst1, hst2⟩ := zm_st hj hj9 hstat
                    obtain ⟨i1, i2, i3, i4, -⟩ := zm_init hj hj9
                    show W p l e R s m args below meth c H locs cells slots Q (F0 m pc lsA (st.map (zenc ad)))
                    rw [hstk]
                    refine zcallW (va_runS (own := zC (zo mi)) (n := zna mj) (As := as.map (zenc ad)) (rest := rest.map (zenc ad)) ⟨hx, hb9, hml, hown, hts⟩ (key hj hj9 hlen hokas) ⟨callB_of (ws' := zTb) (zna mj) hts (zws_good hj hj9) rfl rfl rfl (by rw [i2]; exact hts _ i1) (hts _ hlink) ⟨i3, i4, hst2⟩ (hmlz hj), hts _ hst1⟩ ⟨zPc_blind, hPU⟩ rfl (by rw [List.length_map]; exact haslen) S.2.2.2.1.2.1 rfl (lv_room (by rw [zcat_sum]; exact hsum)) hd ⟨by omega, by omega⟩) S.2.1 (fun H1 locs1 hW1 hS1 hρ1 hv1 => kk H1 locs1 hokr hW1 hS1 hρ1 hv1)
                  · obtain rfl : ln = 3 := by simpa [zlo] using hlo
                    obtain ⟨hj, hj9, hlink⟩ := zc_ok hcx
                    obtain ⟨v1, v2, v3, v4, v5⟩ := zm_vi hj hj9 hstat
                    obtain ⟨i1, i2, i3, i4, -⟩ := zm_init hj hj9
                    obtain ⟨b0, as', hb0⟩ : ∃ b0 as', as = zR (zo mj) b0 :: as' := by
                      unfold zrcv at hrcv
                      split at hrcv
                      · rename_i q t
                        obtain ⟨q1, q2⟩ := q
                        have : q1 = zo mj := by simpa using hrcv
                        subst this
                        exact ⟨q2, t, rfl⟩
                      · cases hrcv
                    have hok0 : zokp (zo mj) b0 := hokas (zR (zo mj) b0) (by rw [hb0]; exact List.mem_cons_self)
                    have hi : b0 < zcnt (zo mj) := by
                      rcases hok0 with h | ⟨h, -⟩
                      · exact h
                      · omega
                    obtain ⟨n0, hn0⟩ := zpl_at hi
                    have he := zwl_at (cI := cI) (cS := cS) (ad := ad) (σ := σ) hn0
                    rw [zcell_obj v3] at he
                    have hrc := va_recv hG.1 S.1.1 (zcl_at v3) he
                    show W p l e R s m args below meth c H locs cells slots Q (F0 m pc lsA (st.map (zenc ad)))
                    have hstk2 : st.map (zenc ad) = (as'.map (zenc ad)).reverse ++ Value.ref (ad (zo mj) b0) :: rest.map (zenc ad) := by
                      rw [hstk, hb0]
                      simp [zenc]
                    have hcw := callB_of (R := R) (ret := zr mj) (bytes := zb mj) (maxL := zn mj) (rm := zrm d') (mc := 0) (ms := 0) (ws' := zTb) (zna mj - 1) hts (zws_good hj hj9) rfl rfl rfl (by rw [i2]; exact hts _ i1) (hts _ hlink) ⟨i3, i4, v5⟩ (hmlz hj)
                    have e9 : (as.map (zenc ad)).toArray = (Value.ref (ad (zo mj) b0) :: as'.map (zenc ad)).toArray := by
                      rw [hb0]
                      rfl
                    rw [e9] at hPU
                    rw [hstk2]
                    refine zcallW (va_runV (C := zC (zo mj)) (own := zC (zo mi)) (n := zna mj - 1) (As := as'.map (zenc ad)) (rest := rest.map (zenc ad)) ⟨hx, hb9, hml, hown, hts⟩ (key hj hj9 hlen hokas) ⟨hcw, hts _ v1, hts _ v2⟩ ⟨zPc_blind, hrc, hPU⟩ rfl (by
                      rw [List.length_map]
                      rw [hb0, List.length_cons] at haslen
                      omega) S.2.2.2.1.2.1 rfl (lv_room (by rw [zcat_sum]; exact hsum)) hd ⟨by omega, by omega⟩) S.2.1 (fun H1 locs1 hW1 hS1 hρ1 hv1 => kk H1 locs1 hokr hW1 hS1 hρ1 hv1)
