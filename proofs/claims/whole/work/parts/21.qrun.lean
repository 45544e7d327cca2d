theorem qin_le {n n2 k : Nat} (h : qin n k) (hn : n ≤ n2) : qin n2 k := by
  rcases h with h | h
  · exact Or.inl (by omega)
  · exact Or.inr h
def qrm (d c s : Nat) : Room := { frames := d + 1, cells := c, slots := s, locals := 60 * (d + 1) }
def qws (j : Nat) : List Cond := .code (qy j) (qb j) (qn j) none :: zTb
theorem qws_good {j : Nat} (h : j < 9) : GoodIn zTb (qws j) := by
  intro w hw
  rcases List.mem_cons.mp hw with rfl | hw
  · exact zTb_good _ (qw h).1.1
  · exact zTb_good _ hw
def qPc (D : va_G) (cI cS : ClassId) (hb : Nat) (ad : Nat → Nat) (w : qW) (as : List zA) : Array Value → State → Prop := va_Pc (as.map (zenc (qad ad))) (fun U => hb ≤ U.heap.size ∧ qWd D cI cS hb ad w U.heap ∧ qG D cI cS U)
def qQc (D : va_G) (cI cS : ClassId) (hb : Nat) (ad : Nat → Nat) (n : Nat) (w' : qW) : Array Value → State → Outcome → State → Prop := fun _ st oc t => (oc = .returned none ∧ ∃ ad' : Nat → Nat, (∀ k, qin n k → ad' k = ad k) ∧ qWd D cI cS hb ad' w' t.heap) ∧ va_F (zA0 hb) st t
theorem qPc_blind {D : va_G} {cI cS : ClassId} {hb : Nat} {ad : Nat → Nat} {w : qW} {as : List zA} : FrameBlind (qPc D cI cS hb ad w as) := by
  intro a U g mk h
  obtain ⟨h1, h2, h3, h4⟩ := h
  exact ⟨h1, h2, h3, qG.same (s := U) (U := U.calling g mk a) rfl h4⟩
theorem qcallW {p : Program} {l : Launch} {e : Env} {R : Room} {s : State} {m : MethodId} {args : Array Value} {below : List Frame} {meth : Method} {c : Code} {cells slots : Nat} {Q : State → Prop} {D : va_G} {cI cS : ClassId} {hb mc ms n : Nat} {ad : Nat → Nat} {w' : qW} {H : Heap} {locs : List Loc} {pc : Nat} {lsA : Array Slot} {st0 rest : List Value} {a : Array Value}
    (hr : va_Run p l e R s m args below meth c H locs cells slots mc ms (F0 m pc lsA st0) rest (qQc D cI cS hb ad n w' a) (zA0 hb)) (hS : va_S (zA0 hb) s.heap H locs)
    (kk : ∀ (ad' : Nat → Nat) (H1 : Heap) (locs1 : List Loc), (∀ k, qin n k → ad' k = ad k) → qWd D cI cS hb ad' w' H1 → va_S (zA0 hb) s.heap H1 locs1 → W p l e R s m args below meth c H1 locs1 (cells + mc) (slots + ms) Q (F0 m (pc + 3) lsA rest)) : W p l e R s m args below meth c H locs cells slots Q (F0 m pc lsA st0) := by
  intro T hT X
  obtain ⟨v, st₀, t, T', L2, h0, X', hL, e1, e2, ⟨⟨hv, ad', hag, hb2⟩, hz, hk⟩, st⟩ := hr T hT X
  cases hv
  rw [h0] at hz hk
  obtain ⟨t2, a1, b1⟩ := kk ad' T'.heap (locs ++ L2) hag (by rw [e1]; exact hb2)
    ⟨Nat.le_trans hS.1 (by rw [e1]; exact hz), fun q h1 h2 => by rw [e1, hk q (Nat.lt_of_lt_of_le h1 hS.1) h2]; exact hS.2.1 q h1 h2, fun q hq => by
      rcases List.mem_append.mp hq with h | h
      · exact hS.2.2 q h
      · exact hL q h⟩ T' rfl X'
  exact ⟨t2, st t2 a1, b1⟩
theorem qcall_inv {o : Nat} {i : Instr} {w : qW} {ls : zO} {st as rest : List zA} {j : Nat} {b : Bool} (h : qcall o i w ls st = some (j, b, as, rest)) : ∃ x, i = .invokespecial x ∧ (if b = true then qmf o x = some j else qkf o x = some j) ∧ qna j + 1 ≤ st.length ∧ (rest.map zcat).sum ≤ 8 ∧ (zel as).length ≤ qn j ∧ qok w ls st = true ∧ qrcv as = true ∧ as = (st.take (qna j + 1)).reverse ∧ rest = st.drop (qna j + 1) := by
  cases i with
  | invokespecial x =>
    simp only [qcall] at h
    split at h
    · rename_i j' _ hk
      split at h
      · rename_i hc
        cases h
        exact ⟨x, rfl, by rw [if_neg (by decide)]; exact hk, hc.1, hc.2.1, hc.2.2.1, hc.2.2.2.1, hc.2.2.2.2, rfl, rfl⟩
      · cases h
    · rename_i j' _ hk
      split at h
      · rename_i hc
        cases h
        exact ⟨x, rfl, by rw [if_pos rfl]; exact hk, hc.1, hc.2.1, hc.2.2.1, hc.2.2.2.1, hc.2.2.2.2, rfl, rfl⟩
      · cases h
    · cases h
  | _ => simp [qcall] at h
theorem qdec : ∀ j, j < 9 → decode (qb j) (qstop j) = .ok (.return_, 1) := by decide +kernel
theorem qrun_len : ∀ (n d j pc : Nat) (ls : zO) (st : List zA) (w : qW) (f : qR) (c s : Nat), qrun n d j pc ls st w = some (f, c, s) → w.length ≤ f.2.2.2.length := by
  intro n
  induction n with
  | zero => intro d j pc ls st w f c s h; simp [qrun] at h
  | succ n ih =>
    intro d j pc ls st w f c s h
    simp only [qrun] at h
    split at h
    · cases h
      exact Nat.le_refl _
    · split at h
      · cases h
      · split at h
        · cases h
        · split at h
          · rename_i q c1 s1 hs
            split at h
            · rename_i f2 c2 s2 hr
              cases h
              exact Nat.le_trans (qstep_len hs) (ih _ _ _ _ _ _ _ _ _ hr)
            · cases h
          · split at h
            · cases h
            · split at h
              · cases h
              · split at h
                · rename_i f1 c1 s1 hr1
                  split at h
                  · split at h
                    · rename_i f2 c2 s2 hr
                      cases h
                      exact Nat.le_trans (ih _ _ _ _ _ _ _ _ _ hr1) (ih _ _ _ _ _ _ _ _ _ hr)
                    · cases h
                  · cases h
                · cases h
set_option maxHeartbeats 4000000 in
theorem qrun_sound (l : Launch) (D : va_G) (cI cS : ClassId) (hb : Nat) : ∀ (n d j pc : Nat) (ls : zO) (st : List zA) (w : qW) (f : qR) (c0 s0 : Nat), qrun n d j pc ls st w = some (f, c0, s0) →
    ∀ (p : Program) (e : Env) (R : Room) (s : State) (m : MethodId) (args : Array Value) (below : List Frame) (meth : Method) (c : Code) (cells slots : Nat) (Q : State → Prop) (ad : Nat → Nat) (H : Heap) (locs : List Loc) (lsA : Array Slot),
    p.tables.exec = Jvm.exec → c.code = qb j → c.maxLocals = qn j → s.vm.findClass (zC j) = some m.cls → (∀ w ∈ zTb, w.before args s = true) → qG D cI cS s → hb ≤ s.heap.size → (j < 9 → meth.name = "<init>") → (d + 1 ≤ R.frames ∧ 60 * (d + 1) ≤ R.locals ∧ cells + c0 ≤ R.cells ∧ slots + s0 ≤ R.slots) →
    qSt D cI cS hb s (qn j) ad H locs lsA ls w →
    (∀ (ad' : Nat → Nat) (H : Heap) (locs : List Loc) (lsA : Array Slot), (∀ k, qin w.length k → ad' k = ad k) → qSt D cI cS hb s (qn j) ad' H locs lsA f.2.1 f.2.2.2 → f.1 = qstop j → qGoal p l e R s m args below meth c (cells + c0) (slots + s0) Q ad' H locs lsA f.1 f.2.2.1) →
    qGoal p l e R s m args below meth c cells slots Q ad H locs lsA pc st := by
  intro n
  induction n with
  | zero =>
    intro d j pc ls st w f c0 s0 h
    simp [qrun] at h
  | succ n ih =>
    intro d j pc ls st w f c0 s0 h p e R s m args below meth c cells slots Q ad H locs lsA hx hb9 hml hown hts hG hbs hnm hR S hret
    simp only [qrun] at h
    split at h
    · rename_i hpc
      cases h
      exact hret ad H locs lsA (fun _ _ => rfl) S hpc
    · split at h
      · cases h
      · rename_i i ln hd
        split at h
        · cases h
        · rename_i hlo
          have hlo : qlo i ln = true := by simpa using hlo
          split at h
          · rename_i q c1 s1 hs
            split at h
            · rename_i f2 c2 s2 hrun
              cases h
              refine qstep_sound hs hlo hx hb9 hml hown hts hG hbs hnm hd ⟨by omega, by omega⟩ ⟨by omega, by omega⟩ S (fun ad' H1 locs1 lsA1 hag S1 => ?_)
              refine ih d j _ _ _ _ f _ _ hrun p e R s m args below meth c _ _ Q ad' H1 locs1 lsA1 hx hb9 hml hown hts hG hbs hnm ⟨hR.1, hR.2.1, by omega, by omega⟩ S1 (fun ad2 H2 locs2 lsA2 hag2 S2 hpc => ?_)
              rw [Nat.add_assoc, Nat.add_assoc]
              exact hret ad2 H2 locs2 lsA2 (fun k hk => (hag2 k (qin_le hk (qstep_len hs))).trans (hag k hk)) S2 hpc
            · cases h
          · split at h
            · cases h
            · rename_i j' b as rest hc
              split at h
              · cases h
              · rename_i d'
                split at h
                · rename_i f1 c1 s1 hr1
                  split at h
                  · rename_i hemp
                    split at h
                    · rename_i f2 c2 s2 hr2
                      cases h
                      obtain ⟨x, rfl, hk, hlen0, hsum, hlen, hok, hrcv, has, hrest⟩ := qcall_inv hc
                      obtain ⟨ok1, ok2, ok3, ok4⟩ := qok_iff hok
                      obtain rfl : ln = 3 := by simpa [qlo, zlo] using hlo
                      have hj : j' < 9 := by
                        cases b with
                        | true => exact (qmf_ok (by simpa using hk)).1
                        | false => exact (qkf_ok (by simpa using hk)).1
                      obtain ⟨⟨y1, y2, y3, y4, y5⟩, y6, y7⟩ := qy_ok j' hj
                      obtain ⟨-, wini, winst⟩ := qw hj
                      have hM : Met l (qy j') (qws j') (qrm d' c1 s1) (qPc D cI cS hb ad w as) (qQc D cI cS hb ad w.length f1.2.2.2) c1 s1 (zA0 hb) := by
                        refine Met.ofW (cc := qb j') (maxL := qn j') (ret := none) y6 rfl ?_
                        intro p e s m args below meth c s₁ B hml hv
                        obtain ⟨rfl, hbs, hW, hG⟩ := hv
                        have hts0 := atoms_spec (ws := qws j') B.pre
                        have hts : ∀ w ∈ zTb, w.before _ s = true := fun w hw => hts0 w (List.mem_cons_of_mem _ hw)
                        have hown : s.vm.findClass (zC j') = some m.cls := by
                          rw [← y1]
                          exact findClass_of_methodNamed B.named
                        have hnm : meth.name = "<init>" := by
                          rw [← y2]
                          exact (name_of_methodNamed B.named B.method).1
                        have hlocks := B.notSynchronized
                        rw [lg_entry_eq]
                        refine ih d' j' 0 (zent as (qn j')) [] w f1 c1 s1 hr1 p e _ s m _ below meth c 0 0 _ ad s.heap [] _ B.exec B.bytes hml hown hts hG hbs (fun _ => hnm) ⟨Nat.le_refl _, Nat.le_refl _, Nat.le_of_eq (Nat.zero_add _), Nat.le_of_eq (Nat.zero_add _)⟩ ⟨hW, va_S.rf, zent_len hlen, zent_has hlen⟩ (fun ad' H1 locs1 lsA1 hag S1 hpc => ?_)
                        have he : f1.2.2.1 = [] := List.isEmpty_iff.mp hemp
                        rw [he, hpc, Nat.zero_add, Nat.zero_add]
                        exact W.vret B.exec B.bytes B.returns (fun t ht _ => ⟨⟨rfl, ad', hag, by rw [ht]; exact S1.1⟩, S1.2.1.F ht⟩) S1.2.1.2.2 (qdec j' hj)
                      have haslen : as.length = qna j' + 1 := by
                        rw [has, List.length_reverse, List.length_take]
                        omega
                      obtain ⟨b0, as', has'⟩ : ∃ (b0 : Nat × Nat) (as' : List zA), as = zR b0.1 b0.2 :: as' := by
                        unfold qrcv at hrcv
                        split at hrcv
                        · rename_i q t
                          exact ⟨q, t, rfl⟩
                        · cases hrcv
                      have hstk : st.map (zenc (qad ad)) = (as.map (zenc (qad ad))).reverse ++ rest.map (zenc (qad ad)) := by
                        rw [has, hrest, ← List.map_reverse, List.reverse_reverse, ← List.map_append, List.take_append_drop]
                      have hstk2 : st.map (zenc (qad ad)) = (as'.map (zenc (qad ad))).reverse ++ Value.ref (ad b0.1) :: rest.map (zenc (qad ad)) := by
                        rw [hstk, has']
                        simp [zenc, qad]
                      have hPU : ∀ U : State, U.heap = H → s.WarmedH U.vm → qPc D cI cS hb ad w as ((Value.ref (ad b0.1) :: as'.map (zenc (qad ad))).toArray) U := fun U hU hW => ⟨by rw [has']; rfl, by
                        show hb ≤ U.heap.size ∧ qWd D cI cS hb ad w U.heap ∧ qG D cI cS U
                        rw [hU]
                        exact ⟨Nat.le_trans hbs S.2.1.1, S.1, hG.moved hW⟩⟩
                      have hroom : (qrm d' c1 s1).frames + 1 ≤ R.frames ∧ 8 + (qn j' + 11) + (qrm d' c1 s1).locals ≤ R.locals := by
                        show d' + 1 + 1 ≤ R.frames ∧ 8 + (qn j' + 11) + 60 * (d' + 1) ≤ R.locals
                        omega
                      have hlen' : (as'.map (zenc (qad ad))).length = qna j' := by
                        rw [List.length_map]
                        rw [has', List.length_cons] at haslen
                        omega
                      show W p l e R s m args below meth c H locs cells slots Q (F0 m pc lsA (st.map (zenc (qad ad))))
                      rw [hstk2]
                      have kk : ∀ (ad' : Nat → Nat) (H1 : Heap) (locs1 : List Loc), (∀ k, qin w.length k → ad' k = ad k) → qWd D cI cS hb ad' f1.2.2.2 H1 → va_S (zA0 hb) s.heap H1 locs1 → W p l e R s m args below meth c H1 locs1 (cells + c1) (slots + s1) Q (F0 m (pc + 3) lsA (rest.map (zenc (qad ad)))) := by
                        intro ad' H1 locs1 hag hW1 hS1
                        have hrok : rest.all (qvok w.length) = true := by
                          rw [hrest, List.all_eq_true]
                          intro v hv
                          exact List.all_eq_true.mp ok2 v (List.mem_of_mem_drop hv)
                        rw [← qst_enc hag hrok]
                        refine ih (d' + 1) j (pc + 3) ls rest f1.2.2.2 f c2 s2 hr2 p e R s m args below meth c (cells + c1) (slots + s1) Q ad' H1 locs1 lsA hx hb9 hml hown hts hG hbs hnm ⟨hR.1, hR.2.1, by omega, by omega⟩ ⟨hW1, hS1, S.2.2.1, by rw [qls_enc hag ls 0 ok3]; exact S.2.2.2⟩ (fun ad2 H2 locs2 lsA2 hag2 S2 hpc => ?_)
                        rw [Nat.add_assoc, Nat.add_assoc]
                        exact hret ad2 H2 locs2 lsA2 (fun k hk => (hag2 k (qin_le hk (qrun_len _ _ _ _ _ _ _ _ _ _ hr1))).trans (hag k hk)) S2 hpc
                      cases b with
                      | false =>
                        obtain ⟨-, hlink⟩ := qkf_ok (o := j) (x := x) (j := j') (by simpa using hk)
                        refine qcallW (va_runI (own := zC j) (b := ad b0.1) (As := as'.map (zenc (qad ad))) (rest := rest.map (zenc (qad ad))) ⟨hx, hb9, hml, hown, hts⟩ hM (cwI (ws' := zTb) (qna j') hts (qws_good hj) rfl rfl rfl (by rw [y1]; exact hts _ wini) (hts _ hlink) (hts _ winst) y2 ⟨y3, y4, y5⟩ hroom) ⟨qPc_blind, hPU⟩ rfl hlen' S.2.2.2.1 rfl (lv_room (by rw [zcat_sum]; exact hsum)) hd ⟨by omega, by omega⟩) S.2.1 kk
                      | true =>
                        obtain ⟨-, ww, hmem⟩ := qmf_ok (o := j) (x := x) (j := j') (by simpa using hk)
                        have hnw := hG.2.1 _ hmem
                        refine qcallW (va_runIN (own := zC j) (host := "ApronStrings") (b := ad b0.1) (As := as'.map (zenc (qad ad))) (rest := rest.map (zenc (qad ad))) ⟨hx, hb9, hml, hown, hts⟩ hM ⟨va_cnB (ws' := zTb) (qna j') hts (qws_good hj) rfl rfl rfl hnw (by rw [y1]; exact hts _ wini) ⟨y3, y4, y5⟩ hroom, y2, hts _ winst⟩ ⟨qPc_blind, hPU⟩ rfl hlen' S.2.2.2.1 rfl (lv_room (by rw [zcat_sum]; exact hsum)) hd ⟨by omega, by omega⟩) S.2.1 kk
                    · cases h
                  · cases h
                · cases h
