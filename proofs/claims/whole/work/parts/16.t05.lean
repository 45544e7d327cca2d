/-! fM_restore -/
def fM_restore (N : Nat) (σ : zS) : Option (Int32 × zS) := (if (σ 8 0 4) = 0 then zb2 (fM_error 2 σ) fun r4 s3 => some (r4, s3) else (fM_copyAll_31_30 N σ).bind fun s6 => some (s6 30 0 0, s6))
set_option maxHeartbeats 4000000 in
theorem kM_restore (N : Nat) (σ : zS) (w : Int32 × zS) (h : fM_restore N σ = some w) (d : Nat) (hd : 1 ≤ d) : zEv d 214 0 [some (zR 8 0)] [] σ (some (zI w.1), w.2) := by
  unfold fM_restore at h
  refine ev_s i214_0 (p := 1) rfl ?_
  refine ev_getf i214_1 zf8_293 (u := zI (σ 8 0 4)) rfl (p := 4) rfl ?_
  refine ev_ifne i214_4 (t := 13) (by decide) (p := 7) rfl h (fun c1 h => ?_) (fun c1 h => ?_)
  · refine ev_s i214_7 (p := 8) rfl ?_
    refine ev_s i214_8 (p := 9) (zic_2 _ _ _ _ _) ?_
    obtain ⟨r4, s3, hr2, h⟩ := b2_some h
    refine ev_callV i214_9 zc8_58 zm110 zo110 (as' := [zI 2]) (rest := []) rfl rfl (Nat.le_of_ble_eq_true rfl) (Nat.le_of_ble_eq_true rfl) (Nat.le_of_ble_eq_true rfl) (by omega) (l0 := [some (zR 8 0), some (zI 2)]) rfl (p := 12) rfl (kM_error 2 σ (r4, s3) hr2 (d - 1) (by omega)) ?_
    change zEv d 214 12 [some (zR 8 0)] [zI r4] s3 _
    obtain rfl := Option.some.inj h
    exact ev_iret i214_12 zr214
  · refine ev_s i214_13 (p := 14) rfl ?_
    refine ev_getf i214_14 zf8_13 (u := zR 31 0) rfl (p := 17) rfl ?_
    refine ev_s i214_17 (p := 18) rfl ?_
    refine ev_getf i214_18 zf8_7 (u := zR 30 0) rfl (p := 21) rfl ?_
    obtain ⟨s6, hr5, h⟩ := bd_some h
    refine ev_callS i214_21 zn8_289 zc8_289 zm113 (as := [zR 31 0, zR 30 0]) (rest := []) rfl rfl (Nat.le_of_ble_eq_true rfl) (Nat.le_of_ble_eq_true rfl) (Nat.le_of_ble_eq_true rfl) (by omega) (l0 := [some (zR 31 0), some (zR 30 0), none]) rfl (p := 24) rfl (kM_copyAll_31_30 N σ s6 hr5 (d - 1) (by omega)) ?_
    change zEv d 214 24 [some (zR 8 0)] [] s6 _
    refine ev_s i214_24 (p := 25) rfl ?_
    refine ev_getf i214_25 zf8_7 (u := zR 30 0) rfl (p := 28) rfl ?_
    refine ev_s i214_28 (p := 29) (zic_0 _ _ _ _ _) ?_
    refine ev_ialdK i214_29 rfl (n := 394) rfl (by decide) (p := 30) rfl ?_
    change zEv d 214 30 [some (zR 8 0)] [zI (s6 30 0 0)] s6 _
    obtain rfl := Option.some.inj h
    exact ev_iret i214_30 zr214
/-! fA_tell -/
def fA_tell (x1 : Int32) (σ : zS) : Option (Int32 × zS) := (if (σ 3 1 1) < 24 then (fW_add 1 x1 σ).bind fun s3 => some (s3 3 1 1, s3) else zb2 (fA_refuse 4 σ) fun r6 s5 => some (r6, s5))
set_option maxHeartbeats 4000000 in
theorem kA_tell (x1 : Int32) (σ : zS) (w : Int32 × zS) (h : fA_tell x1 σ = some w) (d : Nat) (hd : 1 ≤ d) : zEv d 98 0 [some (zR 7 0), some (zI x1)] [] σ (some (zI w.1), w.2) := by
  unfold fA_tell at h
  refine ev_s i98_0 (p := 1) rfl ?_
  refine ev_getf i98_1 zf7_10 (u := zR 5 0) rfl (p := 4) rfl ?_
  refine ev_getf i98_4 zf7_261 (u := zR 3 1) rfl (p := 7) rfl ?_
  refine ev_getf i98_7 zf7_128 (u := zI (σ 3 1 1)) rfl (p := 10) rfl ?_
  refine ev_s i98_10 (p := 12) (zib_24 _ _ _ _ _) ?_
  refine ev_cmplt i98_12 (t := 21) (by decide) (p := 15) rfl h (fun c1 h => ?_) (fun c1 h => ?_)
  · refine ev_s i98_21 (p := 22) rfl ?_
    refine ev_getf i98_22 zf7_10 (u := zR 5 0) rfl (p := 25) rfl ?_
    refine ev_getf i98_25 zf7_261 (u := zR 3 1) rfl (p := 28) rfl ?_
    refine ev_s i98_28 (p := 29) rfl ?_
    obtain ⟨s3, hr2, h⟩ := bd_some h
    refine ev_callV i98_29 zc7_133 zm48 zo48 (as' := [zI x1]) (rest := []) rfl rfl (Nat.le_of_ble_eq_true rfl) (Nat.le_of_ble_eq_true rfl) (Nat.le_of_ble_eq_true rfl) (by omega) (l0 := [some (zR 3 1), some (zI x1)]) rfl (p := 32) rfl (kW_add 1 x1 σ s3 hr2 (d - 1) (by omega)) ?_
    change zEv d 98 32 [some (zR 7 0), some (zI x1)] [] s3 _
    refine ev_s i98_32 (p := 33) rfl ?_
    refine ev_getf i98_33 zf7_10 (u := zR 5 0) rfl (p := 36) rfl ?_
    refine ev_getf i98_36 zf7_261 (u := zR 3 1) rfl (p := 39) rfl ?_
    refine ev_getf i98_39 zf7_128 (u := zI (s3 3 1 1)) rfl (p := 42) rfl ?_
    obtain rfl := Option.some.inj h
    exact ev_iret i98_42 zr98
  · refine ev_s i98_15 (p := 16) rfl ?_
    refine ev_s i98_16 (p := 17) (zic_4 _ _ _ _ _) ?_
    obtain ⟨r6, s5, hr4, h⟩ := b2_some h
    refine ev_callV i98_17 zc7_72 zm102 zo102 (as' := [zI 4]) (rest := []) rfl rfl (Nat.le_of_ble_eq_true rfl) (Nat.le_of_ble_eq_true rfl) (Nat.le_of_ble_eq_true rfl) (by omega) (l0 := [some (zR 7 0), some (zI 4)]) rfl (p := 20) rfl (kA_refuse 4 σ (r6, s5) hr4 (d - 1) (by omega)) ?_
    change zEv d 98 20 [some (zR 7 0), some (zI x1)] [zI r6] s5 _
    obtain rfl := Option.some.inj h
    exact ev_iret i98_20 zr98
/-! fM_tell -/
def fM_tell (x1 : Int32) (σ : zS) : Option (Int32 × zS) := (if (σ 30 0 3) = 24 then zb2 (fM_error 4 σ) fun r4 s3 => some (r4, s3) else zgd (zin (370 + (σ 30 0 3)) 394) (zlt (zup σ 30 0 (370 + (σ 30 0 3)).toNatClampNeg x1) fun s5 => zlt (zup s5 30 0 3 ((s5 30 0 3) + 1)) fun s7 => some (s7 30 0 3, s7)))
set_option maxHeartbeats 4000000 in
theorem kM_tell (x1 : Int32) (σ : zS) (w : Int32 × zS) (h : fM_tell x1 σ = some w) (d : Nat) (hd : 1 ≤ d) : zEv d 215 0 [some (zR 8 0), some (zI x1)] [] σ (some (zI w.1), w.2) := by
  unfold fM_tell at h
  refine ev_s i215_0 (p := 1) rfl ?_
  refine ev_getf i215_1 zf8_7 (u := zR 30 0) rfl (p := 4) rfl ?_
  refine ev_s i215_4 (p := 5) (zic_3 _ _ _ _ _) ?_
  refine ev_ialdK i215_5 rfl (n := 394) rfl (by decide) (p := 6) rfl ?_
  change zEv d 215 6 [some (zR 8 0), some (zI x1)] [zI (σ 30 0 3)] σ _
  refine ev_s i215_6 (p := 8) (zib_24 _ _ _ _ _) ?_
  refine ev_cmpne i215_8 (t := 17) (by decide) (p := 11) rfl h (fun c1 h => ?_) (fun c1 h => ?_)
  · refine ev_s i215_11 (p := 12) rfl ?_
    refine ev_s i215_12 (p := 13) (zic_4 _ _ _ _ _) ?_
    obtain ⟨r4, s3, hr2, h⟩ := b2_some h
    refine ev_callV i215_13 zc8_58 zm110 zo110 (as' := [zI 4]) (rest := []) rfl rfl (Nat.le_of_ble_eq_true rfl) (Nat.le_of_ble_eq_true rfl) (Nat.le_of_ble_eq_true rfl) (by omega) (l0 := [some (zR 8 0), some (zI 4)]) rfl (p := 16) rfl (kM_error 4 σ (r4, s3) hr2 (d - 1) (by omega)) ?_
    change zEv d 215 16 [some (zR 8 0), some (zI x1)] [zI r4] s3 _
    obtain rfl := Option.some.inj h
    exact ev_iret i215_16 zr215
  · refine ev_s i215_17 (p := 18) rfl ?_
    refine ev_getf i215_18 zf8_7 (u := zR 30 0) rfl (p := 21) rfl ?_
    refine ev_s i215_21 (p := 24) (zis_370 _ _ _ _ _) ?_
    refine ev_s i215_24 (p := 25) rfl ?_
    refine ev_getf i215_25 zf8_7 (u := zR 30 0) rfl (p := 28) rfl ?_
    refine ev_s i215_28 (p := 29) (zic_3 _ _ _ _ _) ?_
    refine ev_ialdK i215_29 rfl (n := 394) rfl (by decide) (p := 30) rfl ?_
    change zEv d 215 30 [some (zR 8 0), some (zI x1)] [zI (σ 30 0 3), zI 370, zR 30 0] σ _
    refine ev_s i215_30 (p := 31) (t := [zI (370 + (σ 30 0 3)), zR 30 0]) rfl ?_
    refine ev_s i215_31 (p := 32) rfl ?_
    refine ev_iast i215_32 rfl (n := 394) rfl (p := 33) rfl h (fun g6 h => ?_)
    refine ev_lets h (fun s5 es5 h => ?_)
    refine ev_s i215_33 (p := 34) rfl ?_
    refine ev_getf i215_34 zf8_7 (u := zR 30 0) rfl (p := 37) rfl ?_
    refine ev_s i215_37 (p := 38) (zic_3 _ _ _ _ _) ?_
    refine ev_s i215_38 (p := 39) rfl ?_
    refine ev_ialdK i215_39 rfl (n := 394) rfl (by decide) (p := 40) rfl ?_
    change zEv d 215 40 [some (zR 8 0), some (zI x1)] [zI (s5 30 0 3), zI 3, zR 30 0] s5 _
    refine ev_s i215_40 (p := 41) (zic_1 _ _ _ _ _) ?_
    refine ev_s i215_41 (p := 42) (t := [zI ((s5 30 0 3) + 1), zI 3, zR 30 0]) rfl ?_
    refine ev_iastK i215_42 rfl (n := 394) rfl (by decide) (p := 43) rfl ?_
    change zEv d 215 43 [some (zR 8 0), some (zI x1)] [] (zup s5 30 0 3 ((s5 30 0 3) + 1)) _
    refine ev_lets h (fun s7 es7 h => ?_)
    refine ev_s i215_43 (p := 44) rfl ?_
    refine ev_getf i215_44 zf8_7 (u := zR 30 0) rfl (p := 47) rfl ?_
    refine ev_s i215_47 (p := 48) (zic_3 _ _ _ _ _) ?_
    refine ev_ialdK i215_48 rfl (n := 394) rfl (by decide) (p := 49) rfl ?_
    change zEv d 215 49 [some (zR 8 0), some (zI x1)] [zI (s7 30 0 3)] s7 _
    obtain rfl := Option.some.inj h
    exact ev_iret i215_49 zr215
/-! fA_check -/
def fA_check_L24 (N : Nat) : Nat → Int32 → Int32 → zS → Option (Int32 × zS)
  | 0, _, _, _ => none
  | n + 1, y1, y2, σ => (if y1 ≤ y2 then some (0, σ) else (fA_isThere y2 σ).bind fun r5 => (if r5 = 0 then some (y2 + 1, σ) else zgd (zin y2 24) (zb2 (fR_goesNow N 0 y2 σ) fun r10 s9 => (if (σ 22 1 y2.toNatClampNeg) = r10 then fA_check_L24 N n y1 (y2 + 1) s9 else some (y2 + 1, s9)))))
set_option maxHeartbeats 4000000 in
theorem kA_check_L24 (N : Nat) (d : Nat) (hd : 3 ≤ d)  : ∀ n : Nat, ∀ (y1 : Int32) (y2 : Int32) (σ : zS) (w : Int32 × zS), fA_check_L24 N n y1 y2 σ = some w → zEv d 99 24 [some (zR 7 0), some (zI y1), some (zI y2)] [] σ (some (zI w.1), w.2) := by
  intro n
  induction n with
  | zero =>
    intro y1 y2 σ w h
    cases h
  | succ n ih =>
    intro y1 y2 σ w h
    rw [fA_check_L24] at h
    refine ev_s i99_24 (p := 25) rfl ?_
    refine ev_s i99_25 (p := 26) rfl ?_
    refine ev_cmpge i99_26 (t := 70) (by decide) (p := 29) rfl h (fun c3 h => ?_) (fun c3 h => ?_)
    · refine ev_s i99_70 (p := 71) (zic_0 _ _ _ _ _) ?_
      obtain rfl := Option.some.inj h
      exact ev_iret i99_71 zr99
    · refine ev_s i99_29 (p := 30) rfl ?_
      refine ev_s i99_30 (p := 31) rfl ?_
      obtain ⟨r5, hr4, h⟩ := bd_some h
      refine ev_callV i99_31 zc7_68 zm104 zo104 (as' := [zI y2]) (rest := []) rfl rfl (Nat.le_of_ble_eq_true rfl) (Nat.le_of_ble_eq_true rfl) (Nat.le_of_ble_eq_true rfl) (by omega) (l0 := [some (zR 7 0), some (zI y2)]) rfl (p := 34) rfl (kA_isThere y2 σ r5 hr4 (d - 1) (by omega)) ?_
      change zEv d 99 34 [some (zR 7 0), some (zI y1), some (zI y2)] [zI r5] σ _
      refine ev_ifeq i99_34 (t := 60) (by decide) (p := 37) rfl h (fun c6 h => ?_) (fun c6 h => ?_)
      · refine ev_s i99_60 (p := 61) rfl ?_
        refine ev_s i99_61 (p := 62) (zic_1 _ _ _ _ _) ?_
        refine ev_s i99_62 (p := 63) (t := [zI (y2 + 1)]) rfl ?_
        obtain rfl := Option.some.inj h
        exact ev_iret i99_63 zr99
      · refine ev_s i99_37 (p := 38) rfl ?_
        refine ev_getf i99_38 zf7_10 (u := zR 5 0) rfl (p := 41) rfl ?_
        refine ev_getf i99_41 zf7_261 (u := zR 3 1) rfl (p := 44) rfl ?_
        refine ev_getf i99_44 zf7_264 (u := zR 22 1) rfl (p := 47) rfl ?_
        refine ev_s i99_47 (p := 48) rfl ?_
        refine ev_iald i99_48 rfl (n := 24) rfl (p := 49) rfl h (fun g7 h => ?_)
        refine ev_s i99_49 (p := 50) rfl ?_
        refine ev_getf i99_50 zf7_47 (u := zR 2 0) rfl (p := 53) rfl ?_
        refine ev_s i99_53 (p := 54) rfl ?_
        obtain ⟨r10, s9, hr8, h⟩ := b2_some h
        refine ev_callV i99_54 zc7_108 zm31 zo31 (as' := [zI y2]) (rest := [zI (σ 22 1 y2.toNatClampNeg)]) rfl rfl (Nat.le_of_ble_eq_true rfl) (Nat.le_of_ble_eq_true rfl) (Nat.le_of_ble_eq_true rfl) (by omega) (l0 := [some (zR 2 0), some (zI y2)]) rfl (p := 57) rfl (kR_goesNow N 0 y2 σ (r10, s9) hr8 (d - 1) (by omega)) ?_
        change zEv d 99 57 [some (zR 7 0), some (zI y1), some (zI y2)] [zI r10, zI (σ 22 1 y2.toNatClampNeg)] s9 _
        refine ev_cmpeq i99_57 (t := 64) (by decide) (p := 60) rfl h (fun c11 h => ?_) (fun c11 h => ?_)
        · refine ev_iinc i99_64 zii_1 rfl (l := [some (zR 7 0), some (zI y1), some (zI (y2 + 1))]) rfl (p := 67) rfl ?_
          refine ev_goto i99_67 (t := 24) (by decide) ?_
          exact ih y1 (y2 + 1) s9 w h
        · refine ev_s i99_60 (p := 61) rfl ?_
          refine ev_s i99_61 (p := 62) (zic_1 _ _ _ _ _) ?_
          refine ev_s i99_62 (p := 63) (t := [zI (y2 + 1)]) rfl ?_
          obtain rfl := Option.some.inj h
          exact ev_iret i99_63 zr99
def fA_check (N : Nat) (σ : zS) : Option (Int32 × zS) := zlt (σ 3 1 1) fun v1 => zlt (zup σ 3 1 1 0) fun s2 => fA_check_L24 N N v1 0 s2
set_option maxHeartbeats 4000000 in
theorem kA_check (N : Nat) (σ : zS) (w : Int32 × zS) (h : fA_check N σ = some w) (d : Nat) (hd : 3 ≤ d) : zEv d 99 0 [some (zR 7 0), none, none] [] σ (some (zI w.1), w.2) := by
  unfold fA_check at h
  refine ev_s i99_0 (p := 1) rfl ?_
  refine ev_getf i99_1 zf7_10 (u := zR 5 0) rfl (p := 4) rfl ?_
  refine ev_getf i99_4 zf7_261 (u := zR 3 1) rfl (p := 7) rfl ?_
  refine ev_getf i99_7 zf7_128 (u := zI (σ 3 1 1)) rfl (p := 10) rfl ?_
  refine ev_let h (fun v1 ev1 h => ?_)
  refine ev_s i99_10 (p := 11) (l := [some (zR 7 0), some (zI v1), none]) rfl ?_
  refine ev_s i99_11 (p := 12) rfl ?_
  refine ev_getf i99_12 zf7_10 (u := zR 5 0) rfl (p := 15) rfl ?_
  refine ev_getf i99_15 zf7_261 (u := zR 3 1) rfl (p := 18) rfl ?_
  refine ev_s i99_18 (p := 19) (zic_0 _ _ _ _ _) ?_
  refine ev_putf i99_19 zf7_128 rfl rfl rfl (p := 22) rfl ?_
  refine ev_lets h (fun s2 es2 h => ?_)
  refine ev_s i99_22 (p := 23) (zic_0 _ _ _ _ _) ?_
  refine ev_s i99_23 (p := 24) (l := [some (zR 7 0), some (zI v1), some (zI 0)]) rfl ?_
  exact kA_check_L24 N d hd N v1 0 s2 w h
/-! fM_check -/
def fM_check_L16 (N : Nat) : Nat → Int32 → Int32 → zS → Option (Int32 × zS)
  | 0, _, _, _ => none
  | n + 1, y1, y2, σ => (if y1 ≤ y2 then some (0, σ) else (fM_isOne y2 σ).bind fun r5 => (if r5 = 0 then some (1 + y2, σ) else zgd (zin (370 + y2) 394) (zb2 (fM_goesNow N y2 σ) fun r10 s9 => (if (σ 30 0 (370 + y2).toNatClampNeg) = r10 then fM_check_L16 N n y1 (y2 + 1) s9 else some (1 + y2, s9)))))
set_option maxHeartbeats 4000000 in
theorem kM_check_L16 (N : Nat) (d : Nat) (hd : 4 ≤ d)  : ∀ n : Nat, ∀ (y1 : Int32) (y2 : Int32) (σ : zS) (w : Int32 × zS), fM_check_L16 N n y1 y2 σ = some w → zEv d 216 16 [some (zR 8 0), some (zI y1), some (zI y2)] [] σ (some (zI w.1), w.2) := by
  intro n
  induction n with
  | zero =>
    intro y1 y2 σ w h
    cases h
  | succ n ih =>
    intro y1 y2 σ w h
    rw [fM_check_L16] at h
    refine ev_s i216_16 (p := 17) rfl ?_
    refine ev_s i216_17 (p := 18) rfl ?_
    refine ev_cmpge i216_18 (t := 57) (by decide) (p := 21) rfl h (fun c3 h => ?_) (fun c3 h => ?_)
    · refine ev_s i216_57 (p := 58) (zic_0 _ _ _ _ _) ?_
      obtain rfl := Option.some.inj h
      exact ev_iret i216_58 zr216
    · refine ev_s i216_21 (p := 22) rfl ?_
      refine ev_s i216_22 (p := 23) rfl ?_
      obtain ⟨r5, hr4, h⟩ := bd_some h
      refine ev_callV i216_23 zc8_194 zm116 zo116 (as' := [zI y2]) (rest := []) rfl rfl (Nat.le_of_ble_eq_true rfl) (Nat.le_of_ble_eq_true rfl) (Nat.le_of_ble_eq_true rfl) (by omega) (l0 := [some (zR 8 0), some (zI y2)]) rfl (p := 26) rfl (kM_isOne y2 σ r5 hr4 (d - 1) (by omega)) ?_
      change zEv d 216 26 [some (zR 8 0), some (zI y1), some (zI y2)] [zI r5] σ _
      refine ev_ifeq i216_26 (t := 47) (by decide) (p := 29) rfl h (fun c6 h => ?_) (fun c6 h => ?_)
      · refine ev_s i216_47 (p := 48) (zic_1 _ _ _ _ _) ?_
        refine ev_s i216_48 (p := 49) rfl ?_
        refine ev_s i216_49 (p := 50) (t := [zI (1 + y2)]) rfl ?_
        obtain rfl := Option.some.inj h
        exact ev_iret i216_50 zr216
      · refine ev_s i216_29 (p := 30) rfl ?_
        refine ev_getf i216_30 zf8_7 (u := zR 30 0) rfl (p := 33) rfl ?_
        refine ev_s i216_33 (p := 36) (zis_370 _ _ _ _ _) ?_
        refine ev_s i216_36 (p := 37) rfl ?_
        refine ev_s i216_37 (p := 38) (t := [zI (370 + y2), zR 30 0]) rfl ?_
        refine ev_iald i216_38 rfl (n := 394) rfl (p := 39) rfl h (fun g7 h => ?_)
        refine ev_s i216_39 (p := 40) rfl ?_
        refine ev_s i216_40 (p := 41) rfl ?_
        obtain ⟨r10, s9, hr8, h⟩ := b2_some h
        refine ev_callV i216_41 zc8_181 zm144 zo144 (as' := [zI y2]) (rest := [zI (σ 30 0 (370 + y2).toNatClampNeg)]) rfl rfl (Nat.le_of_ble_eq_true rfl) (Nat.le_of_ble_eq_true rfl) (Nat.le_of_ble_eq_true rfl) (by omega) (l0 := [some (zR 8 0), some (zI y2)]) rfl (p := 44) rfl (kM_goesNow N y2 σ (r10, s9) hr8 (d - 1) (by omega)) ?_
        change zEv d 216 44 [some (zR 8 0), some (zI y1), some (zI y2)] [zI r10, zI (σ 30 0 (370 + y2).toNatClampNeg)] s9 _
        refine ev_cmpeq i216_44 (t := 51) (by decide) (p := 47) rfl h (fun c11 h => ?_) (fun c11 h => ?_)
        · refine ev_iinc i216_51 zii_1 rfl (l := [some (zR 8 0), some (zI y1), some (zI (y2 + 1))]) rfl (p := 54) rfl ?_
          refine ev_goto i216_54 (t := 16) (by decide) ?_
          exact ih y1 (y2 + 1) s9 w h
        · refine ev_s i216_47 (p := 48) (zic_1 _ _ _ _ _) ?_
          refine ev_s i216_48 (p := 49) rfl ?_
          refine ev_s i216_49 (p := 50) (t := [zI (1 + y2)]) rfl ?_
          obtain rfl := Option.some.inj h
          exact ev_iret i216_50 zr216
def fM_check (N : Nat) (σ : zS) : Option (Int32 × zS) := zlt (σ 30 0 3) fun v1 => zlt (zup σ 30 0 3 0) fun s2 => fM_check_L16 N N v1 0 s2
set_option maxHeartbeats 4000000 in
theorem kM_check (N : Nat) (σ : zS) (w : Int32 × zS) (h : fM_check N σ = some w) (d : Nat) (hd : 4 ≤ d) : zEv d 216 0 [some (zR 8 0), none, none] [] σ (some (zI w.1), w.2) := by
  unfold fM_check at h
  refine ev_s i216_0 (p := 1) rfl ?_
  refine ev_getf i216_1 zf8_7 (u := zR 30 0) rfl (p := 4) rfl ?_
  refine ev_s i216_4 (p := 5) (zic_3 _ _ _ _ _) ?_
  refine ev_ialdK i216_5 rfl (n := 394) rfl (by decide) (p := 6) rfl ?_
  change zEv d 216 6 [some (zR 8 0), none, none] [zI (σ 30 0 3)] σ _
  refine ev_let h (fun v1 ev1 h => ?_)
  refine ev_s i216_6 (p := 7) (l := [some (zR 8 0), some (zI v1), none]) rfl ?_
  refine ev_s i216_7 (p := 8) rfl ?_
  refine ev_getf i216_8 zf8_7 (u := zR 30 0) rfl (p := 11) rfl ?_
  refine ev_s i216_11 (p := 12) (zic_3 _ _ _ _ _) ?_
  refine ev_s i216_12 (p := 13) (zic_0 _ _ _ _ _) ?_
  refine ev_iastK i216_13 rfl (n := 394) rfl (by decide) (p := 14) rfl ?_
  change zEv d 216 14 [some (zR 8 0), some (zI v1), none] [] (zup σ 30 0 3 0) _
  refine ev_lets h (fun s2 es2 h => ?_)
  refine ev_s i216_14 (p := 15) (zic_0 _ _ _ _ _) ?_
  refine ev_s i216_15 (p := 16) (l := [some (zR 8 0), some (zI v1), some (zI 0)]) rfl ?_
  exact kM_check_L16 N d hd N v1 0 s2 w h
/-! fR_sum_18 -/
def fR_sum_18_L4 (N : Nat) (b : Nat) (p1 : Nat) : Nat → Int32 → Int32 → zS → Option (Int32)
  | 0, _, _, _ => none
  | n + 1, y2, y3, σ => (if (σ 2 b 9) ≤ y3 then some (y2) else zgd (zin y3 8) (zlt (y2 + (σ 18 p1 y3.toNatClampNeg)) fun v3 => fR_sum_18_L4 N b p1 n v3 (y3 + 1) σ))
set_option maxHeartbeats 4000000 in
theorem kR_sum_18_L4 (N : Nat) (b : Nat) (p1 : Nat) (d : Nat) (hd : 0 ≤ d)  : ∀ n : Nat, ∀ (y2 : Int32) (y3 : Int32) (σ : zS) (w : Int32), fR_sum_18_L4 N b p1 n y2 y3 σ = some w → zEv d 23 4 [some (zR 2 b), some (zR 18 p1), some (zI y2), some (zI y3)] [] σ (some (zI w), σ) := by
  intro n
  induction n with
  | zero =>
    intro y2 y3 σ w h
    cases h
  | succ n ih =>
    intro y2 y3 σ w h
    rw [fR_sum_18_L4] at h
    refine ev_s i23_4 (p := 5) rfl ?_
    refine ev_s i23_5 (p := 6) rfl ?_
    refine ev_getf i23_6 zf2_53 (u := zI (σ 2 b 9)) rfl (p := 9) rfl ?_
    refine ev_cmpge i23_9 (t := 24) (by decide) (p := 12) rfl h (fun c1 h => ?_) (fun c1 h => ?_)
    · refine ev_s i23_24 (p := 25) rfl ?_
      obtain rfl := Option.some.inj h
      exact ev_iret i23_25 zr23
    · refine ev_s i23_12 (p := 13) rfl ?_
      refine ev_s i23_13 (p := 14) rfl ?_
      refine ev_s i23_14 (p := 15) rfl ?_
      refine ev_iald i23_15 rfl (n := 8) rfl (p := 16) rfl h (fun g2 h => ?_)
      refine ev_s i23_16 (p := 17) (t := [zI (y2 + (σ 18 p1 y3.toNatClampNeg))]) rfl ?_
      refine ev_let h (fun v3 ev3 h => ?_)
      refine ev_s i23_17 (p := 18) (l := [some (zR 2 b), some (zR 18 p1), some (zI v3), some (zI y3)]) rfl ?_
      refine ev_iinc i23_18 zii_1 rfl (l := [some (zR 2 b), some (zR 18 p1), some (zI v3), some (zI (y3 + 1))]) rfl (p := 21) rfl ?_
      refine ev_goto i23_21 (t := 4) (by decide) ?_
      exact ih v3 (y3 + 1) σ w h
def fR_sum_18 (N : Nat) (b : Nat) (p1 : Nat) (σ : zS) : Option (Int32) := fR_sum_18_L4 N b p1 N 0 0 σ
set_option maxHeartbeats 4000000 in
theorem kR_sum_18 (N : Nat) (b : Nat) (p1 : Nat) (σ : zS) (w : Int32) (h : fR_sum_18 N b p1 σ = some w) (d : Nat) (hd : 0 ≤ d) : zEv d 23 0 [some (zR 2 b), some (zR 18 p1), none, none] [] σ (some (zI w), σ) := by
  unfold fR_sum_18 at h
  refine ev_s i23_0 (p := 1) (zic_0 _ _ _ _ _) ?_
  refine ev_s i23_1 (p := 2) (l := [some (zR 2 b), some (zR 18 p1), some (zI 0), none]) rfl ?_
  refine ev_s i23_2 (p := 3) (zic_0 _ _ _ _ _) ?_
  refine ev_s i23_3 (p := 4) (l := [some (zR 2 b), some (zR 18 p1), some (zI 0), some (zI 0)]) rfl ?_
  exact kR_sum_18_L4 N b p1 d hd N 0 0 σ w h
/-! fR_sum_19 -/
def fR_sum_19_L4 (N : Nat) (b : Nat) (p1 : Nat) : Nat → Int32 → Int32 → zS → Option (Int32)
  | 0, _, _, _ => none
  | n + 1, y2, y3, σ => (if (σ 2 b 9) ≤ y3 then some (y2) else zgd (zin y3 8) (zlt (y2 + (σ 19 p1 y3.toNatClampNeg)) fun v3 => fR_sum_19_L4 N b p1 n v3 (y3 + 1) σ))
set_option maxHeartbeats 4000000 in
theorem kR_sum_19_L4 (N : Nat) (b : Nat) (p1 : Nat) (d : Nat) (hd : 0 ≤ d)  : ∀ n : Nat, ∀ (y2 : Int32) (y3 : Int32) (σ : zS) (w : Int32), fR_sum_19_L4 N b p1 n y2 y3 σ = some w → zEv d 23 4 [some (zR 2 b), some (zR 19 p1), some (zI y2), some (zI y3)] [] σ (some (zI w), σ) := by
  intro n
  induction n with
  | zero =>
    intro y2 y3 σ w h
    cases h
  | succ n ih =>
    intro y2 y3 σ w h
    rw [fR_sum_19_L4] at h
    refine ev_s i23_4 (p := 5) rfl ?_
    refine ev_s i23_5 (p := 6) rfl ?_
    refine ev_getf i23_6 zf2_53 (u := zI (σ 2 b 9)) rfl (p := 9) rfl ?_
    refine ev_cmpge i23_9 (t := 24) (by decide) (p := 12) rfl h (fun c1 h => ?_) (fun c1 h => ?_)
    · refine ev_s i23_24 (p := 25) rfl ?_
      obtain rfl := Option.some.inj h
      exact ev_iret i23_25 zr23
    · refine ev_s i23_12 (p := 13) rfl ?_
      refine ev_s i23_13 (p := 14) rfl ?_
      refine ev_s i23_14 (p := 15) rfl ?_
      refine ev_iald i23_15 rfl (n := 8) rfl (p := 16) rfl h (fun g2 h => ?_)
      refine ev_s i23_16 (p := 17) (t := [zI (y2 + (σ 19 p1 y3.toNatClampNeg))]) rfl ?_
      refine ev_let h (fun v3 ev3 h => ?_)
      refine ev_s i23_17 (p := 18) (l := [some (zR 2 b), some (zR 19 p1), some (zI v3), some (zI y3)]) rfl ?_
      refine ev_iinc i23_18 zii_1 rfl (l := [some (zR 2 b), some (zR 19 p1), some (zI v3), some (zI (y3 + 1))]) rfl (p := 21) rfl ?_
      refine ev_goto i23_21 (t := 4) (by decide) ?_
      exact ih v3 (y3 + 1) σ w h
def fR_sum_19 (N : Nat) (b : Nat) (p1 : Nat) (σ : zS) : Option (Int32) := fR_sum_19_L4 N b p1 N 0 0 σ
set_option maxHeartbeats 4000000 in
theorem kR_sum_19 (N : Nat) (b : Nat) (p1 : Nat) (σ : zS) (w : Int32) (h : fR_sum_19 N b p1 σ = some w) (d : Nat) (hd : 0 ≤ d) : zEv d 23 0 [some (zR 2 b), some (zR 19 p1), none, none] [] σ (some (zI w), σ) := by
  unfold fR_sum_19 at h
  refine ev_s i23_0 (p := 1) (zic_0 _ _ _ _ _) ?_
  refine ev_s i23_1 (p := 2) (l := [some (zR 2 b), some (zR 19 p1), some (zI 0), none]) rfl ?_
  refine ev_s i23_2 (p := 3) (zic_0 _ _ _ _ _) ?_
  refine ev_s i23_3 (p := 4) (l := [some (zR 2 b), some (zR 19 p1), some (zI 0), some (zI 0)]) rfl ?_
  exact kR_sum_19_L4 N b p1 d hd N 0 0 σ w h
/-! fA_count -/
def fA_count (N : Nat) (x1 : Int32) (σ : zS) : Option (Int32 × zS) := (if x1 = 0 then some (σ 2 0 9, σ) else (if x1 = 1 then some (σ 2 0 10, σ) else (if x1 = 2 then some (σ 2 0 11, σ) else (if x1 = 3 then (fR_tied N 0 σ).bind fun r5 => some (r5, σ) else (if x1 = 4 then (fR_sum_18 N 0 0 σ).bind fun r8 => some (r8, σ) else (if x1 = 5 then (fR_sum_19 N 0 0 σ).bind fun r11 => some (r11, σ) else (if x1 = 6 then some (σ 3 0 1, σ) else (if x1 = 7 then some (σ 3 1 1, σ) else (if x1 = 8 then some (σ 6 0 1, σ) else (if x1 = 9 then some (σ 2 0 12, σ) else zb2 (fA_refuse 1 σ) fun r19 s18 => some (r19, s18)))))))))))
set_option maxHeartbeats 4000000 in
theorem kA_count (N : Nat) (x1 : Int32) (σ : zS) (w : Int32 × zS) (h : fA_count N x1 σ = some w) (d : Nat) (hd : 2 ≤ d) : zEv d 100 0 [some (zR 7 0), some (zI x1)] [] σ (some (zI w.1), w.2) := by
  unfold fA_count at h
  refine ev_s i100_0 (p := 1) rfl ?_
  refine ev_sel h (fun c1 h => ?_) (fun c1 h => ?_)
  · refine ev_tsw i100_1 (by decide) (t := 56) (by rw [c1]; decide) ?_
    refine ev_s i100_56 (p := 57) rfl ?_
    refine ev_getf i100_57 zf7_47 (u := zR 2 0) rfl (p := 60) rfl ?_
    refine ev_getf i100_60 zf7_76 (u := zI (σ 2 0 9)) rfl (p := 63) rfl ?_
    obtain rfl := Option.some.inj h
    exact ev_iret i100_63 zr100
  refine ev_sel h (fun c2 h => ?_) (fun c2 h => ?_)
  · refine ev_tsw i100_1 (by decide) (t := 64) (by rw [c2]; decide) ?_
    refine ev_s i100_64 (p := 65) rfl ?_
    refine ev_getf i100_65 zf7_47 (u := zR 2 0) rfl (p := 68) rfl ?_
    refine ev_getf i100_68 zf7_158 (u := zI (σ 2 0 10)) rfl (p := 71) rfl ?_
    obtain rfl := Option.some.inj h
    exact ev_iret i100_71 zr100
  refine ev_sel h (fun c3 h => ?_) (fun c3 h => ?_)
  · refine ev_tsw i100_1 (by decide) (t := 72) (by rw [c3]; decide) ?_
    refine ev_s i100_72 (p := 73) rfl ?_
    refine ev_getf i100_73 zf7_47 (u := zR 2 0) rfl (p := 76) rfl ?_
    refine ev_getf i100_76 zf7_164 (u := zI (σ 2 0 11)) rfl (p := 79) rfl ?_
    obtain rfl := Option.some.inj h
    exact ev_iret i100_79 zr100
  refine ev_sel h (fun c6 h => ?_) (fun c6 h => ?_)
  · refine ev_tsw i100_1 (by decide) (t := 80) (by rw [c6]; decide) ?_
    refine ev_s i100_80 (p := 81) rfl ?_
    refine ev_getf i100_81 zf7_47 (u := zR 2 0) rfl (p := 84) rfl ?_
    obtain ⟨r5, hr4, h⟩ := bd_some h
    refine ev_callV i100_84 zc7_198 zm20 zo20 (as' := []) (rest := []) rfl rfl (Nat.le_of_ble_eq_true rfl) (Nat.le_of_ble_eq_true rfl) (Nat.le_of_ble_eq_true rfl) (by omega) (l0 := [some (zR 2 0), none, none]) rfl (p := 87) rfl (kR_tied N 0 σ r5 hr4 (d - 1) (by omega)) ?_
    change zEv d 100 87 [some (zR 7 0), some (zI x1)] [zI r5] σ _
    obtain rfl := Option.some.inj h
    exact ev_iret i100_87 zr100
  refine ev_sel h (fun c9 h => ?_) (fun c9 h => ?_)
  · refine ev_tsw i100_1 (by decide) (t := 88) (by rw [c9]; decide) ?_
    refine ev_s i100_88 (p := 89) rfl ?_
    refine ev_getf i100_89 zf7_47 (u := zR 2 0) rfl (p := 92) rfl ?_
    refine ev_s i100_92 (p := 93) rfl ?_
    refine ev_getf i100_93 zf7_47 (u := zR 2 0) rfl (p := 96) rfl ?_
    refine ev_getf i100_96 zf7_96 (u := zR 18 0) rfl (p := 99) rfl ?_
    obtain ⟨r8, hr7, h⟩ := bd_some h
    refine ev_callV i100_99 zc7_265 zm23 zo23 (as' := [zR 18 0]) (rest := []) rfl rfl (Nat.le_of_ble_eq_true rfl) (Nat.le_of_ble_eq_true rfl) (Nat.le_of_ble_eq_true rfl) (by omega) (l0 := [some (zR 2 0), some (zR 18 0), none, none]) rfl (p := 102) rfl (kR_sum_18 N 0 0 σ r8 hr7 (d - 1) (by omega)) ?_
    change zEv d 100 102 [some (zR 7 0), some (zI x1)] [zI r8] σ _
    obtain rfl := Option.some.inj h
    exact ev_iret i100_102 zr100
  refine ev_sel h (fun c12 h => ?_) (fun c12 h => ?_)
  · refine ev_tsw i100_1 (by decide) (t := 103) (by rw [c12]; decide) ?_
    refine ev_s i100_103 (p := 104) rfl ?_
    refine ev_getf i100_104 zf7_47 (u := zR 2 0) rfl (p := 107) rfl ?_
    refine ev_s i100_107 (p := 108) rfl ?_
    refine ev_getf i100_108 zf7_47 (u := zR 2 0) rfl (p := 111) rfl ?_
    refine ev_getf i100_111 zf7_99 (u := zR 19 0) rfl (p := 114) rfl ?_
    obtain ⟨r11, hr10, h⟩ := bd_some h
    refine ev_callV i100_114 zc7_265 zm23 zo23 (as' := [zR 19 0]) (rest := []) rfl rfl (Nat.le_of_ble_eq_true rfl) (Nat.le_of_ble_eq_true rfl) (Nat.le_of_ble_eq_true rfl) (by omega) (l0 := [some (zR 2 0), some (zR 19 0), none, none]) rfl (p := 117) rfl (kR_sum_19 N 0 0 σ r11 hr10 (d - 1) (by omega)) ?_
    change zEv d 100 117 [some (zR 7 0), some (zI x1)] [zI r11] σ _
    obtain rfl := Option.some.inj h
    exact ev_iret i100_117 zr100
  refine ev_sel h (fun c13 h => ?_) (fun c13 h => ?_)
  · refine ev_tsw i100_1 (by decide) (t := 118) (by rw [c13]; decide) ?_
    refine ev_s i100_118 (p := 119) rfl ?_
    refine ev_getf i100_119 zf7_10 (u := zR 5 0) rfl (p := 122) rfl ?_
    refine ev_getf i100_122 zf7_124 (u := zR 3 0) rfl (p := 125) rfl ?_
    refine ev_getf i100_125 zf7_128 (u := zI (σ 3 0 1)) rfl (p := 128) rfl ?_
    obtain rfl := Option.some.inj h
    exact ev_iret i100_128 zr100
  refine ev_sel h (fun c14 h => ?_) (fun c14 h => ?_)
  · refine ev_tsw i100_1 (by decide) (t := 129) (by rw [c14]; decide) ?_
    refine ev_s i100_129 (p := 130) rfl ?_
    refine ev_getf i100_130 zf7_10 (u := zR 5 0) rfl (p := 133) rfl ?_
    refine ev_getf i100_133 zf7_261 (u := zR 3 1) rfl (p := 136) rfl ?_
    refine ev_getf i100_136 zf7_128 (u := zI (σ 3 1 1)) rfl (p := 139) rfl ?_
    obtain rfl := Option.some.inj h
    exact ev_iret i100_139 zr100
  refine ev_sel h (fun c15 h => ?_) (fun c15 h => ?_)
  · refine ev_tsw i100_1 (by decide) (t := 140) (by rw [c15]; decide) ?_
    refine ev_s i100_140 (p := 141) rfl ?_
    refine ev_getf i100_141 zf7_29 (u := zR 6 0) rfl (p := 144) rfl ?_
    refine ev_getf i100_144 zf7_228 (u := zI (σ 6 0 1)) rfl (p := 147) rfl ?_
    obtain rfl := Option.some.inj h
    exact ev_iret i100_147 zr100
  refine ev_sel h (fun c16 h => ?_) (fun c16 h => ?_)
  · refine ev_tsw i100_1 (by decide) (t := 148) (by rw [c16]; decide) ?_
    refine ev_s i100_148 (p := 149) rfl ?_
    refine ev_getf i100_149 zf7_47 (u := zR 2 0) rfl (p := 152) rfl ?_
    refine ev_getf i100_152 zf7_173 (u := zI (σ 2 0 12)) rfl (p := 155) rfl ?_
    obtain rfl := Option.some.inj h
    exact ev_iret i100_155 zr100
  refine ev_tsw i100_1 (by decide) (t := 156) (by show (1 : Int) + zsw x1 (0) [55, 63, 71, 79, 87, 102, 117, 128, 139, 147] (155) = 156; rw [zsw_st c1 (by decide), zsw_st c2 (by decide), zsw_st c3 (by decide), zsw_st c6 (by decide), zsw_st c9 (by decide), zsw_st c12 (by decide), zsw_st c13 (by decide), zsw_st c14 (by decide), zsw_st c15 (by decide), zsw_st c16 (by decide)]; rfl) ?_
  refine ev_s i100_156 (p := 157) rfl ?_
  refine ev_s i100_157 (p := 158) (zic_1 _ _ _ _ _) ?_
  obtain ⟨r19, s18, hr17, h⟩ := b2_some h
  refine ev_callV i100_158 zc7_72 zm102 zo102 (as' := [zI 1]) (rest := []) rfl rfl (Nat.le_of_ble_eq_true rfl) (Nat.le_of_ble_eq_true rfl) (Nat.le_of_ble_eq_true rfl) (by omega) (l0 := [some (zR 7 0), some (zI 1)]) rfl (p := 161) rfl (kA_refuse 1 σ (r19, s18) hr17 (d - 1) (by omega)) ?_
  change zEv d 100 161 [some (zR 7 0), some (zI x1)] [zI r19] s18 _
  obtain rfl := Option.some.inj h
  exact ev_iret i100_161 zr100
/-! fM_sumOf -/
def fM_sumOf_L4 (N : Nat) : Nat → Int32 → Int32 → Int32 → zS → Option (Int32)
  | 0, _, _, _, _ => none
  | n + 1, y1, y2, y3, σ => (if (σ 30 0 4) ≤ y3 then some (y2) else (fM_its y3 y1 σ).bind fun r3 => zlt (y2 + r3) fun v4 => fM_sumOf_L4 N n y1 v4 (y3 + 1) σ)
set_option maxHeartbeats 4000000 in
theorem kM_sumOf_L4 (N : Nat) (d : Nat) (hd : 1 ≤ d)  : ∀ n : Nat, ∀ (y1 : Int32) (y2 : Int32) (y3 : Int32) (σ : zS) (w : Int32), fM_sumOf_L4 N n y1 y2 y3 σ = some w → zEv d 157 4 [some (zR 8 0), some (zI y1), some (zI y2), some (zI y3)] [] σ (some (zI w), σ) := by
  intro n
  induction n with
  | zero =>
    intro y1 y2 y3 σ w h
    cases h
  | succ n ih =>
    intro y1 y2 y3 σ w h
    rw [fM_sumOf_L4] at h
    refine ev_s i157_4 (p := 5) rfl ?_
    refine ev_s i157_5 (p := 6) rfl ?_
    refine ev_getf i157_6 zf8_7 (u := zR 30 0) rfl (p := 9) rfl ?_
    refine ev_s i157_9 (p := 10) (zic_4 _ _ _ _ _) ?_
    refine ev_ialdK i157_10 rfl (n := 394) rfl (by decide) (p := 11) rfl ?_
    change zEv d 157 11 [some (zR 8 0), some (zI y1), some (zI y2), some (zI y3)] [zI (σ 30 0 4), zI y3] σ _
    refine ev_cmpge i157_11 (t := 29) (by decide) (p := 14) rfl h (fun c1 h => ?_) (fun c1 h => ?_)
    · refine ev_s i157_29 (p := 30) rfl ?_
      obtain rfl := Option.some.inj h
      exact ev_iret i157_30 zr157
    · refine ev_s i157_14 (p := 15) rfl ?_
      refine ev_s i157_15 (p := 16) rfl ?_
      refine ev_s i157_16 (p := 17) rfl ?_
      refine ev_s i157_17 (p := 18) rfl ?_
      obtain ⟨r3, hr2, h⟩ := bd_some h
      refine ev_callV i157_18 zc8_54 zm118 zo118 (as' := [zI y3, zI y1]) (rest := [zI y2]) rfl rfl (Nat.le_of_ble_eq_true rfl) (Nat.le_of_ble_eq_true rfl) (Nat.le_of_ble_eq_true rfl) (by omega) (l0 := [some (zR 8 0), some (zI y3), some (zI y1)]) rfl (p := 21) rfl (kM_its y3 y1 σ r3 hr2 (d - 1) (by omega)) ?_
      change zEv d 157 21 [some (zR 8 0), some (zI y1), some (zI y2), some (zI y3)] [zI r3, zI y2] σ _
      refine ev_s i157_21 (p := 22) (t := [zI (y2 + r3)]) rfl ?_
      refine ev_let h (fun v4 ev4 h => ?_)
      refine ev_s i157_22 (p := 23) (l := [some (zR 8 0), some (zI y1), some (zI v4), some (zI y3)]) rfl ?_
      refine ev_iinc i157_23 zii_1 rfl (l := [some (zR 8 0), some (zI y1), some (zI v4), some (zI (y3 + 1))]) rfl (p := 26) rfl ?_
      refine ev_goto i157_26 (t := 4) (by decide) ?_
      exact ih y1 v4 (y3 + 1) σ w h
def fM_sumOf (N : Nat) (x1 : Int32) (σ : zS) : Option (Int32) := fM_sumOf_L4 N N x1 0 0 σ
set_option maxHeartbeats 4000000 in
theorem kM_sumOf (N : Nat) (x1 : Int32) (σ : zS) (w : Int32) (h : fM_sumOf N x1 σ = some w) (d : Nat) (hd : 1 ≤ d) : zEv d 157 0 [some (zR 8 0), some (zI x1), none, none] [] σ (some (zI w), σ) := by
  unfold fM_sumOf at h
  refine ev_s i157_0 (p := 1) (zic_0 _ _ _ _ _) ?_
  refine ev_s i157_1 (p := 2) (l := [some (zR 8 0), some (zI x1), some (zI 0), none]) rfl ?_
  refine ev_s i157_2 (p := 3) (zic_0 _ _ _ _ _) ?_
  refine ev_s i157_3 (p := 4) (l := [some (zR 8 0), some (zI x1), some (zI 0), some (zI 0)]) rfl ?_
  exact kM_sumOf_L4 N d hd N x1 0 0 σ w h
/-! fM_count -/
def fM_count (N : Nat) (x1 : Int32) (σ : zS) : Option (Int32 × zS) := (if x1 = 0 then some (σ 30 0 4, σ) else (if x1 = 1 then some (σ 30 0 0, σ) else (if x1 = 2 then some (σ 30 0 5, σ) else (if x1 = 3 then (fM_tiedNow N σ).bind fun r5 => some (r5, σ) else (if x1 = 4 then (fM_sumOf N 4 σ).bind fun r8 => some (r8, σ) else (if x1 = 5 then (fM_sumOf N 5 σ).bind fun r11 => some (r11, σ) else (if x1 = 6 then some (σ 30 0 2, σ) else (if x1 = 7 then some (σ 30 0 3, σ) else (if x1 = 8 then some (σ 8 0 14, σ) else (if x1 = 9 then some (σ 30 0 1, σ) else zb2 (fM_error 1 σ) fun r19 s18 => some (r19, s18)))))))))))
set_option maxHeartbeats 4000000 in
theorem kM_count (N : Nat) (x1 : Int32) (σ : zS) (w : Int32 × zS) (h : fM_count N x1 σ = some w) (d : Nat) (hd : 3 ≤ d) : zEv d 217 0 [some (zR 8 0), some (zI x1)] [] σ (some (zI w.1), w.2) := by
  unfold fM_count at h
  refine ev_s i217_0 (p := 1) rfl ?_
  refine ev_sel h (fun c1 h => ?_) (fun c1 h => ?_)
  · refine ev_tsw i217_1 (by decide) (t := 56) (by rw [c1]; decide) ?_
    refine ev_s i217_56 (p := 57) rfl ?_
    refine ev_getf i217_57 zf8_7 (u := zR 30 0) rfl (p := 60) rfl ?_
    refine ev_s i217_60 (p := 61) (zic_4 _ _ _ _ _) ?_
    refine ev_ialdK i217_61 rfl (n := 394) rfl (by decide) (p := 62) rfl ?_
    change zEv d 217 62 [some (zR 8 0), some (zI x1)] [zI (σ 30 0 4)] σ _
    obtain rfl := Option.some.inj h
    exact ev_iret i217_62 zr217
  refine ev_sel h (fun c2 h => ?_) (fun c2 h => ?_)
  · refine ev_tsw i217_1 (by decide) (t := 63) (by rw [c2]; decide) ?_
    refine ev_s i217_63 (p := 64) rfl ?_
    refine ev_getf i217_64 zf8_7 (u := zR 30 0) rfl (p := 67) rfl ?_
    refine ev_s i217_67 (p := 68) (zic_0 _ _ _ _ _) ?_
    refine ev_ialdK i217_68 rfl (n := 394) rfl (by decide) (p := 69) rfl ?_
    change zEv d 217 69 [some (zR 8 0), some (zI x1)] [zI (σ 30 0 0)] σ _
    obtain rfl := Option.some.inj h
    exact ev_iret i217_69 zr217
  refine ev_sel h (fun c3 h => ?_) (fun c3 h => ?_)
  · refine ev_tsw i217_1 (by decide) (t := 70) (by rw [c3]; decide) ?_
    refine ev_s i217_70 (p := 71) rfl ?_
    refine ev_getf i217_71 zf8_7 (u := zR 30 0) rfl (p := 74) rfl ?_
    refine ev_s i217_74 (p := 75) (zic_5 _ _ _ _ _) ?_
    refine ev_ialdK i217_75 rfl (n := 394) rfl (by decide) (p := 76) rfl ?_
    change zEv d 217 76 [some (zR 8 0), some (zI x1)] [zI (σ 30 0 5)] σ _
    obtain rfl := Option.some.inj h
    exact ev_iret i217_76 zr217
  refine ev_sel h (fun c6 h => ?_) (fun c6 h => ?_)
  · refine ev_tsw i217_1 (by decide) (t := 77) (by rw [c6]; decide) ?_
    refine ev_s i217_77 (p := 78) rfl ?_
    obtain ⟨r5, hr4, h⟩ := bd_some h
    refine ev_callV i217_78 zc8_240 zm156 zo156 (as' := []) (rest := []) rfl rfl (Nat.le_of_ble_eq_true rfl) (Nat.le_of_ble_eq_true rfl) (Nat.le_of_ble_eq_true rfl) (by omega) (l0 := [some (zR 8 0), none, none]) rfl (p := 81) rfl (kM_tiedNow N σ r5 hr4 (d - 1) (by omega)) ?_
    change zEv d 217 81 [some (zR 8 0), some (zI x1)] [zI r5] σ _
    obtain rfl := Option.some.inj h
    exact ev_iret i217_81 zr217
  refine ev_sel h (fun c9 h => ?_) (fun c9 h => ?_)
  · refine ev_tsw i217_1 (by decide) (t := 82) (by rw [c9]; decide) ?_
    refine ev_s i217_82 (p := 83) rfl ?_
    refine ev_s i217_83 (p := 84) (zic_4 _ _ _ _ _) ?_
    obtain ⟨r8, hr7, h⟩ := bd_some h
    refine ev_callV i217_84 zc8_296 zm157 zo157 (as' := [zI 4]) (rest := []) rfl rfl (Nat.le_of_ble_eq_true rfl) (Nat.le_of_ble_eq_true rfl) (Nat.le_of_ble_eq_true rfl) (by omega) (l0 := [some (zR 8 0), some (zI 4), none, none]) rfl (p := 87) rfl (kM_sumOf N 4 σ r8 hr7 (d - 1) (by omega)) ?_
    change zEv d 217 87 [some (zR 8 0), some (zI x1)] [zI r8] σ _
    obtain rfl := Option.some.inj h
    exact ev_iret i217_87 zr217
  refine ev_sel h (fun c12 h => ?_) (fun c12 h => ?_)
  · refine ev_tsw i217_1 (by decide) (t := 88) (by rw [c12]; decide) ?_
    refine ev_s i217_88 (p := 89) rfl ?_
    refine ev_s i217_89 (p := 90) (zic_5 _ _ _ _ _) ?_
    obtain ⟨r11, hr10, h⟩ := bd_some h
    refine ev_callV i217_90 zc8_296 zm157 zo157 (as' := [zI 5]) (rest := []) rfl rfl (Nat.le_of_ble_eq_true rfl) (Nat.le_of_ble_eq_true rfl) (Nat.le_of_ble_eq_true rfl) (by omega) (l0 := [some (zR 8 0), some (zI 5), none, none]) rfl (p := 93) rfl (kM_sumOf N 5 σ r11 hr10 (d - 1) (by omega)) ?_
    change zEv d 217 93 [some (zR 8 0), some (zI x1)] [zI r11] σ _
    obtain rfl := Option.some.inj h
    exact ev_iret i217_93 zr217
  refine ev_sel h (fun c13 h => ?_) (fun c13 h => ?_)
  · refine ev_tsw i217_1 (by decide) (t := 94) (by rw [c13]; decide) ?_
    refine ev_s i217_94 (p := 95) rfl ?_
    refine ev_getf i217_95 zf8_7 (u := zR 30 0) rfl (p := 98) rfl ?_
    refine ev_s i217_98 (p := 99) (zic_2 _ _ _ _ _) ?_
    refine ev_ialdK i217_99 rfl (n := 394) rfl (by decide) (p := 100) rfl ?_
    change zEv d 217 100 [some (zR 8 0), some (zI x1)] [zI (σ 30 0 2)] σ _
    obtain rfl := Option.some.inj h
    exact ev_iret i217_100 zr217
  refine ev_sel h (fun c14 h => ?_) (fun c14 h => ?_)
  · refine ev_tsw i217_1 (by decide) (t := 101) (by rw [c14]; decide) ?_
    refine ev_s i217_101 (p := 102) rfl ?_
    refine ev_getf i217_102 zf8_7 (u := zR 30 0) rfl (p := 105) rfl ?_
    refine ev_s i217_105 (p := 106) (zic_3 _ _ _ _ _) ?_
    refine ev_ialdK i217_106 rfl (n := 394) rfl (by decide) (p := 107) rfl ?_
    change zEv d 217 107 [some (zR 8 0), some (zI x1)] [zI (σ 30 0 3)] σ _
    obtain rfl := Option.some.inj h
    exact ev_iret i217_107 zr217
  refine ev_sel h (fun c15 h => ?_) (fun c15 h => ?_)
  · refine ev_tsw i217_1 (by decide) (t := 108) (by rw [c15]; decide) ?_
    refine ev_s i217_108 (p := 109) rfl ?_
    refine ev_getf i217_109 zf8_255 (u := zI (σ 8 0 14)) rfl (p := 112) rfl ?_
    obtain rfl := Option.some.inj h
    exact ev_iret i217_112 zr217
  refine ev_sel h (fun c16 h => ?_) (fun c16 h => ?_)
  · refine ev_tsw i217_1 (by decide) (t := 113) (by rw [c16]; decide) ?_
    refine ev_s i217_113 (p := 114) rfl ?_
    refine ev_getf i217_114 zf8_7 (u := zR 30 0) rfl (p := 117) rfl ?_
    refine ev_s i217_117 (p := 118) (zic_1 _ _ _ _ _) ?_
    refine ev_ialdK i217_118 rfl (n := 394) rfl (by decide) (p := 119) rfl ?_
    change zEv d 217 119 [some (zR 8 0), some (zI x1)] [zI (σ 30 0 1)] σ _
    obtain rfl := Option.some.inj h
    exact ev_iret i217_119 zr217
  refine ev_tsw i217_1 (by decide) (t := 120) (by show (1 : Int) + zsw x1 (0) [55, 62, 69, 76, 81, 87, 93, 100, 107, 112] (119) = 120; rw [zsw_st c1 (by decide), zsw_st c2 (by decide), zsw_st c3 (by decide), zsw_st c6 (by decide), zsw_st c9 (by decide), zsw_st c12 (by decide), zsw_st c13 (by decide), zsw_st c14 (by decide), zsw_st c15 (by decide), zsw_st c16 (by decide)]; rfl) ?_
  refine ev_s i217_120 (p := 121) rfl ?_
  refine ev_s i217_121 (p := 122) (zic_1 _ _ _ _ _) ?_
  obtain ⟨r19, s18, hr17, h⟩ := b2_some h
  refine ev_callV i217_122 zc8_58 zm110 zo110 (as' := [zI 1]) (rest := []) rfl rfl (Nat.le_of_ble_eq_true rfl) (Nat.le_of_ble_eq_true rfl) (Nat.le_of_ble_eq_true rfl) (by omega) (l0 := [some (zR 8 0), some (zI 1)]) rfl (p := 125) rfl (kM_error 1 σ (r19, s18) hr17 (d - 1) (by omega)) ?_
  change zEv d 217 125 [some (zR 8 0), some (zI x1)] [zI r19] s18 _
  obtain rfl := Option.some.inj h
  exact ev_iret i217_125 zr217
/-! fA_told -/
def fA_told_J20 (σ : zS) : Option (Int32 × zS) := zb2 (fA_refuse 1 σ) fun r6 s5 => some (r6, s5)
set_option maxHeartbeats 4000000 in
theorem kA_told_J20  (d : Nat) (hd : 1 ≤ d)  : ∀ (σ : zS) (w : Int32 × zS) (z1 : Option zA), fA_told_J20 σ = some w → zEv d 101 20 [some (zR 7 0), z1] [] σ (some (zI w.1), w.2) := by
  intro σ w z1 h
  unfold fA_told_J20 at h
  refine ev_s i101_20 (p := 21) rfl ?_
  refine ev_s i101_21 (p := 22) (zic_1 _ _ _ _ _) ?_
  obtain ⟨r6, s5, hr4, h⟩ := b2_some h
  refine ev_callV i101_22 zc7_72 zm102 zo102 (as' := [zI 1]) (rest := []) rfl rfl (Nat.le_of_ble_eq_true rfl) (Nat.le_of_ble_eq_true rfl) (Nat.le_of_ble_eq_true rfl) (by omega) (l0 := [some (zR 7 0), some (zI 1)]) rfl (p := 25) rfl (kA_refuse 1 σ (r6, s5) hr4 (d - 1) (by omega)) ?_
  change zEv d 101 25 [some (zR 7 0), z1] [zI r6] s5 _
  obtain rfl := Option.some.inj h
  exact ev_iret i101_25 zr101
def fA_told (x1 : Int32) (σ : zS) : Option (Int32 × zS) := (if x1 < 1 then fA_told_J20 σ else (if 6 < x1 then fA_told_J20 σ else zgd (zin x1 7) (some (σ 26 0 x1.toNatClampNeg, σ))))
set_option maxHeartbeats 4000000 in
theorem kA_told (x1 : Int32) (σ : zS) (w : Int32 × zS) (h : fA_told x1 σ = some w) (d : Nat) (hd : 1 ≤ d) : zEv d 101 0 [some (zR 7 0), some (zI x1)] [] σ (some (zI w.1), w.2) := by
  unfold fA_told at h
  refine ev_s i101_0 (p := 1) rfl ?_
  refine ev_s i101_1 (p := 2) (zic_1 _ _ _ _ _) ?_
  refine ev_cmplt i101_2 (t := 20) (by decide) (p := 5) rfl h (fun c1 h => ?_) (fun c1 h => ?_)
  · exact kA_told_J20 d hd σ w _ h
  · refine ev_s i101_5 (p := 6) rfl ?_
    refine ev_s i101_6 (p := 8) (zib_6 _ _ _ _ _) ?_
    refine ev_cmpgt i101_8 (t := 20) (by decide) (p := 11) rfl h (fun c2 h => ?_) (fun c2 h => ?_)
    · exact kA_told_J20 d hd σ w _ h
    · refine ev_s i101_11 (p := 12) rfl ?_
      refine ev_getf i101_12 zf7_39 (u := zR 26 0) rfl (p := 15) rfl ?_
      refine ev_s i101_15 (p := 16) rfl ?_
      refine ev_iald i101_16 rfl (n := 7) rfl (p := 17) rfl h (fun g3 h => ?_)
      refine ev_goto i101_17 (t := 25) (by decide) ?_
      obtain rfl := Option.some.inj h
      exact ev_iret i101_25 zr101
/-! fM_told -/
def fM_told (x1 : Int32) (σ : zS) : Option (Int32 × zS) := (fM_in x1 1 6).bind fun r2 => (if r2 = 0 then zb2 (fM_error 1 σ) fun r6 s5 => some (r6, s5) else zgd (zin x1 7) (some (σ 34 0 x1.toNatClampNeg, σ)))
set_option maxHeartbeats 4000000 in
theorem kM_told (x1 : Int32) (σ : zS) (w : Int32 × zS) (h : fM_told x1 σ = some w) (d : Nat) (hd : 1 ≤ d) : zEv d 218 0 [some (zR 8 0), some (zI x1)] [] σ (some (zI w.1), w.2) := by
  unfold fM_told at h
  refine ev_s i218_0 (p := 1) rfl ?_
  refine ev_s i218_1 (p := 2) (zic_1 _ _ _ _ _) ?_
  refine ev_s i218_2 (p := 4) (zib_6 _ _ _ _ _) ?_
  obtain ⟨r2, hr1, h⟩ := bd_some h
  refine ev_callS i218_4 zn8_50 zc8_50 zm111 (as := [zI x1, zI 1, zI 6]) (rest := []) rfl rfl (Nat.le_of_ble_eq_true rfl) (Nat.le_of_ble_eq_true rfl) (Nat.le_of_ble_eq_true rfl) (by omega) (l0 := [some (zI x1), some (zI 1), some (zI 6)]) rfl (p := 7) rfl (kM_in x1 1 6 σ r2 hr1 (d - 1) (by omega)) ?_
  change zEv d 218 7 [some (zR 8 0), some (zI x1)] [zI r2] σ _
  refine ev_ifeq i218_7 (t := 19) (by decide) (p := 10) rfl h (fun c3 h => ?_) (fun c3 h => ?_)
  · refine ev_s i218_19 (p := 20) rfl ?_
    refine ev_s i218_20 (p := 21) (zic_1 _ _ _ _ _) ?_
    obtain ⟨r6, s5, hr4, h⟩ := b2_some h
    refine ev_callV i218_21 zc8_58 zm110 zo110 (as' := [zI 1]) (rest := []) rfl rfl (Nat.le_of_ble_eq_true rfl) (Nat.le_of_ble_eq_true rfl) (Nat.le_of_ble_eq_true rfl) (by omega) (l0 := [some (zR 8 0), some (zI 1)]) rfl (p := 24) rfl (kM_error 1 σ (r6, s5) hr4 (d - 1) (by omega)) ?_
    change zEv d 218 24 [some (zR 8 0), some (zI x1)] [zI r6] s5 _
    obtain rfl := Option.some.inj h
    exact ev_iret i218_24 zr218
  · refine ev_s i218_10 (p := 11) rfl ?_
    refine ev_getf i218_11 zf8_22 (u := zR 34 0) rfl (p := 14) rfl ?_
    refine ev_s i218_14 (p := 15) rfl ?_
    refine ev_iald i218_15 rfl (n := 7) rfl (p := 16) rfl h (fun g7 h => ?_)
    refine ev_goto i218_16 (t := 24) (by decide) ?_
    obtain rfl := Option.some.inj h
    exact ev_iret i218_24 zr218
/-! fX_law_50 -/
def fX_law_50_J1465 (N : Nat) (G : Nat) (K18 : Int32 → zS → Option (Int32 × zS)) (y3 : Int32) (σ : zS) : Option (Int32 × zS) := K18 (y3 + 6) σ
set_option maxHeartbeats 4000000 in
theorem kX_law_50_J1465 (N : Nat) (G : Nat) (d : Nat) (hd : 10 + 3 * G ≤ d) (K18 : Int32 → zS → Option (Int32 × zS)) (hK18 : ∀ (y3 : Int32) (σ : zS) (w : Int32 × zS), K18 y3 σ = some w → zEv d 224 18 [some (zR 50 0), some (zR 7 0), some (zR 8 0), some (zI y3)] [] σ (some (zI w.1), w.2)) : ∀ (y3 : Int32) (σ : zS) (w : Int32 × zS), fX_law_50_J1465 N G K18 y3 σ = some w → zEv d 224 1465 [some (zR 50 0), some (zR 7 0), some (zR 8 0), some (zI y3)] [] σ (some (zI w.1), w.2) := by
  intro y3 σ w h
  unfold fX_law_50_J1465 at h
  refine ev_iinc i224_1465 zii_6 rfl (l := [some (zR 50 0), some (zR 7 0), some (zR 8 0), some (zI (y3 + 6))]) rfl (p := 1468) rfl ?_
  refine ev_goto i224_1468 (t := 18) (by decide) ?_
  exact hK18 (y3 + 6) σ w h
def fX_law_50_J1442 (N : Nat) (G : Nat) (K18 : Int32 → zS → Option (Int32 × zS)) (y3 : Int32) (σ : zS) : Option (Int32 × zS) := zgd (zin (y3 + 1) ((σ 50 1 0).toNatClampNeg)) (zb2 (fA_told (σ 50 0 (y3 + 1).toNatClampNeg) σ) fun r463 s462 => zgd (zin (y3 + 1) ((s462 50 1 0).toNatClampNeg)) (zb2 (fM_told (s462 50 0 (y3 + 1).toNatClampNeg) s462) fun r467 s466 => (if r463 = r467 then fX_law_50_J1465 N G K18 y3 s466 else some (0, s466))))
set_option maxHeartbeats 4000000 in
theorem kX_law_50_J1442 (N : Nat) (G : Nat) (d : Nat) (hd : 10 + 3 * G ≤ d) (K18 : Int32 → zS → Option (Int32 × zS)) (hK18 : ∀ (y3 : Int32) (σ : zS) (w : Int32 × zS), K18 y3 σ = some w → zEv d 224 18 [some (zR 50 0), some (zR 7 0), some (zR 8 0), some (zI y3)] [] σ (some (zI w.1), w.2)) : ∀ (y3 : Int32) (σ : zS) (w : Int32 × zS), fX_law_50_J1442 N G K18 y3 σ = some w → zEv d 224 1442 [some (zR 50 0), some (zR 7 0), some (zR 8 0), some (zI y3)] [] σ (some (zI w.1), w.2) := by
  intro y3 σ w h
  unfold fX_law_50_J1442 at h
  refine ev_s i224_1442 (p := 1443) rfl ?_
  refine ev_s i224_1443 (p := 1444) rfl ?_
  refine ev_s i224_1444 (p := 1445) rfl ?_
  refine ev_s i224_1445 (p := 1446) (zic_1 _ _ _ _ _) ?_
  refine ev_s i224_1446 (p := 1447) (t := [zI (y3 + 1), zR 50 0, zR 7 0]) rfl ?_
  refine ev_iald i224_1447 rfl (n := (σ 50 1 0).toNatClampNeg) rfl (p := 1448) rfl h (fun g460 h => ?_)
  obtain ⟨r463, s462, hr461, h⟩ := b2_some h
  refine ev_callV i224_1448 zc9_182 zm101 zo101 (as' := [zI (σ 50 0 (y3 + 1).toNatClampNeg)]) (rest := []) rfl rfl (Nat.le_of_ble_eq_true rfl) (Nat.le_of_ble_eq_true rfl) (Nat.le_of_ble_eq_true rfl) (by omega) (l0 := [some (zR 7 0), some (zI (σ 50 0 (y3 + 1).toNatClampNeg))]) rfl (p := 1451) rfl (kA_told (σ 50 0 (y3 + 1).toNatClampNeg) σ (r463, s462) hr461 (d - 1) (by omega)) ?_
  change zEv d 224 1451 [some (zR 50 0), some (zR 7 0), some (zR 8 0), some (zI y3)] [zI r463] s462 _
  refine ev_s i224_1451 (p := 1452) rfl ?_
  refine ev_s i224_1452 (p := 1453) rfl ?_
  refine ev_s i224_1453 (p := 1454) rfl ?_
  refine ev_s i224_1454 (p := 1455) (zic_1 _ _ _ _ _) ?_
  refine ev_s i224_1455 (p := 1456) (t := [zI (y3 + 1), zR 50 0, zR 8 0, zI r463]) rfl ?_
  refine ev_iald i224_1456 rfl (n := (s462 50 1 0).toNatClampNeg) rfl (p := 1457) rfl h (fun g464 h => ?_)
  obtain ⟨r467, s466, hr465, h⟩ := b2_some h
  refine ev_callV i224_1457 zc9_185 zm218 zo218 (as' := [zI (s462 50 0 (y3 + 1).toNatClampNeg)]) (rest := [zI r463]) rfl rfl (Nat.le_of_ble_eq_true rfl) (Nat.le_of_ble_eq_true rfl) (Nat.le_of_ble_eq_true rfl) (by omega) (l0 := [some (zR 8 0), some (zI (s462 50 0 (y3 + 1).toNatClampNeg))]) rfl (p := 1460) rfl (kM_told (s462 50 0 (y3 + 1).toNatClampNeg) s462 (r467, s466) hr465 (d - 1) (by omega)) ?_
  change zEv d 224 1460 [some (zR 50 0), some (zR 7 0), some (zR 8 0), some (zI y3)] [zI r467, zI r463] s466 _
  refine ev_cmpeq i224_1460 (t := 1465) (by decide) (p := 1463) rfl h (fun c468 h => ?_) (fun c468 h => ?_)
  · exact kX_law_50_J1465 N G d hd K18 hK18 y3 s466 w h
  · refine ev_s i224_1463 (p := 1464) (zic_0 _ _ _ _ _) ?_
    obtain rfl := Option.some.inj h
    exact ev_zret i224_1464 zr224 (by decide)
def fX_law_50_J1419 (N : Nat) (G : Nat) (K18 : Int32 → zS → Option (Int32 × zS)) (y3 : Int32) (σ : zS) : Option (Int32 × zS) := zgd (zin (y3 + 1) ((σ 50 1 0).toNatClampNeg)) (zb2 (fA_count N (σ 50 0 (y3 + 1).toNatClampNeg) σ) fun r454 s453 => zgd (zin (y3 + 1) ((s453 50 1 0).toNatClampNeg)) (zb2 (fM_count N (s453 50 0 (y3 + 1).toNatClampNeg) s453) fun r458 s457 => (if r454 = r458 then fX_law_50_J1465 N G K18 y3 s457 else some (0, s457))))
set_option maxHeartbeats 4000000 in
theorem kX_law_50_J1419 (N : Nat) (G : Nat) (d : Nat) (hd : 10 + 3 * G ≤ d) (K18 : Int32 → zS → Option (Int32 × zS)) (hK18 : ∀ (y3 : Int32) (σ : zS) (w : Int32 × zS), K18 y3 σ = some w → zEv d 224 18 [some (zR 50 0), some (zR 7 0), some (zR 8 0), some (zI y3)] [] σ (some (zI w.1), w.2)) : ∀ (y3 : Int32) (σ : zS) (w : Int32 × zS), fX_law_50_J1419 N G K18 y3 σ = some w → zEv d 224 1419 [some (zR 50 0), some (zR 7 0), some (zR 8 0), some (zI y3)] [] σ (some (zI w.1), w.2) := by
  intro y3 σ w h
  unfold fX_law_50_J1419 at h
  refine ev_s i224_1419 (p := 1420) rfl ?_
  refine ev_s i224_1420 (p := 1421) rfl ?_
  refine ev_s i224_1421 (p := 1422) rfl ?_
  refine ev_s i224_1422 (p := 1423) (zic_1 _ _ _ _ _) ?_
  refine ev_s i224_1423 (p := 1424) (t := [zI (y3 + 1), zR 50 0, zR 7 0]) rfl ?_
  refine ev_iald i224_1424 rfl (n := (σ 50 1 0).toNatClampNeg) rfl (p := 1425) rfl h (fun g451 h => ?_)
  obtain ⟨r454, s453, hr452, h⟩ := b2_some h
  refine ev_callV i224_1425 zc9_178 zm100 zo100 (as' := [zI (σ 50 0 (y3 + 1).toNatClampNeg)]) (rest := []) rfl rfl (Nat.le_of_ble_eq_true rfl) (Nat.le_of_ble_eq_true rfl) (Nat.le_of_ble_eq_true rfl) (by omega) (l0 := [some (zR 7 0), some (zI (σ 50 0 (y3 + 1).toNatClampNeg))]) rfl (p := 1428) rfl (kA_count N (σ 50 0 (y3 + 1).toNatClampNeg) σ (r454, s453) hr452 (d - 1) (by omega)) ?_
  change zEv d 224 1428 [some (zR 50 0), some (zR 7 0), some (zR 8 0), some (zI y3)] [zI r454] s453 _
  refine ev_s i224_1428 (p := 1429) rfl ?_
  refine ev_s i224_1429 (p := 1430) rfl ?_
  refine ev_s i224_1430 (p := 1431) rfl ?_
  refine ev_s i224_1431 (p := 1432) (zic_1 _ _ _ _ _) ?_
  refine ev_s i224_1432 (p := 1433) (t := [zI (y3 + 1), zR 50 0, zR 8 0, zI r454]) rfl ?_
  refine ev_iald i224_1433 rfl (n := (s453 50 1 0).toNatClampNeg) rfl (p := 1434) rfl h (fun g455 h => ?_)
  obtain ⟨r458, s457, hr456, h⟩ := b2_some h
  refine ev_callV i224_1434 zc9_181 zm217 zo217 (as' := [zI (s453 50 0 (y3 + 1).toNatClampNeg)]) (rest := [zI r454]) rfl rfl (Nat.le_of_ble_eq_true rfl) (Nat.le_of_ble_eq_true rfl) (Nat.le_of_ble_eq_true rfl) (by omega) (l0 := [some (zR 8 0), some (zI (s453 50 0 (y3 + 1).toNatClampNeg))]) rfl (p := 1437) rfl (kM_count N (s453 50 0 (y3 + 1).toNatClampNeg) s453 (r458, s457) hr456 (d - 1) (by omega)) ?_
  change zEv d 224 1437 [some (zR 50 0), some (zR 7 0), some (zR 8 0), some (zI y3)] [zI r458, zI r454] s457 _
  refine ev_cmpeq i224_1437 (t := 1465) (by decide) (p := 1440) rfl h (fun c459 h => ?_) (fun c459 h => ?_)
  · exact kX_law_50_J1465 N G d hd K18 hK18 y3 s457 w h
  · refine ev_s i224_1440 (p := 1441) (zic_0 _ _ _ _ _) ?_
    obtain rfl := Option.some.inj h
    exact ev_zret i224_1441 zr224 (by decide)
def fX_law_50_J1406 (N : Nat) (G : Nat) (K18 : Int32 → zS → Option (Int32 × zS)) (y3 : Int32) (σ : zS) : Option (Int32 × zS) := zb2 (fA_check N σ) fun r446 s445 => zb2 (fM_check N s445) fun r449 s448 => (if r446 = r449 then fX_law_50_J1465 N G K18 y3 s448 else some (0, s448))
set_option maxHeartbeats 4000000 in
theorem kX_law_50_J1406 (N : Nat) (G : Nat) (d : Nat) (hd : 10 + 3 * G ≤ d) (K18 : Int32 → zS → Option (Int32 × zS)) (hK18 : ∀ (y3 : Int32) (σ : zS) (w : Int32 × zS), K18 y3 σ = some w → zEv d 224 18 [some (zR 50 0), some (zR 7 0), some (zR 8 0), some (zI y3)] [] σ (some (zI w.1), w.2)) : ∀ (y3 : Int32) (σ : zS) (w : Int32 × zS), fX_law_50_J1406 N G K18 y3 σ = some w → zEv d 224 1406 [some (zR 50 0), some (zR 7 0), some (zR 8 0), some (zI y3)] [] σ (some (zI w.1), w.2) := by
  intro y3 σ w h
  unfold fX_law_50_J1406 at h
  refine ev_s i224_1406 (p := 1407) rfl ?_
  obtain ⟨r446, s445, hr444, h⟩ := b2_some h
  refine ev_callV i224_1407 zc9_174 zm99 zo99 (as' := []) (rest := []) rfl rfl (Nat.le_of_ble_eq_true rfl) (Nat.le_of_ble_eq_true rfl) (Nat.le_of_ble_eq_true rfl) (by omega) (l0 := [some (zR 7 0), none, none]) rfl (p := 1410) rfl (kA_check N σ (r446, s445) hr444 (d - 1) (by omega)) ?_
  change zEv d 224 1410 [some (zR 50 0), some (zR 7 0), some (zR 8 0), some (zI y3)] [zI r446] s445 _
  refine ev_s i224_1410 (p := 1411) rfl ?_
  obtain ⟨r449, s448, hr447, h⟩ := b2_some h
  refine ev_callV i224_1411 zc9_177 zm216 zo216 (as' := []) (rest := [zI r446]) rfl rfl (Nat.le_of_ble_eq_true rfl) (Nat.le_of_ble_eq_true rfl) (Nat.le_of_ble_eq_true rfl) (by omega) (l0 := [some (zR 8 0), none, none]) rfl (p := 1414) rfl (kM_check N s445 (r449, s448) hr447 (d - 1) (by omega)) ?_
  change zEv d 224 1414 [some (zR 50 0), some (zR 7 0), some (zR 8 0), some (zI y3)] [zI r449, zI r446] s448 _
  refine ev_cmpeq i224_1414 (t := 1465) (by decide) (p := 1417) rfl h (fun c450 h => ?_) (fun c450 h => ?_)
  · exact kX_law_50_J1465 N G d hd K18 hK18 y3 s448 w h
  · refine ev_s i224_1417 (p := 1418) (zic_0 _ _ _ _ _) ?_
    obtain rfl := Option.some.inj h
    exact ev_zret i224_1418 zr224 (by decide)
def fX_law_50_J1383 (N : Nat) (G : Nat) (K18 : Int32 → zS → Option (Int32 × zS)) (y3 : Int32) (σ : zS) : Option (Int32 × zS) := zgd (zin (y3 + 1) ((σ 50 1 0).toNatClampNeg)) (zb2 (fA_tell (σ 50 0 (y3 + 1).toNatClampNeg) σ) fun r438 s437 => zgd (zin (y3 + 1) ((s437 50 1 0).toNatClampNeg)) (zb2 (fM_tell (s437 50 0 (y3 + 1).toNatClampNeg) s437) fun r442 s441 => (if r438 = r442 then fX_law_50_J1465 N G K18 y3 s441 else some (0, s441))))
set_option maxHeartbeats 4000000 in
theorem kX_law_50_J1383 (N : Nat) (G : Nat) (d : Nat) (hd : 10 + 3 * G ≤ d) (K18 : Int32 → zS → Option (Int32 × zS)) (hK18 : ∀ (y3 : Int32) (σ : zS) (w : Int32 × zS), K18 y3 σ = some w → zEv d 224 18 [some (zR 50 0), some (zR 7 0), some (zR 8 0), some (zI y3)] [] σ (some (zI w.1), w.2)) : ∀ (y3 : Int32) (σ : zS) (w : Int32 × zS), fX_law_50_J1383 N G K18 y3 σ = some w → zEv d 224 1383 [some (zR 50 0), some (zR 7 0), some (zR 8 0), some (zI y3)] [] σ (some (zI w.1), w.2) := by
  intro y3 σ w h
  unfold fX_law_50_J1383 at h
  refine ev_s i224_1383 (p := 1384) rfl ?_
  refine ev_s i224_1384 (p := 1385) rfl ?_
  refine ev_s i224_1385 (p := 1386) rfl ?_
  refine ev_s i224_1386 (p := 1387) (zic_1 _ _ _ _ _) ?_
  refine ev_s i224_1387 (p := 1388) (t := [zI (y3 + 1), zR 50 0, zR 7 0]) rfl ?_
  refine ev_iald i224_1388 rfl (n := (σ 50 1 0).toNatClampNeg) rfl (p := 1389) rfl h (fun g435 h => ?_)
  obtain ⟨r438, s437, hr436, h⟩ := b2_some h
  refine ev_callV i224_1389 zc9_170 zm98 zo98 (as' := [zI (σ 50 0 (y3 + 1).toNatClampNeg)]) (rest := []) rfl rfl (Nat.le_of_ble_eq_true rfl) (Nat.le_of_ble_eq_true rfl) (Nat.le_of_ble_eq_true rfl) (by omega) (l0 := [some (zR 7 0), some (zI (σ 50 0 (y3 + 1).toNatClampNeg))]) rfl (p := 1392) rfl (kA_tell (σ 50 0 (y3 + 1).toNatClampNeg) σ (r438, s437) hr436 (d - 1) (by omega)) ?_
  change zEv d 224 1392 [some (zR 50 0), some (zR 7 0), some (zR 8 0), some (zI y3)] [zI r438] s437 _
  refine ev_s i224_1392 (p := 1393) rfl ?_
  refine ev_s i224_1393 (p := 1394) rfl ?_
  refine ev_s i224_1394 (p := 1395) rfl ?_
  refine ev_s i224_1395 (p := 1396) (zic_1 _ _ _ _ _) ?_
  refine ev_s i224_1396 (p := 1397) (t := [zI (y3 + 1), zR 50 0, zR 8 0, zI r438]) rfl ?_
  refine ev_iald i224_1397 rfl (n := (s437 50 1 0).toNatClampNeg) rfl (p := 1398) rfl h (fun g439 h => ?_)
  obtain ⟨r442, s441, hr440, h⟩ := b2_some h
  refine ev_callV i224_1398 zc9_173 zm215 zo215 (as' := [zI (s437 50 0 (y3 + 1).toNatClampNeg)]) (rest := [zI r438]) rfl rfl (Nat.le_of_ble_eq_true rfl) (Nat.le_of_ble_eq_true rfl) (Nat.le_of_ble_eq_true rfl) (by omega) (l0 := [some (zR 8 0), some (zI (s437 50 0 (y3 + 1).toNatClampNeg))]) rfl (p := 1401) rfl (kM_tell (s437 50 0 (y3 + 1).toNatClampNeg) s437 (r442, s441) hr440 (d - 1) (by omega)) ?_
  change zEv d 224 1401 [some (zR 50 0), some (zR 7 0), some (zR 8 0), some (zI y3)] [zI r442, zI r438] s441 _
  refine ev_cmpeq i224_1401 (t := 1465) (by decide) (p := 1404) rfl h (fun c443 h => ?_) (fun c443 h => ?_)
  · exact kX_law_50_J1465 N G d hd K18 hK18 y3 s441 w h
  · refine ev_s i224_1404 (p := 1405) (zic_0 _ _ _ _ _) ?_
    obtain rfl := Option.some.inj h
    exact ev_zret i224_1405 zr224 (by decide)
def fX_law_50_J1370 (N : Nat) (G : Nat) (K18 : Int32 → zS → Option (Int32 × zS)) (y3 : Int32) (σ : zS) : Option (Int32 × zS) := zb2 (fA_restore N σ) fun r430 s429 => zb2 (fM_restore N s429) fun r433 s432 => (if r430 = r433 then fX_law_50_J1465 N G K18 y3 s432 else some (0, s432))
set_option maxHeartbeats 4000000 in
theorem kX_law_50_J1370 (N : Nat) (G : Nat) (d : Nat) (hd : 10 + 3 * G ≤ d) (K18 : Int32 → zS → Option (Int32 × zS)) (hK18 : ∀ (y3 : Int32) (σ : zS) (w : Int32 × zS), K18 y3 σ = some w → zEv d 224 18 [some (zR 50 0), some (zR 7 0), some (zR 8 0), some (zI y3)] [] σ (some (zI w.1), w.2)) : ∀ (y3 : Int32) (σ : zS) (w : Int32 × zS), fX_law_50_J1370 N G K18 y3 σ = some w → zEv d 224 1370 [some (zR 50 0), some (zR 7 0), some (zR 8 0), some (zI y3)] [] σ (some (zI w.1), w.2) := by
  intro y3 σ w h
  unfold fX_law_50_J1370 at h
  refine ev_s i224_1370 (p := 1371) rfl ?_
  obtain ⟨r430, s429, hr428, h⟩ := b2_some h
  refine ev_callV i224_1371 zc9_166 zm97 zo97 (as' := []) (rest := []) rfl rfl (Nat.le_of_ble_eq_true rfl) (Nat.le_of_ble_eq_true rfl) (Nat.le_of_ble_eq_true rfl) (by omega) (l0 := [some (zR 7 0)]) rfl (p := 1374) rfl (kA_restore N σ (r430, s429) hr428 (d - 1) (by omega)) ?_
  change zEv d 224 1374 [some (zR 50 0), some (zR 7 0), some (zR 8 0), some (zI y3)] [zI r430] s429 _
  refine ev_s i224_1374 (p := 1375) rfl ?_
  obtain ⟨r433, s432, hr431, h⟩ := b2_some h
  refine ev_callV i224_1375 zc9_169 zm214 zo214 (as' := []) (rest := [zI r430]) rfl rfl (Nat.le_of_ble_eq_true rfl) (Nat.le_of_ble_eq_true rfl) (Nat.le_of_ble_eq_true rfl) (by omega) (l0 := [some (zR 8 0)]) rfl (p := 1378) rfl (kM_restore N s429 (r433, s432) hr431 (d - 1) (by omega)) ?_
  change zEv d 224 1378 [some (zR 50 0), some (zR 7 0), some (zR 8 0), some (zI y3)] [zI r433, zI r430] s432 _
  refine ev_cmpeq i224_1378 (t := 1465) (by decide) (p := 1381) rfl h (fun c434 h => ?_) (fun c434 h => ?_)
  · exact kX_law_50_J1465 N G d hd K18 hK18 y3 s432 w h
  · refine ev_s i224_1381 (p := 1382) (zic_0 _ _ _ _ _) ?_
    obtain rfl := Option.some.inj h
    exact ev_zret i224_1382 zr224 (by decide)
def fX_law_50_J1357 (N : Nat) (G : Nat) (K18 : Int32 → zS → Option (Int32 × zS)) (y3 : Int32) (σ : zS) : Option (Int32 × zS) := zb2 (fA_image N σ) fun r423 s422 => zb2 (fM_image N s422) fun r426 s425 => (if r423 = r426 then fX_law_50_J1465 N G K18 y3 s425 else some (0, s425))
set_option maxHeartbeats 4000000 in
theorem kX_law_50_J1357 (N : Nat) (G : Nat) (d : Nat) (hd : 10 + 3 * G ≤ d) (K18 : Int32 → zS → Option (Int32 × zS)) (hK18 : ∀ (y3 : Int32) (σ : zS) (w : Int32 × zS), K18 y3 σ = some w → zEv d 224 18 [some (zR 50 0), some (zR 7 0), some (zR 8 0), some (zI y3)] [] σ (some (zI w.1), w.2)) : ∀ (y3 : Int32) (σ : zS) (w : Int32 × zS), fX_law_50_J1357 N G K18 y3 σ = some w → zEv d 224 1357 [some (zR 50 0), some (zR 7 0), some (zR 8 0), some (zI y3)] [] σ (some (zI w.1), w.2) := by
  intro y3 σ w h
  unfold fX_law_50_J1357 at h
  refine ev_s i224_1357 (p := 1358) rfl ?_
  obtain ⟨r423, s422, hr421, h⟩ := b2_some h
  refine ev_callV i224_1358 zc9_162 zm96 zo96 (as' := []) (rest := []) rfl rfl (Nat.le_of_ble_eq_true rfl) (Nat.le_of_ble_eq_true rfl) (Nat.le_of_ble_eq_true rfl) (by omega) (l0 := [some (zR 7 0)]) rfl (p := 1361) rfl (kA_image N σ (r423, s422) hr421 (d - 1) (by omega)) ?_
  change zEv d 224 1361 [some (zR 50 0), some (zR 7 0), some (zR 8 0), some (zI y3)] [zI r423] s422 _
  refine ev_s i224_1361 (p := 1362) rfl ?_
  obtain ⟨r426, s425, hr424, h⟩ := b2_some h
  refine ev_callV i224_1362 zc9_165 zm213 zo213 (as' := []) (rest := [zI r423]) rfl rfl (Nat.le_of_ble_eq_true rfl) (Nat.le_of_ble_eq_true rfl) (Nat.le_of_ble_eq_true rfl) (by omega) (l0 := [some (zR 8 0)]) rfl (p := 1365) rfl (kM_image N s422 (r426, s425) hr424 (d - 1) (by omega)) ?_
  change zEv d 224 1365 [some (zR 50 0), some (zR 7 0), some (zR 8 0), some (zI y3)] [zI r426, zI r423] s425 _
  refine ev_cmpeq i224_1365 (t := 1465) (by decide) (p := 1368) rfl h (fun c427 h => ?_) (fun c427 h => ?_)
  · exact kX_law_50_J1465 N G d hd K18 hK18 y3 s425 w h
  · refine ev_s i224_1368 (p := 1369) (zic_0 _ _ _ _ _) ?_
    obtain rfl := Option.some.inj h
    exact ev_zret i224_1369 zr224 (by decide)
def fX_law_50_J1334 (N : Nat) (G : Nat) (K18 : Int32 → zS → Option (Int32 × zS)) (y3 : Int32) (σ : zS) : Option (Int32 × zS) := zgd (zin (y3 + 1) ((σ 50 1 0).toNatClampNeg)) (zb2 (fA_judge N (σ 50 0 (y3 + 1).toNatClampNeg) σ) fun r415 s414 => zgd (zin (y3 + 1) ((s414 50 1 0).toNatClampNeg)) (zb2 (fM_judge N (s414 50 0 (y3 + 1).toNatClampNeg) s414) fun r419 s418 => (if r415 = r419 then fX_law_50_J1465 N G K18 y3 s418 else some (0, s418))))
set_option maxHeartbeats 4000000 in
theorem kX_law_50_J1334 (N : Nat) (G : Nat) (d : Nat) (hd : 10 + 3 * G ≤ d) (K18 : Int32 → zS → Option (Int32 × zS)) (hK18 : ∀ (y3 : Int32) (σ : zS) (w : Int32 × zS), K18 y3 σ = some w → zEv d 224 18 [some (zR 50 0), some (zR 7 0), some (zR 8 0), some (zI y3)] [] σ (some (zI w.1), w.2)) : ∀ (y3 : Int32) (σ : zS) (w : Int32 × zS), fX_law_50_J1334 N G K18 y3 σ = some w → zEv d 224 1334 [some (zR 50 0), some (zR 7 0), some (zR 8 0), some (zI y3)] [] σ (some (zI w.1), w.2) := by
  intro y3 σ w h
  unfold fX_law_50_J1334 at h
  refine ev_s i224_1334 (p := 1335) rfl ?_
  refine ev_s i224_1335 (p := 1336) rfl ?_
  refine ev_s i224_1336 (p := 1337) rfl ?_
  refine ev_s i224_1337 (p := 1338) (zic_1 _ _ _ _ _) ?_
  refine ev_s i224_1338 (p := 1339) (t := [zI (y3 + 1), zR 50 0, zR 7 0]) rfl ?_
  refine ev_iald i224_1339 rfl (n := (σ 50 1 0).toNatClampNeg) rfl (p := 1340) rfl h (fun g412 h => ?_)
  obtain ⟨r415, s414, hr413, h⟩ := b2_some h
  refine ev_callV i224_1340 zc9_158 zm95 zo95 (as' := [zI (σ 50 0 (y3 + 1).toNatClampNeg)]) (rest := []) rfl rfl (Nat.le_of_ble_eq_true rfl) (Nat.le_of_ble_eq_true rfl) (Nat.le_of_ble_eq_true rfl) (by omega) (l0 := [some (zR 7 0), some (zI (σ 50 0 (y3 + 1).toNatClampNeg)), none, none, none]) rfl (p := 1343) rfl (kA_judge N (σ 50 0 (y3 + 1).toNatClampNeg) σ (r415, s414) hr413 (d - 1) (by omega)) ?_
  change zEv d 224 1343 [some (zR 50 0), some (zR 7 0), some (zR 8 0), some (zI y3)] [zI r415] s414 _
  refine ev_s i224_1343 (p := 1344) rfl ?_
  refine ev_s i224_1344 (p := 1345) rfl ?_
  refine ev_s i224_1345 (p := 1346) rfl ?_
  refine ev_s i224_1346 (p := 1347) (zic_1 _ _ _ _ _) ?_
  refine ev_s i224_1347 (p := 1348) (t := [zI (y3 + 1), zR 50 0, zR 8 0, zI r415]) rfl ?_
  refine ev_iald i224_1348 rfl (n := (s414 50 1 0).toNatClampNeg) rfl (p := 1349) rfl h (fun g416 h => ?_)
  obtain ⟨r419, s418, hr417, h⟩ := b2_some h
  refine ev_callV i224_1349 zc9_161 zm212 zo212 (as' := [zI (s414 50 0 (y3 + 1).toNatClampNeg)]) (rest := [zI r415]) rfl rfl (Nat.le_of_ble_eq_true rfl) (Nat.le_of_ble_eq_true rfl) (Nat.le_of_ble_eq_true rfl) (by omega) (l0 := [some (zR 8 0), some (zI (s414 50 0 (y3 + 1).toNatClampNeg)), none, none]) rfl (p := 1352) rfl (kM_judge N (s414 50 0 (y3 + 1).toNatClampNeg) s414 (r419, s418) hr417 (d - 1) (by omega)) ?_
  change zEv d 224 1352 [some (zR 50 0), some (zR 7 0), some (zR 8 0), some (zI y3)] [zI r419, zI r415] s418 _
  refine ev_cmpeq i224_1352 (t := 1465) (by decide) (p := 1355) rfl h (fun c420 h => ?_) (fun c420 h => ?_)
  · exact kX_law_50_J1465 N G d hd K18 hK18 y3 s418 w h
  · refine ev_s i224_1355 (p := 1356) (zic_0 _ _ _ _ _) ?_
    obtain rfl := Option.some.inj h
    exact ev_zret i224_1356 zr224 (by decide)
def fX_law_50_J1311 (N : Nat) (G : Nat) (K18 : Int32 → zS → Option (Int32 × zS)) (y3 : Int32) (σ : zS) : Option (Int32 × zS) := zgd (zin (y3 + 1) ((σ 50 1 0).toNatClampNeg)) (zb2 (fA_reels N (σ 50 0 (y3 + 1).toNatClampNeg) σ) fun r406 s405 => zgd (zin (y3 + 1) ((s405 50 1 0).toNatClampNeg)) (zb2 (fM_reels N (s405 50 0 (y3 + 1).toNatClampNeg) s405) fun r410 s409 => (if r406 = r410 then fX_law_50_J1465 N G K18 y3 s409 else some (0, s409))))
set_option maxHeartbeats 4000000 in
theorem kX_law_50_J1311 (N : Nat) (G : Nat) (d : Nat) (hd : 10 + 3 * G ≤ d) (K18 : Int32 → zS → Option (Int32 × zS)) (hK18 : ∀ (y3 : Int32) (σ : zS) (w : Int32 × zS), K18 y3 σ = some w → zEv d 224 18 [some (zR 50 0), some (zR 7 0), some (zR 8 0), some (zI y3)] [] σ (some (zI w.1), w.2)) : ∀ (y3 : Int32) (σ : zS) (w : Int32 × zS), fX_law_50_J1311 N G K18 y3 σ = some w → zEv d 224 1311 [some (zR 50 0), some (zR 7 0), some (zR 8 0), some (zI y3)] [] σ (some (zI w.1), w.2) := by
  intro y3 σ w h
  unfold fX_law_50_J1311 at h
  refine ev_s i224_1311 (p := 1312) rfl ?_
  refine ev_s i224_1312 (p := 1313) rfl ?_
  refine ev_s i224_1313 (p := 1314) rfl ?_
  refine ev_s i224_1314 (p := 1315) (zic_1 _ _ _ _ _) ?_
  refine ev_s i224_1315 (p := 1316) (t := [zI (y3 + 1), zR 50 0, zR 7 0]) rfl ?_
  refine ev_iald i224_1316 rfl (n := (σ 50 1 0).toNatClampNeg) rfl (p := 1317) rfl h (fun g403 h => ?_)
  obtain ⟨r406, s405, hr404, h⟩ := b2_some h
  refine ev_callV i224_1317 zc9_154 zm94 zo94 (as' := [zI (σ 50 0 (y3 + 1).toNatClampNeg)]) (rest := []) rfl rfl (Nat.le_of_ble_eq_true rfl) (Nat.le_of_ble_eq_true rfl) (Nat.le_of_ble_eq_true rfl) (by omega) (l0 := [some (zR 7 0), some (zI (σ 50 0 (y3 + 1).toNatClampNeg)), none, none, none]) rfl (p := 1320) rfl (kA_reels N (σ 50 0 (y3 + 1).toNatClampNeg) σ (r406, s405) hr404 (d - 1) (by omega)) ?_
  change zEv d 224 1320 [some (zR 50 0), some (zR 7 0), some (zR 8 0), some (zI y3)] [zI r406] s405 _
  refine ev_s i224_1320 (p := 1321) rfl ?_
  refine ev_s i224_1321 (p := 1322) rfl ?_
  refine ev_s i224_1322 (p := 1323) rfl ?_
  refine ev_s i224_1323 (p := 1324) (zic_1 _ _ _ _ _) ?_
  refine ev_s i224_1324 (p := 1325) (t := [zI (y3 + 1), zR 50 0, zR 8 0, zI r406]) rfl ?_
  refine ev_iald i224_1325 rfl (n := (s405 50 1 0).toNatClampNeg) rfl (p := 1326) rfl h (fun g407 h => ?_)
  obtain ⟨r410, s409, hr408, h⟩ := b2_some h
  refine ev_callV i224_1326 zc9_157 zm211 zo211 (as' := [zI (s405 50 0 (y3 + 1).toNatClampNeg)]) (rest := [zI r406]) rfl rfl (Nat.le_of_ble_eq_true rfl) (Nat.le_of_ble_eq_true rfl) (Nat.le_of_ble_eq_true rfl) (by omega) (l0 := [some (zR 8 0), some (zI (s405 50 0 (y3 + 1).toNatClampNeg)), none, none]) rfl (p := 1329) rfl (kM_reels N (s405 50 0 (y3 + 1).toNatClampNeg) s405 (r410, s409) hr408 (d - 1) (by omega)) ?_
  change zEv d 224 1329 [some (zR 50 0), some (zR 7 0), some (zR 8 0), some (zI y3)] [zI r410, zI r406] s409 _
  refine ev_cmpeq i224_1329 (t := 1465) (by decide) (p := 1332) rfl h (fun c411 h => ?_) (fun c411 h => ?_)
  · exact kX_law_50_J1465 N G d hd K18 hK18 y3 s409 w h
  · refine ev_s i224_1332 (p := 1333) (zic_0 _ _ _ _ _) ?_
    obtain rfl := Option.some.inj h
    exact ev_zret i224_1333 zr224 (by decide)
def fX_law_50_J1248 (N : Nat) (G : Nat) (K18 : Int32 → zS → Option (Int32 × zS)) (y3 : Int32) (σ : zS) : Option (Int32 × zS) := zgd (zin (y3 + 1) ((σ 50 1 0).toNatClampNeg)) (zgd (zin (y3 + 2) ((σ 50 1 0).toNatClampNeg)) (zgd (zin (y3 + 3) ((σ 50 1 0).toNatClampNeg)) (zgd (zin (y3 + 4) ((σ 50 1 0).toNatClampNeg)) (zgd (zin (y3 + 5) ((σ 50 1 0).toNatClampNeg)) (zb2 (fA_move (σ 50 0 (y3 + 1).toNatClampNeg) (σ 50 0 (y3 + 2).toNatClampNeg) (σ 50 0 (y3 + 3).toNatClampNeg) (σ 50 0 (y3 + 4).toNatClampNeg) (σ 50 0 (y3 + 5).toNatClampNeg) σ) fun r393 s392 => zgd (zin (y3 + 1) ((s392 50 1 0).toNatClampNeg)) (zgd (zin (y3 + 2) ((s392 50 1 0).toNatClampNeg)) (zgd (zin (y3 + 3) ((s392 50 1 0).toNatClampNeg)) (zgd (zin (y3 + 4) ((s392 50 1 0).toNatClampNeg)) (zgd (zin (y3 + 5) ((s392 50 1 0).toNatClampNeg)) (zb2 (fM_move N (s392 50 0 (y3 + 1).toNatClampNeg) (s392 50 0 (y3 + 2).toNatClampNeg) (s392 50 0 (y3 + 3).toNatClampNeg) (s392 50 0 (y3 + 4).toNatClampNeg) (s392 50 0 (y3 + 5).toNatClampNeg) s392) fun r401 s400 => (if r393 = r401 then fX_law_50_J1465 N G K18 y3 s400 else some (0, s400))))))))))))
set_option maxHeartbeats 4000000 in
theorem kX_law_50_J1248 (N : Nat) (G : Nat) (d : Nat) (hd : 10 + 3 * G ≤ d) (K18 : Int32 → zS → Option (Int32 × zS)) (hK18 : ∀ (y3 : Int32) (σ : zS) (w : Int32 × zS), K18 y3 σ = some w → zEv d 224 18 [some (zR 50 0), some (zR 7 0), some (zR 8 0), some (zI y3)] [] σ (some (zI w.1), w.2)) : ∀ (y3 : Int32) (σ : zS) (w : Int32 × zS), fX_law_50_J1248 N G K18 y3 σ = some w → zEv d 224 1248 [some (zR 50 0), some (zR 7 0), some (zR 8 0), some (zI y3)] [] σ (some (zI w.1), w.2) := by
  intro y3 σ w h
  unfold fX_law_50_J1248 at h
  refine ev_s i224_1248 (p := 1249) rfl ?_
  refine ev_s i224_1249 (p := 1250) rfl ?_
  refine ev_s i224_1250 (p := 1251) rfl ?_
  refine ev_s i224_1251 (p := 1252) (zic_1 _ _ _ _ _) ?_
  refine ev_s i224_1252 (p := 1253) (t := [zI (y3 + 1), zR 50 0, zR 7 0]) rfl ?_
  refine ev_iald i224_1253 rfl (n := (σ 50 1 0).toNatClampNeg) rfl (p := 1254) rfl h (fun g386 h => ?_)
  refine ev_s i224_1254 (p := 1255) rfl ?_
  refine ev_s i224_1255 (p := 1256) rfl ?_
  refine ev_s i224_1256 (p := 1257) (zic_2 _ _ _ _ _) ?_
  refine ev_s i224_1257 (p := 1258) (t := [zI (y3 + 2), zR 50 0, zI (σ 50 0 (y3 + 1).toNatClampNeg), zR 7 0]) rfl ?_
  refine ev_iald i224_1258 rfl (n := (σ 50 1 0).toNatClampNeg) rfl (p := 1259) rfl h (fun g387 h => ?_)
  refine ev_s i224_1259 (p := 1260) rfl ?_
  refine ev_s i224_1260 (p := 1261) rfl ?_
  refine ev_s i224_1261 (p := 1262) (zic_3 _ _ _ _ _) ?_
  refine ev_s i224_1262 (p := 1263) (t := [zI (y3 + 3), zR 50 0, zI (σ 50 0 (y3 + 2).toNatClampNeg), zI (σ 50 0 (y3 + 1).toNatClampNeg), zR 7 0]) rfl ?_
  refine ev_iald i224_1263 rfl (n := (σ 50 1 0).toNatClampNeg) rfl (p := 1264) rfl h (fun g388 h => ?_)
  refine ev_s i224_1264 (p := 1265) rfl ?_
  refine ev_s i224_1265 (p := 1266) rfl ?_
  refine ev_s i224_1266 (p := 1267) (zic_4 _ _ _ _ _) ?_
  refine ev_s i224_1267 (p := 1268) (t := [zI (y3 + 4), zR 50 0, zI (σ 50 0 (y3 + 3).toNatClampNeg), zI (σ 50 0 (y3 + 2).toNatClampNeg), zI (σ 50 0 (y3 + 1).toNatClampNeg), zR 7 0]) rfl ?_
  refine ev_iald i224_1268 rfl (n := (σ 50 1 0).toNatClampNeg) rfl (p := 1269) rfl h (fun g389 h => ?_)
  refine ev_s i224_1269 (p := 1270) rfl ?_
  refine ev_s i224_1270 (p := 1271) rfl ?_
  refine ev_s i224_1271 (p := 1272) (zic_5 _ _ _ _ _) ?_
  refine ev_s i224_1272 (p := 1273) (t := [zI (y3 + 5), zR 50 0, zI (σ 50 0 (y3 + 4).toNatClampNeg), zI (σ 50 0 (y3 + 3).toNatClampNeg), zI (σ 50 0 (y3 + 2).toNatClampNeg), zI (σ 50 0 (y3 + 1).toNatClampNeg), zR 7 0]) rfl ?_
  refine ev_iald i224_1273 rfl (n := (σ 50 1 0).toNatClampNeg) rfl (p := 1274) rfl h (fun g390 h => ?_)
  obtain ⟨r393, s392, hr391, h⟩ := b2_some h
  refine ev_callV i224_1274 zc9_149 zm93 zo93 (as' := [zI (σ 50 0 (y3 + 1).toNatClampNeg), zI (σ 50 0 (y3 + 2).toNatClampNeg), zI (σ 50 0 (y3 + 3).toNatClampNeg), zI (σ 50 0 (y3 + 4).toNatClampNeg), zI (σ 50 0 (y3 + 5).toNatClampNeg)]) (rest := []) rfl rfl (Nat.le_of_ble_eq_true rfl) (Nat.le_of_ble_eq_true rfl) (Nat.le_of_ble_eq_true rfl) (by omega) (l0 := [some (zR 7 0), some (zI (σ 50 0 (y3 + 1).toNatClampNeg)), some (zI (σ 50 0 (y3 + 2).toNatClampNeg)), some (zI (σ 50 0 (y3 + 3).toNatClampNeg)), some (zI (σ 50 0 (y3 + 4).toNatClampNeg)), some (zI (σ 50 0 (y3 + 5).toNatClampNeg)), none, none]) rfl (p := 1277) rfl (kA_move (σ 50 0 (y3 + 1).toNatClampNeg) (σ 50 0 (y3 + 2).toNatClampNeg) (σ 50 0 (y3 + 3).toNatClampNeg) (σ 50 0 (y3 + 4).toNatClampNeg) (σ 50 0 (y3 + 5).toNatClampNeg) σ (r393, s392) hr391 (d - 1) (by omega)) ?_
  change zEv d 224 1277 [some (zR 50 0), some (zR 7 0), some (zR 8 0), some (zI y3)] [zI r393] s392 _
  refine ev_s i224_1277 (p := 1278) rfl ?_
  refine ev_s i224_1278 (p := 1279) rfl ?_
  refine ev_s i224_1279 (p := 1280) rfl ?_
  refine ev_s i224_1280 (p := 1281) (zic_1 _ _ _ _ _) ?_
  refine ev_s i224_1281 (p := 1282) (t := [zI (y3 + 1), zR 50 0, zR 8 0, zI r393]) rfl ?_
  refine ev_iald i224_1282 rfl (n := (s392 50 1 0).toNatClampNeg) rfl (p := 1283) rfl h (fun g394 h => ?_)
  refine ev_s i224_1283 (p := 1284) rfl ?_
  refine ev_s i224_1284 (p := 1285) rfl ?_
  refine ev_s i224_1285 (p := 1286) (zic_2 _ _ _ _ _) ?_
  refine ev_s i224_1286 (p := 1287) (t := [zI (y3 + 2), zR 50 0, zI (s392 50 0 (y3 + 1).toNatClampNeg), zR 8 0, zI r393]) rfl ?_
  refine ev_iald i224_1287 rfl (n := (s392 50 1 0).toNatClampNeg) rfl (p := 1288) rfl h (fun g395 h => ?_)
  refine ev_s i224_1288 (p := 1289) rfl ?_
  refine ev_s i224_1289 (p := 1290) rfl ?_
  refine ev_s i224_1290 (p := 1291) (zic_3 _ _ _ _ _) ?_
  refine ev_s i224_1291 (p := 1292) (t := [zI (y3 + 3), zR 50 0, zI (s392 50 0 (y3 + 2).toNatClampNeg), zI (s392 50 0 (y3 + 1).toNatClampNeg), zR 8 0, zI r393]) rfl ?_
  refine ev_iald i224_1292 rfl (n := (s392 50 1 0).toNatClampNeg) rfl (p := 1293) rfl h (fun g396 h => ?_)
  refine ev_s i224_1293 (p := 1294) rfl ?_
  refine ev_s i224_1294 (p := 1295) rfl ?_
  refine ev_s i224_1295 (p := 1296) (zic_4 _ _ _ _ _) ?_
  refine ev_s i224_1296 (p := 1297) (t := [zI (y3 + 4), zR 50 0, zI (s392 50 0 (y3 + 3).toNatClampNeg), zI (s392 50 0 (y3 + 2).toNatClampNeg), zI (s392 50 0 (y3 + 1).toNatClampNeg), zR 8 0, zI r393]) rfl ?_
  refine ev_iald i224_1297 rfl (n := (s392 50 1 0).toNatClampNeg) rfl (p := 1298) rfl h (fun g397 h => ?_)
  refine ev_s i224_1298 (p := 1299) rfl ?_
  refine ev_s i224_1299 (p := 1300) rfl ?_
  refine ev_s i224_1300 (p := 1301) (zic_5 _ _ _ _ _) ?_
  refine ev_s i224_1301 (p := 1302) (t := [zI (y3 + 5), zR 50 0, zI (s392 50 0 (y3 + 4).toNatClampNeg), zI (s392 50 0 (y3 + 3).toNatClampNeg), zI (s392 50 0 (y3 + 2).toNatClampNeg), zI (s392 50 0 (y3 + 1).toNatClampNeg), zR 8 0, zI r393]) rfl ?_
  refine ev_iald i224_1302 rfl (n := (s392 50 1 0).toNatClampNeg) rfl (p := 1303) rfl h (fun g398 h => ?_)
  obtain ⟨r401, s400, hr399, h⟩ := b2_some h
  refine ev_callV i224_1303 zc9_153 zm209 zo209 (as' := [zI (s392 50 0 (y3 + 1).toNatClampNeg), zI (s392 50 0 (y3 + 2).toNatClampNeg), zI (s392 50 0 (y3 + 3).toNatClampNeg), zI (s392 50 0 (y3 + 4).toNatClampNeg), zI (s392 50 0 (y3 + 5).toNatClampNeg)]) (rest := [zI r393]) rfl rfl (Nat.le_of_ble_eq_true rfl) (Nat.le_of_ble_eq_true rfl) (Nat.le_of_ble_eq_true rfl) (by omega) (l0 := [some (zR 8 0), some (zI (s392 50 0 (y3 + 1).toNatClampNeg)), some (zI (s392 50 0 (y3 + 2).toNatClampNeg)), some (zI (s392 50 0 (y3 + 3).toNatClampNeg)), some (zI (s392 50 0 (y3 + 4).toNatClampNeg)), some (zI (s392 50 0 (y3 + 5).toNatClampNeg)), none]) rfl (p := 1306) rfl (kM_move N (s392 50 0 (y3 + 1).toNatClampNeg) (s392 50 0 (y3 + 2).toNatClampNeg) (s392 50 0 (y3 + 3).toNatClampNeg) (s392 50 0 (y3 + 4).toNatClampNeg) (s392 50 0 (y3 + 5).toNatClampNeg) s392 (r401, s400) hr399 (d - 1) (by omega)) ?_
  change zEv d 224 1306 [some (zR 50 0), some (zR 7 0), some (zR 8 0), some (zI y3)] [zI r401, zI r393] s400 _
  refine ev_cmpeq i224_1306 (t := 1465) (by decide) (p := 1309) rfl h (fun c402 h => ?_) (fun c402 h => ?_)
  · exact kX_law_50_J1465 N G d hd K18 hK18 y3 s400 w h
  · refine ev_s i224_1309 (p := 1310) (zic_0 _ _ _ _ _) ?_
    obtain rfl := Option.some.inj h
    exact ev_zret i224_1310 zr224 (by decide)
def fX_law_50_J1205 (N : Nat) (G : Nat) (K18 : Int32 → zS → Option (Int32 × zS)) (y3 : Int32) (σ : zS) : Option (Int32 × zS) := zgd (zin (y3 + 1) ((σ 50 1 0).toNatClampNeg)) (zgd (zin (y3 + 2) ((σ 50 1 0).toNatClampNeg)) (zgd (zin (y3 + 3) ((σ 50 1 0).toNatClampNeg)) (zb2 (fA_put (σ 50 0 (y3 + 1).toNatClampNeg) (σ 50 0 (y3 + 2).toNatClampNeg) (σ 50 0 (y3 + 3).toNatClampNeg) σ) fun r378 s377 => zgd (zin (y3 + 1) ((s377 50 1 0).toNatClampNeg)) (zgd (zin (y3 + 2) ((s377 50 1 0).toNatClampNeg)) (zgd (zin (y3 + 3) ((s377 50 1 0).toNatClampNeg)) (zb2 (fM_put (s377 50 0 (y3 + 1).toNatClampNeg) (s377 50 0 (y3 + 2).toNatClampNeg) (s377 50 0 (y3 + 3).toNatClampNeg) s377) fun r384 s383 => (if r378 = r384 then fX_law_50_J1465 N G K18 y3 s383 else some (0, s383))))))))
set_option maxHeartbeats 4000000 in
theorem kX_law_50_J1205 (N : Nat) (G : Nat) (d : Nat) (hd : 10 + 3 * G ≤ d) (K18 : Int32 → zS → Option (Int32 × zS)) (hK18 : ∀ (y3 : Int32) (σ : zS) (w : Int32 × zS), K18 y3 σ = some w → zEv d 224 18 [some (zR 50 0), some (zR 7 0), some (zR 8 0), some (zI y3)] [] σ (some (zI w.1), w.2)) : ∀ (y3 : Int32) (σ : zS) (w : Int32 × zS), fX_law_50_J1205 N G K18 y3 σ = some w → zEv d 224 1205 [some (zR 50 0), some (zR 7 0), some (zR 8 0), some (zI y3)] [] σ (some (zI w.1), w.2) := by
  intro y3 σ w h
  unfold fX_law_50_J1205 at h
  refine ev_s i224_1205 (p := 1206) rfl ?_
  refine ev_s i224_1206 (p := 1207) rfl ?_
  refine ev_s i224_1207 (p := 1208) rfl ?_
  refine ev_s i224_1208 (p := 1209) (zic_1 _ _ _ _ _) ?_
  refine ev_s i224_1209 (p := 1210) (t := [zI (y3 + 1), zR 50 0, zR 7 0]) rfl ?_
  refine ev_iald i224_1210 rfl (n := (σ 50 1 0).toNatClampNeg) rfl (p := 1211) rfl h (fun g373 h => ?_)
  refine ev_s i224_1211 (p := 1212) rfl ?_
  refine ev_s i224_1212 (p := 1213) rfl ?_
  refine ev_s i224_1213 (p := 1214) (zic_2 _ _ _ _ _) ?_
  refine ev_s i224_1214 (p := 1215) (t := [zI (y3 + 2), zR 50 0, zI (σ 50 0 (y3 + 1).toNatClampNeg), zR 7 0]) rfl ?_
  refine ev_iald i224_1215 rfl (n := (σ 50 1 0).toNatClampNeg) rfl (p := 1216) rfl h (fun g374 h => ?_)
  refine ev_s i224_1216 (p := 1217) rfl ?_
  refine ev_s i224_1217 (p := 1218) rfl ?_
  refine ev_s i224_1218 (p := 1219) (zic_3 _ _ _ _ _) ?_
  refine ev_s i224_1219 (p := 1220) (t := [zI (y3 + 3), zR 50 0, zI (σ 50 0 (y3 + 2).toNatClampNeg), zI (σ 50 0 (y3 + 1).toNatClampNeg), zR 7 0]) rfl ?_
  refine ev_iald i224_1220 rfl (n := (σ 50 1 0).toNatClampNeg) rfl (p := 1221) rfl h (fun g375 h => ?_)
  obtain ⟨r378, s377, hr376, h⟩ := b2_some h
  refine ev_callV i224_1221 zc9_145 zm92 zo92 (as' := [zI (σ 50 0 (y3 + 1).toNatClampNeg), zI (σ 50 0 (y3 + 2).toNatClampNeg), zI (σ 50 0 (y3 + 3).toNatClampNeg)]) (rest := []) rfl rfl (Nat.le_of_ble_eq_true rfl) (Nat.le_of_ble_eq_true rfl) (Nat.le_of_ble_eq_true rfl) (by omega) (l0 := [some (zR 7 0), some (zI (σ 50 0 (y3 + 1).toNatClampNeg)), some (zI (σ 50 0 (y3 + 2).toNatClampNeg)), some (zI (σ 50 0 (y3 + 3).toNatClampNeg))]) rfl (p := 1224) rfl (kA_put (σ 50 0 (y3 + 1).toNatClampNeg) (σ 50 0 (y3 + 2).toNatClampNeg) (σ 50 0 (y3 + 3).toNatClampNeg) σ (r378, s377) hr376 (d - 1) (by omega)) ?_
  change zEv d 224 1224 [some (zR 50 0), some (zR 7 0), some (zR 8 0), some (zI y3)] [zI r378] s377 _
  refine ev_s i224_1224 (p := 1225) rfl ?_
  refine ev_s i224_1225 (p := 1226) rfl ?_
  refine ev_s i224_1226 (p := 1227) rfl ?_
  refine ev_s i224_1227 (p := 1228) (zic_1 _ _ _ _ _) ?_
  refine ev_s i224_1228 (p := 1229) (t := [zI (y3 + 1), zR 50 0, zR 8 0, zI r378]) rfl ?_
  refine ev_iald i224_1229 rfl (n := (s377 50 1 0).toNatClampNeg) rfl (p := 1230) rfl h (fun g379 h => ?_)
  refine ev_s i224_1230 (p := 1231) rfl ?_
  refine ev_s i224_1231 (p := 1232) rfl ?_
  refine ev_s i224_1232 (p := 1233) (zic_2 _ _ _ _ _) ?_
  refine ev_s i224_1233 (p := 1234) (t := [zI (y3 + 2), zR 50 0, zI (s377 50 0 (y3 + 1).toNatClampNeg), zR 8 0, zI r378]) rfl ?_
  refine ev_iald i224_1234 rfl (n := (s377 50 1 0).toNatClampNeg) rfl (p := 1235) rfl h (fun g380 h => ?_)
  refine ev_s i224_1235 (p := 1236) rfl ?_
  refine ev_s i224_1236 (p := 1237) rfl ?_
  refine ev_s i224_1237 (p := 1238) (zic_3 _ _ _ _ _) ?_
  refine ev_s i224_1238 (p := 1239) (t := [zI (y3 + 3), zR 50 0, zI (s377 50 0 (y3 + 2).toNatClampNeg), zI (s377 50 0 (y3 + 1).toNatClampNeg), zR 8 0, zI r378]) rfl ?_
  refine ev_iald i224_1239 rfl (n := (s377 50 1 0).toNatClampNeg) rfl (p := 1240) rfl h (fun g381 h => ?_)
  obtain ⟨r384, s383, hr382, h⟩ := b2_some h
  refine ev_callV i224_1240 zc9_148 zm208 zo208 (as' := [zI (s377 50 0 (y3 + 1).toNatClampNeg), zI (s377 50 0 (y3 + 2).toNatClampNeg), zI (s377 50 0 (y3 + 3).toNatClampNeg)]) (rest := [zI r378]) rfl rfl (Nat.le_of_ble_eq_true rfl) (Nat.le_of_ble_eq_true rfl) (Nat.le_of_ble_eq_true rfl) (by omega) (l0 := [some (zR 8 0), some (zI (s377 50 0 (y3 + 1).toNatClampNeg)), some (zI (s377 50 0 (y3 + 2).toNatClampNeg)), some (zI (s377 50 0 (y3 + 3).toNatClampNeg)), none]) rfl (p := 1243) rfl (kM_put (s377 50 0 (y3 + 1).toNatClampNeg) (s377 50 0 (y3 + 2).toNatClampNeg) (s377 50 0 (y3 + 3).toNatClampNeg) s377 (r384, s383) hr382 (d - 1) (by omega)) ?_
  change zEv d 224 1243 [some (zR 50 0), some (zR 7 0), some (zR 8 0), some (zI y3)] [zI r384, zI r378] s383 _
  refine ev_cmpeq i224_1243 (t := 1465) (by decide) (p := 1246) rfl h (fun c385 h => ?_) (fun c385 h => ?_)
  · exact kX_law_50_J1465 N G d hd K18 hK18 y3 s383 w h
  · refine ev_s i224_1246 (p := 1247) (zic_0 _ _ _ _ _) ?_
    obtain rfl := Option.some.inj h
    exact ev_zret i224_1247 zr224 (by decide)
def fX_law_50_J1162 (N : Nat) (G : Nat) (K18 : Int32 → zS → Option (Int32 × zS)) (y3 : Int32) (σ : zS) : Option (Int32 × zS) := zgd (zin (y3 + 1) ((σ 50 1 0).toNatClampNeg)) (zgd (zin (y3 + 2) ((σ 50 1 0).toNatClampNeg)) (zgd (zin (y3 + 3) ((σ 50 1 0).toNatClampNeg)) (zb2 (fA_sheet N (σ 50 0 (y3 + 1).toNatClampNeg) (σ 50 0 (y3 + 2).toNatClampNeg) (σ 50 0 (y3 + 3).toNatClampNeg) σ) fun r365 s364 => zgd (zin (y3 + 1) ((s364 50 1 0).toNatClampNeg)) (zgd (zin (y3 + 2) ((s364 50 1 0).toNatClampNeg)) (zgd (zin (y3 + 3) ((s364 50 1 0).toNatClampNeg)) (zb2 (fM_sheet N (s364 50 0 (y3 + 1).toNatClampNeg) (s364 50 0 (y3 + 2).toNatClampNeg) (s364 50 0 (y3 + 3).toNatClampNeg) s364) fun r371 s370 => (if r365 = r371 then fX_law_50_J1465 N G K18 y3 s370 else some (0, s370))))))))
set_option maxHeartbeats 4000000 in
theorem kX_law_50_J1162 (N : Nat) (G : Nat) (d : Nat) (hd : 10 + 3 * G ≤ d) (K18 : Int32 → zS → Option (Int32 × zS)) (hK18 : ∀ (y3 : Int32) (σ : zS) (w : Int32 × zS), K18 y3 σ = some w → zEv d 224 18 [some (zR 50 0), some (zR 7 0), some (zR 8 0), some (zI y3)] [] σ (some (zI w.1), w.2)) : ∀ (y3 : Int32) (σ : zS) (w : Int32 × zS), fX_law_50_J1162 N G K18 y3 σ = some w → zEv d 224 1162 [some (zR 50 0), some (zR 7 0), some (zR 8 0), some (zI y3)] [] σ (some (zI w.1), w.2) := by
  intro y3 σ w h
  unfold fX_law_50_J1162 at h
  refine ev_s i224_1162 (p := 1163) rfl ?_
  refine ev_s i224_1163 (p := 1164) rfl ?_
  refine ev_s i224_1164 (p := 1165) rfl ?_
  refine ev_s i224_1165 (p := 1166) (zic_1 _ _ _ _ _) ?_
  refine ev_s i224_1166 (p := 1167) (t := [zI (y3 + 1), zR 50 0, zR 7 0]) rfl ?_
  refine ev_iald i224_1167 rfl (n := (σ 50 1 0).toNatClampNeg) rfl (p := 1168) rfl h (fun g360 h => ?_)
  refine ev_s i224_1168 (p := 1169) rfl ?_
  refine ev_s i224_1169 (p := 1170) rfl ?_
  refine ev_s i224_1170 (p := 1171) (zic_2 _ _ _ _ _) ?_
  refine ev_s i224_1171 (p := 1172) (t := [zI (y3 + 2), zR 50 0, zI (σ 50 0 (y3 + 1).toNatClampNeg), zR 7 0]) rfl ?_
  refine ev_iald i224_1172 rfl (n := (σ 50 1 0).toNatClampNeg) rfl (p := 1173) rfl h (fun g361 h => ?_)
  refine ev_s i224_1173 (p := 1174) rfl ?_
  refine ev_s i224_1174 (p := 1175) rfl ?_
  refine ev_s i224_1175 (p := 1176) (zic_3 _ _ _ _ _) ?_
  refine ev_s i224_1176 (p := 1177) (t := [zI (y3 + 3), zR 50 0, zI (σ 50 0 (y3 + 2).toNatClampNeg), zI (σ 50 0 (y3 + 1).toNatClampNeg), zR 7 0]) rfl ?_
  refine ev_iald i224_1177 rfl (n := (σ 50 1 0).toNatClampNeg) rfl (p := 1178) rfl h (fun g362 h => ?_)
  obtain ⟨r365, s364, hr363, h⟩ := b2_some h
  refine ev_callV i224_1178 zc9_141 zm91 zo91 (as' := [zI (σ 50 0 (y3 + 1).toNatClampNeg), zI (σ 50 0 (y3 + 2).toNatClampNeg), zI (σ 50 0 (y3 + 3).toNatClampNeg)]) (rest := []) rfl rfl (Nat.le_of_ble_eq_true rfl) (Nat.le_of_ble_eq_true rfl) (Nat.le_of_ble_eq_true rfl) (by omega) (l0 := [some (zR 7 0), some (zI (σ 50 0 (y3 + 1).toNatClampNeg)), some (zI (σ 50 0 (y3 + 2).toNatClampNeg)), some (zI (σ 50 0 (y3 + 3).toNatClampNeg))]) rfl (p := 1181) rfl (kA_sheet N (σ 50 0 (y3 + 1).toNatClampNeg) (σ 50 0 (y3 + 2).toNatClampNeg) (σ 50 0 (y3 + 3).toNatClampNeg) σ (r365, s364) hr363 (d - 1) (by omega)) ?_
  change zEv d 224 1181 [some (zR 50 0), some (zR 7 0), some (zR 8 0), some (zI y3)] [zI r365] s364 _
  refine ev_s i224_1181 (p := 1182) rfl ?_
  refine ev_s i224_1182 (p := 1183) rfl ?_
  refine ev_s i224_1183 (p := 1184) rfl ?_
  refine ev_s i224_1184 (p := 1185) (zic_1 _ _ _ _ _) ?_
  refine ev_s i224_1185 (p := 1186) (t := [zI (y3 + 1), zR 50 0, zR 8 0, zI r365]) rfl ?_
  refine ev_iald i224_1186 rfl (n := (s364 50 1 0).toNatClampNeg) rfl (p := 1187) rfl h (fun g366 h => ?_)
  refine ev_s i224_1187 (p := 1188) rfl ?_
  refine ev_s i224_1188 (p := 1189) rfl ?_
  refine ev_s i224_1189 (p := 1190) (zic_2 _ _ _ _ _) ?_
  refine ev_s i224_1190 (p := 1191) (t := [zI (y3 + 2), zR 50 0, zI (s364 50 0 (y3 + 1).toNatClampNeg), zR 8 0, zI r365]) rfl ?_
  refine ev_iald i224_1191 rfl (n := (s364 50 1 0).toNatClampNeg) rfl (p := 1192) rfl h (fun g367 h => ?_)
  refine ev_s i224_1192 (p := 1193) rfl ?_
  refine ev_s i224_1193 (p := 1194) rfl ?_
  refine ev_s i224_1194 (p := 1195) (zic_3 _ _ _ _ _) ?_
  refine ev_s i224_1195 (p := 1196) (t := [zI (y3 + 3), zR 50 0, zI (s364 50 0 (y3 + 2).toNatClampNeg), zI (s364 50 0 (y3 + 1).toNatClampNeg), zR 8 0, zI r365]) rfl ?_
  refine ev_iald i224_1196 rfl (n := (s364 50 1 0).toNatClampNeg) rfl (p := 1197) rfl h (fun g368 h => ?_)
  obtain ⟨r371, s370, hr369, h⟩ := b2_some h
  refine ev_callV i224_1197 zc9_144 zm207 zo207 (as' := [zI (s364 50 0 (y3 + 1).toNatClampNeg), zI (s364 50 0 (y3 + 2).toNatClampNeg), zI (s364 50 0 (y3 + 3).toNatClampNeg)]) (rest := [zI r365]) rfl rfl (Nat.le_of_ble_eq_true rfl) (Nat.le_of_ble_eq_true rfl) (Nat.le_of_ble_eq_true rfl) (by omega) (l0 := [some (zR 8 0), some (zI (s364 50 0 (y3 + 1).toNatClampNeg)), some (zI (s364 50 0 (y3 + 2).toNatClampNeg)), some (zI (s364 50 0 (y3 + 3).toNatClampNeg)), none]) rfl (p := 1200) rfl (kM_sheet N (s364 50 0 (y3 + 1).toNatClampNeg) (s364 50 0 (y3 + 2).toNatClampNeg) (s364 50 0 (y3 + 3).toNatClampNeg) s364 (r371, s370) hr369 (d - 1) (by omega)) ?_
  change zEv d 224 1200 [some (zR 50 0), some (zR 7 0), some (zR 8 0), some (zI y3)] [zI r371, zI r365] s370 _
  refine ev_cmpeq i224_1200 (t := 1465) (by decide) (p := 1203) rfl h (fun c372 h => ?_) (fun c372 h => ?_)
  · exact kX_law_50_J1465 N G d hd K18 hK18 y3 s370 w h
  · refine ev_s i224_1203 (p := 1204) (zic_0 _ _ _ _ _) ?_
    obtain rfl := Option.some.inj h
    exact ev_zret i224_1204 zr224 (by decide)
def fX_law_50_J1139 (N : Nat) (G : Nat) (K18 : Int32 → zS → Option (Int32 × zS)) (y3 : Int32) (σ : zS) : Option (Int32 × zS) := zgd (zin (y3 + 1) ((σ 50 1 0).toNatClampNeg)) (zb2 (fA_body (σ 50 0 (y3 + 1).toNatClampNeg) σ) fun r354 s353 => zgd (zin (y3 + 1) ((s353 50 1 0).toNatClampNeg)) (zb2 (fM_body (s353 50 0 (y3 + 1).toNatClampNeg) s353) fun r358 s357 => (if r354 = r358 then fX_law_50_J1465 N G K18 y3 s357 else some (0, s357))))
set_option maxHeartbeats 4000000 in
theorem kX_law_50_J1139 (N : Nat) (G : Nat) (d : Nat) (hd : 10 + 3 * G ≤ d) (K18 : Int32 → zS → Option (Int32 × zS)) (hK18 : ∀ (y3 : Int32) (σ : zS) (w : Int32 × zS), K18 y3 σ = some w → zEv d 224 18 [some (zR 50 0), some (zR 7 0), some (zR 8 0), some (zI y3)] [] σ (some (zI w.1), w.2)) : ∀ (y3 : Int32) (σ : zS) (w : Int32 × zS), fX_law_50_J1139 N G K18 y3 σ = some w → zEv d 224 1139 [some (zR 50 0), some (zR 7 0), some (zR 8 0), some (zI y3)] [] σ (some (zI w.1), w.2) := by
  intro y3 σ w h
  unfold fX_law_50_J1139 at h
  refine ev_s i224_1139 (p := 1140) rfl ?_
  refine ev_s i224_1140 (p := 1141) rfl ?_
  refine ev_s i224_1141 (p := 1142) rfl ?_
  refine ev_s i224_1142 (p := 1143) (zic_1 _ _ _ _ _) ?_
  refine ev_s i224_1143 (p := 1144) (t := [zI (y3 + 1), zR 50 0, zR 7 0]) rfl ?_
  refine ev_iald i224_1144 rfl (n := (σ 50 1 0).toNatClampNeg) rfl (p := 1145) rfl h (fun g351 h => ?_)
  obtain ⟨r354, s353, hr352, h⟩ := b2_some h
  refine ev_callV i224_1145 zc9_137 zm90 zo90 (as' := [zI (σ 50 0 (y3 + 1).toNatClampNeg)]) (rest := []) rfl rfl (Nat.le_of_ble_eq_true rfl) (Nat.le_of_ble_eq_true rfl) (Nat.le_of_ble_eq_true rfl) (by omega) (l0 := [some (zR 7 0), some (zI (σ 50 0 (y3 + 1).toNatClampNeg))]) rfl (p := 1148) rfl (kA_body (σ 50 0 (y3 + 1).toNatClampNeg) σ (r354, s353) hr352 (d - 1) (by omega)) ?_
  change zEv d 224 1148 [some (zR 50 0), some (zR 7 0), some (zR 8 0), some (zI y3)] [zI r354] s353 _
  refine ev_s i224_1148 (p := 1149) rfl ?_
  refine ev_s i224_1149 (p := 1150) rfl ?_
  refine ev_s i224_1150 (p := 1151) rfl ?_
  refine ev_s i224_1151 (p := 1152) (zic_1 _ _ _ _ _) ?_
  refine ev_s i224_1152 (p := 1153) (t := [zI (y3 + 1), zR 50 0, zR 8 0, zI r354]) rfl ?_
  refine ev_iald i224_1153 rfl (n := (s353 50 1 0).toNatClampNeg) rfl (p := 1154) rfl h (fun g355 h => ?_)
  obtain ⟨r358, s357, hr356, h⟩ := b2_some h
  refine ev_callV i224_1154 zc9_140 zm205 zo205 (as' := [zI (s353 50 0 (y3 + 1).toNatClampNeg)]) (rest := [zI r354]) rfl rfl (Nat.le_of_ble_eq_true rfl) (Nat.le_of_ble_eq_true rfl) (Nat.le_of_ble_eq_true rfl) (by omega) (l0 := [some (zR 8 0), some (zI (s353 50 0 (y3 + 1).toNatClampNeg))]) rfl (p := 1157) rfl (kM_body (s353 50 0 (y3 + 1).toNatClampNeg) s353 (r358, s357) hr356 (d - 1) (by omega)) ?_
  change zEv d 224 1157 [some (zR 50 0), some (zR 7 0), some (zR 8 0), some (zI y3)] [zI r358, zI r354] s357 _
  refine ev_cmpeq i224_1157 (t := 1465) (by decide) (p := 1160) rfl h (fun c359 h => ?_) (fun c359 h => ?_)
  · exact kX_law_50_J1465 N G d hd K18 hK18 y3 s357 w h
  · refine ev_s i224_1160 (p := 1161) (zic_0 _ _ _ _ _) ?_
    obtain rfl := Option.some.inj h
    exact ev_zret i224_1161 zr224 (by decide)
def fX_law_50_J1096 (N : Nat) (G : Nat) (K18 : Int32 → zS → Option (Int32 × zS)) (y3 : Int32) (σ : zS) : Option (Int32 × zS) := zgd (zin (y3 + 1) ((σ 50 1 0).toNatClampNeg)) (zgd (zin (y3 + 2) ((σ 50 1 0).toNatClampNeg)) (zgd (zin (y3 + 3) ((σ 50 1 0).toNatClampNeg)) (zb2 (fA_voice N G (σ 50 0 (y3 + 1).toNatClampNeg) (σ 50 0 (y3 + 2).toNatClampNeg) (σ 50 0 (y3 + 3).toNatClampNeg) σ) fun r343 s342 => zgd (zin (y3 + 1) ((s342 50 1 0).toNatClampNeg)) (zgd (zin (y3 + 2) ((s342 50 1 0).toNatClampNeg)) (zgd (zin (y3 + 3) ((s342 50 1 0).toNatClampNeg)) (zb2 (fM_voice G (s342 50 0 (y3 + 1).toNatClampNeg) (s342 50 0 (y3 + 2).toNatClampNeg) (s342 50 0 (y3 + 3).toNatClampNeg) s342) fun r349 s348 => (if r343 = r349 then fX_law_50_J1465 N G K18 y3 s348 else some (0, s348))))))))
set_option maxHeartbeats 4000000 in
theorem kX_law_50_J1096 (N : Nat) (G : Nat) (d : Nat) (hd : 10 + 3 * G ≤ d) (K18 : Int32 → zS → Option (Int32 × zS)) (hK18 : ∀ (y3 : Int32) (σ : zS) (w : Int32 × zS), K18 y3 σ = some w → zEv d 224 18 [some (zR 50 0), some (zR 7 0), some (zR 8 0), some (zI y3)] [] σ (some (zI w.1), w.2)) : ∀ (y3 : Int32) (σ : zS) (w : Int32 × zS), fX_law_50_J1096 N G K18 y3 σ = some w → zEv d 224 1096 [some (zR 50 0), some (zR 7 0), some (zR 8 0), some (zI y3)] [] σ (some (zI w.1), w.2) := by
  intro y3 σ w h
  unfold fX_law_50_J1096 at h
  refine ev_s i224_1096 (p := 1097) rfl ?_
  refine ev_s i224_1097 (p := 1098) rfl ?_
  refine ev_s i224_1098 (p := 1099) rfl ?_
  refine ev_s i224_1099 (p := 1100) (zic_1 _ _ _ _ _) ?_
  refine ev_s i224_1100 (p := 1101) (t := [zI (y3 + 1), zR 50 0, zR 7 0]) rfl ?_
  refine ev_iald i224_1101 rfl (n := (σ 50 1 0).toNatClampNeg) rfl (p := 1102) rfl h (fun g338 h => ?_)
  refine ev_s i224_1102 (p := 1103) rfl ?_
  refine ev_s i224_1103 (p := 1104) rfl ?_
  refine ev_s i224_1104 (p := 1105) (zic_2 _ _ _ _ _) ?_
  refine ev_s i224_1105 (p := 1106) (t := [zI (y3 + 2), zR 50 0, zI (σ 50 0 (y3 + 1).toNatClampNeg), zR 7 0]) rfl ?_
  refine ev_iald i224_1106 rfl (n := (σ 50 1 0).toNatClampNeg) rfl (p := 1107) rfl h (fun g339 h => ?_)
  refine ev_s i224_1107 (p := 1108) rfl ?_
  refine ev_s i224_1108 (p := 1109) rfl ?_
  refine ev_s i224_1109 (p := 1110) (zic_3 _ _ _ _ _) ?_
  refine ev_s i224_1110 (p := 1111) (t := [zI (y3 + 3), zR 50 0, zI (σ 50 0 (y3 + 2).toNatClampNeg), zI (σ 50 0 (y3 + 1).toNatClampNeg), zR 7 0]) rfl ?_
  refine ev_iald i224_1111 rfl (n := (σ 50 1 0).toNatClampNeg) rfl (p := 1112) rfl h (fun g340 h => ?_)
  obtain ⟨r343, s342, hr341, h⟩ := b2_some h
  refine ev_callV i224_1112 zc9_133 zm89 zo89 (as' := [zI (σ 50 0 (y3 + 1).toNatClampNeg), zI (σ 50 0 (y3 + 2).toNatClampNeg), zI (σ 50 0 (y3 + 3).toNatClampNeg)]) (rest := []) rfl rfl (Nat.le_of_ble_eq_true rfl) (Nat.le_of_ble_eq_true rfl) (Nat.le_of_ble_eq_true rfl) (by omega) (l0 := [some (zR 7 0), some (zI (σ 50 0 (y3 + 1).toNatClampNeg)), some (zI (σ 50 0 (y3 + 2).toNatClampNeg)), some (zI (σ 50 0 (y3 + 3).toNatClampNeg)), none]) rfl (p := 1115) rfl (kA_voice N G (σ 50 0 (y3 + 1).toNatClampNeg) (σ 50 0 (y3 + 2).toNatClampNeg) (σ 50 0 (y3 + 3).toNatClampNeg) σ (r343, s342) hr341 (d - 1) (by omega)) ?_
  change zEv d 224 1115 [some (zR 50 0), some (zR 7 0), some (zR 8 0), some (zI y3)] [zI r343] s342 _
  refine ev_s i224_1115 (p := 1116) rfl ?_
  refine ev_s i224_1116 (p := 1117) rfl ?_
  refine ev_s i224_1117 (p := 1118) rfl ?_
  refine ev_s i224_1118 (p := 1119) (zic_1 _ _ _ _ _) ?_
  refine ev_s i224_1119 (p := 1120) (t := [zI (y3 + 1), zR 50 0, zR 8 0, zI r343]) rfl ?_
  refine ev_iald i224_1120 rfl (n := (s342 50 1 0).toNatClampNeg) rfl (p := 1121) rfl h (fun g344 h => ?_)
  refine ev_s i224_1121 (p := 1122) rfl ?_
  refine ev_s i224_1122 (p := 1123) rfl ?_
  refine ev_s i224_1123 (p := 1124) (zic_2 _ _ _ _ _) ?_
  refine ev_s i224_1124 (p := 1125) (t := [zI (y3 + 2), zR 50 0, zI (s342 50 0 (y3 + 1).toNatClampNeg), zR 8 0, zI r343]) rfl ?_
  refine ev_iald i224_1125 rfl (n := (s342 50 1 0).toNatClampNeg) rfl (p := 1126) rfl h (fun g345 h => ?_)
  refine ev_s i224_1126 (p := 1127) rfl ?_
  refine ev_s i224_1127 (p := 1128) rfl ?_
  refine ev_s i224_1128 (p := 1129) (zic_3 _ _ _ _ _) ?_
  refine ev_s i224_1129 (p := 1130) (t := [zI (y3 + 3), zR 50 0, zI (s342 50 0 (y3 + 2).toNatClampNeg), zI (s342 50 0 (y3 + 1).toNatClampNeg), zR 8 0, zI r343]) rfl ?_
  refine ev_iald i224_1130 rfl (n := (s342 50 1 0).toNatClampNeg) rfl (p := 1131) rfl h (fun g346 h => ?_)
  obtain ⟨r349, s348, hr347, h⟩ := b2_some h
  refine ev_callV i224_1131 zc9_136 zm204 zo204 (as' := [zI (s342 50 0 (y3 + 1).toNatClampNeg), zI (s342 50 0 (y3 + 2).toNatClampNeg), zI (s342 50 0 (y3 + 3).toNatClampNeg)]) (rest := [zI r343]) rfl rfl (Nat.le_of_ble_eq_true rfl) (Nat.le_of_ble_eq_true rfl) (Nat.le_of_ble_eq_true rfl) (by omega) (l0 := [some (zR 8 0), some (zI (s342 50 0 (y3 + 1).toNatClampNeg)), some (zI (s342 50 0 (y3 + 2).toNatClampNeg)), some (zI (s342 50 0 (y3 + 3).toNatClampNeg)), none, none]) rfl (p := 1134) rfl (kM_voice G (s342 50 0 (y3 + 1).toNatClampNeg) (s342 50 0 (y3 + 2).toNatClampNeg) (s342 50 0 (y3 + 3).toNatClampNeg) s342 (r349, s348) hr347 (d - 1) (by omega)) ?_
  change zEv d 224 1134 [some (zR 50 0), some (zR 7 0), some (zR 8 0), some (zI y3)] [zI r349, zI r343] s348 _
  refine ev_cmpeq i224_1134 (t := 1465) (by decide) (p := 1137) rfl h (fun c350 h => ?_) (fun c350 h => ?_)
  · exact kX_law_50_J1465 N G d hd K18 hK18 y3 s348 w h
  · refine ev_s i224_1137 (p := 1138) (zic_0 _ _ _ _ _) ?_
    obtain rfl := Option.some.inj h
    exact ev_zret i224_1138 zr224 (by decide)
def fX_law_50_J1053 (N : Nat) (G : Nat) (K18 : Int32 → zS → Option (Int32 × zS)) (y3 : Int32) (σ : zS) : Option (Int32 × zS) := zgd (zin (y3 + 1) ((σ 50 1 0).toNatClampNeg)) (zgd (zin (y3 + 2) ((σ 50 1 0).toNatClampNeg)) (zgd (zin (y3 + 3) ((σ 50 1 0).toNatClampNeg)) (zb2 (fA_fits N (σ 50 0 (y3 + 1).toNatClampNeg) (σ 50 0 (y3 + 2).toNatClampNeg) (σ 50 0 (y3 + 3).toNatClampNeg) σ) fun r330 s329 => zgd (zin (y3 + 1) ((s329 50 1 0).toNatClampNeg)) (zgd (zin (y3 + 2) ((s329 50 1 0).toNatClampNeg)) (zgd (zin (y3 + 3) ((s329 50 1 0).toNatClampNeg)) (zb2 (fM_fits N (s329 50 0 (y3 + 1).toNatClampNeg) (s329 50 0 (y3 + 2).toNatClampNeg) (s329 50 0 (y3 + 3).toNatClampNeg) s329) fun r336 s335 => (if r330 = r336 then fX_law_50_J1465 N G K18 y3 s335 else some (0, s335))))))))
set_option maxHeartbeats 4000000 in
theorem kX_law_50_J1053 (N : Nat) (G : Nat) (d : Nat) (hd : 10 + 3 * G ≤ d) (K18 : Int32 → zS → Option (Int32 × zS)) (hK18 : ∀ (y3 : Int32) (σ : zS) (w : Int32 × zS), K18 y3 σ = some w → zEv d 224 18 [some (zR 50 0), some (zR 7 0), some (zR 8 0), some (zI y3)] [] σ (some (zI w.1), w.2)) : ∀ (y3 : Int32) (σ : zS) (w : Int32 × zS), fX_law_50_J1053 N G K18 y3 σ = some w → zEv d 224 1053 [some (zR 50 0), some (zR 7 0), some (zR 8 0), some (zI y3)] [] σ (some (zI w.1), w.2) := by
  intro y3 σ w h
  unfold fX_law_50_J1053 at h
  refine ev_s i224_1053 (p := 1054) rfl ?_
  refine ev_s i224_1054 (p := 1055) rfl ?_
  refine ev_s i224_1055 (p := 1056) rfl ?_
  refine ev_s i224_1056 (p := 1057) (zic_1 _ _ _ _ _) ?_
  refine ev_s i224_1057 (p := 1058) (t := [zI (y3 + 1), zR 50 0, zR 7 0]) rfl ?_
  refine ev_iald i224_1058 rfl (n := (σ 50 1 0).toNatClampNeg) rfl (p := 1059) rfl h (fun g325 h => ?_)
  refine ev_s i224_1059 (p := 1060) rfl ?_
  refine ev_s i224_1060 (p := 1061) rfl ?_
  refine ev_s i224_1061 (p := 1062) (zic_2 _ _ _ _ _) ?_
  refine ev_s i224_1062 (p := 1063) (t := [zI (y3 + 2), zR 50 0, zI (σ 50 0 (y3 + 1).toNatClampNeg), zR 7 0]) rfl ?_
  refine ev_iald i224_1063 rfl (n := (σ 50 1 0).toNatClampNeg) rfl (p := 1064) rfl h (fun g326 h => ?_)
  refine ev_s i224_1064 (p := 1065) rfl ?_
  refine ev_s i224_1065 (p := 1066) rfl ?_
  refine ev_s i224_1066 (p := 1067) (zic_3 _ _ _ _ _) ?_
  refine ev_s i224_1067 (p := 1068) (t := [zI (y3 + 3), zR 50 0, zI (σ 50 0 (y3 + 2).toNatClampNeg), zI (σ 50 0 (y3 + 1).toNatClampNeg), zR 7 0]) rfl ?_
  refine ev_iald i224_1068 rfl (n := (σ 50 1 0).toNatClampNeg) rfl (p := 1069) rfl h (fun g327 h => ?_)
  obtain ⟨r330, s329, hr328, h⟩ := b2_some h
  refine ev_callV i224_1069 zc9_129 zm88 zo88 (as' := [zI (σ 50 0 (y3 + 1).toNatClampNeg), zI (σ 50 0 (y3 + 2).toNatClampNeg), zI (σ 50 0 (y3 + 3).toNatClampNeg)]) (rest := []) rfl rfl (Nat.le_of_ble_eq_true rfl) (Nat.le_of_ble_eq_true rfl) (Nat.le_of_ble_eq_true rfl) (by omega) (l0 := [some (zR 7 0), some (zI (σ 50 0 (y3 + 1).toNatClampNeg)), some (zI (σ 50 0 (y3 + 2).toNatClampNeg)), some (zI (σ 50 0 (y3 + 3).toNatClampNeg)), none, none]) rfl (p := 1072) rfl (kA_fits N (σ 50 0 (y3 + 1).toNatClampNeg) (σ 50 0 (y3 + 2).toNatClampNeg) (σ 50 0 (y3 + 3).toNatClampNeg) σ (r330, s329) hr328 (d - 1) (by omega)) ?_
  change zEv d 224 1072 [some (zR 50 0), some (zR 7 0), some (zR 8 0), some (zI y3)] [zI r330] s329 _
  refine ev_s i224_1072 (p := 1073) rfl ?_
  refine ev_s i224_1073 (p := 1074) rfl ?_
  refine ev_s i224_1074 (p := 1075) rfl ?_
  refine ev_s i224_1075 (p := 1076) (zic_1 _ _ _ _ _) ?_
  refine ev_s i224_1076 (p := 1077) (t := [zI (y3 + 1), zR 50 0, zR 8 0, zI r330]) rfl ?_
  refine ev_iald i224_1077 rfl (n := (s329 50 1 0).toNatClampNeg) rfl (p := 1078) rfl h (fun g331 h => ?_)
  refine ev_s i224_1078 (p := 1079) rfl ?_
  refine ev_s i224_1079 (p := 1080) rfl ?_
  refine ev_s i224_1080 (p := 1081) (zic_2 _ _ _ _ _) ?_
  refine ev_s i224_1081 (p := 1082) (t := [zI (y3 + 2), zR 50 0, zI (s329 50 0 (y3 + 1).toNatClampNeg), zR 8 0, zI r330]) rfl ?_
  refine ev_iald i224_1082 rfl (n := (s329 50 1 0).toNatClampNeg) rfl (p := 1083) rfl h (fun g332 h => ?_)
  refine ev_s i224_1083 (p := 1084) rfl ?_
  refine ev_s i224_1084 (p := 1085) rfl ?_
  refine ev_s i224_1085 (p := 1086) (zic_3 _ _ _ _ _) ?_
  refine ev_s i224_1086 (p := 1087) (t := [zI (y3 + 3), zR 50 0, zI (s329 50 0 (y3 + 2).toNatClampNeg), zI (s329 50 0 (y3 + 1).toNatClampNeg), zR 8 0, zI r330]) rfl ?_
  refine ev_iald i224_1087 rfl (n := (s329 50 1 0).toNatClampNeg) rfl (p := 1088) rfl h (fun g333 h => ?_)
  obtain ⟨r336, s335, hr334, h⟩ := b2_some h
  refine ev_callV i224_1088 zc9_132 zm195 zo195 (as' := [zI (s329 50 0 (y3 + 1).toNatClampNeg), zI (s329 50 0 (y3 + 2).toNatClampNeg), zI (s329 50 0 (y3 + 3).toNatClampNeg)]) (rest := [zI r330]) rfl rfl (Nat.le_of_ble_eq_true rfl) (Nat.le_of_ble_eq_true rfl) (Nat.le_of_ble_eq_true rfl) (by omega) (l0 := [some (zR 8 0), some (zI (s329 50 0 (y3 + 1).toNatClampNeg)), some (zI (s329 50 0 (y3 + 2).toNatClampNeg)), some (zI (s329 50 0 (y3 + 3).toNatClampNeg)), none, none, none, none]) rfl (p := 1091) rfl (kM_fits N (s329 50 0 (y3 + 1).toNatClampNeg) (s329 50 0 (y3 + 2).toNatClampNeg) (s329 50 0 (y3 + 3).toNatClampNeg) s329 (r336, s335) hr334 (d - 1) (by omega)) ?_
  change zEv d 224 1091 [some (zR 50 0), some (zR 7 0), some (zR 8 0), some (zI y3)] [zI r336, zI r330] s335 _
  refine ev_cmpeq i224_1091 (t := 1465) (by decide) (p := 1094) rfl h (fun c337 h => ?_) (fun c337 h => ?_)
  · exact kX_law_50_J1465 N G d hd K18 hK18 y3 s335 w h
  · refine ev_s i224_1094 (p := 1095) (zic_0 _ _ _ _ _) ?_
    obtain rfl := Option.some.inj h
    exact ev_zret i224_1095 zr224 (by decide)
def fX_law_50_J1010 (N : Nat) (G : Nat) (K18 : Int32 → zS → Option (Int32 × zS)) (y3 : Int32) (σ : zS) : Option (Int32 × zS) := zgd (zin (y3 + 1) ((σ 50 1 0).toNatClampNeg)) (zgd (zin (y3 + 2) ((σ 50 1 0).toNatClampNeg)) (zgd (zin (y3 + 3) ((σ 50 1 0).toNatClampNeg)) (zb2 (fA_odds N (σ 50 0 (y3 + 1).toNatClampNeg) (σ 50 0 (y3 + 2).toNatClampNeg) (σ 50 0 (y3 + 3).toNatClampNeg) σ) fun r317 s316 => zgd (zin (y3 + 1) ((s316 50 1 0).toNatClampNeg)) (zgd (zin (y3 + 2) ((s316 50 1 0).toNatClampNeg)) (zgd (zin (y3 + 3) ((s316 50 1 0).toNatClampNeg)) (zb2 (fM_odds N (s316 50 0 (y3 + 1).toNatClampNeg) (s316 50 0 (y3 + 2).toNatClampNeg) (s316 50 0 (y3 + 3).toNatClampNeg) s316) fun r323 s322 => (if r317 = r323 then fX_law_50_J1465 N G K18 y3 s322 else some (0, s322))))))))
set_option maxHeartbeats 4000000 in
theorem kX_law_50_J1010 (N : Nat) (G : Nat) (d : Nat) (hd : 10 + 3 * G ≤ d) (K18 : Int32 → zS → Option (Int32 × zS)) (hK18 : ∀ (y3 : Int32) (σ : zS) (w : Int32 × zS), K18 y3 σ = some w → zEv d 224 18 [some (zR 50 0), some (zR 7 0), some (zR 8 0), some (zI y3)] [] σ (some (zI w.1), w.2)) : ∀ (y3 : Int32) (σ : zS) (w : Int32 × zS), fX_law_50_J1010 N G K18 y3 σ = some w → zEv d 224 1010 [some (zR 50 0), some (zR 7 0), some (zR 8 0), some (zI y3)] [] σ (some (zI w.1), w.2) := by
  intro y3 σ w h
  unfold fX_law_50_J1010 at h
  refine ev_s i224_1010 (p := 1011) rfl ?_
  refine ev_s i224_1011 (p := 1012) rfl ?_
  refine ev_s i224_1012 (p := 1013) rfl ?_
  refine ev_s i224_1013 (p := 1014) (zic_1 _ _ _ _ _) ?_
  refine ev_s i224_1014 (p := 1015) (t := [zI (y3 + 1), zR 50 0, zR 7 0]) rfl ?_
  refine ev_iald i224_1015 rfl (n := (σ 50 1 0).toNatClampNeg) rfl (p := 1016) rfl h (fun g312 h => ?_)
  refine ev_s i224_1016 (p := 1017) rfl ?_
  refine ev_s i224_1017 (p := 1018) rfl ?_
  refine ev_s i224_1018 (p := 1019) (zic_2 _ _ _ _ _) ?_
  refine ev_s i224_1019 (p := 1020) (t := [zI (y3 + 2), zR 50 0, zI (σ 50 0 (y3 + 1).toNatClampNeg), zR 7 0]) rfl ?_
  refine ev_iald i224_1020 rfl (n := (σ 50 1 0).toNatClampNeg) rfl (p := 1021) rfl h (fun g313 h => ?_)
  refine ev_s i224_1021 (p := 1022) rfl ?_
  refine ev_s i224_1022 (p := 1023) rfl ?_
  refine ev_s i224_1023 (p := 1024) (zic_3 _ _ _ _ _) ?_
  refine ev_s i224_1024 (p := 1025) (t := [zI (y3 + 3), zR 50 0, zI (σ 50 0 (y3 + 2).toNatClampNeg), zI (σ 50 0 (y3 + 1).toNatClampNeg), zR 7 0]) rfl ?_
  refine ev_iald i224_1025 rfl (n := (σ 50 1 0).toNatClampNeg) rfl (p := 1026) rfl h (fun g314 h => ?_)
  obtain ⟨r317, s316, hr315, h⟩ := b2_some h
  refine ev_callV i224_1026 zc9_125 zm87 zo87 (as' := [zI (σ 50 0 (y3 + 1).toNatClampNeg), zI (σ 50 0 (y3 + 2).toNatClampNeg), zI (σ 50 0 (y3 + 3).toNatClampNeg)]) (rest := []) rfl rfl (Nat.le_of_ble_eq_true rfl) (Nat.le_of_ble_eq_true rfl) (Nat.le_of_ble_eq_true rfl) (by omega) (l0 := [some (zR 7 0), some (zI (σ 50 0 (y3 + 1).toNatClampNeg)), some (zI (σ 50 0 (y3 + 2).toNatClampNeg)), some (zI (σ 50 0 (y3 + 3).toNatClampNeg)), none, none, none]) rfl (p := 1029) rfl (kA_odds N (σ 50 0 (y3 + 1).toNatClampNeg) (σ 50 0 (y3 + 2).toNatClampNeg) (σ 50 0 (y3 + 3).toNatClampNeg) σ (r317, s316) hr315 (d - 1) (by omega)) ?_
  change zEv d 224 1029 [some (zR 50 0), some (zR 7 0), some (zR 8 0), some (zI y3)] [zI r317] s316 _
  refine ev_s i224_1029 (p := 1030) rfl ?_
  refine ev_s i224_1030 (p := 1031) rfl ?_
  refine ev_s i224_1031 (p := 1032) rfl ?_
  refine ev_s i224_1032 (p := 1033) (zic_1 _ _ _ _ _) ?_
  refine ev_s i224_1033 (p := 1034) (t := [zI (y3 + 1), zR 50 0, zR 8 0, zI r317]) rfl ?_
  refine ev_iald i224_1034 rfl (n := (s316 50 1 0).toNatClampNeg) rfl (p := 1035) rfl h (fun g318 h => ?_)
  refine ev_s i224_1035 (p := 1036) rfl ?_
  refine ev_s i224_1036 (p := 1037) rfl ?_
  refine ev_s i224_1037 (p := 1038) (zic_2 _ _ _ _ _) ?_
  refine ev_s i224_1038 (p := 1039) (t := [zI (y3 + 2), zR 50 0, zI (s316 50 0 (y3 + 1).toNatClampNeg), zR 8 0, zI r317]) rfl ?_
  refine ev_iald i224_1039 rfl (n := (s316 50 1 0).toNatClampNeg) rfl (p := 1040) rfl h (fun g319 h => ?_)
  refine ev_s i224_1040 (p := 1041) rfl ?_
  refine ev_s i224_1041 (p := 1042) rfl ?_
  refine ev_s i224_1042 (p := 1043) (zic_3 _ _ _ _ _) ?_
  refine ev_s i224_1043 (p := 1044) (t := [zI (y3 + 3), zR 50 0, zI (s316 50 0 (y3 + 2).toNatClampNeg), zI (s316 50 0 (y3 + 1).toNatClampNeg), zR 8 0, zI r317]) rfl ?_
  refine ev_iald i224_1044 rfl (n := (s316 50 1 0).toNatClampNeg) rfl (p := 1045) rfl h (fun g320 h => ?_)
  obtain ⟨r323, s322, hr321, h⟩ := b2_some h
  refine ev_callV i224_1045 zc9_128 zm194 zo194 (as' := [zI (s316 50 0 (y3 + 1).toNatClampNeg), zI (s316 50 0 (y3 + 2).toNatClampNeg), zI (s316 50 0 (y3 + 3).toNatClampNeg)]) (rest := [zI r317]) rfl rfl (Nat.le_of_ble_eq_true rfl) (Nat.le_of_ble_eq_true rfl) (Nat.le_of_ble_eq_true rfl) (by omega) (l0 := [some (zR 8 0), some (zI (s316 50 0 (y3 + 1).toNatClampNeg)), some (zI (s316 50 0 (y3 + 2).toNatClampNeg)), some (zI (s316 50 0 (y3 + 3).toNatClampNeg)), none, none]) rfl (p := 1048) rfl (kM_odds N (s316 50 0 (y3 + 1).toNatClampNeg) (s316 50 0 (y3 + 2).toNatClampNeg) (s316 50 0 (y3 + 3).toNatClampNeg) s316 (r323, s322) hr321 (d - 1) (by omega)) ?_
  change zEv d 224 1048 [some (zR 50 0), some (zR 7 0), some (zR 8 0), some (zI y3)] [zI r323, zI r317] s322 _
  refine ev_cmpeq i224_1048 (t := 1465) (by decide) (p := 1051) rfl h (fun c324 h => ?_) (fun c324 h => ?_)
  · exact kX_law_50_J1465 N G d hd K18 hK18 y3 s322 w h
  · refine ev_s i224_1051 (p := 1052) (zic_0 _ _ _ _ _) ?_
    obtain rfl := Option.some.inj h
    exact ev_zret i224_1052 zr224 (by decide)
def fX_law_50_J977 (N : Nat) (G : Nat) (K18 : Int32 → zS → Option (Int32 × zS)) (y3 : Int32) (σ : zS) : Option (Int32 × zS) := zgd (zin (y3 + 1) ((σ 50 1 0).toNatClampNeg)) (zgd (zin (y3 + 2) ((σ 50 1 0).toNatClampNeg)) (zb2 (fA_freeFor N (σ 50 0 (y3 + 1).toNatClampNeg) (σ 50 0 (y3 + 2).toNatClampNeg) σ) fun r305 s304 => zgd (zin (y3 + 1) ((s304 50 1 0).toNatClampNeg)) (zgd (zin (y3 + 2) ((s304 50 1 0).toNatClampNeg)) (zb2 (fM_freeFor N (s304 50 0 (y3 + 1).toNatClampNeg) (s304 50 0 (y3 + 2).toNatClampNeg) s304) fun r310 s309 => (if r305 = r310 then fX_law_50_J1465 N G K18 y3 s309 else some (0, s309))))))
set_option maxHeartbeats 4000000 in
theorem kX_law_50_J977 (N : Nat) (G : Nat) (d : Nat) (hd : 10 + 3 * G ≤ d) (K18 : Int32 → zS → Option (Int32 × zS)) (hK18 : ∀ (y3 : Int32) (σ : zS) (w : Int32 × zS), K18 y3 σ = some w → zEv d 224 18 [some (zR 50 0), some (zR 7 0), some (zR 8 0), some (zI y3)] [] σ (some (zI w.1), w.2)) : ∀ (y3 : Int32) (σ : zS) (w : Int32 × zS), fX_law_50_J977 N G K18 y3 σ = some w → zEv d 224 977 [some (zR 50 0), some (zR 7 0), some (zR 8 0), some (zI y3)] [] σ (some (zI w.1), w.2) := by
  intro y3 σ w h
  unfold fX_law_50_J977 at h
  refine ev_s i224_977 (p := 978) rfl ?_
  refine ev_s i224_978 (p := 979) rfl ?_
  refine ev_s i224_979 (p := 980) rfl ?_
  refine ev_s i224_980 (p := 981) (zic_1 _ _ _ _ _) ?_
  refine ev_s i224_981 (p := 982) (t := [zI (y3 + 1), zR 50 0, zR 7 0]) rfl ?_
  refine ev_iald i224_982 rfl (n := (σ 50 1 0).toNatClampNeg) rfl (p := 983) rfl h (fun g301 h => ?_)
  refine ev_s i224_983 (p := 984) rfl ?_
  refine ev_s i224_984 (p := 985) rfl ?_
  refine ev_s i224_985 (p := 986) (zic_2 _ _ _ _ _) ?_
  refine ev_s i224_986 (p := 987) (t := [zI (y3 + 2), zR 50 0, zI (σ 50 0 (y3 + 1).toNatClampNeg), zR 7 0]) rfl ?_
  refine ev_iald i224_987 rfl (n := (σ 50 1 0).toNatClampNeg) rfl (p := 988) rfl h (fun g302 h => ?_)
  obtain ⟨r305, s304, hr303, h⟩ := b2_some h
  refine ev_callV i224_988 zc9_121 zm86 zo86 (as' := [zI (σ 50 0 (y3 + 1).toNatClampNeg), zI (σ 50 0 (y3 + 2).toNatClampNeg)]) (rest := []) rfl rfl (Nat.le_of_ble_eq_true rfl) (Nat.le_of_ble_eq_true rfl) (Nat.le_of_ble_eq_true rfl) (by omega) (l0 := [some (zR 7 0), some (zI (σ 50 0 (y3 + 1).toNatClampNeg)), some (zI (σ 50 0 (y3 + 2).toNatClampNeg)), none, none, none, none]) rfl (p := 991) rfl (kA_freeFor N (σ 50 0 (y3 + 1).toNatClampNeg) (σ 50 0 (y3 + 2).toNatClampNeg) σ (r305, s304) hr303 (d - 1) (by omega)) ?_
  change zEv d 224 991 [some (zR 50 0), some (zR 7 0), some (zR 8 0), some (zI y3)] [zI r305] s304 _
  refine ev_s i224_991 (p := 992) rfl ?_
  refine ev_s i224_992 (p := 993) rfl ?_
  refine ev_s i224_993 (p := 994) rfl ?_
  refine ev_s i224_994 (p := 995) (zic_1 _ _ _ _ _) ?_
  refine ev_s i224_995 (p := 996) (t := [zI (y3 + 1), zR 50 0, zR 8 0, zI r305]) rfl ?_
  refine ev_iald i224_996 rfl (n := (s304 50 1 0).toNatClampNeg) rfl (p := 997) rfl h (fun g306 h => ?_)
  refine ev_s i224_997 (p := 998) rfl ?_
  refine ev_s i224_998 (p := 999) rfl ?_
  refine ev_s i224_999 (p := 1000) (zic_2 _ _ _ _ _) ?_
  refine ev_s i224_1000 (p := 1001) (t := [zI (y3 + 2), zR 50 0, zI (s304 50 0 (y3 + 1).toNatClampNeg), zR 8 0, zI r305]) rfl ?_
  refine ev_iald i224_1001 rfl (n := (s304 50 1 0).toNatClampNeg) rfl (p := 1002) rfl h (fun g307 h => ?_)
  obtain ⟨r310, s309, hr308, h⟩ := b2_some h
  refine ev_callV i224_1002 zc9_124 zm192 zo192 (as' := [zI (s304 50 0 (y3 + 1).toNatClampNeg), zI (s304 50 0 (y3 + 2).toNatClampNeg)]) (rest := [zI r305]) rfl rfl (Nat.le_of_ble_eq_true rfl) (Nat.le_of_ble_eq_true rfl) (Nat.le_of_ble_eq_true rfl) (by omega) (l0 := [some (zR 8 0), some (zI (s304 50 0 (y3 + 1).toNatClampNeg)), some (zI (s304 50 0 (y3 + 2).toNatClampNeg)), none, none, none, none]) rfl (p := 1005) rfl (kM_freeFor N (s304 50 0 (y3 + 1).toNatClampNeg) (s304 50 0 (y3 + 2).toNatClampNeg) s304 (r310, s309) hr308 (d - 1) (by omega)) ?_
  change zEv d 224 1005 [some (zR 50 0), some (zR 7 0), some (zR 8 0), some (zI y3)] [zI r310, zI r305] s309 _
  refine ev_cmpeq i224_1005 (t := 1465) (by decide) (p := 1008) rfl h (fun c311 h => ?_) (fun c311 h => ?_)
  · exact kX_law_50_J1465 N G d hd K18 hK18 y3 s309 w h
  · refine ev_s i224_1008 (p := 1009) (zic_0 _ _ _ _ _) ?_
    obtain rfl := Option.some.inj h
    exact ev_zret i224_1009 zr224 (by decide)
def fX_law_50_J944 (N : Nat) (G : Nat) (K18 : Int32 → zS → Option (Int32 × zS)) (y3 : Int32) (σ : zS) : Option (Int32 × zS) := zgd (zin (y3 + 1) ((σ 50 1 0).toNatClampNeg)) (zgd (zin (y3 + 2) ((σ 50 1 0).toNatClampNeg)) (zb2 (fA_spareFor N (σ 50 0 (y3 + 1).toNatClampNeg) (σ 50 0 (y3 + 2).toNatClampNeg) σ) fun r294 s293 => zgd (zin (y3 + 1) ((s293 50 1 0).toNatClampNeg)) (zgd (zin (y3 + 2) ((s293 50 1 0).toNatClampNeg)) (zb2 (fM_spareFor N (s293 50 0 (y3 + 1).toNatClampNeg) (s293 50 0 (y3 + 2).toNatClampNeg) s293) fun r299 s298 => (if r294 = r299 then fX_law_50_J1465 N G K18 y3 s298 else some (0, s298))))))
set_option maxHeartbeats 4000000 in
theorem kX_law_50_J944 (N : Nat) (G : Nat) (d : Nat) (hd : 10 + 3 * G ≤ d) (K18 : Int32 → zS → Option (Int32 × zS)) (hK18 : ∀ (y3 : Int32) (σ : zS) (w : Int32 × zS), K18 y3 σ = some w → zEv d 224 18 [some (zR 50 0), some (zR 7 0), some (zR 8 0), some (zI y3)] [] σ (some (zI w.1), w.2)) : ∀ (y3 : Int32) (σ : zS) (w : Int32 × zS), fX_law_50_J944 N G K18 y3 σ = some w → zEv d 224 944 [some (zR 50 0), some (zR 7 0), some (zR 8 0), some (zI y3)] [] σ (some (zI w.1), w.2) := by
  intro y3 σ w h
  unfold fX_law_50_J944 at h
  refine ev_s i224_944 (p := 945) rfl ?_
  refine ev_s i224_945 (p := 946) rfl ?_
  refine ev_s i224_946 (p := 947) rfl ?_
  refine ev_s i224_947 (p := 948) (zic_1 _ _ _ _ _) ?_
  refine ev_s i224_948 (p := 949) (t := [zI (y3 + 1), zR 50 0, zR 7 0]) rfl ?_
  refine ev_iald i224_949 rfl (n := (σ 50 1 0).toNatClampNeg) rfl (p := 950) rfl h (fun g290 h => ?_)
  refine ev_s i224_950 (p := 951) rfl ?_
  refine ev_s i224_951 (p := 952) rfl ?_
  refine ev_s i224_952 (p := 953) (zic_2 _ _ _ _ _) ?_
  refine ev_s i224_953 (p := 954) (t := [zI (y3 + 2), zR 50 0, zI (σ 50 0 (y3 + 1).toNatClampNeg), zR 7 0]) rfl ?_
  refine ev_iald i224_954 rfl (n := (σ 50 1 0).toNatClampNeg) rfl (p := 955) rfl h (fun g291 h => ?_)
  obtain ⟨r294, s293, hr292, h⟩ := b2_some h
  refine ev_callV i224_955 zc9_117 zm85 zo85 (as' := [zI (σ 50 0 (y3 + 1).toNatClampNeg), zI (σ 50 0 (y3 + 2).toNatClampNeg)]) (rest := []) rfl rfl (Nat.le_of_ble_eq_true rfl) (Nat.le_of_ble_eq_true rfl) (Nat.le_of_ble_eq_true rfl) (by omega) (l0 := [some (zR 7 0), some (zI (σ 50 0 (y3 + 1).toNatClampNeg)), some (zI (σ 50 0 (y3 + 2).toNatClampNeg)), none]) rfl (p := 958) rfl (kA_spareFor N (σ 50 0 (y3 + 1).toNatClampNeg) (σ 50 0 (y3 + 2).toNatClampNeg) σ (r294, s293) hr292 (d - 1) (by omega)) ?_
  change zEv d 224 958 [some (zR 50 0), some (zR 7 0), some (zR 8 0), some (zI y3)] [zI r294] s293 _
  refine ev_s i224_958 (p := 959) rfl ?_
  refine ev_s i224_959 (p := 960) rfl ?_
  refine ev_s i224_960 (p := 961) rfl ?_
  refine ev_s i224_961 (p := 962) (zic_1 _ _ _ _ _) ?_
  refine ev_s i224_962 (p := 963) (t := [zI (y3 + 1), zR 50 0, zR 8 0, zI r294]) rfl ?_
  refine ev_iald i224_963 rfl (n := (s293 50 1 0).toNatClampNeg) rfl (p := 964) rfl h (fun g295 h => ?_)
  refine ev_s i224_964 (p := 965) rfl ?_
  refine ev_s i224_965 (p := 966) rfl ?_
  refine ev_s i224_966 (p := 967) (zic_2 _ _ _ _ _) ?_
  refine ev_s i224_967 (p := 968) (t := [zI (y3 + 2), zR 50 0, zI (s293 50 0 (y3 + 1).toNatClampNeg), zR 8 0, zI r294]) rfl ?_
  refine ev_iald i224_968 rfl (n := (s293 50 1 0).toNatClampNeg) rfl (p := 969) rfl h (fun g296 h => ?_)
  obtain ⟨r299, s298, hr297, h⟩ := b2_some h
  refine ev_callV i224_969 zc9_120 zm190 zo190 (as' := [zI (s293 50 0 (y3 + 1).toNatClampNeg), zI (s293 50 0 (y3 + 2).toNatClampNeg)]) (rest := [zI r294]) rfl rfl (Nat.le_of_ble_eq_true rfl) (Nat.le_of_ble_eq_true rfl) (Nat.le_of_ble_eq_true rfl) (by omega) (l0 := [some (zR 8 0), some (zI (s293 50 0 (y3 + 1).toNatClampNeg)), some (zI (s293 50 0 (y3 + 2).toNatClampNeg)), none]) rfl (p := 972) rfl (kM_spareFor N (s293 50 0 (y3 + 1).toNatClampNeg) (s293 50 0 (y3 + 2).toNatClampNeg) s293 (r299, s298) hr297 (d - 1) (by omega)) ?_
  change zEv d 224 972 [some (zR 50 0), some (zR 7 0), some (zR 8 0), some (zI y3)] [zI r299, zI r294] s298 _
  refine ev_cmpeq i224_972 (t := 1465) (by decide) (p := 975) rfl h (fun c300 h => ?_) (fun c300 h => ?_)
  · exact kX_law_50_J1465 N G d hd K18 hK18 y3 s298 w h
  · refine ev_s i224_975 (p := 976) (zic_0 _ _ _ _ _) ?_
    obtain rfl := Option.some.inj h
    exact ev_zret i224_976 zr224 (by decide)
def fX_law_50_J911 (N : Nat) (G : Nat) (K18 : Int32 → zS → Option (Int32 × zS)) (y3 : Int32) (σ : zS) : Option (Int32 × zS) := zgd (zin (y3 + 1) ((σ 50 1 0).toNatClampNeg)) (zgd (zin (y3 + 2) ((σ 50 1 0).toNatClampNeg)) (zb2 (fA_soonest N (σ 50 0 (y3 + 1).toNatClampNeg) (σ 50 0 (y3 + 2).toNatClampNeg) σ) fun r283 s282 => zgd (zin (y3 + 1) ((s282 50 1 0).toNatClampNeg)) (zgd (zin (y3 + 2) ((s282 50 1 0).toNatClampNeg)) (zb2 (fM_soonest N (s282 50 0 (y3 + 1).toNatClampNeg) (s282 50 0 (y3 + 2).toNatClampNeg) s282) fun r288 s287 => (if r283 = r288 then fX_law_50_J1465 N G K18 y3 s287 else some (0, s287))))))
set_option maxHeartbeats 4000000 in
theorem kX_law_50_J911 (N : Nat) (G : Nat) (d : Nat) (hd : 10 + 3 * G ≤ d) (K18 : Int32 → zS → Option (Int32 × zS)) (hK18 : ∀ (y3 : Int32) (σ : zS) (w : Int32 × zS), K18 y3 σ = some w → zEv d 224 18 [some (zR 50 0), some (zR 7 0), some (zR 8 0), some (zI y3)] [] σ (some (zI w.1), w.2)) : ∀ (y3 : Int32) (σ : zS) (w : Int32 × zS), fX_law_50_J911 N G K18 y3 σ = some w → zEv d 224 911 [some (zR 50 0), some (zR 7 0), some (zR 8 0), some (zI y3)] [] σ (some (zI w.1), w.2) := by
  intro y3 σ w h
  unfold fX_law_50_J911 at h
  refine ev_s i224_911 (p := 912) rfl ?_
  refine ev_s i224_912 (p := 913) rfl ?_
  refine ev_s i224_913 (p := 914) rfl ?_
  refine ev_s i224_914 (p := 915) (zic_1 _ _ _ _ _) ?_
  refine ev_s i224_915 (p := 916) (t := [zI (y3 + 1), zR 50 0, zR 7 0]) rfl ?_
  refine ev_iald i224_916 rfl (n := (σ 50 1 0).toNatClampNeg) rfl (p := 917) rfl h (fun g279 h => ?_)
  refine ev_s i224_917 (p := 918) rfl ?_
  refine ev_s i224_918 (p := 919) rfl ?_
  refine ev_s i224_919 (p := 920) (zic_2 _ _ _ _ _) ?_
  refine ev_s i224_920 (p := 921) (t := [zI (y3 + 2), zR 50 0, zI (σ 50 0 (y3 + 1).toNatClampNeg), zR 7 0]) rfl ?_
  refine ev_iald i224_921 rfl (n := (σ 50 1 0).toNatClampNeg) rfl (p := 922) rfl h (fun g280 h => ?_)
  obtain ⟨r283, s282, hr281, h⟩ := b2_some h
  refine ev_callV i224_922 zc9_113 zm84 zo84 (as' := [zI (σ 50 0 (y3 + 1).toNatClampNeg), zI (σ 50 0 (y3 + 2).toNatClampNeg)]) (rest := []) rfl rfl (Nat.le_of_ble_eq_true rfl) (Nat.le_of_ble_eq_true rfl) (Nat.le_of_ble_eq_true rfl) (by omega) (l0 := [some (zR 7 0), some (zI (σ 50 0 (y3 + 1).toNatClampNeg)), some (zI (σ 50 0 (y3 + 2).toNatClampNeg)), none]) rfl (p := 925) rfl (kA_soonest N (σ 50 0 (y3 + 1).toNatClampNeg) (σ 50 0 (y3 + 2).toNatClampNeg) σ (r283, s282) hr281 (d - 1) (by omega)) ?_
  change zEv d 224 925 [some (zR 50 0), some (zR 7 0), some (zR 8 0), some (zI y3)] [zI r283] s282 _
  refine ev_s i224_925 (p := 926) rfl ?_
  refine ev_s i224_926 (p := 927) rfl ?_
  refine ev_s i224_927 (p := 928) rfl ?_
  refine ev_s i224_928 (p := 929) (zic_1 _ _ _ _ _) ?_
  refine ev_s i224_929 (p := 930) (t := [zI (y3 + 1), zR 50 0, zR 8 0, zI r283]) rfl ?_
  refine ev_iald i224_930 rfl (n := (s282 50 1 0).toNatClampNeg) rfl (p := 931) rfl h (fun g284 h => ?_)
  refine ev_s i224_931 (p := 932) rfl ?_
  refine ev_s i224_932 (p := 933) rfl ?_
  refine ev_s i224_933 (p := 934) (zic_2 _ _ _ _ _) ?_
  refine ev_s i224_934 (p := 935) (t := [zI (y3 + 2), zR 50 0, zI (s282 50 0 (y3 + 1).toNatClampNeg), zR 8 0, zI r283]) rfl ?_
  refine ev_iald i224_935 rfl (n := (s282 50 1 0).toNatClampNeg) rfl (p := 936) rfl h (fun g285 h => ?_)
  obtain ⟨r288, s287, hr286, h⟩ := b2_some h
  refine ev_callV i224_936 zc9_116 zm188 zo188 (as' := [zI (s282 50 0 (y3 + 1).toNatClampNeg), zI (s282 50 0 (y3 + 2).toNatClampNeg)]) (rest := [zI r283]) rfl rfl (Nat.le_of_ble_eq_true rfl) (Nat.le_of_ble_eq_true rfl) (Nat.le_of_ble_eq_true rfl) (by omega) (l0 := [some (zR 8 0), some (zI (s282 50 0 (y3 + 1).toNatClampNeg)), some (zI (s282 50 0 (y3 + 2).toNatClampNeg)), none]) rfl (p := 939) rfl (kM_soonest N (s282 50 0 (y3 + 1).toNatClampNeg) (s282 50 0 (y3 + 2).toNatClampNeg) s282 (r288, s287) hr286 (d - 1) (by omega)) ?_
  change zEv d 224 939 [some (zR 50 0), some (zR 7 0), some (zR 8 0), some (zI y3)] [zI r288, zI r283] s287 _
  refine ev_cmpeq i224_939 (t := 1465) (by decide) (p := 942) rfl h (fun c289 h => ?_) (fun c289 h => ?_)
  · exact kX_law_50_J1465 N G d hd K18 hK18 y3 s287 w h
  · refine ev_s i224_942 (p := 943) (zic_0 _ _ _ _ _) ?_
    obtain rfl := Option.some.inj h
    exact ev_zret i224_943 zr224 (by decide)
def fX_law_50_J888 (N : Nat) (G : Nat) (K18 : Int32 → zS → Option (Int32 × zS)) (y3 : Int32) (σ : zS) : Option (Int32 × zS) := zgd (zin (y3 + 1) ((σ 50 1 0).toNatClampNeg)) (zb2 (fA_strings N (σ 50 0 (y3 + 1).toNatClampNeg) σ) fun r273 s272 => zgd (zin (y3 + 1) ((s272 50 1 0).toNatClampNeg)) (zb2 (fM_strings N (s272 50 0 (y3 + 1).toNatClampNeg) s272) fun r277 s276 => (if r273 = r277 then fX_law_50_J1465 N G K18 y3 s276 else some (0, s276))))
set_option maxHeartbeats 4000000 in
theorem kX_law_50_J888 (N : Nat) (G : Nat) (d : Nat) (hd : 10 + 3 * G ≤ d) (K18 : Int32 → zS → Option (Int32 × zS)) (hK18 : ∀ (y3 : Int32) (σ : zS) (w : Int32 × zS), K18 y3 σ = some w → zEv d 224 18 [some (zR 50 0), some (zR 7 0), some (zR 8 0), some (zI y3)] [] σ (some (zI w.1), w.2)) : ∀ (y3 : Int32) (σ : zS) (w : Int32 × zS), fX_law_50_J888 N G K18 y3 σ = some w → zEv d 224 888 [some (zR 50 0), some (zR 7 0), some (zR 8 0), some (zI y3)] [] σ (some (zI w.1), w.2) := by
  intro y3 σ w h
  unfold fX_law_50_J888 at h
  refine ev_s i224_888 (p := 889) rfl ?_
  refine ev_s i224_889 (p := 890) rfl ?_
  refine ev_s i224_890 (p := 891) rfl ?_
  refine ev_s i224_891 (p := 892) (zic_1 _ _ _ _ _) ?_
  refine ev_s i224_892 (p := 893) (t := [zI (y3 + 1), zR 50 0, zR 7 0]) rfl ?_
  refine ev_iald i224_893 rfl (n := (σ 50 1 0).toNatClampNeg) rfl (p := 894) rfl h (fun g270 h => ?_)
  obtain ⟨r273, s272, hr271, h⟩ := b2_some h
  refine ev_callV i224_894 zc9_109 zm83 zo83 (as' := [zI (σ 50 0 (y3 + 1).toNatClampNeg)]) (rest := []) rfl rfl (Nat.le_of_ble_eq_true rfl) (Nat.le_of_ble_eq_true rfl) (Nat.le_of_ble_eq_true rfl) (by omega) (l0 := [some (zR 7 0), some (zI (σ 50 0 (y3 + 1).toNatClampNeg))]) rfl (p := 897) rfl (kA_strings N (σ 50 0 (y3 + 1).toNatClampNeg) σ (r273, s272) hr271 (d - 1) (by omega)) ?_
  change zEv d 224 897 [some (zR 50 0), some (zR 7 0), some (zR 8 0), some (zI y3)] [zI r273] s272 _
  refine ev_s i224_897 (p := 898) rfl ?_
  refine ev_s i224_898 (p := 899) rfl ?_
  refine ev_s i224_899 (p := 900) rfl ?_
  refine ev_s i224_900 (p := 901) (zic_1 _ _ _ _ _) ?_
  refine ev_s i224_901 (p := 902) (t := [zI (y3 + 1), zR 50 0, zR 8 0, zI r273]) rfl ?_
  refine ev_iald i224_902 rfl (n := (s272 50 1 0).toNatClampNeg) rfl (p := 903) rfl h (fun g274 h => ?_)
  obtain ⟨r277, s276, hr275, h⟩ := b2_some h
  refine ev_callV i224_903 zc9_112 zm187 zo187 (as' := [zI (s272 50 0 (y3 + 1).toNatClampNeg)]) (rest := [zI r273]) rfl rfl (Nat.le_of_ble_eq_true rfl) (Nat.le_of_ble_eq_true rfl) (Nat.le_of_ble_eq_true rfl) (by omega) (l0 := [some (zR 8 0), some (zI (s272 50 0 (y3 + 1).toNatClampNeg)), none]) rfl (p := 906) rfl (kM_strings N (s272 50 0 (y3 + 1).toNatClampNeg) s272 (r277, s276) hr275 (d - 1) (by omega)) ?_
  change zEv d 224 906 [some (zR 50 0), some (zR 7 0), some (zR 8 0), some (zI y3)] [zI r277, zI r273] s276 _
  refine ev_cmpeq i224_906 (t := 1465) (by decide) (p := 909) rfl h (fun c278 h => ?_) (fun c278 h => ?_)
  · exact kX_law_50_J1465 N G d hd K18 hK18 y3 s276 w h
  · refine ev_s i224_909 (p := 910) (zic_0 _ _ _ _ _) ?_
    obtain rfl := Option.some.inj h
    exact ev_zret i224_910 zr224 (by decide)
def fX_law_50_J855 (N : Nat) (G : Nat) (K18 : Int32 → zS → Option (Int32 × zS)) (y3 : Int32) (σ : zS) : Option (Int32 × zS) := zgd (zin (y3 + 1) ((σ 50 1 0).toNatClampNeg)) (zgd (zin (y3 + 2) ((σ 50 1 0).toNatClampNeg)) (zb2 (fA_then N (σ 50 0 (y3 + 1).toNatClampNeg) (σ 50 0 (y3 + 2).toNatClampNeg) σ) fun r263 s262 => zgd (zin (y3 + 1) ((s262 50 1 0).toNatClampNeg)) (zgd (zin (y3 + 2) ((s262 50 1 0).toNatClampNeg)) (zb2 (fM_then N (s262 50 0 (y3 + 1).toNatClampNeg) (s262 50 0 (y3 + 2).toNatClampNeg) s262) fun r268 s267 => (if r263 = r268 then fX_law_50_J1465 N G K18 y3 s267 else some (0, s267))))))
set_option maxHeartbeats 4000000 in
theorem kX_law_50_J855 (N : Nat) (G : Nat) (d : Nat) (hd : 10 + 3 * G ≤ d) (K18 : Int32 → zS → Option (Int32 × zS)) (hK18 : ∀ (y3 : Int32) (σ : zS) (w : Int32 × zS), K18 y3 σ = some w → zEv d 224 18 [some (zR 50 0), some (zR 7 0), some (zR 8 0), some (zI y3)] [] σ (some (zI w.1), w.2)) : ∀ (y3 : Int32) (σ : zS) (w : Int32 × zS), fX_law_50_J855 N G K18 y3 σ = some w → zEv d 224 855 [some (zR 50 0), some (zR 7 0), some (zR 8 0), some (zI y3)] [] σ (some (zI w.1), w.2) := by
  intro y3 σ w h
  unfold fX_law_50_J855 at h
  refine ev_s i224_855 (p := 856) rfl ?_
  refine ev_s i224_856 (p := 857) rfl ?_
  refine ev_s i224_857 (p := 858) rfl ?_
  refine ev_s i224_858 (p := 859) (zic_1 _ _ _ _ _) ?_
  refine ev_s i224_859 (p := 860) (t := [zI (y3 + 1), zR 50 0, zR 7 0]) rfl ?_
  refine ev_iald i224_860 rfl (n := (σ 50 1 0).toNatClampNeg) rfl (p := 861) rfl h (fun g259 h => ?_)
  refine ev_s i224_861 (p := 862) rfl ?_
  refine ev_s i224_862 (p := 863) rfl ?_
  refine ev_s i224_863 (p := 864) (zic_2 _ _ _ _ _) ?_
  refine ev_s i224_864 (p := 865) (t := [zI (y3 + 2), zR 50 0, zI (σ 50 0 (y3 + 1).toNatClampNeg), zR 7 0]) rfl ?_
  refine ev_iald i224_865 rfl (n := (σ 50 1 0).toNatClampNeg) rfl (p := 866) rfl h (fun g260 h => ?_)
  obtain ⟨r263, s262, hr261, h⟩ := b2_some h
  refine ev_callV i224_866 zc9_105 zm82 zo82 (as' := [zI (σ 50 0 (y3 + 1).toNatClampNeg), zI (σ 50 0 (y3 + 2).toNatClampNeg)]) (rest := []) rfl rfl (Nat.le_of_ble_eq_true rfl) (Nat.le_of_ble_eq_true rfl) (Nat.le_of_ble_eq_true rfl) (by omega) (l0 := [some (zR 7 0), some (zI (σ 50 0 (y3 + 1).toNatClampNeg)), some (zI (σ 50 0 (y3 + 2).toNatClampNeg))]) rfl (p := 869) rfl (kA_then N (σ 50 0 (y3 + 1).toNatClampNeg) (σ 50 0 (y3 + 2).toNatClampNeg) σ (r263, s262) hr261 (d - 1) (by omega)) ?_
  change zEv d 224 869 [some (zR 50 0), some (zR 7 0), some (zR 8 0), some (zI y3)] [zI r263] s262 _
  refine ev_s i224_869 (p := 870) rfl ?_
  refine ev_s i224_870 (p := 871) rfl ?_
  refine ev_s i224_871 (p := 872) rfl ?_
  refine ev_s i224_872 (p := 873) (zic_1 _ _ _ _ _) ?_
  refine ev_s i224_873 (p := 874) (t := [zI (y3 + 1), zR 50 0, zR 8 0, zI r263]) rfl ?_
  refine ev_iald i224_874 rfl (n := (s262 50 1 0).toNatClampNeg) rfl (p := 875) rfl h (fun g264 h => ?_)
  refine ev_s i224_875 (p := 876) rfl ?_
  refine ev_s i224_876 (p := 877) rfl ?_
  refine ev_s i224_877 (p := 878) (zic_2 _ _ _ _ _) ?_
  refine ev_s i224_878 (p := 879) (t := [zI (y3 + 2), zR 50 0, zI (s262 50 0 (y3 + 1).toNatClampNeg), zR 8 0, zI r263]) rfl ?_
  refine ev_iald i224_879 rfl (n := (s262 50 1 0).toNatClampNeg) rfl (p := 880) rfl h (fun g265 h => ?_)
  obtain ⟨r268, s267, hr266, h⟩ := b2_some h
  refine ev_callV i224_880 zc9_108 zm186 zo186 (as' := [zI (s262 50 0 (y3 + 1).toNatClampNeg), zI (s262 50 0 (y3 + 2).toNatClampNeg)]) (rest := [zI r263]) rfl rfl (Nat.le_of_ble_eq_true rfl) (Nat.le_of_ble_eq_true rfl) (Nat.le_of_ble_eq_true rfl) (by omega) (l0 := [some (zR 8 0), some (zI (s262 50 0 (y3 + 1).toNatClampNeg)), some (zI (s262 50 0 (y3 + 2).toNatClampNeg)), none]) rfl (p := 883) rfl (kM_then N (s262 50 0 (y3 + 1).toNatClampNeg) (s262 50 0 (y3 + 2).toNatClampNeg) s262 (r268, s267) hr266 (d - 1) (by omega)) ?_
  change zEv d 224 883 [some (zR 50 0), some (zR 7 0), some (zR 8 0), some (zI y3)] [zI r268, zI r263] s267 _
  refine ev_cmpeq i224_883 (t := 1465) (by decide) (p := 886) rfl h (fun c269 h => ?_) (fun c269 h => ?_)
  · exact kX_law_50_J1465 N G d hd K18 hK18 y3 s267 w h
  · refine ev_s i224_886 (p := 887) (zic_0 _ _ _ _ _) ?_
    obtain rfl := Option.some.inj h
    exact ev_zret i224_887 zr224 (by decide)
def fX_law_50_J842 (N : Nat) (G : Nat) (K18 : Int32 → zS → Option (Int32 × zS)) (y3 : Int32) (σ : zS) : Option (Int32 × zS) := (fA_crossings N σ).bind fun r255 => (fM_crossings N σ).bind fun r257 => (if r255 = r257 then fX_law_50_J1465 N G K18 y3 σ else some (0, σ))
set_option maxHeartbeats 4000000 in
theorem kX_law_50_J842 (N : Nat) (G : Nat) (d : Nat) (hd : 10 + 3 * G ≤ d) (K18 : Int32 → zS → Option (Int32 × zS)) (hK18 : ∀ (y3 : Int32) (σ : zS) (w : Int32 × zS), K18 y3 σ = some w → zEv d 224 18 [some (zR 50 0), some (zR 7 0), some (zR 8 0), some (zI y3)] [] σ (some (zI w.1), w.2)) : ∀ (y3 : Int32) (σ : zS) (w : Int32 × zS), fX_law_50_J842 N G K18 y3 σ = some w → zEv d 224 842 [some (zR 50 0), some (zR 7 0), some (zR 8 0), some (zI y3)] [] σ (some (zI w.1), w.2) := by
  intro y3 σ w h
  unfold fX_law_50_J842 at h
  refine ev_s i224_842 (p := 843) rfl ?_
  obtain ⟨r255, hr254, h⟩ := bd_some h
  refine ev_callV i224_843 zc9_100 zm81 zo81 (as' := []) (rest := []) rfl rfl (Nat.le_of_ble_eq_true rfl) (Nat.le_of_ble_eq_true rfl) (Nat.le_of_ble_eq_true rfl) (by omega) (l0 := [some (zR 7 0), none, none, none]) rfl (p := 846) rfl (kA_crossings N σ r255 hr254 (d - 1) (by omega)) ?_
  change zEv d 224 846 [some (zR 50 0), some (zR 7 0), some (zR 8 0), some (zI y3)] [zI r255] σ _
  refine ev_s i224_846 (p := 847) rfl ?_
  obtain ⟨r257, hr256, h⟩ := bd_some h
  refine ev_callV i224_847 zc9_104 zm185 zo185 (as' := []) (rest := [zI r255]) rfl rfl (Nat.le_of_ble_eq_true rfl) (Nat.le_of_ble_eq_true rfl) (Nat.le_of_ble_eq_true rfl) (by omega) (l0 := [some (zR 8 0), none, none, none]) rfl (p := 850) rfl (kM_crossings N σ r257 hr256 (d - 1) (by omega)) ?_
  change zEv d 224 850 [some (zR 50 0), some (zR 7 0), some (zR 8 0), some (zI y3)] [zI r257, zI r255] σ _
  refine ev_cmpeq i224_850 (t := 1465) (by decide) (p := 853) rfl h (fun c258 h => ?_) (fun c258 h => ?_)
  · exact kX_law_50_J1465 N G d hd K18 hK18 y3 σ w h
  · refine ev_s i224_853 (p := 854) (zic_0 _ _ _ _ _) ?_
    obtain rfl := Option.some.inj h
    exact ev_zret i224_854 zr224 (by decide)
def fX_law_50_J819 (N : Nat) (G : Nat) (K18 : Int32 → zS → Option (Int32 × zS)) (y3 : Int32) (σ : zS) : Option (Int32 × zS) := zgd (zin (y3 + 1) ((σ 50 1 0).toNatClampNeg)) (zb2 (fA_knot N (σ 50 0 (y3 + 1).toNatClampNeg) σ) fun r248 s247 => zgd (zin (y3 + 1) ((s247 50 1 0).toNatClampNeg)) (zb2 (fM_knot N (s247 50 0 (y3 + 1).toNatClampNeg) s247) fun r252 s251 => (if r248 = r252 then fX_law_50_J1465 N G K18 y3 s251 else some (0, s251))))
set_option maxHeartbeats 4000000 in
theorem kX_law_50_J819 (N : Nat) (G : Nat) (d : Nat) (hd : 10 + 3 * G ≤ d) (K18 : Int32 → zS → Option (Int32 × zS)) (hK18 : ∀ (y3 : Int32) (σ : zS) (w : Int32 × zS), K18 y3 σ = some w → zEv d 224 18 [some (zR 50 0), some (zR 7 0), some (zR 8 0), some (zI y3)] [] σ (some (zI w.1), w.2)) : ∀ (y3 : Int32) (σ : zS) (w : Int32 × zS), fX_law_50_J819 N G K18 y3 σ = some w → zEv d 224 819 [some (zR 50 0), some (zR 7 0), some (zR 8 0), some (zI y3)] [] σ (some (zI w.1), w.2) := by
  intro y3 σ w h
  unfold fX_law_50_J819 at h
  refine ev_s i224_819 (p := 820) rfl ?_
  refine ev_s i224_820 (p := 821) rfl ?_
  refine ev_s i224_821 (p := 822) rfl ?_
  refine ev_s i224_822 (p := 823) (zic_1 _ _ _ _ _) ?_
  refine ev_s i224_823 (p := 824) (t := [zI (y3 + 1), zR 50 0, zR 7 0]) rfl ?_
  refine ev_iald i224_824 rfl (n := (σ 50 1 0).toNatClampNeg) rfl (p := 825) rfl h (fun g245 h => ?_)
  obtain ⟨r248, s247, hr246, h⟩ := b2_some h
  refine ev_callV i224_825 zc9_96 zm80 zo80 (as' := [zI (σ 50 0 (y3 + 1).toNatClampNeg)]) (rest := []) rfl rfl (Nat.le_of_ble_eq_true rfl) (Nat.le_of_ble_eq_true rfl) (Nat.le_of_ble_eq_true rfl) (by omega) (l0 := [some (zR 7 0), some (zI (σ 50 0 (y3 + 1).toNatClampNeg)), none, none, none, none]) rfl (p := 828) rfl (kA_knot N (σ 50 0 (y3 + 1).toNatClampNeg) σ (r248, s247) hr246 (d - 1) (by omega)) ?_
  change zEv d 224 828 [some (zR 50 0), some (zR 7 0), some (zR 8 0), some (zI y3)] [zI r248] s247 _
  refine ev_s i224_828 (p := 829) rfl ?_
  refine ev_s i224_829 (p := 830) rfl ?_
  refine ev_s i224_830 (p := 831) rfl ?_
  refine ev_s i224_831 (p := 832) (zic_1 _ _ _ _ _) ?_
  refine ev_s i224_832 (p := 833) (t := [zI (y3 + 1), zR 50 0, zR 8 0, zI r248]) rfl ?_
  refine ev_iald i224_833 rfl (n := (s247 50 1 0).toNatClampNeg) rfl (p := 834) rfl h (fun g249 h => ?_)
  obtain ⟨r252, s251, hr250, h⟩ := b2_some h
  refine ev_callV i224_834 zc9_99 zm183 zo183 (as' := [zI (s247 50 0 (y3 + 1).toNatClampNeg)]) (rest := [zI r248]) rfl rfl (Nat.le_of_ble_eq_true rfl) (Nat.le_of_ble_eq_true rfl) (Nat.le_of_ble_eq_true rfl) (by omega) (l0 := [some (zR 8 0), some (zI (s247 50 0 (y3 + 1).toNatClampNeg)), none, none, none, none]) rfl (p := 837) rfl (kM_knot N (s247 50 0 (y3 + 1).toNatClampNeg) s247 (r252, s251) hr250 (d - 1) (by omega)) ?_
  change zEv d 224 837 [some (zR 50 0), some (zR 7 0), some (zR 8 0), some (zI y3)] [zI r252, zI r248] s251 _
  refine ev_cmpeq i224_837 (t := 1465) (by decide) (p := 840) rfl h (fun c253 h => ?_) (fun c253 h => ?_)
  · exact kX_law_50_J1465 N G d hd K18 hK18 y3 s251 w h
  · refine ev_s i224_840 (p := 841) (zic_0 _ _ _ _ _) ?_
    obtain rfl := Option.some.inj h
    exact ev_zret i224_841 zr224 (by decide)
def fX_law_50_J796 (N : Nat) (G : Nat) (K18 : Int32 → zS → Option (Int32 × zS)) (y3 : Int32) (σ : zS) : Option (Int32 × zS) := zgd (zin (y3 + 1) ((σ 50 1 0).toNatClampNeg)) (zb2 (fA_over N (σ 50 0 (y3 + 1).toNatClampNeg) σ) fun r239 s238 => zgd (zin (y3 + 1) ((s238 50 1 0).toNatClampNeg)) (zb2 (fM_over N (s238 50 0 (y3 + 1).toNatClampNeg) s238) fun r243 s242 => (if r239 = r243 then fX_law_50_J1465 N G K18 y3 s242 else some (0, s242))))
set_option maxHeartbeats 4000000 in
theorem kX_law_50_J796 (N : Nat) (G : Nat) (d : Nat) (hd : 10 + 3 * G ≤ d) (K18 : Int32 → zS → Option (Int32 × zS)) (hK18 : ∀ (y3 : Int32) (σ : zS) (w : Int32 × zS), K18 y3 σ = some w → zEv d 224 18 [some (zR 50 0), some (zR 7 0), some (zR 8 0), some (zI y3)] [] σ (some (zI w.1), w.2)) : ∀ (y3 : Int32) (σ : zS) (w : Int32 × zS), fX_law_50_J796 N G K18 y3 σ = some w → zEv d 224 796 [some (zR 50 0), some (zR 7 0), some (zR 8 0), some (zI y3)] [] σ (some (zI w.1), w.2) := by
  intro y3 σ w h
  unfold fX_law_50_J796 at h
  refine ev_s i224_796 (p := 797) rfl ?_
  refine ev_s i224_797 (p := 798) rfl ?_
  refine ev_s i224_798 (p := 799) rfl ?_
  refine ev_s i224_799 (p := 800) (zic_1 _ _ _ _ _) ?_
  refine ev_s i224_800 (p := 801) (t := [zI (y3 + 1), zR 50 0, zR 7 0]) rfl ?_
  refine ev_iald i224_801 rfl (n := (σ 50 1 0).toNatClampNeg) rfl (p := 802) rfl h (fun g236 h => ?_)
  obtain ⟨r239, s238, hr237, h⟩ := b2_some h
  refine ev_callV i224_802 zc9_92 zm79 zo79 (as' := [zI (σ 50 0 (y3 + 1).toNatClampNeg)]) (rest := []) rfl rfl (Nat.le_of_ble_eq_true rfl) (Nat.le_of_ble_eq_true rfl) (Nat.le_of_ble_eq_true rfl) (by omega) (l0 := [some (zR 7 0), some (zI (σ 50 0 (y3 + 1).toNatClampNeg))]) rfl (p := 805) rfl (kA_over N (σ 50 0 (y3 + 1).toNatClampNeg) σ (r239, s238) hr237 (d - 1) (by omega)) ?_
  change zEv d 224 805 [some (zR 50 0), some (zR 7 0), some (zR 8 0), some (zI y3)] [zI r239] s238 _
  refine ev_s i224_805 (p := 806) rfl ?_
  refine ev_s i224_806 (p := 807) rfl ?_
  refine ev_s i224_807 (p := 808) rfl ?_
  refine ev_s i224_808 (p := 809) (zic_1 _ _ _ _ _) ?_
  refine ev_s i224_809 (p := 810) (t := [zI (y3 + 1), zR 50 0, zR 8 0, zI r239]) rfl ?_
  refine ev_iald i224_810 rfl (n := (s238 50 1 0).toNatClampNeg) rfl (p := 811) rfl h (fun g240 h => ?_)
  obtain ⟨r243, s242, hr241, h⟩ := b2_some h
  refine ev_callV i224_811 zc9_95 zm182 zo182 (as' := [zI (s238 50 0 (y3 + 1).toNatClampNeg)]) (rest := [zI r239]) rfl rfl (Nat.le_of_ble_eq_true rfl) (Nat.le_of_ble_eq_true rfl) (Nat.le_of_ble_eq_true rfl) (by omega) (l0 := [some (zR 8 0), some (zI (s238 50 0 (y3 + 1).toNatClampNeg))]) rfl (p := 814) rfl (kM_over N (s238 50 0 (y3 + 1).toNatClampNeg) s238 (r243, s242) hr241 (d - 1) (by omega)) ?_
  change zEv d 224 814 [some (zR 50 0), some (zR 7 0), some (zR 8 0), some (zI y3)] [zI r243, zI r239] s242 _
  refine ev_cmpeq i224_814 (t := 1465) (by decide) (p := 817) rfl h (fun c244 h => ?_) (fun c244 h => ?_)
  · exact kX_law_50_J1465 N G d hd K18 hK18 y3 s242 w h
  · refine ev_s i224_817 (p := 818) (zic_0 _ _ _ _ _) ?_
    obtain rfl := Option.some.inj h
    exact ev_zret i224_818 zr224 (by decide)
def fX_law_50_J763 (N : Nat) (G : Nat) (K18 : Int32 → zS → Option (Int32 × zS)) (y3 : Int32) (σ : zS) : Option (Int32 × zS) := zgd (zin (y3 + 1) ((σ 50 1 0).toNatClampNeg)) (zgd (zin (y3 + 2) ((σ 50 1 0).toNatClampNeg)) (zb2 (fA_between N (σ 50 0 (y3 + 1).toNatClampNeg) (σ 50 0 (y3 + 2).toNatClampNeg) σ) fun r229 s228 => zgd (zin (y3 + 1) ((s228 50 1 0).toNatClampNeg)) (zgd (zin (y3 + 2) ((s228 50 1 0).toNatClampNeg)) (zb2 (fM_between N (s228 50 0 (y3 + 1).toNatClampNeg) (s228 50 0 (y3 + 2).toNatClampNeg) s228) fun r234 s233 => (if r229 = r234 then fX_law_50_J1465 N G K18 y3 s233 else some (0, s233))))))
set_option maxHeartbeats 4000000 in
theorem kX_law_50_J763 (N : Nat) (G : Nat) (d : Nat) (hd : 10 + 3 * G ≤ d) (K18 : Int32 → zS → Option (Int32 × zS)) (hK18 : ∀ (y3 : Int32) (σ : zS) (w : Int32 × zS), K18 y3 σ = some w → zEv d 224 18 [some (zR 50 0), some (zR 7 0), some (zR 8 0), some (zI y3)] [] σ (some (zI w.1), w.2)) : ∀ (y3 : Int32) (σ : zS) (w : Int32 × zS), fX_law_50_J763 N G K18 y3 σ = some w → zEv d 224 763 [some (zR 50 0), some (zR 7 0), some (zR 8 0), some (zI y3)] [] σ (some (zI w.1), w.2) := by
  intro y3 σ w h
  unfold fX_law_50_J763 at h
  refine ev_s i224_763 (p := 764) rfl ?_
  refine ev_s i224_764 (p := 765) rfl ?_
  refine ev_s i224_765 (p := 766) rfl ?_
  refine ev_s i224_766 (p := 767) (zic_1 _ _ _ _ _) ?_
  refine ev_s i224_767 (p := 768) (t := [zI (y3 + 1), zR 50 0, zR 7 0]) rfl ?_
  refine ev_iald i224_768 rfl (n := (σ 50 1 0).toNatClampNeg) rfl (p := 769) rfl h (fun g225 h => ?_)
  refine ev_s i224_769 (p := 770) rfl ?_
  refine ev_s i224_770 (p := 771) rfl ?_
  refine ev_s i224_771 (p := 772) (zic_2 _ _ _ _ _) ?_
  refine ev_s i224_772 (p := 773) (t := [zI (y3 + 2), zR 50 0, zI (σ 50 0 (y3 + 1).toNatClampNeg), zR 7 0]) rfl ?_
  refine ev_iald i224_773 rfl (n := (σ 50 1 0).toNatClampNeg) rfl (p := 774) rfl h (fun g226 h => ?_)
  obtain ⟨r229, s228, hr227, h⟩ := b2_some h
  refine ev_callV i224_774 zc9_88 zm78 zo78 (as' := [zI (σ 50 0 (y3 + 1).toNatClampNeg), zI (σ 50 0 (y3 + 2).toNatClampNeg)]) (rest := []) rfl rfl (Nat.le_of_ble_eq_true rfl) (Nat.le_of_ble_eq_true rfl) (Nat.le_of_ble_eq_true rfl) (by omega) (l0 := [some (zR 7 0), some (zI (σ 50 0 (y3 + 1).toNatClampNeg)), some (zI (σ 50 0 (y3 + 2).toNatClampNeg)), none]) rfl (p := 777) rfl (kA_between N (σ 50 0 (y3 + 1).toNatClampNeg) (σ 50 0 (y3 + 2).toNatClampNeg) σ (r229, s228) hr227 (d - 1) (by omega)) ?_
  change zEv d 224 777 [some (zR 50 0), some (zR 7 0), some (zR 8 0), some (zI y3)] [zI r229] s228 _
  refine ev_s i224_777 (p := 778) rfl ?_
  refine ev_s i224_778 (p := 779) rfl ?_
  refine ev_s i224_779 (p := 780) rfl ?_
  refine ev_s i224_780 (p := 781) (zic_1 _ _ _ _ _) ?_
  refine ev_s i224_781 (p := 782) (t := [zI (y3 + 1), zR 50 0, zR 8 0, zI r229]) rfl ?_
  refine ev_iald i224_782 rfl (n := (s228 50 1 0).toNatClampNeg) rfl (p := 783) rfl h (fun g230 h => ?_)
  refine ev_s i224_783 (p := 784) rfl ?_
  refine ev_s i224_784 (p := 785) rfl ?_
  refine ev_s i224_785 (p := 786) (zic_2 _ _ _ _ _) ?_
  refine ev_s i224_786 (p := 787) (t := [zI (y3 + 2), zR 50 0, zI (s228 50 0 (y3 + 1).toNatClampNeg), zR 8 0, zI r229]) rfl ?_
  refine ev_iald i224_787 rfl (n := (s228 50 1 0).toNatClampNeg) rfl (p := 788) rfl h (fun g231 h => ?_)
  obtain ⟨r234, s233, hr232, h⟩ := b2_some h
  refine ev_callV i224_788 zc9_91 zm177 zo177 (as' := [zI (s228 50 0 (y3 + 1).toNatClampNeg), zI (s228 50 0 (y3 + 2).toNatClampNeg)]) (rest := [zI r229]) rfl rfl (Nat.le_of_ble_eq_true rfl) (Nat.le_of_ble_eq_true rfl) (Nat.le_of_ble_eq_true rfl) (by omega) (l0 := [some (zR 8 0), some (zI (s228 50 0 (y3 + 1).toNatClampNeg)), some (zI (s228 50 0 (y3 + 2).toNatClampNeg)), none]) rfl (p := 791) rfl (kM_between N (s228 50 0 (y3 + 1).toNatClampNeg) (s228 50 0 (y3 + 2).toNatClampNeg) s228 (r234, s233) hr232 (d - 1) (by omega)) ?_
  change zEv d 224 791 [some (zR 50 0), some (zR 7 0), some (zR 8 0), some (zI y3)] [zI r234, zI r229] s233 _
  refine ev_cmpeq i224_791 (t := 1465) (by decide) (p := 794) rfl h (fun c235 h => ?_) (fun c235 h => ?_)
  · exact kX_law_50_J1465 N G d hd K18 hK18 y3 s233 w h
  · refine ev_s i224_794 (p := 795) (zic_0 _ _ _ _ _) ?_
    obtain rfl := Option.some.inj h
    exact ev_zret i224_795 zr224 (by decide)
def fX_law_50_J740 (N : Nat) (G : Nat) (K18 : Int32 → zS → Option (Int32 × zS)) (y3 : Int32) (σ : zS) : Option (Int32 × zS) := zgd (zin (y3 + 1) ((σ 50 1 0).toNatClampNeg)) (zb2 (fA_line N (σ 50 0 (y3 + 1).toNatClampNeg) σ) fun r219 s218 => zgd (zin (y3 + 1) ((s218 50 1 0).toNatClampNeg)) (zb2 (fM_line N (s218 50 0 (y3 + 1).toNatClampNeg) s218) fun r223 s222 => (if r219 = r223 then fX_law_50_J1465 N G K18 y3 s222 else some (0, s222))))
set_option maxHeartbeats 4000000 in
theorem kX_law_50_J740 (N : Nat) (G : Nat) (d : Nat) (hd : 10 + 3 * G ≤ d) (K18 : Int32 → zS → Option (Int32 × zS)) (hK18 : ∀ (y3 : Int32) (σ : zS) (w : Int32 × zS), K18 y3 σ = some w → zEv d 224 18 [some (zR 50 0), some (zR 7 0), some (zR 8 0), some (zI y3)] [] σ (some (zI w.1), w.2)) : ∀ (y3 : Int32) (σ : zS) (w : Int32 × zS), fX_law_50_J740 N G K18 y3 σ = some w → zEv d 224 740 [some (zR 50 0), some (zR 7 0), some (zR 8 0), some (zI y3)] [] σ (some (zI w.1), w.2) := by
  intro y3 σ w h
  unfold fX_law_50_J740 at h
  refine ev_s i224_740 (p := 741) rfl ?_
  refine ev_s i224_741 (p := 742) rfl ?_
  refine ev_s i224_742 (p := 743) rfl ?_
  refine ev_s i224_743 (p := 744) (zic_1 _ _ _ _ _) ?_
  refine ev_s i224_744 (p := 745) (t := [zI (y3 + 1), zR 50 0, zR 7 0]) rfl ?_
  refine ev_iald i224_745 rfl (n := (σ 50 1 0).toNatClampNeg) rfl (p := 746) rfl h (fun g216 h => ?_)
  obtain ⟨r219, s218, hr217, h⟩ := b2_some h
  refine ev_callV i224_746 zc9_84 zm77 zo77 (as' := [zI (σ 50 0 (y3 + 1).toNatClampNeg)]) (rest := []) rfl rfl (Nat.le_of_ble_eq_true rfl) (Nat.le_of_ble_eq_true rfl) (Nat.le_of_ble_eq_true rfl) (by omega) (l0 := [some (zR 7 0), some (zI (σ 50 0 (y3 + 1).toNatClampNeg))]) rfl (p := 749) rfl (kA_line N (σ 50 0 (y3 + 1).toNatClampNeg) σ (r219, s218) hr217 (d - 1) (by omega)) ?_
  change zEv d 224 749 [some (zR 50 0), some (zR 7 0), some (zR 8 0), some (zI y3)] [zI r219] s218 _
  refine ev_s i224_749 (p := 750) rfl ?_
  refine ev_s i224_750 (p := 751) rfl ?_
  refine ev_s i224_751 (p := 752) rfl ?_
  refine ev_s i224_752 (p := 753) (zic_1 _ _ _ _ _) ?_
  refine ev_s i224_753 (p := 754) (t := [zI (y3 + 1), zR 50 0, zR 8 0, zI r219]) rfl ?_
  refine ev_iald i224_754 rfl (n := (s218 50 1 0).toNatClampNeg) rfl (p := 755) rfl h (fun g220 h => ?_)
  obtain ⟨r223, s222, hr221, h⟩ := b2_some h
  refine ev_callV i224_755 zc9_87 zm175 zo175 (as' := [zI (s218 50 0 (y3 + 1).toNatClampNeg)]) (rest := [zI r219]) rfl rfl (Nat.le_of_ble_eq_true rfl) (Nat.le_of_ble_eq_true rfl) (Nat.le_of_ble_eq_true rfl) (by omega) (l0 := [some (zR 8 0), some (zI (s218 50 0 (y3 + 1).toNatClampNeg))]) rfl (p := 758) rfl (kM_line N (s218 50 0 (y3 + 1).toNatClampNeg) s218 (r223, s222) hr221 (d - 1) (by omega)) ?_
  change zEv d 224 758 [some (zR 50 0), some (zR 7 0), some (zR 8 0), some (zI y3)] [zI r223, zI r219] s222 _
  refine ev_cmpeq i224_758 (t := 1465) (by decide) (p := 761) rfl h (fun c224 h => ?_) (fun c224 h => ?_)
  · exact kX_law_50_J1465 N G d hd K18 hK18 y3 s222 w h
  · refine ev_s i224_761 (p := 762) (zic_0 _ _ _ _ _) ?_
    obtain rfl := Option.some.inj h
    exact ev_zret i224_762 zr224 (by decide)
def fX_law_50_J717 (N : Nat) (G : Nat) (K18 : Int32 → zS → Option (Int32 × zS)) (y3 : Int32) (σ : zS) : Option (Int32 × zS) := zgd (zin (y3 + 1) ((σ 50 1 0).toNatClampNeg)) (zb2 (fA_seed (σ 50 0 (y3 + 1).toNatClampNeg) σ) fun r210 s209 => zgd (zin (y3 + 1) ((s209 50 1 0).toNatClampNeg)) (zb2 (fM_seed (s209 50 0 (y3 + 1).toNatClampNeg) s209) fun r214 s213 => (if r210 = r214 then fX_law_50_J1465 N G K18 y3 s213 else some (0, s213))))
set_option maxHeartbeats 4000000 in
theorem kX_law_50_J717 (N : Nat) (G : Nat) (d : Nat) (hd : 10 + 3 * G ≤ d) (K18 : Int32 → zS → Option (Int32 × zS)) (hK18 : ∀ (y3 : Int32) (σ : zS) (w : Int32 × zS), K18 y3 σ = some w → zEv d 224 18 [some (zR 50 0), some (zR 7 0), some (zR 8 0), some (zI y3)] [] σ (some (zI w.1), w.2)) : ∀ (y3 : Int32) (σ : zS) (w : Int32 × zS), fX_law_50_J717 N G K18 y3 σ = some w → zEv d 224 717 [some (zR 50 0), some (zR 7 0), some (zR 8 0), some (zI y3)] [] σ (some (zI w.1), w.2) := by
  intro y3 σ w h
  unfold fX_law_50_J717 at h
  refine ev_s i224_717 (p := 718) rfl ?_
  refine ev_s i224_718 (p := 719) rfl ?_
  refine ev_s i224_719 (p := 720) rfl ?_
  refine ev_s i224_720 (p := 721) (zic_1 _ _ _ _ _) ?_
  refine ev_s i224_721 (p := 722) (t := [zI (y3 + 1), zR 50 0, zR 7 0]) rfl ?_
  refine ev_iald i224_722 rfl (n := (σ 50 1 0).toNatClampNeg) rfl (p := 723) rfl h (fun g207 h => ?_)
  obtain ⟨r210, s209, hr208, h⟩ := b2_some h
  refine ev_callV i224_723 zc9_80 zm76 zo76 (as' := [zI (σ 50 0 (y3 + 1).toNatClampNeg)]) (rest := []) rfl rfl (Nat.le_of_ble_eq_true rfl) (Nat.le_of_ble_eq_true rfl) (Nat.le_of_ble_eq_true rfl) (by omega) (l0 := [some (zR 7 0), some (zI (σ 50 0 (y3 + 1).toNatClampNeg)), none]) rfl (p := 726) rfl (kA_seed (σ 50 0 (y3 + 1).toNatClampNeg) σ (r210, s209) hr208 (d - 1) (by omega)) ?_
  change zEv d 224 726 [some (zR 50 0), some (zR 7 0), some (zR 8 0), some (zI y3)] [zI r210] s209 _
  refine ev_s i224_726 (p := 727) rfl ?_
  refine ev_s i224_727 (p := 728) rfl ?_
  refine ev_s i224_728 (p := 729) rfl ?_
  refine ev_s i224_729 (p := 730) (zic_1 _ _ _ _ _) ?_
  refine ev_s i224_730 (p := 731) (t := [zI (y3 + 1), zR 50 0, zR 8 0, zI r210]) rfl ?_
  refine ev_iald i224_731 rfl (n := (s209 50 1 0).toNatClampNeg) rfl (p := 732) rfl h (fun g211 h => ?_)
  obtain ⟨r214, s213, hr212, h⟩ := b2_some h
  refine ev_callV i224_732 zc9_83 zm173 zo173 (as' := [zI (s209 50 0 (y3 + 1).toNatClampNeg)]) (rest := [zI r210]) rfl rfl (Nat.le_of_ble_eq_true rfl) (Nat.le_of_ble_eq_true rfl) (Nat.le_of_ble_eq_true rfl) (by omega) (l0 := [some (zR 8 0), some (zI (s209 50 0 (y3 + 1).toNatClampNeg))]) rfl (p := 735) rfl (kM_seed (s209 50 0 (y3 + 1).toNatClampNeg) s209 (r214, s213) hr212 (d - 1) (by omega)) ?_
  change zEv d 224 735 [some (zR 50 0), some (zR 7 0), some (zR 8 0), some (zI y3)] [zI r214, zI r210] s213 _
  refine ev_cmpeq i224_735 (t := 1465) (by decide) (p := 738) rfl h (fun c215 h => ?_) (fun c215 h => ?_)
  · exact kX_law_50_J1465 N G d hd K18 hK18 y3 s213 w h
  · refine ev_s i224_738 (p := 739) (zic_0 _ _ _ _ _) ?_
    obtain rfl := Option.some.inj h
    exact ev_zret i224_739 zr224 (by decide)
def fX_law_50_J694 (N : Nat) (G : Nat) (K18 : Int32 → zS → Option (Int32 × zS)) (y3 : Int32) (σ : zS) : Option (Int32 × zS) := zgd (zin (y3 + 1) ((σ 50 1 0).toNatClampNeg)) (zb2 (fA_day (σ 50 0 (y3 + 1).toNatClampNeg) σ) fun r201 s200 => zgd (zin (y3 + 1) ((s200 50 1 0).toNatClampNeg)) (zb2 (fM_day (s200 50 0 (y3 + 1).toNatClampNeg) s200) fun r205 s204 => (if r201 = r205 then fX_law_50_J1465 N G K18 y3 s204 else some (0, s204))))
set_option maxHeartbeats 4000000 in
theorem kX_law_50_J694 (N : Nat) (G : Nat) (d : Nat) (hd : 10 + 3 * G ≤ d) (K18 : Int32 → zS → Option (Int32 × zS)) (hK18 : ∀ (y3 : Int32) (σ : zS) (w : Int32 × zS), K18 y3 σ = some w → zEv d 224 18 [some (zR 50 0), some (zR 7 0), some (zR 8 0), some (zI y3)] [] σ (some (zI w.1), w.2)) : ∀ (y3 : Int32) (σ : zS) (w : Int32 × zS), fX_law_50_J694 N G K18 y3 σ = some w → zEv d 224 694 [some (zR 50 0), some (zR 7 0), some (zR 8 0), some (zI y3)] [] σ (some (zI w.1), w.2) := by
  intro y3 σ w h
  unfold fX_law_50_J694 at h
  refine ev_s i224_694 (p := 695) rfl ?_
  refine ev_s i224_695 (p := 696) rfl ?_
  refine ev_s i224_696 (p := 697) rfl ?_
  refine ev_s i224_697 (p := 698) (zic_1 _ _ _ _ _) ?_
  refine ev_s i224_698 (p := 699) (t := [zI (y3 + 1), zR 50 0, zR 7 0]) rfl ?_
  refine ev_iald i224_699 rfl (n := (σ 50 1 0).toNatClampNeg) rfl (p := 700) rfl h (fun g198 h => ?_)
  obtain ⟨r201, s200, hr199, h⟩ := b2_some h
  refine ev_callV i224_700 zc9_76 zm75 zo75 (as' := [zI (σ 50 0 (y3 + 1).toNatClampNeg)]) (rest := []) rfl rfl (Nat.le_of_ble_eq_true rfl) (Nat.le_of_ble_eq_true rfl) (Nat.le_of_ble_eq_true rfl) (by omega) (l0 := [some (zR 7 0), some (zI (σ 50 0 (y3 + 1).toNatClampNeg)), none]) rfl (p := 703) rfl (kA_day (σ 50 0 (y3 + 1).toNatClampNeg) σ (r201, s200) hr199 (d - 1) (by omega)) ?_
  change zEv d 224 703 [some (zR 50 0), some (zR 7 0), some (zR 8 0), some (zI y3)] [zI r201] s200 _
  refine ev_s i224_703 (p := 704) rfl ?_
  refine ev_s i224_704 (p := 705) rfl ?_
  refine ev_s i224_705 (p := 706) rfl ?_
  refine ev_s i224_706 (p := 707) (zic_1 _ _ _ _ _) ?_
  refine ev_s i224_707 (p := 708) (t := [zI (y3 + 1), zR 50 0, zR 8 0, zI r201]) rfl ?_
  refine ev_iald i224_708 rfl (n := (s200 50 1 0).toNatClampNeg) rfl (p := 709) rfl h (fun g202 h => ?_)
  obtain ⟨r205, s204, hr203, h⟩ := b2_some h
  refine ev_callV i224_709 zc9_79 zm172 zo172 (as' := [zI (s200 50 0 (y3 + 1).toNatClampNeg)]) (rest := [zI r201]) rfl rfl (Nat.le_of_ble_eq_true rfl) (Nat.le_of_ble_eq_true rfl) (Nat.le_of_ble_eq_true rfl) (by omega) (l0 := [some (zR 8 0), some (zI (s200 50 0 (y3 + 1).toNatClampNeg))]) rfl (p := 712) rfl (kM_day (s200 50 0 (y3 + 1).toNatClampNeg) s200 (r205, s204) hr203 (d - 1) (by omega)) ?_
  change zEv d 224 712 [some (zR 50 0), some (zR 7 0), some (zR 8 0), some (zI y3)] [zI r205, zI r201] s204 _
  refine ev_cmpeq i224_712 (t := 1465) (by decide) (p := 715) rfl h (fun c206 h => ?_) (fun c206 h => ?_)
  · exact kX_law_50_J1465 N G d hd K18 hK18 y3 s204 w h
  · refine ev_s i224_715 (p := 716) (zic_0 _ _ _ _ _) ?_
    obtain rfl := Option.some.inj h
    exact ev_zret i224_716 zr224 (by decide)
def fX_law_50_J671 (N : Nat) (G : Nat) (K18 : Int32 → zS → Option (Int32 × zS)) (y3 : Int32) (σ : zS) : Option (Int32 × zS) := zgd (zin (y3 + 1) ((σ 50 1 0).toNatClampNeg)) (zb2 (fA_loose N (σ 50 0 (y3 + 1).toNatClampNeg) σ) fun r192 s191 => zgd (zin (y3 + 1) ((s191 50 1 0).toNatClampNeg)) (zb2 (fM_loose N (s191 50 0 (y3 + 1).toNatClampNeg) s191) fun r196 s195 => (if r192 = r196 then fX_law_50_J1465 N G K18 y3 s195 else some (0, s195))))
set_option maxHeartbeats 4000000 in
theorem kX_law_50_J671 (N : Nat) (G : Nat) (d : Nat) (hd : 10 + 3 * G ≤ d) (K18 : Int32 → zS → Option (Int32 × zS)) (hK18 : ∀ (y3 : Int32) (σ : zS) (w : Int32 × zS), K18 y3 σ = some w → zEv d 224 18 [some (zR 50 0), some (zR 7 0), some (zR 8 0), some (zI y3)] [] σ (some (zI w.1), w.2)) : ∀ (y3 : Int32) (σ : zS) (w : Int32 × zS), fX_law_50_J671 N G K18 y3 σ = some w → zEv d 224 671 [some (zR 50 0), some (zR 7 0), some (zR 8 0), some (zI y3)] [] σ (some (zI w.1), w.2) := by
  intro y3 σ w h
  unfold fX_law_50_J671 at h
  refine ev_s i224_671 (p := 672) rfl ?_
  refine ev_s i224_672 (p := 673) rfl ?_
  refine ev_s i224_673 (p := 674) rfl ?_
  refine ev_s i224_674 (p := 675) (zic_1 _ _ _ _ _) ?_
  refine ev_s i224_675 (p := 676) (t := [zI (y3 + 1), zR 50 0, zR 7 0]) rfl ?_
  refine ev_iald i224_676 rfl (n := (σ 50 1 0).toNatClampNeg) rfl (p := 677) rfl h (fun g189 h => ?_)
  obtain ⟨r192, s191, hr190, h⟩ := b2_some h
  refine ev_callV i224_677 zc9_72 zm74 zo74 (as' := [zI (σ 50 0 (y3 + 1).toNatClampNeg)]) (rest := []) rfl rfl (Nat.le_of_ble_eq_true rfl) (Nat.le_of_ble_eq_true rfl) (Nat.le_of_ble_eq_true rfl) (by omega) (l0 := [some (zR 7 0), some (zI (σ 50 0 (y3 + 1).toNatClampNeg)), none]) rfl (p := 680) rfl (kA_loose N (σ 50 0 (y3 + 1).toNatClampNeg) σ (r192, s191) hr190 (d - 1) (by omega)) ?_
  change zEv d 224 680 [some (zR 50 0), some (zR 7 0), some (zR 8 0), some (zI y3)] [zI r192] s191 _
  refine ev_s i224_680 (p := 681) rfl ?_
  refine ev_s i224_681 (p := 682) rfl ?_
  refine ev_s i224_682 (p := 683) rfl ?_
  refine ev_s i224_683 (p := 684) (zic_1 _ _ _ _ _) ?_
  refine ev_s i224_684 (p := 685) (t := [zI (y3 + 1), zR 50 0, zR 8 0, zI r192]) rfl ?_
  refine ev_iald i224_685 rfl (n := (s191 50 1 0).toNatClampNeg) rfl (p := 686) rfl h (fun g193 h => ?_)
  obtain ⟨r196, s195, hr194, h⟩ := b2_some h
  refine ev_callV i224_686 zc9_75 zm171 zo171 (as' := [zI (s191 50 0 (y3 + 1).toNatClampNeg)]) (rest := [zI r192]) rfl rfl (Nat.le_of_ble_eq_true rfl) (Nat.le_of_ble_eq_true rfl) (Nat.le_of_ble_eq_true rfl) (by omega) (l0 := [some (zR 8 0), some (zI (s191 50 0 (y3 + 1).toNatClampNeg)), none, none]) rfl (p := 689) rfl (kM_loose N (s191 50 0 (y3 + 1).toNatClampNeg) s191 (r196, s195) hr194 (d - 1) (by omega)) ?_
  change zEv d 224 689 [some (zR 50 0), some (zR 7 0), some (zR 8 0), some (zI y3)] [zI r196, zI r192] s195 _
  refine ev_cmpeq i224_689 (t := 1465) (by decide) (p := 692) rfl h (fun c197 h => ?_) (fun c197 h => ?_)
  · exact kX_law_50_J1465 N G d hd K18 hK18 y3 s195 w h
  · refine ev_s i224_692 (p := 693) (zic_0 _ _ _ _ _) ?_
    obtain rfl := Option.some.inj h
    exact ev_zret i224_693 zr224 (by decide)
def fX_law_50_J648 (N : Nat) (G : Nat) (K18 : Int32 → zS → Option (Int32 × zS)) (y3 : Int32) (σ : zS) : Option (Int32 × zS) := zgd (zin (y3 + 1) ((σ 50 1 0).toNatClampNeg)) (zb2 (fA_days N (σ 50 0 (y3 + 1).toNatClampNeg) σ) fun r183 s182 => zgd (zin (y3 + 1) ((s182 50 1 0).toNatClampNeg)) (zb2 (fM_days N (s182 50 0 (y3 + 1).toNatClampNeg) s182) fun r187 s186 => (if r183 = r187 then fX_law_50_J1465 N G K18 y3 s186 else some (0, s186))))
set_option maxHeartbeats 4000000 in
theorem kX_law_50_J648 (N : Nat) (G : Nat) (d : Nat) (hd : 10 + 3 * G ≤ d) (K18 : Int32 → zS → Option (Int32 × zS)) (hK18 : ∀ (y3 : Int32) (σ : zS) (w : Int32 × zS), K18 y3 σ = some w → zEv d 224 18 [some (zR 50 0), some (zR 7 0), some (zR 8 0), some (zI y3)] [] σ (some (zI w.1), w.2)) : ∀ (y3 : Int32) (σ : zS) (w : Int32 × zS), fX_law_50_J648 N G K18 y3 σ = some w → zEv d 224 648 [some (zR 50 0), some (zR 7 0), some (zR 8 0), some (zI y3)] [] σ (some (zI w.1), w.2) := by
  intro y3 σ w h
  unfold fX_law_50_J648 at h
  refine ev_s i224_648 (p := 649) rfl ?_
  refine ev_s i224_649 (p := 650) rfl ?_
  refine ev_s i224_650 (p := 651) rfl ?_
  refine ev_s i224_651 (p := 652) (zic_1 _ _ _ _ _) ?_
  refine ev_s i224_652 (p := 653) (t := [zI (y3 + 1), zR 50 0, zR 7 0]) rfl ?_
  refine ev_iald i224_653 rfl (n := (σ 50 1 0).toNatClampNeg) rfl (p := 654) rfl h (fun g180 h => ?_)
  obtain ⟨r183, s182, hr181, h⟩ := b2_some h
  refine ev_callV i224_654 zc9_68 zm73 zo73 (as' := [zI (σ 50 0 (y3 + 1).toNatClampNeg)]) (rest := []) rfl rfl (Nat.le_of_ble_eq_true rfl) (Nat.le_of_ble_eq_true rfl) (Nat.le_of_ble_eq_true rfl) (by omega) (l0 := [some (zR 7 0), some (zI (σ 50 0 (y3 + 1).toNatClampNeg))]) rfl (p := 657) rfl (kA_days N (σ 50 0 (y3 + 1).toNatClampNeg) σ (r183, s182) hr181 (d - 1) (by omega)) ?_
  change zEv d 224 657 [some (zR 50 0), some (zR 7 0), some (zR 8 0), some (zI y3)] [zI r183] s182 _
  refine ev_s i224_657 (p := 658) rfl ?_
  refine ev_s i224_658 (p := 659) rfl ?_
  refine ev_s i224_659 (p := 660) rfl ?_
  refine ev_s i224_660 (p := 661) (zic_1 _ _ _ _ _) ?_
  refine ev_s i224_661 (p := 662) (t := [zI (y3 + 1), zR 50 0, zR 8 0, zI r183]) rfl ?_
  refine ev_iald i224_662 rfl (n := (s182 50 1 0).toNatClampNeg) rfl (p := 663) rfl h (fun g184 h => ?_)
  obtain ⟨r187, s186, hr185, h⟩ := b2_some h
  refine ev_callV i224_663 zc9_71 zm169 zo169 (as' := [zI (s182 50 0 (y3 + 1).toNatClampNeg)]) (rest := [zI r183]) rfl rfl (Nat.le_of_ble_eq_true rfl) (Nat.le_of_ble_eq_true rfl) (Nat.le_of_ble_eq_true rfl) (by omega) (l0 := [some (zR 8 0), some (zI (s182 50 0 (y3 + 1).toNatClampNeg))]) rfl (p := 666) rfl (kM_days N (s182 50 0 (y3 + 1).toNatClampNeg) s182 (r187, s186) hr185 (d - 1) (by omega)) ?_
  change zEv d 224 666 [some (zR 50 0), some (zR 7 0), some (zR 8 0), some (zI y3)] [zI r187, zI r183] s186 _
  refine ev_cmpeq i224_666 (t := 1465) (by decide) (p := 669) rfl h (fun c188 h => ?_) (fun c188 h => ?_)
  · exact kX_law_50_J1465 N G d hd K18 hK18 y3 s186 w h
  · refine ev_s i224_669 (p := 670) (zic_0 _ _ _ _ _) ?_
    obtain rfl := Option.some.inj h
    exact ev_zret i224_670 zr224 (by decide)
def fX_law_50_J595 (N : Nat) (G : Nat) (K18 : Int32 → zS → Option (Int32 × zS)) (y3 : Int32) (σ : zS) : Option (Int32 × zS) := zgd (zin (y3 + 1) ((σ 50 1 0).toNatClampNeg)) (zgd (zin (y3 + 2) ((σ 50 1 0).toNatClampNeg)) (zgd (zin (y3 + 3) ((σ 50 1 0).toNatClampNeg)) (zgd (zin (y3 + 4) ((σ 50 1 0).toNatClampNeg)) (zb2 (fA_law N (σ 50 0 (y3 + 1).toNatClampNeg) (σ 50 0 (y3 + 2).toNatClampNeg) (σ 50 0 (y3 + 3).toNatClampNeg) (σ 50 0 (y3 + 4).toNatClampNeg) σ) fun r171 s170 => zgd (zin (y3 + 1) ((s170 50 1 0).toNatClampNeg)) (zgd (zin (y3 + 2) ((s170 50 1 0).toNatClampNeg)) (zgd (zin (y3 + 3) ((s170 50 1 0).toNatClampNeg)) (zgd (zin (y3 + 4) ((s170 50 1 0).toNatClampNeg)) (zb2 (fM_law N (s170 50 0 (y3 + 1).toNatClampNeg) (s170 50 0 (y3 + 2).toNatClampNeg) (s170 50 0 (y3 + 3).toNatClampNeg) (s170 50 0 (y3 + 4).toNatClampNeg) s170) fun r178 s177 => (if r171 = r178 then fX_law_50_J1465 N G K18 y3 s177 else some (0, s177))))))))))
set_option maxHeartbeats 4000000 in
theorem kX_law_50_J595 (N : Nat) (G : Nat) (d : Nat) (hd : 10 + 3 * G ≤ d) (K18 : Int32 → zS → Option (Int32 × zS)) (hK18 : ∀ (y3 : Int32) (σ : zS) (w : Int32 × zS), K18 y3 σ = some w → zEv d 224 18 [some (zR 50 0), some (zR 7 0), some (zR 8 0), some (zI y3)] [] σ (some (zI w.1), w.2)) : ∀ (y3 : Int32) (σ : zS) (w : Int32 × zS), fX_law_50_J595 N G K18 y3 σ = some w → zEv d 224 595 [some (zR 50 0), some (zR 7 0), some (zR 8 0), some (zI y3)] [] σ (some (zI w.1), w.2) := by
  intro y3 σ w h
  unfold fX_law_50_J595 at h
  refine ev_s i224_595 (p := 596) rfl ?_
  refine ev_s i224_596 (p := 597) rfl ?_
  refine ev_s i224_597 (p := 598) rfl ?_
  refine ev_s i224_598 (p := 599) (zic_1 _ _ _ _ _) ?_
  refine ev_s i224_599 (p := 600) (t := [zI (y3 + 1), zR 50 0, zR 7 0]) rfl ?_
  refine ev_iald i224_600 rfl (n := (σ 50 1 0).toNatClampNeg) rfl (p := 601) rfl h (fun g165 h => ?_)
  refine ev_s i224_601 (p := 602) rfl ?_
  refine ev_s i224_602 (p := 603) rfl ?_
  refine ev_s i224_603 (p := 604) (zic_2 _ _ _ _ _) ?_
  refine ev_s i224_604 (p := 605) (t := [zI (y3 + 2), zR 50 0, zI (σ 50 0 (y3 + 1).toNatClampNeg), zR 7 0]) rfl ?_
  refine ev_iald i224_605 rfl (n := (σ 50 1 0).toNatClampNeg) rfl (p := 606) rfl h (fun g166 h => ?_)
  refine ev_s i224_606 (p := 607) rfl ?_
  refine ev_s i224_607 (p := 608) rfl ?_
  refine ev_s i224_608 (p := 609) (zic_3 _ _ _ _ _) ?_
  refine ev_s i224_609 (p := 610) (t := [zI (y3 + 3), zR 50 0, zI (σ 50 0 (y3 + 2).toNatClampNeg), zI (σ 50 0 (y3 + 1).toNatClampNeg), zR 7 0]) rfl ?_
  refine ev_iald i224_610 rfl (n := (σ 50 1 0).toNatClampNeg) rfl (p := 611) rfl h (fun g167 h => ?_)
  refine ev_s i224_611 (p := 612) rfl ?_
  refine ev_s i224_612 (p := 613) rfl ?_
  refine ev_s i224_613 (p := 614) (zic_4 _ _ _ _ _) ?_
  refine ev_s i224_614 (p := 615) (t := [zI (y3 + 4), zR 50 0, zI (σ 50 0 (y3 + 3).toNatClampNeg), zI (σ 50 0 (y3 + 2).toNatClampNeg), zI (σ 50 0 (y3 + 1).toNatClampNeg), zR 7 0]) rfl ?_
  refine ev_iald i224_615 rfl (n := (σ 50 1 0).toNatClampNeg) rfl (p := 616) rfl h (fun g168 h => ?_)
  obtain ⟨r171, s170, hr169, h⟩ := b2_some h
  refine ev_callV i224_616 zc9_64 zm72 zo72 (as' := [zI (σ 50 0 (y3 + 1).toNatClampNeg), zI (σ 50 0 (y3 + 2).toNatClampNeg), zI (σ 50 0 (y3 + 3).toNatClampNeg), zI (σ 50 0 (y3 + 4).toNatClampNeg)]) (rest := []) rfl rfl (Nat.le_of_ble_eq_true rfl) (Nat.le_of_ble_eq_true rfl) (Nat.le_of_ble_eq_true rfl) (by omega) (l0 := [some (zR 7 0), some (zI (σ 50 0 (y3 + 1).toNatClampNeg)), some (zI (σ 50 0 (y3 + 2).toNatClampNeg)), some (zI (σ 50 0 (y3 + 3).toNatClampNeg)), some (zI (σ 50 0 (y3 + 4).toNatClampNeg))]) rfl (p := 619) rfl (kA_law N (σ 50 0 (y3 + 1).toNatClampNeg) (σ 50 0 (y3 + 2).toNatClampNeg) (σ 50 0 (y3 + 3).toNatClampNeg) (σ 50 0 (y3 + 4).toNatClampNeg) σ (r171, s170) hr169 (d - 1) (by omega)) ?_
  change zEv d 224 619 [some (zR 50 0), some (zR 7 0), some (zR 8 0), some (zI y3)] [zI r171] s170 _
  refine ev_s i224_619 (p := 620) rfl ?_
  refine ev_s i224_620 (p := 621) rfl ?_
  refine ev_s i224_621 (p := 622) rfl ?_
  refine ev_s i224_622 (p := 623) (zic_1 _ _ _ _ _) ?_
  refine ev_s i224_623 (p := 624) (t := [zI (y3 + 1), zR 50 0, zR 8 0, zI r171]) rfl ?_
  refine ev_iald i224_624 rfl (n := (s170 50 1 0).toNatClampNeg) rfl (p := 625) rfl h (fun g172 h => ?_)
  refine ev_s i224_625 (p := 626) rfl ?_
  refine ev_s i224_626 (p := 627) rfl ?_
  refine ev_s i224_627 (p := 628) (zic_2 _ _ _ _ _) ?_
  refine ev_s i224_628 (p := 629) (t := [zI (y3 + 2), zR 50 0, zI (s170 50 0 (y3 + 1).toNatClampNeg), zR 8 0, zI r171]) rfl ?_
  refine ev_iald i224_629 rfl (n := (s170 50 1 0).toNatClampNeg) rfl (p := 630) rfl h (fun g173 h => ?_)
  refine ev_s i224_630 (p := 631) rfl ?_
  refine ev_s i224_631 (p := 632) rfl ?_
  refine ev_s i224_632 (p := 633) (zic_3 _ _ _ _ _) ?_
  refine ev_s i224_633 (p := 634) (t := [zI (y3 + 3), zR 50 0, zI (s170 50 0 (y3 + 2).toNatClampNeg), zI (s170 50 0 (y3 + 1).toNatClampNeg), zR 8 0, zI r171]) rfl ?_
  refine ev_iald i224_634 rfl (n := (s170 50 1 0).toNatClampNeg) rfl (p := 635) rfl h (fun g174 h => ?_)
  refine ev_s i224_635 (p := 636) rfl ?_
  refine ev_s i224_636 (p := 637) rfl ?_
  refine ev_s i224_637 (p := 638) (zic_4 _ _ _ _ _) ?_
  refine ev_s i224_638 (p := 639) (t := [zI (y3 + 4), zR 50 0, zI (s170 50 0 (y3 + 3).toNatClampNeg), zI (s170 50 0 (y3 + 2).toNatClampNeg), zI (s170 50 0 (y3 + 1).toNatClampNeg), zR 8 0, zI r171]) rfl ?_
  refine ev_iald i224_639 rfl (n := (s170 50 1 0).toNatClampNeg) rfl (p := 640) rfl h (fun g175 h => ?_)
  obtain ⟨r178, s177, hr176, h⟩ := b2_some h
  refine ev_callV i224_640 zc9_67 zm168 zo168 (as' := [zI (s170 50 0 (y3 + 1).toNatClampNeg), zI (s170 50 0 (y3 + 2).toNatClampNeg), zI (s170 50 0 (y3 + 3).toNatClampNeg), zI (s170 50 0 (y3 + 4).toNatClampNeg)]) (rest := [zI r171]) rfl rfl (Nat.le_of_ble_eq_true rfl) (Nat.le_of_ble_eq_true rfl) (Nat.le_of_ble_eq_true rfl) (by omega) (l0 := [some (zR 8 0), some (zI (s170 50 0 (y3 + 1).toNatClampNeg)), some (zI (s170 50 0 (y3 + 2).toNatClampNeg)), some (zI (s170 50 0 (y3 + 3).toNatClampNeg)), some (zI (s170 50 0 (y3 + 4).toNatClampNeg))]) rfl (p := 643) rfl (kM_law N (s170 50 0 (y3 + 1).toNatClampNeg) (s170 50 0 (y3 + 2).toNatClampNeg) (s170 50 0 (y3 + 3).toNatClampNeg) (s170 50 0 (y3 + 4).toNatClampNeg) s170 (r178, s177) hr176 (d - 1) (by omega)) ?_
  change zEv d 224 643 [some (zR 50 0), some (zR 7 0), some (zR 8 0), some (zI y3)] [zI r178, zI r171] s177 _
  refine ev_cmpeq i224_643 (t := 1465) (by decide) (p := 646) rfl h (fun c179 h => ?_) (fun c179 h => ?_)
  · exact kX_law_50_J1465 N G d hd K18 hK18 y3 s177 w h
  · refine ev_s i224_646 (p := 647) (zic_0 _ _ _ _ _) ?_
    obtain rfl := Option.some.inj h
    exact ev_zret i224_647 zr224 (by decide)
def fX_law_50_J572 (N : Nat) (G : Nat) (K18 : Int32 → zS → Option (Int32 × zS)) (y3 : Int32) (σ : zS) : Option (Int32 × zS) := zgd (zin (y3 + 1) ((σ 50 1 0).toNatClampNeg)) (zb2 (fA_untell (σ 50 0 (y3 + 1).toNatClampNeg) σ) fun r159 s158 => zgd (zin (y3 + 1) ((s158 50 1 0).toNatClampNeg)) (zb2 (fM_untell (s158 50 0 (y3 + 1).toNatClampNeg) s158) fun r163 s162 => (if r159 = r163 then fX_law_50_J1465 N G K18 y3 s162 else some (0, s162))))
set_option maxHeartbeats 4000000 in
theorem kX_law_50_J572 (N : Nat) (G : Nat) (d : Nat) (hd : 10 + 3 * G ≤ d) (K18 : Int32 → zS → Option (Int32 × zS)) (hK18 : ∀ (y3 : Int32) (σ : zS) (w : Int32 × zS), K18 y3 σ = some w → zEv d 224 18 [some (zR 50 0), some (zR 7 0), some (zR 8 0), some (zI y3)] [] σ (some (zI w.1), w.2)) : ∀ (y3 : Int32) (σ : zS) (w : Int32 × zS), fX_law_50_J572 N G K18 y3 σ = some w → zEv d 224 572 [some (zR 50 0), some (zR 7 0), some (zR 8 0), some (zI y3)] [] σ (some (zI w.1), w.2) := by
  intro y3 σ w h
  unfold fX_law_50_J572 at h
  refine ev_s i224_572 (p := 573) rfl ?_
  refine ev_s i224_573 (p := 574) rfl ?_
  refine ev_s i224_574 (p := 575) rfl ?_
  refine ev_s i224_575 (p := 576) (zic_1 _ _ _ _ _) ?_
  refine ev_s i224_576 (p := 577) (t := [zI (y3 + 1), zR 50 0, zR 7 0]) rfl ?_
  refine ev_iald i224_577 rfl (n := (σ 50 1 0).toNatClampNeg) rfl (p := 578) rfl h (fun g156 h => ?_)
  obtain ⟨r159, s158, hr157, h⟩ := b2_some h
  refine ev_callV i224_578 zc9_60 zm71 zo71 (as' := [zI (σ 50 0 (y3 + 1).toNatClampNeg)]) (rest := []) rfl rfl (Nat.le_of_ble_eq_true rfl) (Nat.le_of_ble_eq_true rfl) (Nat.le_of_ble_eq_true rfl) (by omega) (l0 := [some (zR 7 0), some (zI (σ 50 0 (y3 + 1).toNatClampNeg)), none]) rfl (p := 581) rfl (kA_untell (σ 50 0 (y3 + 1).toNatClampNeg) σ (r159, s158) hr157 (d - 1) (by omega)) ?_
  change zEv d 224 581 [some (zR 50 0), some (zR 7 0), some (zR 8 0), some (zI y3)] [zI r159] s158 _
  refine ev_s i224_581 (p := 582) rfl ?_
  refine ev_s i224_582 (p := 583) rfl ?_
  refine ev_s i224_583 (p := 584) rfl ?_
  refine ev_s i224_584 (p := 585) (zic_1 _ _ _ _ _) ?_
  refine ev_s i224_585 (p := 586) (t := [zI (y3 + 1), zR 50 0, zR 8 0, zI r159]) rfl ?_
  refine ev_iald i224_586 rfl (n := (s158 50 1 0).toNatClampNeg) rfl (p := 587) rfl h (fun g160 h => ?_)
  obtain ⟨r163, s162, hr161, h⟩ := b2_some h
  refine ev_callV i224_587 zc9_63 zm135 zo135 (as' := [zI (s158 50 0 (y3 + 1).toNatClampNeg)]) (rest := [zI r159]) rfl rfl (Nat.le_of_ble_eq_true rfl) (Nat.le_of_ble_eq_true rfl) (Nat.le_of_ble_eq_true rfl) (by omega) (l0 := [some (zR 8 0), some (zI (s158 50 0 (y3 + 1).toNatClampNeg)), none]) rfl (p := 590) rfl (kM_untell (s158 50 0 (y3 + 1).toNatClampNeg) s158 (r163, s162) hr161 (d - 1) (by omega)) ?_
  change zEv d 224 590 [some (zR 50 0), some (zR 7 0), some (zR 8 0), some (zI y3)] [zI r163, zI r159] s162 _
  refine ev_cmpeq i224_590 (t := 1465) (by decide) (p := 593) rfl h (fun c164 h => ?_) (fun c164 h => ?_)
  · exact kX_law_50_J1465 N G d hd K18 hK18 y3 s162 w h
  · refine ev_s i224_593 (p := 594) (zic_0 _ _ _ _ _) ?_
    obtain rfl := Option.some.inj h
    exact ev_zret i224_594 zr224 (by decide)
def fX_law_50_J549 (N : Nat) (G : Nat) (K18 : Int32 → zS → Option (Int32 × zS)) (y3 : Int32) (σ : zS) : Option (Int32 × zS) := zgd (zin (y3 + 1) ((σ 50 1 0).toNatClampNeg)) (zb2 (fA_text N (σ 50 0 (y3 + 1).toNatClampNeg) σ) fun r150 s149 => zgd (zin (y3 + 1) ((s149 50 1 0).toNatClampNeg)) (zb2 (fM_text N G (s149 50 0 (y3 + 1).toNatClampNeg) s149) fun r154 s153 => (if r150 = r154 then fX_law_50_J1465 N G K18 y3 s153 else some (0, s153))))
set_option maxHeartbeats 4000000 in
theorem kX_law_50_J549 (N : Nat) (G : Nat) (d : Nat) (hd : 10 + 3 * G ≤ d) (K18 : Int32 → zS → Option (Int32 × zS)) (hK18 : ∀ (y3 : Int32) (σ : zS) (w : Int32 × zS), K18 y3 σ = some w → zEv d 224 18 [some (zR 50 0), some (zR 7 0), some (zR 8 0), some (zI y3)] [] σ (some (zI w.1), w.2)) : ∀ (y3 : Int32) (σ : zS) (w : Int32 × zS), fX_law_50_J549 N G K18 y3 σ = some w → zEv d 224 549 [some (zR 50 0), some (zR 7 0), some (zR 8 0), some (zI y3)] [] σ (some (zI w.1), w.2) := by
  intro y3 σ w h
  unfold fX_law_50_J549 at h
  refine ev_s i224_549 (p := 550) rfl ?_
  refine ev_s i224_550 (p := 551) rfl ?_
  refine ev_s i224_551 (p := 552) rfl ?_
  refine ev_s i224_552 (p := 553) (zic_1 _ _ _ _ _) ?_
  refine ev_s i224_553 (p := 554) (t := [zI (y3 + 1), zR 50 0, zR 7 0]) rfl ?_
  refine ev_iald i224_554 rfl (n := (σ 50 1 0).toNatClampNeg) rfl (p := 555) rfl h (fun g147 h => ?_)
  obtain ⟨r150, s149, hr148, h⟩ := b2_some h
  refine ev_callV i224_555 zc9_56 zm70 zo70 (as' := [zI (σ 50 0 (y3 + 1).toNatClampNeg)]) (rest := []) rfl rfl (Nat.le_of_ble_eq_true rfl) (Nat.le_of_ble_eq_true rfl) (Nat.le_of_ble_eq_true rfl) (by omega) (l0 := [some (zR 7 0), some (zI (σ 50 0 (y3 + 1).toNatClampNeg)), none]) rfl (p := 558) rfl (kA_text N (σ 50 0 (y3 + 1).toNatClampNeg) σ (r150, s149) hr148 (d - 1) (by omega)) ?_
  change zEv d 224 558 [some (zR 50 0), some (zR 7 0), some (zR 8 0), some (zI y3)] [zI r150] s149 _
  refine ev_s i224_558 (p := 559) rfl ?_
  refine ev_s i224_559 (p := 560) rfl ?_
  refine ev_s i224_560 (p := 561) rfl ?_
  refine ev_s i224_561 (p := 562) (zic_1 _ _ _ _ _) ?_
  refine ev_s i224_562 (p := 563) (t := [zI (y3 + 1), zR 50 0, zR 8 0, zI r150]) rfl ?_
  refine ev_iald i224_563 rfl (n := (s149 50 1 0).toNatClampNeg) rfl (p := 564) rfl h (fun g151 h => ?_)
  obtain ⟨r154, s153, hr152, h⟩ := b2_some h
  refine ev_callV i224_564 zc9_59 zm134 zo134 (as' := [zI (s149 50 0 (y3 + 1).toNatClampNeg)]) (rest := [zI r150]) rfl rfl (Nat.le_of_ble_eq_true rfl) (Nat.le_of_ble_eq_true rfl) (Nat.le_of_ble_eq_true rfl) (by omega) (l0 := [some (zR 8 0), some (zI (s149 50 0 (y3 + 1).toNatClampNeg)), none, none, none]) rfl (p := 567) rfl (kM_text N G (s149 50 0 (y3 + 1).toNatClampNeg) s149 (r154, s153) hr152 (d - 1) (by omega)) ?_
  change zEv d 224 567 [some (zR 50 0), some (zR 7 0), some (zR 8 0), some (zI y3)] [zI r154, zI r150] s153 _
  refine ev_cmpeq i224_567 (t := 1465) (by decide) (p := 570) rfl h (fun c155 h => ?_) (fun c155 h => ?_)
  · exact kX_law_50_J1465 N G d hd K18 hK18 y3 s153 w h
  · refine ev_s i224_570 (p := 571) (zic_0 _ _ _ _ _) ?_
    obtain rfl := Option.some.inj h
    exact ev_zret i224_571 zr224 (by decide)
def fX_law_50_J486 (N : Nat) (G : Nat) (K18 : Int32 → zS → Option (Int32 × zS)) (y3 : Int32) (σ : zS) : Option (Int32 × zS) := zgd (zin (y3 + 1) ((σ 50 1 0).toNatClampNeg)) (zgd (zin (y3 + 2) ((σ 50 1 0).toNatClampNeg)) (zgd (zin (y3 + 3) ((σ 50 1 0).toNatClampNeg)) (zb2 (fA_feed N ((((σ 50 0 (y3 + 1).toNatClampNeg).toInt64) <<< ((32 : Int32).toInt64 &&& 63)) ||| (((σ 50 0 (y3 + 2).toNatClampNeg).toInt64) &&& 4294967295)) (σ 50 0 (y3 + 3).toNatClampNeg) σ) fun r139 s138 => zgd (zin (y3 + 1) ((s138 50 1 0).toNatClampNeg)) (zgd (zin (y3 + 2) ((s138 50 1 0).toNatClampNeg)) (zgd (zin (y3 + 3) ((s138 50 1 0).toNatClampNeg)) (zb2 (fM_feed N ((((s138 50 0 (y3 + 1).toNatClampNeg).toInt64) <<< ((32 : Int32).toInt64 &&& 63)) ||| (((s138 50 0 (y3 + 2).toNatClampNeg).toInt64) &&& 4294967295)) (s138 50 0 (y3 + 3).toNatClampNeg) s138) fun r145 s144 => (if r139 = r145 then fX_law_50_J1465 N G K18 y3 s144 else some (0, s144))))))))
set_option maxHeartbeats 4000000 in
theorem kX_law_50_J486 (N : Nat) (G : Nat) (d : Nat) (hd : 10 + 3 * G ≤ d) (K18 : Int32 → zS → Option (Int32 × zS)) (hK18 : ∀ (y3 : Int32) (σ : zS) (w : Int32 × zS), K18 y3 σ = some w → zEv d 224 18 [some (zR 50 0), some (zR 7 0), some (zR 8 0), some (zI y3)] [] σ (some (zI w.1), w.2)) : ∀ (y3 : Int32) (σ : zS) (w : Int32 × zS), fX_law_50_J486 N G K18 y3 σ = some w → zEv d 224 486 [some (zR 50 0), some (zR 7 0), some (zR 8 0), some (zI y3)] [] σ (some (zI w.1), w.2) := by
  intro y3 σ w h
  unfold fX_law_50_J486 at h
  refine ev_s i224_486 (p := 487) rfl ?_
  refine ev_s i224_487 (p := 488) rfl ?_
  refine ev_s i224_488 (p := 489) rfl ?_
  refine ev_s i224_489 (p := 490) (zic_1 _ _ _ _ _) ?_
  refine ev_s i224_490 (p := 491) (t := [zI (y3 + 1), zR 50 0, zR 7 0]) rfl ?_
  refine ev_iald i224_491 rfl (n := (σ 50 1 0).toNatClampNeg) rfl (p := 492) rfl h (fun g134 h => ?_)
  refine ev_s i224_492 (p := 493) rfl ?_
  refine ev_s i224_493 (p := 495) (zib_32 _ _ _ _ _) ?_
  refine ev_s i224_495 (p := 496) rfl ?_
  refine ev_s i224_496 (p := 497) rfl ?_
  refine ev_s i224_497 (p := 498) rfl ?_
  refine ev_s i224_498 (p := 499) (zic_2 _ _ _ _ _) ?_
  refine ev_s i224_499 (p := 500) (t := [zI (y3 + 2), zR 50 0, zL (((σ 50 0 (y3 + 1).toNatClampNeg).toInt64) <<< ((32 : Int32).toInt64 &&& 63)), zR 7 0]) rfl ?_
  refine ev_iald i224_500 rfl (n := (σ 50 1 0).toNatClampNeg) rfl (p := 501) rfl h (fun g135 h => ?_)
  refine ev_s i224_501 (p := 502) rfl ?_
  refine ev_s i224_502 (p := 505) (zkl9_49 0 _ _ _ _) ?_
  refine ev_s i224_505 (p := 506) rfl ?_
  refine ev_s i224_506 (p := 507) rfl ?_
  refine ev_s i224_507 (p := 508) rfl ?_
  refine ev_s i224_508 (p := 509) rfl ?_
  refine ev_s i224_509 (p := 510) (zic_3 _ _ _ _ _) ?_
  refine ev_s i224_510 (p := 511) (t := [zI (y3 + 3), zR 50 0, zL ((((σ 50 0 (y3 + 1).toNatClampNeg).toInt64) <<< ((32 : Int32).toInt64 &&& 63)) ||| (((σ 50 0 (y3 + 2).toNatClampNeg).toInt64) &&& 4294967295)), zR 7 0]) rfl ?_
  refine ev_iald i224_511 rfl (n := (σ 50 1 0).toNatClampNeg) rfl (p := 512) rfl h (fun g136 h => ?_)
  obtain ⟨r139, s138, hr137, h⟩ := b2_some h
  refine ev_callV i224_512 zc9_51 zm69 zo69 (as' := [zL ((((σ 50 0 (y3 + 1).toNatClampNeg).toInt64) <<< ((32 : Int32).toInt64 &&& 63)) ||| (((σ 50 0 (y3 + 2).toNatClampNeg).toInt64) &&& 4294967295)), zI (σ 50 0 (y3 + 3).toNatClampNeg)]) (rest := []) rfl rfl (Nat.le_of_ble_eq_true rfl) (Nat.le_of_ble_eq_true rfl) (Nat.le_of_ble_eq_true rfl) (by omega) (l0 := [some (zR 7 0), some (zL ((((σ 50 0 (y3 + 1).toNatClampNeg).toInt64) <<< ((32 : Int32).toInt64 &&& 63)) ||| (((σ 50 0 (y3 + 2).toNatClampNeg).toInt64) &&& 4294967295))), none, some (zI (σ 50 0 (y3 + 3).toNatClampNeg)), none]) rfl (p := 515) rfl (kA_feed N ((((σ 50 0 (y3 + 1).toNatClampNeg).toInt64) <<< ((32 : Int32).toInt64 &&& 63)) ||| (((σ 50 0 (y3 + 2).toNatClampNeg).toInt64) &&& 4294967295)) (σ 50 0 (y3 + 3).toNatClampNeg) σ (r139, s138) hr137 (d - 1) (by omega)) ?_
  change zEv d 224 515 [some (zR 50 0), some (zR 7 0), some (zR 8 0), some (zI y3)] [zI r139] s138 _
  refine ev_s i224_515 (p := 516) rfl ?_
  refine ev_s i224_516 (p := 517) rfl ?_
  refine ev_s i224_517 (p := 518) rfl ?_
  refine ev_s i224_518 (p := 519) (zic_1 _ _ _ _ _) ?_
  refine ev_s i224_519 (p := 520) (t := [zI (y3 + 1), zR 50 0, zR 8 0, zI r139]) rfl ?_
  refine ev_iald i224_520 rfl (n := (s138 50 1 0).toNatClampNeg) rfl (p := 521) rfl h (fun g140 h => ?_)
  refine ev_s i224_521 (p := 522) rfl ?_
  refine ev_s i224_522 (p := 524) (zib_32 _ _ _ _ _) ?_
  refine ev_s i224_524 (p := 525) rfl ?_
  refine ev_s i224_525 (p := 526) rfl ?_
  refine ev_s i224_526 (p := 527) rfl ?_
  refine ev_s i224_527 (p := 528) (zic_2 _ _ _ _ _) ?_
  refine ev_s i224_528 (p := 529) (t := [zI (y3 + 2), zR 50 0, zL (((s138 50 0 (y3 + 1).toNatClampNeg).toInt64) <<< ((32 : Int32).toInt64 &&& 63)), zR 8 0, zI r139]) rfl ?_
  refine ev_iald i224_529 rfl (n := (s138 50 1 0).toNatClampNeg) rfl (p := 530) rfl h (fun g141 h => ?_)
  refine ev_s i224_530 (p := 531) rfl ?_
  refine ev_s i224_531 (p := 534) (zkl9_49 0 _ _ _ _) ?_
  refine ev_s i224_534 (p := 535) rfl ?_
  refine ev_s i224_535 (p := 536) rfl ?_
  refine ev_s i224_536 (p := 537) rfl ?_
  refine ev_s i224_537 (p := 538) rfl ?_
  refine ev_s i224_538 (p := 539) (zic_3 _ _ _ _ _) ?_
  refine ev_s i224_539 (p := 540) (t := [zI (y3 + 3), zR 50 0, zL ((((s138 50 0 (y3 + 1).toNatClampNeg).toInt64) <<< ((32 : Int32).toInt64 &&& 63)) ||| (((s138 50 0 (y3 + 2).toNatClampNeg).toInt64) &&& 4294967295)), zR 8 0, zI r139]) rfl ?_
  refine ev_iald i224_540 rfl (n := (s138 50 1 0).toNatClampNeg) rfl (p := 541) rfl h (fun g142 h => ?_)
  obtain ⟨r145, s144, hr143, h⟩ := b2_some h
  refine ev_callV i224_541 zc9_55 zm122 zo122 (as' := [zL ((((s138 50 0 (y3 + 1).toNatClampNeg).toInt64) <<< ((32 : Int32).toInt64 &&& 63)) ||| (((s138 50 0 (y3 + 2).toNatClampNeg).toInt64) &&& 4294967295)), zI (s138 50 0 (y3 + 3).toNatClampNeg)]) (rest := [zI r139]) rfl rfl (Nat.le_of_ble_eq_true rfl) (Nat.le_of_ble_eq_true rfl) (Nat.le_of_ble_eq_true rfl) (by omega) (l0 := [some (zR 8 0), some (zL ((((s138 50 0 (y3 + 1).toNatClampNeg).toInt64) <<< ((32 : Int32).toInt64 &&& 63)) ||| (((s138 50 0 (y3 + 2).toNatClampNeg).toInt64) &&& 4294967295))), none, some (zI (s138 50 0 (y3 + 3).toNatClampNeg)), none]) rfl (p := 544) rfl (kM_feed N ((((s138 50 0 (y3 + 1).toNatClampNeg).toInt64) <<< ((32 : Int32).toInt64 &&& 63)) ||| (((s138 50 0 (y3 + 2).toNatClampNeg).toInt64) &&& 4294967295)) (s138 50 0 (y3 + 3).toNatClampNeg) s138 (r145, s144) hr143 (d - 1) (by omega)) ?_
  change zEv d 224 544 [some (zR 50 0), some (zR 7 0), some (zR 8 0), some (zI y3)] [zI r145, zI r139] s144 _
  refine ev_cmpeq i224_544 (t := 1465) (by decide) (p := 547) rfl h (fun c146 h => ?_) (fun c146 h => ?_)
  · exact kX_law_50_J1465 N G d hd K18 hK18 y3 s144 w h
  · refine ev_s i224_547 (p := 548) (zic_0 _ _ _ _ _) ?_
    obtain rfl := Option.some.inj h
    exact ev_zret i224_548 zr224 (by decide)
def fX_law_50_J463 (N : Nat) (G : Nat) (K18 : Int32 → zS → Option (Int32 × zS)) (y3 : Int32) (σ : zS) : Option (Int32 × zS) := zgd (zin (y3 + 1) ((σ 50 1 0).toNatClampNeg)) (zb2 (fA_listed (σ 50 0 (y3 + 1).toNatClampNeg) σ) fun r128 s127 => zgd (zin (y3 + 1) ((s127 50 1 0).toNatClampNeg)) (zb2 (fM_listed (s127 50 0 (y3 + 1).toNatClampNeg) s127) fun r132 s131 => (if r128 = r132 then fX_law_50_J1465 N G K18 y3 s131 else some (0, s131))))
set_option maxHeartbeats 4000000 in
theorem kX_law_50_J463 (N : Nat) (G : Nat) (d : Nat) (hd : 10 + 3 * G ≤ d) (K18 : Int32 → zS → Option (Int32 × zS)) (hK18 : ∀ (y3 : Int32) (σ : zS) (w : Int32 × zS), K18 y3 σ = some w → zEv d 224 18 [some (zR 50 0), some (zR 7 0), some (zR 8 0), some (zI y3)] [] σ (some (zI w.1), w.2)) : ∀ (y3 : Int32) (σ : zS) (w : Int32 × zS), fX_law_50_J463 N G K18 y3 σ = some w → zEv d 224 463 [some (zR 50 0), some (zR 7 0), some (zR 8 0), some (zI y3)] [] σ (some (zI w.1), w.2) := by
  intro y3 σ w h
  unfold fX_law_50_J463 at h
  refine ev_s i224_463 (p := 464) rfl ?_
  refine ev_s i224_464 (p := 465) rfl ?_
  refine ev_s i224_465 (p := 466) rfl ?_
  refine ev_s i224_466 (p := 467) (zic_1 _ _ _ _ _) ?_
  refine ev_s i224_467 (p := 468) (t := [zI (y3 + 1), zR 50 0, zR 7 0]) rfl ?_
  refine ev_iald i224_468 rfl (n := (σ 50 1 0).toNatClampNeg) rfl (p := 469) rfl h (fun g125 h => ?_)
  obtain ⟨r128, s127, hr126, h⟩ := b2_some h
  refine ev_callV i224_469 zc9_45 zm68 zo68 (as' := [zI (σ 50 0 (y3 + 1).toNatClampNeg)]) (rest := []) rfl rfl (Nat.le_of_ble_eq_true rfl) (Nat.le_of_ble_eq_true rfl) (Nat.le_of_ble_eq_true rfl) (by omega) (l0 := [some (zR 7 0), some (zI (σ 50 0 (y3 + 1).toNatClampNeg))]) rfl (p := 472) rfl (kA_listed (σ 50 0 (y3 + 1).toNatClampNeg) σ (r128, s127) hr126 (d - 1) (by omega)) ?_
  change zEv d 224 472 [some (zR 50 0), some (zR 7 0), some (zR 8 0), some (zI y3)] [zI r128] s127 _
  refine ev_s i224_472 (p := 473) rfl ?_
  refine ev_s i224_473 (p := 474) rfl ?_
  refine ev_s i224_474 (p := 475) rfl ?_
  refine ev_s i224_475 (p := 476) (zic_1 _ _ _ _ _) ?_
  refine ev_s i224_476 (p := 477) (t := [zI (y3 + 1), zR 50 0, zR 8 0, zI r128]) rfl ?_
  refine ev_iald i224_477 rfl (n := (s127 50 1 0).toNatClampNeg) rfl (p := 478) rfl h (fun g129 h => ?_)
  obtain ⟨r132, s131, hr130, h⟩ := b2_some h
  refine ev_callV i224_478 zc9_48 zm167 zo167 (as' := [zI (s127 50 0 (y3 + 1).toNatClampNeg)]) (rest := [zI r128]) rfl rfl (Nat.le_of_ble_eq_true rfl) (Nat.le_of_ble_eq_true rfl) (Nat.le_of_ble_eq_true rfl) (by omega) (l0 := [some (zR 8 0), some (zI (s127 50 0 (y3 + 1).toNatClampNeg))]) rfl (p := 481) rfl (kM_listed (s127 50 0 (y3 + 1).toNatClampNeg) s127 (r132, s131) hr130 (d - 1) (by omega)) ?_
  change zEv d 224 481 [some (zR 50 0), some (zR 7 0), some (zR 8 0), some (zI y3)] [zI r132, zI r128] s131 _
  refine ev_cmpeq i224_481 (t := 1465) (by decide) (p := 484) rfl h (fun c133 h => ?_) (fun c133 h => ?_)
  · exact kX_law_50_J1465 N G d hd K18 hK18 y3 s131 w h
  · refine ev_s i224_484 (p := 485) (zic_0 _ _ _ _ _) ?_
    obtain rfl := Option.some.inj h
    exact ev_zret i224_485 zr224 (by decide)
def fX_law_50_J420 (N : Nat) (G : Nat) (K18 : Int32 → zS → Option (Int32 × zS)) (y3 : Int32) (σ : zS) : Option (Int32 × zS) := zgd (zin (y3 + 1) ((σ 50 1 0).toNatClampNeg)) (zgd (zin (y3 + 2) ((σ 50 1 0).toNatClampNeg)) (zgd (zin (y3 + 3) ((σ 50 1 0).toNatClampNeg)) (zb2 (fA_list (σ 50 0 (y3 + 1).toNatClampNeg) (σ 50 0 (y3 + 2).toNatClampNeg) (σ 50 0 (y3 + 3).toNatClampNeg) σ) fun r117 s116 => zgd (zin (y3 + 1) ((s116 50 1 0).toNatClampNeg)) (zgd (zin (y3 + 2) ((s116 50 1 0).toNatClampNeg)) (zgd (zin (y3 + 3) ((s116 50 1 0).toNatClampNeg)) (zb2 (fM_list (s116 50 0 (y3 + 1).toNatClampNeg) (s116 50 0 (y3 + 2).toNatClampNeg) (s116 50 0 (y3 + 3).toNatClampNeg) s116) fun r123 s122 => (if r117 = r123 then fX_law_50_J1465 N G K18 y3 s122 else some (0, s122))))))))
set_option maxHeartbeats 4000000 in
theorem kX_law_50_J420 (N : Nat) (G : Nat) (d : Nat) (hd : 10 + 3 * G ≤ d) (K18 : Int32 → zS → Option (Int32 × zS)) (hK18 : ∀ (y3 : Int32) (σ : zS) (w : Int32 × zS), K18 y3 σ = some w → zEv d 224 18 [some (zR 50 0), some (zR 7 0), some (zR 8 0), some (zI y3)] [] σ (some (zI w.1), w.2)) : ∀ (y3 : Int32) (σ : zS) (w : Int32 × zS), fX_law_50_J420 N G K18 y3 σ = some w → zEv d 224 420 [some (zR 50 0), some (zR 7 0), some (zR 8 0), some (zI y3)] [] σ (some (zI w.1), w.2) := by
  intro y3 σ w h
  unfold fX_law_50_J420 at h
  refine ev_s i224_420 (p := 421) rfl ?_
  refine ev_s i224_421 (p := 422) rfl ?_
  refine ev_s i224_422 (p := 423) rfl ?_
  refine ev_s i224_423 (p := 424) (zic_1 _ _ _ _ _) ?_
  refine ev_s i224_424 (p := 425) (t := [zI (y3 + 1), zR 50 0, zR 7 0]) rfl ?_
  refine ev_iald i224_425 rfl (n := (σ 50 1 0).toNatClampNeg) rfl (p := 426) rfl h (fun g112 h => ?_)
  refine ev_s i224_426 (p := 427) rfl ?_
  refine ev_s i224_427 (p := 428) rfl ?_
  refine ev_s i224_428 (p := 429) (zic_2 _ _ _ _ _) ?_
  refine ev_s i224_429 (p := 430) (t := [zI (y3 + 2), zR 50 0, zI (σ 50 0 (y3 + 1).toNatClampNeg), zR 7 0]) rfl ?_
  refine ev_iald i224_430 rfl (n := (σ 50 1 0).toNatClampNeg) rfl (p := 431) rfl h (fun g113 h => ?_)
  refine ev_s i224_431 (p := 432) rfl ?_
  refine ev_s i224_432 (p := 433) rfl ?_
  refine ev_s i224_433 (p := 434) (zic_3 _ _ _ _ _) ?_
  refine ev_s i224_434 (p := 435) (t := [zI (y3 + 3), zR 50 0, zI (σ 50 0 (y3 + 2).toNatClampNeg), zI (σ 50 0 (y3 + 1).toNatClampNeg), zR 7 0]) rfl ?_
  refine ev_iald i224_435 rfl (n := (σ 50 1 0).toNatClampNeg) rfl (p := 436) rfl h (fun g114 h => ?_)
  obtain ⟨r117, s116, hr115, h⟩ := b2_some h
  refine ev_callV i224_436 zc9_40 zm67 zo67 (as' := [zI (σ 50 0 (y3 + 1).toNatClampNeg), zI (σ 50 0 (y3 + 2).toNatClampNeg), zI (σ 50 0 (y3 + 3).toNatClampNeg)]) (rest := []) rfl rfl (Nat.le_of_ble_eq_true rfl) (Nat.le_of_ble_eq_true rfl) (Nat.le_of_ble_eq_true rfl) (by omega) (l0 := [some (zR 7 0), some (zI (σ 50 0 (y3 + 1).toNatClampNeg)), some (zI (σ 50 0 (y3 + 2).toNatClampNeg)), some (zI (σ 50 0 (y3 + 3).toNatClampNeg)), none]) rfl (p := 439) rfl (kA_list (σ 50 0 (y3 + 1).toNatClampNeg) (σ 50 0 (y3 + 2).toNatClampNeg) (σ 50 0 (y3 + 3).toNatClampNeg) σ (r117, s116) hr115 (d - 1) (by omega)) ?_
  change zEv d 224 439 [some (zR 50 0), some (zR 7 0), some (zR 8 0), some (zI y3)] [zI r117] s116 _
  refine ev_s i224_439 (p := 440) rfl ?_
  refine ev_s i224_440 (p := 441) rfl ?_
  refine ev_s i224_441 (p := 442) rfl ?_
  refine ev_s i224_442 (p := 443) (zic_1 _ _ _ _ _) ?_
  refine ev_s i224_443 (p := 444) (t := [zI (y3 + 1), zR 50 0, zR 8 0, zI r117]) rfl ?_
  refine ev_iald i224_444 rfl (n := (s116 50 1 0).toNatClampNeg) rfl (p := 445) rfl h (fun g118 h => ?_)
  refine ev_s i224_445 (p := 446) rfl ?_
  refine ev_s i224_446 (p := 447) rfl ?_
  refine ev_s i224_447 (p := 448) (zic_2 _ _ _ _ _) ?_
  refine ev_s i224_448 (p := 449) (t := [zI (y3 + 2), zR 50 0, zI (s116 50 0 (y3 + 1).toNatClampNeg), zR 8 0, zI r117]) rfl ?_
  refine ev_iald i224_449 rfl (n := (s116 50 1 0).toNatClampNeg) rfl (p := 450) rfl h (fun g119 h => ?_)
  refine ev_s i224_450 (p := 451) rfl ?_
  refine ev_s i224_451 (p := 452) rfl ?_
  refine ev_s i224_452 (p := 453) (zic_3 _ _ _ _ _) ?_
  refine ev_s i224_453 (p := 454) (t := [zI (y3 + 3), zR 50 0, zI (s116 50 0 (y3 + 2).toNatClampNeg), zI (s116 50 0 (y3 + 1).toNatClampNeg), zR 8 0, zI r117]) rfl ?_
  refine ev_iald i224_454 rfl (n := (s116 50 1 0).toNatClampNeg) rfl (p := 455) rfl h (fun g120 h => ?_)
  obtain ⟨r123, s122, hr121, h⟩ := b2_some h
  refine ev_callV i224_455 zc9_44 zm166 zo166 (as' := [zI (s116 50 0 (y3 + 1).toNatClampNeg), zI (s116 50 0 (y3 + 2).toNatClampNeg), zI (s116 50 0 (y3 + 3).toNatClampNeg)]) (rest := [zI r117]) rfl rfl (Nat.le_of_ble_eq_true rfl) (Nat.le_of_ble_eq_true rfl) (Nat.le_of_ble_eq_true rfl) (by omega) (l0 := [some (zR 8 0), some (zI (s116 50 0 (y3 + 1).toNatClampNeg)), some (zI (s116 50 0 (y3 + 2).toNatClampNeg)), some (zI (s116 50 0 (y3 + 3).toNatClampNeg))]) rfl (p := 458) rfl (kM_list (s116 50 0 (y3 + 1).toNatClampNeg) (s116 50 0 (y3 + 2).toNatClampNeg) (s116 50 0 (y3 + 3).toNatClampNeg) s116 (r123, s122) hr121 (d - 1) (by omega)) ?_
  change zEv d 224 458 [some (zR 50 0), some (zR 7 0), some (zR 8 0), some (zI y3)] [zI r123, zI r117] s122 _
  refine ev_cmpeq i224_458 (t := 1465) (by decide) (p := 461) rfl h (fun c124 h => ?_) (fun c124 h => ?_)
  · exact kX_law_50_J1465 N G d hd K18 hK18 y3 s122 w h
  · refine ev_s i224_461 (p := 462) (zic_0 _ _ _ _ _) ?_
    obtain rfl := Option.some.inj h
    exact ev_zret i224_462 zr224 (by decide)
def fX_law_50_J397 (N : Nat) (G : Nat) (K18 : Int32 → zS → Option (Int32 × zS)) (y3 : Int32) (σ : zS) : Option (Int32 × zS) := zgd (zin (y3 + 1) ((σ 50 1 0).toNatClampNeg)) (zb2 (fA_cut (σ 50 0 (y3 + 1).toNatClampNeg) σ) fun r106 s105 => zgd (zin (y3 + 1) ((s105 50 1 0).toNatClampNeg)) (zb2 (fM_cut (s105 50 0 (y3 + 1).toNatClampNeg) s105) fun r110 s109 => (if r106 = r110 then fX_law_50_J1465 N G K18 y3 s109 else some (0, s109))))
set_option maxHeartbeats 4000000 in
theorem kX_law_50_J397 (N : Nat) (G : Nat) (d : Nat) (hd : 10 + 3 * G ≤ d) (K18 : Int32 → zS → Option (Int32 × zS)) (hK18 : ∀ (y3 : Int32) (σ : zS) (w : Int32 × zS), K18 y3 σ = some w → zEv d 224 18 [some (zR 50 0), some (zR 7 0), some (zR 8 0), some (zI y3)] [] σ (some (zI w.1), w.2)) : ∀ (y3 : Int32) (σ : zS) (w : Int32 × zS), fX_law_50_J397 N G K18 y3 σ = some w → zEv d 224 397 [some (zR 50 0), some (zR 7 0), some (zR 8 0), some (zI y3)] [] σ (some (zI w.1), w.2) := by
  intro y3 σ w h
  unfold fX_law_50_J397 at h
  refine ev_s i224_397 (p := 398) rfl ?_
  refine ev_s i224_398 (p := 399) rfl ?_
  refine ev_s i224_399 (p := 400) rfl ?_
  refine ev_s i224_400 (p := 401) (zic_1 _ _ _ _ _) ?_
  refine ev_s i224_401 (p := 402) (t := [zI (y3 + 1), zR 50 0, zR 7 0]) rfl ?_
  refine ev_iald i224_402 rfl (n := (σ 50 1 0).toNatClampNeg) rfl (p := 403) rfl h (fun g103 h => ?_)
  obtain ⟨r106, s105, hr104, h⟩ := b2_some h
  refine ev_callV i224_403 zc9_35 zm66 zo66 (as' := [zI (σ 50 0 (y3 + 1).toNatClampNeg)]) (rest := []) rfl rfl (Nat.le_of_ble_eq_true rfl) (Nat.le_of_ble_eq_true rfl) (Nat.le_of_ble_eq_true rfl) (by omega) (l0 := [some (zR 7 0), some (zI (σ 50 0 (y3 + 1).toNatClampNeg)), none]) rfl (p := 406) rfl (kA_cut (σ 50 0 (y3 + 1).toNatClampNeg) σ (r106, s105) hr104 (d - 1) (by omega)) ?_
  change zEv d 224 406 [some (zR 50 0), some (zR 7 0), some (zR 8 0), some (zI y3)] [zI r106] s105 _
  refine ev_s i224_406 (p := 407) rfl ?_
  refine ev_s i224_407 (p := 408) rfl ?_
  refine ev_s i224_408 (p := 409) rfl ?_
  refine ev_s i224_409 (p := 410) (zic_1 _ _ _ _ _) ?_
  refine ev_s i224_410 (p := 411) (t := [zI (y3 + 1), zR 50 0, zR 8 0, zI r106]) rfl ?_
  refine ev_iald i224_411 rfl (n := (s105 50 1 0).toNatClampNeg) rfl (p := 412) rfl h (fun g107 h => ?_)
  obtain ⟨r110, s109, hr108, h⟩ := b2_some h
  refine ev_callV i224_412 zc9_39 zm164 zo164 (as' := [zI (s105 50 0 (y3 + 1).toNatClampNeg)]) (rest := [zI r106]) rfl rfl (Nat.le_of_ble_eq_true rfl) (Nat.le_of_ble_eq_true rfl) (Nat.le_of_ble_eq_true rfl) (by omega) (l0 := [some (zR 8 0), some (zI (s105 50 0 (y3 + 1).toNatClampNeg)), none]) rfl (p := 415) rfl (kM_cut (s105 50 0 (y3 + 1).toNatClampNeg) s105 (r110, s109) hr108 (d - 1) (by omega)) ?_
  change zEv d 224 415 [some (zR 50 0), some (zR 7 0), some (zR 8 0), some (zI y3)] [zI r110, zI r106] s109 _
  refine ev_cmpeq i224_415 (t := 1465) (by decide) (p := 418) rfl h (fun c111 h => ?_) (fun c111 h => ?_)
  · exact kX_law_50_J1465 N G d hd K18 hK18 y3 s109 w h
  · refine ev_s i224_418 (p := 419) (zic_0 _ _ _ _ _) ?_
    obtain rfl := Option.some.inj h
    exact ev_zret i224_419 zr224 (by decide)
def fX_law_50_J364 (N : Nat) (G : Nat) (K18 : Int32 → zS → Option (Int32 × zS)) (y3 : Int32) (σ : zS) : Option (Int32 × zS) := zgd (zin (y3 + 1) ((σ 50 1 0).toNatClampNeg)) (zgd (zin (y3 + 2) ((σ 50 1 0).toNatClampNeg)) (zb2 (fA_reel (σ 50 0 (y3 + 1).toNatClampNeg) (σ 50 0 (y3 + 2).toNatClampNeg) σ) fun r96 s95 => zgd (zin (y3 + 1) ((s95 50 1 0).toNatClampNeg)) (zgd (zin (y3 + 2) ((s95 50 1 0).toNatClampNeg)) (zb2 (fM_reel (s95 50 0 (y3 + 1).toNatClampNeg) (s95 50 0 (y3 + 2).toNatClampNeg) s95) fun r101 s100 => (if r96 = r101 then fX_law_50_J1465 N G K18 y3 s100 else some (0, s100))))))
set_option maxHeartbeats 4000000 in
theorem kX_law_50_J364 (N : Nat) (G : Nat) (d : Nat) (hd : 10 + 3 * G ≤ d) (K18 : Int32 → zS → Option (Int32 × zS)) (hK18 : ∀ (y3 : Int32) (σ : zS) (w : Int32 × zS), K18 y3 σ = some w → zEv d 224 18 [some (zR 50 0), some (zR 7 0), some (zR 8 0), some (zI y3)] [] σ (some (zI w.1), w.2)) : ∀ (y3 : Int32) (σ : zS) (w : Int32 × zS), fX_law_50_J364 N G K18 y3 σ = some w → zEv d 224 364 [some (zR 50 0), some (zR 7 0), some (zR 8 0), some (zI y3)] [] σ (some (zI w.1), w.2) := by
  intro y3 σ w h
  unfold fX_law_50_J364 at h
  refine ev_s i224_364 (p := 365) rfl ?_
  refine ev_s i224_365 (p := 366) rfl ?_
  refine ev_s i224_366 (p := 367) rfl ?_
  refine ev_s i224_367 (p := 368) (zic_1 _ _ _ _ _) ?_
  refine ev_s i224_368 (p := 369) (t := [zI (y3 + 1), zR 50 0, zR 7 0]) rfl ?_
  refine ev_iald i224_369 rfl (n := (σ 50 1 0).toNatClampNeg) rfl (p := 370) rfl h (fun g92 h => ?_)
  refine ev_s i224_370 (p := 371) rfl ?_
  refine ev_s i224_371 (p := 372) rfl ?_
  refine ev_s i224_372 (p := 373) (zic_2 _ _ _ _ _) ?_
  refine ev_s i224_373 (p := 374) (t := [zI (y3 + 2), zR 50 0, zI (σ 50 0 (y3 + 1).toNatClampNeg), zR 7 0]) rfl ?_
  refine ev_iald i224_374 rfl (n := (σ 50 1 0).toNatClampNeg) rfl (p := 375) rfl h (fun g93 h => ?_)
  obtain ⟨r96, s95, hr94, h⟩ := b2_some h
  refine ev_callV i224_375 zc9_31 zm65 zo65 (as' := [zI (σ 50 0 (y3 + 1).toNatClampNeg), zI (σ 50 0 (y3 + 2).toNatClampNeg)]) (rest := []) rfl rfl (Nat.le_of_ble_eq_true rfl) (Nat.le_of_ble_eq_true rfl) (Nat.le_of_ble_eq_true rfl) (by omega) (l0 := [some (zR 7 0), some (zI (σ 50 0 (y3 + 1).toNatClampNeg)), some (zI (σ 50 0 (y3 + 2).toNatClampNeg)), none]) rfl (p := 378) rfl (kA_reel (σ 50 0 (y3 + 1).toNatClampNeg) (σ 50 0 (y3 + 2).toNatClampNeg) σ (r96, s95) hr94 (d - 1) (by omega)) ?_
  change zEv d 224 378 [some (zR 50 0), some (zR 7 0), some (zR 8 0), some (zI y3)] [zI r96] s95 _
  refine ev_s i224_378 (p := 379) rfl ?_
  refine ev_s i224_379 (p := 380) rfl ?_
  refine ev_s i224_380 (p := 381) rfl ?_
  refine ev_s i224_381 (p := 382) (zic_1 _ _ _ _ _) ?_
  refine ev_s i224_382 (p := 383) (t := [zI (y3 + 1), zR 50 0, zR 8 0, zI r96]) rfl ?_
  refine ev_iald i224_383 rfl (n := (s95 50 1 0).toNatClampNeg) rfl (p := 384) rfl h (fun g97 h => ?_)
  refine ev_s i224_384 (p := 385) rfl ?_
  refine ev_s i224_385 (p := 386) rfl ?_
  refine ev_s i224_386 (p := 387) (zic_2 _ _ _ _ _) ?_
  refine ev_s i224_387 (p := 388) (t := [zI (y3 + 2), zR 50 0, zI (s95 50 0 (y3 + 1).toNatClampNeg), zR 8 0, zI r96]) rfl ?_
  refine ev_iald i224_388 rfl (n := (s95 50 1 0).toNatClampNeg) rfl (p := 389) rfl h (fun g98 h => ?_)
  obtain ⟨r101, s100, hr99, h⟩ := b2_some h
  refine ev_callV i224_389 zc9_34 zm163 zo163 (as' := [zI (s95 50 0 (y3 + 1).toNatClampNeg), zI (s95 50 0 (y3 + 2).toNatClampNeg)]) (rest := [zI r96]) rfl rfl (Nat.le_of_ble_eq_true rfl) (Nat.le_of_ble_eq_true rfl) (Nat.le_of_ble_eq_true rfl) (by omega) (l0 := [some (zR 8 0), some (zI (s95 50 0 (y3 + 1).toNatClampNeg)), some (zI (s95 50 0 (y3 + 2).toNatClampNeg))]) rfl (p := 392) rfl (kM_reel (s95 50 0 (y3 + 1).toNatClampNeg) (s95 50 0 (y3 + 2).toNatClampNeg) s95 (r101, s100) hr99 (d - 1) (by omega)) ?_
  change zEv d 224 392 [some (zR 50 0), some (zR 7 0), some (zR 8 0), some (zI y3)] [zI r101, zI r96] s100 _
  refine ev_cmpeq i224_392 (t := 1465) (by decide) (p := 395) rfl h (fun c102 h => ?_) (fun c102 h => ?_)
  · exact kX_law_50_J1465 N G d hd K18 hK18 y3 s100 w h
  · refine ev_s i224_395 (p := 396) (zic_0 _ _ _ _ _) ?_
    obtain rfl := Option.some.inj h
    exact ev_zret i224_396 zr224 (by decide)
def fX_law_50_J331 (N : Nat) (G : Nat) (K18 : Int32 → zS → Option (Int32 × zS)) (y3 : Int32) (σ : zS) : Option (Int32 × zS) := zgd (zin (y3 + 1) ((σ 50 1 0).toNatClampNeg)) (zgd (zin (y3 + 2) ((σ 50 1 0).toNatClampNeg)) (zb2 (fA_as N (σ 50 0 (y3 + 1).toNatClampNeg) (σ 50 0 (y3 + 2).toNatClampNeg) σ) fun r85 s84 => zgd (zin (y3 + 1) ((s84 50 1 0).toNatClampNeg)) (zgd (zin (y3 + 2) ((s84 50 1 0).toNatClampNeg)) (zb2 (fM_as (s84 50 0 (y3 + 1).toNatClampNeg) (s84 50 0 (y3 + 2).toNatClampNeg) s84) fun r90 s89 => (if r85 = r90 then fX_law_50_J1465 N G K18 y3 s89 else some (0, s89))))))
set_option maxHeartbeats 4000000 in
theorem kX_law_50_J331 (N : Nat) (G : Nat) (d : Nat) (hd : 10 + 3 * G ≤ d) (K18 : Int32 → zS → Option (Int32 × zS)) (hK18 : ∀ (y3 : Int32) (σ : zS) (w : Int32 × zS), K18 y3 σ = some w → zEv d 224 18 [some (zR 50 0), some (zR 7 0), some (zR 8 0), some (zI y3)] [] σ (some (zI w.1), w.2)) : ∀ (y3 : Int32) (σ : zS) (w : Int32 × zS), fX_law_50_J331 N G K18 y3 σ = some w → zEv d 224 331 [some (zR 50 0), some (zR 7 0), some (zR 8 0), some (zI y3)] [] σ (some (zI w.1), w.2) := by
  intro y3 σ w h
  unfold fX_law_50_J331 at h
  refine ev_s i224_331 (p := 332) rfl ?_
  refine ev_s i224_332 (p := 333) rfl ?_
  refine ev_s i224_333 (p := 334) rfl ?_
  refine ev_s i224_334 (p := 335) (zic_1 _ _ _ _ _) ?_
  refine ev_s i224_335 (p := 336) (t := [zI (y3 + 1), zR 50 0, zR 7 0]) rfl ?_
  refine ev_iald i224_336 rfl (n := (σ 50 1 0).toNatClampNeg) rfl (p := 337) rfl h (fun g81 h => ?_)
  refine ev_s i224_337 (p := 338) rfl ?_
  refine ev_s i224_338 (p := 339) rfl ?_
  refine ev_s i224_339 (p := 340) (zic_2 _ _ _ _ _) ?_
  refine ev_s i224_340 (p := 341) (t := [zI (y3 + 2), zR 50 0, zI (σ 50 0 (y3 + 1).toNatClampNeg), zR 7 0]) rfl ?_
  refine ev_iald i224_341 rfl (n := (σ 50 1 0).toNatClampNeg) rfl (p := 342) rfl h (fun g82 h => ?_)
  obtain ⟨r85, s84, hr83, h⟩ := b2_some h
  refine ev_callV i224_342 zc9_27 zm64 zo64 (as' := [zI (σ 50 0 (y3 + 1).toNatClampNeg), zI (σ 50 0 (y3 + 2).toNatClampNeg)]) (rest := []) rfl rfl (Nat.le_of_ble_eq_true rfl) (Nat.le_of_ble_eq_true rfl) (Nat.le_of_ble_eq_true rfl) (by omega) (l0 := [some (zR 7 0), some (zI (σ 50 0 (y3 + 1).toNatClampNeg)), some (zI (σ 50 0 (y3 + 2).toNatClampNeg))]) rfl (p := 345) rfl (kA_as N (σ 50 0 (y3 + 1).toNatClampNeg) (σ 50 0 (y3 + 2).toNatClampNeg) σ (r85, s84) hr83 (d - 1) (by omega)) ?_
  change zEv d 224 345 [some (zR 50 0), some (zR 7 0), some (zR 8 0), some (zI y3)] [zI r85] s84 _
  refine ev_s i224_345 (p := 346) rfl ?_
  refine ev_s i224_346 (p := 347) rfl ?_
  refine ev_s i224_347 (p := 348) rfl ?_
  refine ev_s i224_348 (p := 349) (zic_1 _ _ _ _ _) ?_
  refine ev_s i224_349 (p := 350) (t := [zI (y3 + 1), zR 50 0, zR 8 0, zI r85]) rfl ?_
  refine ev_iald i224_350 rfl (n := (s84 50 1 0).toNatClampNeg) rfl (p := 351) rfl h (fun g86 h => ?_)
  refine ev_s i224_351 (p := 352) rfl ?_
  refine ev_s i224_352 (p := 353) rfl ?_
  refine ev_s i224_353 (p := 354) (zic_2 _ _ _ _ _) ?_
  refine ev_s i224_354 (p := 355) (t := [zI (y3 + 2), zR 50 0, zI (s84 50 0 (y3 + 1).toNatClampNeg), zR 8 0, zI r85]) rfl ?_
  refine ev_iald i224_355 rfl (n := (s84 50 1 0).toNatClampNeg) rfl (p := 356) rfl h (fun g87 h => ?_)
  obtain ⟨r90, s89, hr88, h⟩ := b2_some h
  refine ev_callV i224_356 zc9_30 zm162 zo162 (as' := [zI (s84 50 0 (y3 + 1).toNatClampNeg), zI (s84 50 0 (y3 + 2).toNatClampNeg)]) (rest := [zI r85]) rfl rfl (Nat.le_of_ble_eq_true rfl) (Nat.le_of_ble_eq_true rfl) (Nat.le_of_ble_eq_true rfl) (by omega) (l0 := [some (zR 8 0), some (zI (s84 50 0 (y3 + 1).toNatClampNeg)), some (zI (s84 50 0 (y3 + 2).toNatClampNeg)), none, none]) rfl (p := 359) rfl (kM_as (s84 50 0 (y3 + 1).toNatClampNeg) (s84 50 0 (y3 + 2).toNatClampNeg) s84 (r90, s89) hr88 (d - 1) (by omega)) ?_
  change zEv d 224 359 [some (zR 50 0), some (zR 7 0), some (zR 8 0), some (zI y3)] [zI r90, zI r85] s89 _
  refine ev_cmpeq i224_359 (t := 1465) (by decide) (p := 362) rfl h (fun c91 h => ?_) (fun c91 h => ?_)
  · exact kX_law_50_J1465 N G d hd K18 hK18 y3 s89 w h
  · refine ev_s i224_362 (p := 363) (zic_0 _ _ _ _ _) ?_
    obtain rfl := Option.some.inj h
    exact ev_zret i224_363 zr224 (by decide)
def fX_law_50_J298 (N : Nat) (G : Nat) (K18 : Int32 → zS → Option (Int32 × zS)) (y3 : Int32) (σ : zS) : Option (Int32 × zS) := zgd (zin (y3 + 1) ((σ 50 1 0).toNatClampNeg)) (zgd (zin (y3 + 2) ((σ 50 1 0).toNatClampNeg)) (zb2 (fA_become (σ 50 0 (y3 + 1).toNatClampNeg) (σ 50 0 (y3 + 2).toNatClampNeg) σ) fun r74 s73 => zgd (zin (y3 + 1) ((s73 50 1 0).toNatClampNeg)) (zgd (zin (y3 + 2) ((s73 50 1 0).toNatClampNeg)) (zb2 (fM_become (s73 50 0 (y3 + 1).toNatClampNeg) (s73 50 0 (y3 + 2).toNatClampNeg) s73) fun r79 s78 => (if r74 = r79 then fX_law_50_J1465 N G K18 y3 s78 else some (0, s78))))))
set_option maxHeartbeats 4000000 in
theorem kX_law_50_J298 (N : Nat) (G : Nat) (d : Nat) (hd : 10 + 3 * G ≤ d) (K18 : Int32 → zS → Option (Int32 × zS)) (hK18 : ∀ (y3 : Int32) (σ : zS) (w : Int32 × zS), K18 y3 σ = some w → zEv d 224 18 [some (zR 50 0), some (zR 7 0), some (zR 8 0), some (zI y3)] [] σ (some (zI w.1), w.2)) : ∀ (y3 : Int32) (σ : zS) (w : Int32 × zS), fX_law_50_J298 N G K18 y3 σ = some w → zEv d 224 298 [some (zR 50 0), some (zR 7 0), some (zR 8 0), some (zI y3)] [] σ (some (zI w.1), w.2) := by
  intro y3 σ w h
  unfold fX_law_50_J298 at h
  refine ev_s i224_298 (p := 299) rfl ?_
  refine ev_s i224_299 (p := 300) rfl ?_
  refine ev_s i224_300 (p := 301) rfl ?_
  refine ev_s i224_301 (p := 302) (zic_1 _ _ _ _ _) ?_
  refine ev_s i224_302 (p := 303) (t := [zI (y3 + 1), zR 50 0, zR 7 0]) rfl ?_
  refine ev_iald i224_303 rfl (n := (σ 50 1 0).toNatClampNeg) rfl (p := 304) rfl h (fun g70 h => ?_)
  refine ev_s i224_304 (p := 305) rfl ?_
  refine ev_s i224_305 (p := 306) rfl ?_
  refine ev_s i224_306 (p := 307) (zic_2 _ _ _ _ _) ?_
  refine ev_s i224_307 (p := 308) (t := [zI (y3 + 2), zR 50 0, zI (σ 50 0 (y3 + 1).toNatClampNeg), zR 7 0]) rfl ?_
  refine ev_iald i224_308 rfl (n := (σ 50 1 0).toNatClampNeg) rfl (p := 309) rfl h (fun g71 h => ?_)
  obtain ⟨r74, s73, hr72, h⟩ := b2_some h
  refine ev_callV i224_309 zc9_23 zm63 zo63 (as' := [zI (σ 50 0 (y3 + 1).toNatClampNeg), zI (σ 50 0 (y3 + 2).toNatClampNeg)]) (rest := []) rfl rfl (Nat.le_of_ble_eq_true rfl) (Nat.le_of_ble_eq_true rfl) (Nat.le_of_ble_eq_true rfl) (by omega) (l0 := [some (zR 7 0), some (zI (σ 50 0 (y3 + 1).toNatClampNeg)), some (zI (σ 50 0 (y3 + 2).toNatClampNeg)), none]) rfl (p := 312) rfl (kA_become (σ 50 0 (y3 + 1).toNatClampNeg) (σ 50 0 (y3 + 2).toNatClampNeg) σ (r74, s73) hr72 (d - 1) (by omega)) ?_
  change zEv d 224 312 [some (zR 50 0), some (zR 7 0), some (zR 8 0), some (zI y3)] [zI r74] s73 _
  refine ev_s i224_312 (p := 313) rfl ?_
  refine ev_s i224_313 (p := 314) rfl ?_
  refine ev_s i224_314 (p := 315) rfl ?_
  refine ev_s i224_315 (p := 316) (zic_1 _ _ _ _ _) ?_
  refine ev_s i224_316 (p := 317) (t := [zI (y3 + 1), zR 50 0, zR 8 0, zI r74]) rfl ?_
  refine ev_iald i224_317 rfl (n := (s73 50 1 0).toNatClampNeg) rfl (p := 318) rfl h (fun g75 h => ?_)
  refine ev_s i224_318 (p := 319) rfl ?_
  refine ev_s i224_319 (p := 320) rfl ?_
  refine ev_s i224_320 (p := 321) (zic_2 _ _ _ _ _) ?_
  refine ev_s i224_321 (p := 322) (t := [zI (y3 + 2), zR 50 0, zI (s73 50 0 (y3 + 1).toNatClampNeg), zR 8 0, zI r74]) rfl ?_
  refine ev_iald i224_322 rfl (n := (s73 50 1 0).toNatClampNeg) rfl (p := 323) rfl h (fun g76 h => ?_)
  obtain ⟨r79, s78, hr77, h⟩ := b2_some h
  refine ev_callV i224_323 zc9_26 zm161 zo161 (as' := [zI (s73 50 0 (y3 + 1).toNatClampNeg), zI (s73 50 0 (y3 + 2).toNatClampNeg)]) (rest := [zI r74]) rfl rfl (Nat.le_of_ble_eq_true rfl) (Nat.le_of_ble_eq_true rfl) (Nat.le_of_ble_eq_true rfl) (by omega) (l0 := [some (zR 8 0), some (zI (s73 50 0 (y3 + 1).toNatClampNeg)), some (zI (s73 50 0 (y3 + 2).toNatClampNeg)), none]) rfl (p := 326) rfl (kM_become (s73 50 0 (y3 + 1).toNatClampNeg) (s73 50 0 (y3 + 2).toNatClampNeg) s73 (r79, s78) hr77 (d - 1) (by omega)) ?_
  change zEv d 224 326 [some (zR 50 0), some (zR 7 0), some (zR 8 0), some (zI y3)] [zI r79, zI r74] s78 _
  refine ev_cmpeq i224_326 (t := 1465) (by decide) (p := 329) rfl h (fun c80 h => ?_) (fun c80 h => ?_)
  · exact kX_law_50_J1465 N G d hd K18 hK18 y3 s78 w h
  · refine ev_s i224_329 (p := 330) (zic_0 _ _ _ _ _) ?_
    obtain rfl := Option.some.inj h
    exact ev_zret i224_330 zr224 (by decide)
def fX_law_50_J265 (N : Nat) (G : Nat) (K18 : Int32 → zS → Option (Int32 × zS)) (y3 : Int32) (σ : zS) : Option (Int32 × zS) := zgd (zin (y3 + 1) ((σ 50 1 0).toNatClampNeg)) (zgd (zin (y3 + 2) ((σ 50 1 0).toNatClampNeg)) (zb2 (fA_oneIs N (σ 50 0 (y3 + 1).toNatClampNeg) (σ 50 0 (y3 + 2).toNatClampNeg) σ) fun r63 s62 => zgd (zin (y3 + 1) ((s62 50 1 0).toNatClampNeg)) (zgd (zin (y3 + 2) ((s62 50 1 0).toNatClampNeg)) (zb2 (fM_oneIs N (s62 50 0 (y3 + 1).toNatClampNeg) (s62 50 0 (y3 + 2).toNatClampNeg) s62) fun r68 s67 => (if r63 = r68 then fX_law_50_J1465 N G K18 y3 s67 else some (0, s67))))))
set_option maxHeartbeats 4000000 in
theorem kX_law_50_J265 (N : Nat) (G : Nat) (d : Nat) (hd : 10 + 3 * G ≤ d) (K18 : Int32 → zS → Option (Int32 × zS)) (hK18 : ∀ (y3 : Int32) (σ : zS) (w : Int32 × zS), K18 y3 σ = some w → zEv d 224 18 [some (zR 50 0), some (zR 7 0), some (zR 8 0), some (zI y3)] [] σ (some (zI w.1), w.2)) : ∀ (y3 : Int32) (σ : zS) (w : Int32 × zS), fX_law_50_J265 N G K18 y3 σ = some w → zEv d 224 265 [some (zR 50 0), some (zR 7 0), some (zR 8 0), some (zI y3)] [] σ (some (zI w.1), w.2) := by
  intro y3 σ w h
  unfold fX_law_50_J265 at h
  refine ev_s i224_265 (p := 266) rfl ?_
  refine ev_s i224_266 (p := 267) rfl ?_
  refine ev_s i224_267 (p := 268) rfl ?_
  refine ev_s i224_268 (p := 269) (zic_1 _ _ _ _ _) ?_
  refine ev_s i224_269 (p := 270) (t := [zI (y3 + 1), zR 50 0, zR 7 0]) rfl ?_
  refine ev_iald i224_270 rfl (n := (σ 50 1 0).toNatClampNeg) rfl (p := 271) rfl h (fun g59 h => ?_)
  refine ev_s i224_271 (p := 272) rfl ?_
  refine ev_s i224_272 (p := 273) rfl ?_
  refine ev_s i224_273 (p := 274) (zic_2 _ _ _ _ _) ?_
  refine ev_s i224_274 (p := 275) (t := [zI (y3 + 2), zR 50 0, zI (σ 50 0 (y3 + 1).toNatClampNeg), zR 7 0]) rfl ?_
  refine ev_iald i224_275 rfl (n := (σ 50 1 0).toNatClampNeg) rfl (p := 276) rfl h (fun g60 h => ?_)
  obtain ⟨r63, s62, hr61, h⟩ := b2_some h
  refine ev_callV i224_276 zc9_18 zm62 zo62 (as' := [zI (σ 50 0 (y3 + 1).toNatClampNeg), zI (σ 50 0 (y3 + 2).toNatClampNeg)]) (rest := []) rfl rfl (Nat.le_of_ble_eq_true rfl) (Nat.le_of_ble_eq_true rfl) (Nat.le_of_ble_eq_true rfl) (by omega) (l0 := [some (zR 7 0), some (zI (σ 50 0 (y3 + 1).toNatClampNeg)), some (zI (σ 50 0 (y3 + 2).toNatClampNeg))]) rfl (p := 279) rfl (kA_oneIs N (σ 50 0 (y3 + 1).toNatClampNeg) (σ 50 0 (y3 + 2).toNatClampNeg) σ (r63, s62) hr61 (d - 1) (by omega)) ?_
  change zEv d 224 279 [some (zR 50 0), some (zR 7 0), some (zR 8 0), some (zI y3)] [zI r63] s62 _
  refine ev_s i224_279 (p := 280) rfl ?_
  refine ev_s i224_280 (p := 281) rfl ?_
  refine ev_s i224_281 (p := 282) rfl ?_
  refine ev_s i224_282 (p := 283) (zic_1 _ _ _ _ _) ?_
  refine ev_s i224_283 (p := 284) (t := [zI (y3 + 1), zR 50 0, zR 8 0, zI r63]) rfl ?_
  refine ev_iald i224_284 rfl (n := (s62 50 1 0).toNatClampNeg) rfl (p := 285) rfl h (fun g64 h => ?_)
  refine ev_s i224_285 (p := 286) rfl ?_
  refine ev_s i224_286 (p := 287) rfl ?_
  refine ev_s i224_287 (p := 288) (zic_2 _ _ _ _ _) ?_
  refine ev_s i224_288 (p := 289) (t := [zI (y3 + 2), zR 50 0, zI (s62 50 0 (y3 + 1).toNatClampNeg), zR 8 0, zI r63]) rfl ?_
  refine ev_iald i224_289 rfl (n := (s62 50 1 0).toNatClampNeg) rfl (p := 290) rfl h (fun g65 h => ?_)
  obtain ⟨r68, s67, hr66, h⟩ := b2_some h
  refine ev_callV i224_290 zc9_22 zm160 zo160 (as' := [zI (s62 50 0 (y3 + 1).toNatClampNeg), zI (s62 50 0 (y3 + 2).toNatClampNeg)]) (rest := [zI r63]) rfl rfl (Nat.le_of_ble_eq_true rfl) (Nat.le_of_ble_eq_true rfl) (Nat.le_of_ble_eq_true rfl) (by omega) (l0 := [some (zR 8 0), some (zI (s62 50 0 (y3 + 1).toNatClampNeg)), some (zI (s62 50 0 (y3 + 2).toNatClampNeg))]) rfl (p := 293) rfl (kM_oneIs N (s62 50 0 (y3 + 1).toNatClampNeg) (s62 50 0 (y3 + 2).toNatClampNeg) s62 (r68, s67) hr66 (d - 1) (by omega)) ?_
  change zEv d 224 293 [some (zR 50 0), some (zR 7 0), some (zR 8 0), some (zI y3)] [zI r68, zI r63] s67 _
  refine ev_cmpeq i224_293 (t := 1465) (by decide) (p := 296) rfl h (fun c69 h => ?_) (fun c69 h => ?_)
  · exact kX_law_50_J1465 N G d hd K18 hK18 y3 s67 w h
  · refine ev_s i224_296 (p := 297) (zic_0 _ _ _ _ _) ?_
    obtain rfl := Option.some.inj h
    exact ev_zret i224_297 zr224 (by decide)
def fX_law_50_J212 (N : Nat) (G : Nat) (K18 : Int32 → zS → Option (Int32 × zS)) (y3 : Int32) (σ : zS) : Option (Int32 × zS) := zgd (zin (y3 + 1) ((σ 50 1 0).toNatClampNeg)) (zgd (zin (y3 + 2) ((σ 50 1 0).toNatClampNeg)) (zgd (zin (y3 + 3) ((σ 50 1 0).toNatClampNeg)) (zgd (zin (y3 + 4) ((σ 50 1 0).toNatClampNeg)) (zb2 (fA_one (σ 50 0 (y3 + 1).toNatClampNeg) (σ 50 0 (y3 + 2).toNatClampNeg) (σ 50 0 (y3 + 3).toNatClampNeg) (σ 50 0 (y3 + 4).toNatClampNeg) σ) fun r50 s49 => zgd (zin (y3 + 1) ((s49 50 1 0).toNatClampNeg)) (zgd (zin (y3 + 2) ((s49 50 1 0).toNatClampNeg)) (zgd (zin (y3 + 3) ((s49 50 1 0).toNatClampNeg)) (zgd (zin (y3 + 4) ((s49 50 1 0).toNatClampNeg)) (zb2 (fM_one (s49 50 0 (y3 + 1).toNatClampNeg) (s49 50 0 (y3 + 2).toNatClampNeg) (s49 50 0 (y3 + 3).toNatClampNeg) (s49 50 0 (y3 + 4).toNatClampNeg) s49) fun r57 s56 => (if r50 = r57 then fX_law_50_J1465 N G K18 y3 s56 else some (0, s56))))))))))
set_option maxHeartbeats 4000000 in
theorem kX_law_50_J212 (N : Nat) (G : Nat) (d : Nat) (hd : 10 + 3 * G ≤ d) (K18 : Int32 → zS → Option (Int32 × zS)) (hK18 : ∀ (y3 : Int32) (σ : zS) (w : Int32 × zS), K18 y3 σ = some w → zEv d 224 18 [some (zR 50 0), some (zR 7 0), some (zR 8 0), some (zI y3)] [] σ (some (zI w.1), w.2)) : ∀ (y3 : Int32) (σ : zS) (w : Int32 × zS), fX_law_50_J212 N G K18 y3 σ = some w → zEv d 224 212 [some (zR 50 0), some (zR 7 0), some (zR 8 0), some (zI y3)] [] σ (some (zI w.1), w.2) := by
  intro y3 σ w h
  unfold fX_law_50_J212 at h
  refine ev_s i224_212 (p := 213) rfl ?_
  refine ev_s i224_213 (p := 214) rfl ?_
  refine ev_s i224_214 (p := 215) rfl ?_
  refine ev_s i224_215 (p := 216) (zic_1 _ _ _ _ _) ?_
  refine ev_s i224_216 (p := 217) (t := [zI (y3 + 1), zR 50 0, zR 7 0]) rfl ?_
  refine ev_iald i224_217 rfl (n := (σ 50 1 0).toNatClampNeg) rfl (p := 218) rfl h (fun g44 h => ?_)
  refine ev_s i224_218 (p := 219) rfl ?_
  refine ev_s i224_219 (p := 220) rfl ?_
  refine ev_s i224_220 (p := 221) (zic_2 _ _ _ _ _) ?_
  refine ev_s i224_221 (p := 222) (t := [zI (y3 + 2), zR 50 0, zI (σ 50 0 (y3 + 1).toNatClampNeg), zR 7 0]) rfl ?_
  refine ev_iald i224_222 rfl (n := (σ 50 1 0).toNatClampNeg) rfl (p := 223) rfl h (fun g45 h => ?_)
  refine ev_s i224_223 (p := 224) rfl ?_
  refine ev_s i224_224 (p := 225) rfl ?_
  refine ev_s i224_225 (p := 226) (zic_3 _ _ _ _ _) ?_
  refine ev_s i224_226 (p := 227) (t := [zI (y3 + 3), zR 50 0, zI (σ 50 0 (y3 + 2).toNatClampNeg), zI (σ 50 0 (y3 + 1).toNatClampNeg), zR 7 0]) rfl ?_
  refine ev_iald i224_227 rfl (n := (σ 50 1 0).toNatClampNeg) rfl (p := 228) rfl h (fun g46 h => ?_)
  refine ev_s i224_228 (p := 229) rfl ?_
  refine ev_s i224_229 (p := 230) rfl ?_
  refine ev_s i224_230 (p := 231) (zic_4 _ _ _ _ _) ?_
  refine ev_s i224_231 (p := 232) (t := [zI (y3 + 4), zR 50 0, zI (σ 50 0 (y3 + 3).toNatClampNeg), zI (σ 50 0 (y3 + 2).toNatClampNeg), zI (σ 50 0 (y3 + 1).toNatClampNeg), zR 7 0]) rfl ?_
  refine ev_iald i224_232 rfl (n := (σ 50 1 0).toNatClampNeg) rfl (p := 233) rfl h (fun g47 h => ?_)
  obtain ⟨r50, s49, hr48, h⟩ := b2_some h
  refine ev_callV i224_233 zc9_13 zm61 zo61 (as' := [zI (σ 50 0 (y3 + 1).toNatClampNeg), zI (σ 50 0 (y3 + 2).toNatClampNeg), zI (σ 50 0 (y3 + 3).toNatClampNeg), zI (σ 50 0 (y3 + 4).toNatClampNeg)]) (rest := []) rfl rfl (Nat.le_of_ble_eq_true rfl) (Nat.le_of_ble_eq_true rfl) (Nat.le_of_ble_eq_true rfl) (by omega) (l0 := [some (zR 7 0), some (zI (σ 50 0 (y3 + 1).toNatClampNeg)), some (zI (σ 50 0 (y3 + 2).toNatClampNeg)), some (zI (σ 50 0 (y3 + 3).toNatClampNeg)), some (zI (σ 50 0 (y3 + 4).toNatClampNeg)), none]) rfl (p := 236) rfl (kA_one (σ 50 0 (y3 + 1).toNatClampNeg) (σ 50 0 (y3 + 2).toNatClampNeg) (σ 50 0 (y3 + 3).toNatClampNeg) (σ 50 0 (y3 + 4).toNatClampNeg) σ (r50, s49) hr48 (d - 1) (by omega)) ?_
  change zEv d 224 236 [some (zR 50 0), some (zR 7 0), some (zR 8 0), some (zI y3)] [zI r50] s49 _
  refine ev_s i224_236 (p := 237) rfl ?_
  refine ev_s i224_237 (p := 238) rfl ?_
  refine ev_s i224_238 (p := 239) rfl ?_
  refine ev_s i224_239 (p := 240) (zic_1 _ _ _ _ _) ?_
  refine ev_s i224_240 (p := 241) (t := [zI (y3 + 1), zR 50 0, zR 8 0, zI r50]) rfl ?_
  refine ev_iald i224_241 rfl (n := (s49 50 1 0).toNatClampNeg) rfl (p := 242) rfl h (fun g51 h => ?_)
  refine ev_s i224_242 (p := 243) rfl ?_
  refine ev_s i224_243 (p := 244) rfl ?_
  refine ev_s i224_244 (p := 245) (zic_2 _ _ _ _ _) ?_
  refine ev_s i224_245 (p := 246) (t := [zI (y3 + 2), zR 50 0, zI (s49 50 0 (y3 + 1).toNatClampNeg), zR 8 0, zI r50]) rfl ?_
  refine ev_iald i224_246 rfl (n := (s49 50 1 0).toNatClampNeg) rfl (p := 247) rfl h (fun g52 h => ?_)
  refine ev_s i224_247 (p := 248) rfl ?_
  refine ev_s i224_248 (p := 249) rfl ?_
  refine ev_s i224_249 (p := 250) (zic_3 _ _ _ _ _) ?_
  refine ev_s i224_250 (p := 251) (t := [zI (y3 + 3), zR 50 0, zI (s49 50 0 (y3 + 2).toNatClampNeg), zI (s49 50 0 (y3 + 1).toNatClampNeg), zR 8 0, zI r50]) rfl ?_
  refine ev_iald i224_251 rfl (n := (s49 50 1 0).toNatClampNeg) rfl (p := 252) rfl h (fun g53 h => ?_)
  refine ev_s i224_252 (p := 253) rfl ?_
  refine ev_s i224_253 (p := 254) rfl ?_
  refine ev_s i224_254 (p := 255) (zic_4 _ _ _ _ _) ?_
  refine ev_s i224_255 (p := 256) (t := [zI (y3 + 4), zR 50 0, zI (s49 50 0 (y3 + 3).toNatClampNeg), zI (s49 50 0 (y3 + 2).toNatClampNeg), zI (s49 50 0 (y3 + 1).toNatClampNeg), zR 8 0, zI r50]) rfl ?_
  refine ev_iald i224_256 rfl (n := (s49 50 1 0).toNatClampNeg) rfl (p := 257) rfl h (fun g54 h => ?_)
  obtain ⟨r57, s56, hr55, h⟩ := b2_some h
  refine ev_callV i224_257 zc9_17 zm159 zo159 (as' := [zI (s49 50 0 (y3 + 1).toNatClampNeg), zI (s49 50 0 (y3 + 2).toNatClampNeg), zI (s49 50 0 (y3 + 3).toNatClampNeg), zI (s49 50 0 (y3 + 4).toNatClampNeg)]) (rest := [zI r50]) rfl rfl (Nat.le_of_ble_eq_true rfl) (Nat.le_of_ble_eq_true rfl) (Nat.le_of_ble_eq_true rfl) (by omega) (l0 := [some (zR 8 0), some (zI (s49 50 0 (y3 + 1).toNatClampNeg)), some (zI (s49 50 0 (y3 + 2).toNatClampNeg)), some (zI (s49 50 0 (y3 + 3).toNatClampNeg)), some (zI (s49 50 0 (y3 + 4).toNatClampNeg)), none]) rfl (p := 260) rfl (kM_one (s49 50 0 (y3 + 1).toNatClampNeg) (s49 50 0 (y3 + 2).toNatClampNeg) (s49 50 0 (y3 + 3).toNatClampNeg) (s49 50 0 (y3 + 4).toNatClampNeg) s49 (r57, s56) hr55 (d - 1) (by omega)) ?_
  change zEv d 224 260 [some (zR 50 0), some (zR 7 0), some (zR 8 0), some (zI y3)] [zI r57, zI r50] s56 _
  refine ev_cmpeq i224_260 (t := 1465) (by decide) (p := 263) rfl h (fun c58 h => ?_) (fun c58 h => ?_)
  · exact kX_law_50_J1465 N G d hd K18 hK18 y3 s56 w h
  · refine ev_s i224_263 (p := 264) (zic_0 _ _ _ _ _) ?_
    obtain rfl := Option.some.inj h
    exact ev_zret i224_264 zr224 (by decide)
def fX_law_50_L18 (N : Nat) (G : Nat) : Nat → Int32 → zS → Option (Int32 × zS)
  | 0, _, _ => none
  | n + 1, y3, σ => (if ((Int32.ofNat ((σ 50 1 0).toNatClampNeg)) - 6) < y3 then some (1, σ) else zgd (zin y3 ((σ 50 1 0).toNatClampNeg)) ((if ((σ 50 0 y3.toNatClampNeg) &&& 63) = 0 then fX_law_50_J212 N G (fun y3 σ => fX_law_50_L18 N G n y3 σ) y3 σ else (if ((σ 50 0 y3.toNatClampNeg) &&& 63) = 1 then fX_law_50_J265 N G (fun y3 σ => fX_law_50_L18 N G n y3 σ) y3 σ else (if ((σ 50 0 y3.toNatClampNeg) &&& 63) = 2 then fX_law_50_J298 N G (fun y3 σ => fX_law_50_L18 N G n y3 σ) y3 σ else (if ((σ 50 0 y3.toNatClampNeg) &&& 63) = 3 then fX_law_50_J331 N G (fun y3 σ => fX_law_50_L18 N G n y3 σ) y3 σ else (if ((σ 50 0 y3.toNatClampNeg) &&& 63) = 4 then fX_law_50_J364 N G (fun y3 σ => fX_law_50_L18 N G n y3 σ) y3 σ else (if ((σ 50 0 y3.toNatClampNeg) &&& 63) = 5 then fX_law_50_J397 N G (fun y3 σ => fX_law_50_L18 N G n y3 σ) y3 σ else (if ((σ 50 0 y3.toNatClampNeg) &&& 63) = 6 then fX_law_50_J420 N G (fun y3 σ => fX_law_50_L18 N G n y3 σ) y3 σ else (if ((σ 50 0 y3.toNatClampNeg) &&& 63) = 7 then fX_law_50_J463 N G (fun y3 σ => fX_law_50_L18 N G n y3 σ) y3 σ else (if ((σ 50 0 y3.toNatClampNeg) &&& 63) = 8 then fX_law_50_J486 N G (fun y3 σ => fX_law_50_L18 N G n y3 σ) y3 σ else (if ((σ 50 0 y3.toNatClampNeg) &&& 63) = 9 then fX_law_50_J549 N G (fun y3 σ => fX_law_50_L18 N G n y3 σ) y3 σ else (if ((σ 50 0 y3.toNatClampNeg) &&& 63) = 10 then fX_law_50_J572 N G (fun y3 σ => fX_law_50_L18 N G n y3 σ) y3 σ else (if ((σ 50 0 y3.toNatClampNeg) &&& 63) = 11 then fX_law_50_J595 N G (fun y3 σ => fX_law_50_L18 N G n y3 σ) y3 σ else (if ((σ 50 0 y3.toNatClampNeg) &&& 63) = 12 then fX_law_50_J648 N G (fun y3 σ => fX_law_50_L18 N G n y3 σ) y3 σ else (if ((σ 50 0 y3.toNatClampNeg) &&& 63) = 13 then fX_law_50_J671 N G (fun y3 σ => fX_law_50_L18 N G n y3 σ) y3 σ else (if ((σ 50 0 y3.toNatClampNeg) &&& 63) = 14 then fX_law_50_J694 N G (fun y3 σ => fX_law_50_L18 N G n y3 σ) y3 σ else (if ((σ 50 0 y3.toNatClampNeg) &&& 63) = 15 then fX_law_50_J717 N G (fun y3 σ => fX_law_50_L18 N G n y3 σ) y3 σ else (if ((σ 50 0 y3.toNatClampNeg) &&& 63) = 16 then fX_law_50_J740 N G (fun y3 σ => fX_law_50_L18 N G n y3 σ) y3 σ else (if ((σ 50 0 y3.toNatClampNeg) &&& 63) = 17 then fX_law_50_J763 N G (fun y3 σ => fX_law_50_L18 N G n y3 σ) y3 σ else (if ((σ 50 0 y3.toNatClampNeg) &&& 63) = 18 then fX_law_50_J796 N G (fun y3 σ => fX_law_50_L18 N G n y3 σ) y3 σ else (if ((σ 50 0 y3.toNatClampNeg) &&& 63) = 19 then fX_law_50_J819 N G (fun y3 σ => fX_law_50_L18 N G n y3 σ) y3 σ else (if ((σ 50 0 y3.toNatClampNeg) &&& 63) = 20 then fX_law_50_J842 N G (fun y3 σ => fX_law_50_L18 N G n y3 σ) y3 σ else (if ((σ 50 0 y3.toNatClampNeg) &&& 63) = 21 then fX_law_50_J855 N G (fun y3 σ => fX_law_50_L18 N G n y3 σ) y3 σ else (if ((σ 50 0 y3.toNatClampNeg) &&& 63) = 22 then fX_law_50_J888 N G (fun y3 σ => fX_law_50_L18 N G n y3 σ) y3 σ else (if ((σ 50 0 y3.toNatClampNeg) &&& 63) = 23 then fX_law_50_J911 N G (fun y3 σ => fX_law_50_L18 N G n y3 σ) y3 σ else (if ((σ 50 0 y3.toNatClampNeg) &&& 63) = 24 then fX_law_50_J944 N G (fun y3 σ => fX_law_50_L18 N G n y3 σ) y3 σ else (if ((σ 50 0 y3.toNatClampNeg) &&& 63) = 25 then fX_law_50_J977 N G (fun y3 σ => fX_law_50_L18 N G n y3 σ) y3 σ else (if ((σ 50 0 y3.toNatClampNeg) &&& 63) = 26 then fX_law_50_J1010 N G (fun y3 σ => fX_law_50_L18 N G n y3 σ) y3 σ else (if ((σ 50 0 y3.toNatClampNeg) &&& 63) = 27 then fX_law_50_J1053 N G (fun y3 σ => fX_law_50_L18 N G n y3 σ) y3 σ else (if ((σ 50 0 y3.toNatClampNeg) &&& 63) = 28 then fX_law_50_J1096 N G (fun y3 σ => fX_law_50_L18 N G n y3 σ) y3 σ else (if ((σ 50 0 y3.toNatClampNeg) &&& 63) = 29 then fX_law_50_J1139 N G (fun y3 σ => fX_law_50_L18 N G n y3 σ) y3 σ else (if ((σ 50 0 y3.toNatClampNeg) &&& 63) = 30 then fX_law_50_J1162 N G (fun y3 σ => fX_law_50_L18 N G n y3 σ) y3 σ else (if ((σ 50 0 y3.toNatClampNeg) &&& 63) = 31 then fX_law_50_J1205 N G (fun y3 σ => fX_law_50_L18 N G n y3 σ) y3 σ else (if ((σ 50 0 y3.toNatClampNeg) &&& 63) = 32 then fX_law_50_J1248 N G (fun y3 σ => fX_law_50_L18 N G n y3 σ) y3 σ else (if ((σ 50 0 y3.toNatClampNeg) &&& 63) = 33 then fX_law_50_J1311 N G (fun y3 σ => fX_law_50_L18 N G n y3 σ) y3 σ else (if ((σ 50 0 y3.toNatClampNeg) &&& 63) = 34 then fX_law_50_J1334 N G (fun y3 σ => fX_law_50_L18 N G n y3 σ) y3 σ else (if ((σ 50 0 y3.toNatClampNeg) &&& 63) = 35 then fX_law_50_J1357 N G (fun y3 σ => fX_law_50_L18 N G n y3 σ) y3 σ else (if ((σ 50 0 y3.toNatClampNeg) &&& 63) = 36 then fX_law_50_J1370 N G (fun y3 σ => fX_law_50_L18 N G n y3 σ) y3 σ else (if ((σ 50 0 y3.toNatClampNeg) &&& 63) = 37 then fX_law_50_J1383 N G (fun y3 σ => fX_law_50_L18 N G n y3 σ) y3 σ else (if ((σ 50 0 y3.toNatClampNeg) &&& 63) = 38 then fX_law_50_J1406 N G (fun y3 σ => fX_law_50_L18 N G n y3 σ) y3 σ else (if ((σ 50 0 y3.toNatClampNeg) &&& 63) = 39 then fX_law_50_J1419 N G (fun y3 σ => fX_law_50_L18 N G n y3 σ) y3 σ else (if ((σ 50 0 y3.toNatClampNeg) &&& 63) = 40 then fX_law_50_J1442 N G (fun y3 σ => fX_law_50_L18 N G n y3 σ) y3 σ else fX_law_50_J1465 N G (fun y3 σ => fX_law_50_L18 N G n y3 σ) y3 σ)))))))))))))))))))))))))))))))))))))))))))
set_option maxHeartbeats 4000000 in
theorem kX_law_50_L18 (N : Nat) (G : Nat) (d : Nat) (hd : 10 + 3 * G ≤ d)  : ∀ n : Nat, ∀ (y3 : Int32) (σ : zS) (w : Int32 × zS), fX_law_50_L18 N G n y3 σ = some w → zEv d 224 18 [some (zR 50 0), some (zR 7 0), some (zR 8 0), some (zI y3)] [] σ (some (zI w.1), w.2) := by
  intro n
  induction n with
  | zero =>
    intro y3 σ w h
    cases h
  | succ n ih =>
    intro y3 σ w h
    rw [fX_law_50_L18] at h
    refine ev_s i224_18 (p := 19) rfl ?_
    refine ev_s i224_19 (p := 20) rfl ?_
    refine ev_alen i224_20 rfl (v := Int32.ofNat ((σ 50 1 0).toNatClampNeg)) rfl (p := 21) rfl ?_
    refine ev_s i224_21 (p := 23) (zib_6 _ _ _ _ _) ?_
    refine ev_s i224_23 (p := 24) (t := [zI ((Int32.ofNat ((σ 50 1 0).toNatClampNeg)) - 6), zI y3]) rfl ?_
    refine ev_cmpgt i224_24 (t := 1471) (by decide) (p := 27) rfl h (fun c1 h => ?_) (fun c1 h => ?_)
    · refine ev_s i224_1471 (p := 1472) (zic_1 _ _ _ _ _) ?_
      obtain rfl := Option.some.inj h
      exact ev_zret i224_1472 zr224 (by decide)
    · refine ev_s i224_27 (p := 28) rfl ?_
      refine ev_s i224_28 (p := 29) rfl ?_
      refine ev_iald i224_29 rfl (n := (σ 50 1 0).toNatClampNeg) rfl (p := 30) rfl h (fun g2 h => ?_)
      refine ev_s i224_30 (p := 32) (zib_63 _ _ _ _ _) ?_
      refine ev_s i224_32 (p := 33) (t := [zI ((σ 50 0 y3.toNatClampNeg) &&& 63)]) rfl ?_
      refine ev_sel h (fun c3 h => ?_) (fun c3 h => ?_)
      · refine ev_tsw i224_33 (by decide) (t := 212) (by rw [c3]; decide) ?_
        exact kX_law_50_J212 N G d hd (fun y3 σ => fX_law_50_L18 N G n y3 σ) ih y3 σ w h
      refine ev_sel h (fun c4 h => ?_) (fun c4 h => ?_)
      · refine ev_tsw i224_33 (by decide) (t := 265) (by rw [c4]; decide) ?_
        exact kX_law_50_J265 N G d hd (fun y3 σ => fX_law_50_L18 N G n y3 σ) ih y3 σ w h
      refine ev_sel h (fun c5 h => ?_) (fun c5 h => ?_)
      · refine ev_tsw i224_33 (by decide) (t := 298) (by rw [c5]; decide) ?_
        exact kX_law_50_J298 N G d hd (fun y3 σ => fX_law_50_L18 N G n y3 σ) ih y3 σ w h
      refine ev_sel h (fun c6 h => ?_) (fun c6 h => ?_)
      · refine ev_tsw i224_33 (by decide) (t := 331) (by rw [c6]; decide) ?_
        exact kX_law_50_J331 N G d hd (fun y3 σ => fX_law_50_L18 N G n y3 σ) ih y3 σ w h
      refine ev_sel h (fun c7 h => ?_) (fun c7 h => ?_)
      · refine ev_tsw i224_33 (by decide) (t := 364) (by rw [c7]; decide) ?_
        exact kX_law_50_J364 N G d hd (fun y3 σ => fX_law_50_L18 N G n y3 σ) ih y3 σ w h
      refine ev_sel h (fun c8 h => ?_) (fun c8 h => ?_)
      · refine ev_tsw i224_33 (by decide) (t := 397) (by rw [c8]; decide) ?_
        exact kX_law_50_J397 N G d hd (fun y3 σ => fX_law_50_L18 N G n y3 σ) ih y3 σ w h
      refine ev_sel h (fun c9 h => ?_) (fun c9 h => ?_)
      · refine ev_tsw i224_33 (by decide) (t := 420) (by rw [c9]; decide) ?_
        exact kX_law_50_J420 N G d hd (fun y3 σ => fX_law_50_L18 N G n y3 σ) ih y3 σ w h
      refine ev_sel h (fun c10 h => ?_) (fun c10 h => ?_)
      · refine ev_tsw i224_33 (by decide) (t := 463) (by rw [c10]; decide) ?_
        exact kX_law_50_J463 N G d hd (fun y3 σ => fX_law_50_L18 N G n y3 σ) ih y3 σ w h
      refine ev_sel h (fun c11 h => ?_) (fun c11 h => ?_)
      · refine ev_tsw i224_33 (by decide) (t := 486) (by rw [c11]; decide) ?_
        exact kX_law_50_J486 N G d hd (fun y3 σ => fX_law_50_L18 N G n y3 σ) ih y3 σ w h
      refine ev_sel h (fun c12 h => ?_) (fun c12 h => ?_)
      · refine ev_tsw i224_33 (by decide) (t := 549) (by rw [c12]; decide) ?_
        exact kX_law_50_J549 N G d hd (fun y3 σ => fX_law_50_L18 N G n y3 σ) ih y3 σ w h
      refine ev_sel h (fun c13 h => ?_) (fun c13 h => ?_)
      · refine ev_tsw i224_33 (by decide) (t := 572) (by rw [c13]; decide) ?_
        exact kX_law_50_J572 N G d hd (fun y3 σ => fX_law_50_L18 N G n y3 σ) ih y3 σ w h
      refine ev_sel h (fun c14 h => ?_) (fun c14 h => ?_)
      · refine ev_tsw i224_33 (by decide) (t := 595) (by rw [c14]; decide) ?_
        exact kX_law_50_J595 N G d hd (fun y3 σ => fX_law_50_L18 N G n y3 σ) ih y3 σ w h
      refine ev_sel h (fun c15 h => ?_) (fun c15 h => ?_)
      · refine ev_tsw i224_33 (by decide) (t := 648) (by rw [c15]; decide) ?_
        exact kX_law_50_J648 N G d hd (fun y3 σ => fX_law_50_L18 N G n y3 σ) ih y3 σ w h
      refine ev_sel h (fun c16 h => ?_) (fun c16 h => ?_)
      · refine ev_tsw i224_33 (by decide) (t := 671) (by rw [c16]; decide) ?_
        exact kX_law_50_J671 N G d hd (fun y3 σ => fX_law_50_L18 N G n y3 σ) ih y3 σ w h
      refine ev_sel h (fun c17 h => ?_) (fun c17 h => ?_)
      · refine ev_tsw i224_33 (by decide) (t := 694) (by rw [c17]; decide) ?_
        exact kX_law_50_J694 N G d hd (fun y3 σ => fX_law_50_L18 N G n y3 σ) ih y3 σ w h
      refine ev_sel h (fun c18 h => ?_) (fun c18 h => ?_)
      · refine ev_tsw i224_33 (by decide) (t := 717) (by rw [c18]; decide) ?_
        exact kX_law_50_J717 N G d hd (fun y3 σ => fX_law_50_L18 N G n y3 σ) ih y3 σ w h
      refine ev_sel h (fun c19 h => ?_) (fun c19 h => ?_)
      · refine ev_tsw i224_33 (by decide) (t := 740) (by rw [c19]; decide) ?_
        exact kX_law_50_J740 N G d hd (fun y3 σ => fX_law_50_L18 N G n y3 σ) ih y3 σ w h
      refine ev_sel h (fun c20 h => ?_) (fun c20 h => ?_)
      · refine ev_tsw i224_33 (by decide) (t := 763) (by rw [c20]; decide) ?_
        exact kX_law_50_J763 N G d hd (fun y3 σ => fX_law_50_L18 N G n y3 σ) ih y3 σ w h
      refine ev_sel h (fun c21 h => ?_) (fun c21 h => ?_)
      · refine ev_tsw i224_33 (by decide) (t := 796) (by rw [c21]; decide) ?_
        exact kX_law_50_J796 N G d hd (fun y3 σ => fX_law_50_L18 N G n y3 σ) ih y3 σ w h
      refine ev_sel h (fun c22 h => ?_) (fun c22 h => ?_)
      · refine ev_tsw i224_33 (by decide) (t := 819) (by rw [c22]; decide) ?_
        exact kX_law_50_J819 N G d hd (fun y3 σ => fX_law_50_L18 N G n y3 σ) ih y3 σ w h
      refine ev_sel h (fun c23 h => ?_) (fun c23 h => ?_)
      · refine ev_tsw i224_33 (by decide) (t := 842) (by rw [c23]; decide) ?_
        exact kX_law_50_J842 N G d hd (fun y3 σ => fX_law_50_L18 N G n y3 σ) ih y3 σ w h
      refine ev_sel h (fun c24 h => ?_) (fun c24 h => ?_)
      · refine ev_tsw i224_33 (by decide) (t := 855) (by rw [c24]; decide) ?_
        exact kX_law_50_J855 N G d hd (fun y3 σ => fX_law_50_L18 N G n y3 σ) ih y3 σ w h
      refine ev_sel h (fun c25 h => ?_) (fun c25 h => ?_)
      · refine ev_tsw i224_33 (by decide) (t := 888) (by rw [c25]; decide) ?_
        exact kX_law_50_J888 N G d hd (fun y3 σ => fX_law_50_L18 N G n y3 σ) ih y3 σ w h
      refine ev_sel h (fun c26 h => ?_) (fun c26 h => ?_)
      · refine ev_tsw i224_33 (by decide) (t := 911) (by rw [c26]; decide) ?_
        exact kX_law_50_J911 N G d hd (fun y3 σ => fX_law_50_L18 N G n y3 σ) ih y3 σ w h
      refine ev_sel h (fun c27 h => ?_) (fun c27 h => ?_)
      · refine ev_tsw i224_33 (by decide) (t := 944) (by rw [c27]; decide) ?_
        exact kX_law_50_J944 N G d hd (fun y3 σ => fX_law_50_L18 N G n y3 σ) ih y3 σ w h
      refine ev_sel h (fun c28 h => ?_) (fun c28 h => ?_)
      · refine ev_tsw i224_33 (by decide) (t := 977) (by rw [c28]; decide) ?_
        exact kX_law_50_J977 N G d hd (fun y3 σ => fX_law_50_L18 N G n y3 σ) ih y3 σ w h
      refine ev_sel h (fun c29 h => ?_) (fun c29 h => ?_)
      · refine ev_tsw i224_33 (by decide) (t := 1010) (by rw [c29]; decide) ?_
        exact kX_law_50_J1010 N G d hd (fun y3 σ => fX_law_50_L18 N G n y3 σ) ih y3 σ w h
      refine ev_sel h (fun c30 h => ?_) (fun c30 h => ?_)
      · refine ev_tsw i224_33 (by decide) (t := 1053) (by rw [c30]; decide) ?_
        exact kX_law_50_J1053 N G d hd (fun y3 σ => fX_law_50_L18 N G n y3 σ) ih y3 σ w h
      refine ev_sel h (fun c31 h => ?_) (fun c31 h => ?_)
      · refine ev_tsw i224_33 (by decide) (t := 1096) (by rw [c31]; decide) ?_
        exact kX_law_50_J1096 N G d hd (fun y3 σ => fX_law_50_L18 N G n y3 σ) ih y3 σ w h
      refine ev_sel h (fun c32 h => ?_) (fun c32 h => ?_)
      · refine ev_tsw i224_33 (by decide) (t := 1139) (by rw [c32]; decide) ?_
        exact kX_law_50_J1139 N G d hd (fun y3 σ => fX_law_50_L18 N G n y3 σ) ih y3 σ w h
      refine ev_sel h (fun c33 h => ?_) (fun c33 h => ?_)
      · refine ev_tsw i224_33 (by decide) (t := 1162) (by rw [c33]; decide) ?_
        exact kX_law_50_J1162 N G d hd (fun y3 σ => fX_law_50_L18 N G n y3 σ) ih y3 σ w h
      refine ev_sel h (fun c34 h => ?_) (fun c34 h => ?_)
      · refine ev_tsw i224_33 (by decide) (t := 1205) (by rw [c34]; decide) ?_
        exact kX_law_50_J1205 N G d hd (fun y3 σ => fX_law_50_L18 N G n y3 σ) ih y3 σ w h
      refine ev_sel h (fun c35 h => ?_) (fun c35 h => ?_)
      · refine ev_tsw i224_33 (by decide) (t := 1248) (by rw [c35]; decide) ?_
        exact kX_law_50_J1248 N G d hd (fun y3 σ => fX_law_50_L18 N G n y3 σ) ih y3 σ w h
      refine ev_sel h (fun c36 h => ?_) (fun c36 h => ?_)
      · refine ev_tsw i224_33 (by decide) (t := 1311) (by rw [c36]; decide) ?_
        exact kX_law_50_J1311 N G d hd (fun y3 σ => fX_law_50_L18 N G n y3 σ) ih y3 σ w h
      refine ev_sel h (fun c37 h => ?_) (fun c37 h => ?_)
      · refine ev_tsw i224_33 (by decide) (t := 1334) (by rw [c37]; decide) ?_
        exact kX_law_50_J1334 N G d hd (fun y3 σ => fX_law_50_L18 N G n y3 σ) ih y3 σ w h
      refine ev_sel h (fun c38 h => ?_) (fun c38 h => ?_)
      · refine ev_tsw i224_33 (by decide) (t := 1357) (by rw [c38]; decide) ?_
        exact kX_law_50_J1357 N G d hd (fun y3 σ => fX_law_50_L18 N G n y3 σ) ih y3 σ w h
      refine ev_sel h (fun c39 h => ?_) (fun c39 h => ?_)
      · refine ev_tsw i224_33 (by decide) (t := 1370) (by rw [c39]; decide) ?_
        exact kX_law_50_J1370 N G d hd (fun y3 σ => fX_law_50_L18 N G n y3 σ) ih y3 σ w h
      refine ev_sel h (fun c40 h => ?_) (fun c40 h => ?_)
      · refine ev_tsw i224_33 (by decide) (t := 1383) (by rw [c40]; decide) ?_
        exact kX_law_50_J1383 N G d hd (fun y3 σ => fX_law_50_L18 N G n y3 σ) ih y3 σ w h
      refine ev_sel h (fun c41 h => ?_) (fun c41 h => ?_)
      · refine ev_tsw i224_33 (by decide) (t := 1406) (by rw [c41]; decide) ?_
        exact kX_law_50_J1406 N G d hd (fun y3 σ => fX_law_50_L18 N G n y3 σ) ih y3 σ w h
      refine ev_sel h (fun c42 h => ?_) (fun c42 h => ?_)
      · refine ev_tsw i224_33 (by decide) (t := 1419) (by rw [c42]; decide) ?_
        exact kX_law_50_J1419 N G d hd (fun y3 σ => fX_law_50_L18 N G n y3 σ) ih y3 σ w h
      refine ev_sel h (fun c43 h => ?_) (fun c43 h => ?_)
      · refine ev_tsw i224_33 (by decide) (t := 1442) (by rw [c43]; decide) ?_
        exact kX_law_50_J1442 N G d hd (fun y3 σ => fX_law_50_L18 N G n y3 σ) ih y3 σ w h
      refine ev_tsw i224_33 (by decide) (t := 1465) (by show (33 : Int) + zsw ((σ 50 0 y3.toNatClampNeg) &&& 63) (0) [179, 232, 265, 298, 331, 364, 387, 430, 453, 516, 539, 562, 615, 638, 661, 684, 707, 730, 763, 786, 809, 822, 855, 878, 911, 944, 977, 1020, 1063, 1106, 1129, 1172, 1215, 1278, 1301, 1324, 1337, 1350, 1373, 1386, 1409] (1432) = 1465; rw [zsw_st c3 (by decide), zsw_st c4 (by decide), zsw_st c5 (by decide), zsw_st c6 (by decide), zsw_st c7 (by decide), zsw_st c8 (by decide), zsw_st c9 (by decide), zsw_st c10 (by decide), zsw_st c11 (by decide), zsw_st c12 (by decide), zsw_st c13 (by decide), zsw_st c14 (by decide), zsw_st c15 (by decide), zsw_st c16 (by decide), zsw_st c17 (by decide), zsw_st c18 (by decide), zsw_st c19 (by decide), zsw_st c20 (by decide), zsw_st c21 (by decide), zsw_st c22 (by decide), zsw_st c23 (by decide), zsw_st c24 (by decide), zsw_st c25 (by decide), zsw_st c26 (by decide), zsw_st c27 (by decide), zsw_st c28 (by decide), zsw_st c29 (by decide), zsw_st c30 (by decide), zsw_st c31 (by decide), zsw_st c32 (by decide), zsw_st c33 (by decide), zsw_st c34 (by decide), zsw_st c35 (by decide), zsw_st c36 (by decide), zsw_st c37 (by decide), zsw_st c38 (by decide), zsw_st c39 (by decide), zsw_st c40 (by decide), zsw_st c41 (by decide), zsw_st c42 (by decide), zsw_st c43 (by decide)]; rfl) ?_
      exact kX_law_50_J1465 N G d hd (fun y3 σ => fX_law_50_L18 N G n y3 σ) ih y3 σ w h
def fX_law_50 (N : Nat) (G : Nat) (σ : zS) : Option (Int32 × zS) := fX_law_50_L18 N G N 0 σ
set_option maxHeartbeats 4000000 in
theorem kX_law_50 (N : Nat) (G : Nat) (σ : zS) (w : Int32 × zS) (h : fX_law_50 N G σ = some w) (d : Nat) (hd : 10 + 3 * G ≤ d) : zEv d 224 16 [some (zR 50 0), some (zR 7 0), some (zR 8 0), none] [] σ (some (zI w.1), w.2) := by
  unfold fX_law_50 at h
  refine ev_s i224_16 (p := 17) (zic_0 _ _ _ _ _) ?_
  refine ev_s i224_17 (p := 18) (l := [some (zR 50 0), some (zR 7 0), some (zR 8 0), some (zI 0)]) rfl ?_
  exact kX_law_50_L18 N G d hd N 0 σ w h
