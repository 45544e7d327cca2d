/-! fA_within -/
def fA_within (x0 : Int32) (x1 : Int32) : Option (Int32) := (if x0 < 0 then some (0) else (if x1 < x0 then some (0) else some (1)))
set_option maxHeartbeats 4000000 in
theorem kA_within (x0 : Int32) (x1 : Int32) (σ : zS) (w : Int32) (h : fA_within x0 x1 = some w) (d : Nat) (hd : 0 ≤ d) : zEv d 103 0 [some (zI x0), some (zI x1)] [] σ (some (zI w), σ) := by
  unfold fA_within at h
  refine ev_s i103_0 (p := 1) rfl ?_
  refine ev_iflt i103_1 (t := 13) (by decide) (p := 4) rfl h (fun c1 h => ?_) (fun c1 h => ?_)
  · refine ev_s i103_13 (p := 14) (zic_0 _ _ _ _ _) ?_
    obtain rfl := Option.some.inj h
    exact ev_zret i103_14 zr103 (by decide)
  · refine ev_s i103_4 (p := 5) rfl ?_
    refine ev_s i103_5 (p := 6) rfl ?_
    refine ev_cmpgt i103_6 (t := 13) (by decide) (p := 9) rfl h (fun c2 h => ?_) (fun c2 h => ?_)
    · refine ev_s i103_13 (p := 14) (zic_0 _ _ _ _ _) ?_
      obtain rfl := Option.some.inj h
      exact ev_zret i103_14 zr103 (by decide)
    · refine ev_s i103_9 (p := 10) (zic_1 _ _ _ _ _) ?_
      refine ev_goto i103_10 (t := 14) (by decide) ?_
      obtain rfl := Option.some.inj h
      exact ev_zret i103_14 zr103 (by decide)
/-! fA_isThere -/
def fA_isThere (x1 : Int32) (σ : zS) : Option (Int32) := (if x1 < 0 then some (0) else (if (σ 2 0 9) ≤ x1 then some (0) else some (1)))
set_option maxHeartbeats 4000000 in
theorem kA_isThere (x1 : Int32) (σ : zS) (w : Int32) (h : fA_isThere x1 σ = some w) (d : Nat) (hd : 0 ≤ d) : zEv d 104 0 [some (zR 7 0), some (zI x1)] [] σ (some (zI w), σ) := by
  unfold fA_isThere at h
  refine ev_s i104_0 (p := 1) rfl ?_
  refine ev_iflt i104_1 (t := 19) (by decide) (p := 4) rfl h (fun c1 h => ?_) (fun c1 h => ?_)
  · refine ev_s i104_19 (p := 20) (zic_0 _ _ _ _ _) ?_
    obtain rfl := Option.some.inj h
    exact ev_zret i104_20 zr104 (by decide)
  · refine ev_s i104_4 (p := 5) rfl ?_
    refine ev_s i104_5 (p := 6) rfl ?_
    refine ev_getf i104_6 zf7_47 (u := zR 2 0) rfl (p := 9) rfl ?_
    refine ev_getf i104_9 zf7_76 (u := zI (σ 2 0 9)) rfl (p := 12) rfl ?_
    refine ev_cmpge i104_12 (t := 19) (by decide) (p := 15) rfl h (fun c2 h => ?_) (fun c2 h => ?_)
    · refine ev_s i104_19 (p := 20) (zic_0 _ _ _ _ _) ?_
      obtain rfl := Option.some.inj h
      exact ev_zret i104_20 zr104 (by decide)
    · refine ev_s i104_15 (p := 16) (zic_1 _ _ _ _ _) ?_
      refine ev_goto i104_16 (t := 20) (by decide) ?_
      obtain rfl := Option.some.inj h
      exact ev_zret i104_20 zr104 (by decide)
/-! fJ_abs -/
def fJ_abs (x0 : Int32) : Option (Int32) := (if 0 ≤ x0 then some (x0) else some ((-x0)))
set_option maxHeartbeats 4000000 in
theorem kJ_abs (x0 : Int32) (σ : zS) (w : Int32) (h : fJ_abs x0 = some w) (d : Nat) (hd : 0 ≤ d) : zEv d 221 0 [some (zI x0)] [] σ (some (zI w), σ) := by
  unfold fJ_abs at h
  refine ev_s i221_0 (p := 1) rfl ?_
  refine ev_ifge i221_1 (t := 9) (by decide) (p := 4) rfl h (fun c1 h => ?_) (fun c1 h => ?_)
  · refine ev_s i221_9 (p := 10) rfl ?_
    obtain rfl := Option.some.inj h
    exact ev_iret i221_10 zr221
  · refine ev_s i221_4 (p := 5) rfl ?_
    refine ev_s i221_5 (p := 6) rfl ?_
    refine ev_goto i221_6 (t := 10) (by decide) ?_
    obtain rfl := Option.some.inj h
    exact ev_iret i221_10 zr221
/-! fR_apart -/
def fR_apart (b : Nat) (x1 : Int32) (σ : zS) : Option (Int32) := zgd (zin x1 8) (zlt (σ 16 b x1.toNatClampNeg) fun v2 => (if v2 < 0 then some (0) else zgd (zin x1 8) (zgd (zin v2 8) ((fJ_abs ((σ 17 b x1.toNatClampNeg) - (σ 17 b v2.toNatClampNeg))).bind fun r7 => some (r7)))))
set_option maxHeartbeats 4000000 in
theorem kR_apart (b : Nat) (x1 : Int32) (σ : zS) (w : Int32) (h : fR_apart b x1 σ = some w) (d : Nat) (hd : 1 ≤ d) : zEv d 22 0 [some (zR 2 b), some (zI x1), none] [] σ (some (zI w), σ) := by
  unfold fR_apart at h
  refine ev_s i22_0 (p := 1) rfl ?_
  refine ev_getf i22_1 zf2_18 (u := zR 16 b) rfl (p := 4) rfl ?_
  refine ev_s i22_4 (p := 5) rfl ?_
  refine ev_iald i22_5 rfl (n := 8) rfl (p := 6) rfl h (fun g1 h => ?_)
  refine ev_let h (fun v2 ev2 h => ?_)
  refine ev_s i22_6 (p := 7) (l := [some (zR 2 b), some (zI x1), some (zI v2)]) rfl ?_
  refine ev_s i22_7 (p := 8) rfl ?_
  refine ev_iflt i22_8 (t := 30) (by decide) (p := 11) rfl h (fun c3 h => ?_) (fun c3 h => ?_)
  · refine ev_s i22_30 (p := 31) (zic_0 _ _ _ _ _) ?_
    obtain rfl := Option.some.inj h
    exact ev_iret i22_31 zr22
  · refine ev_s i22_11 (p := 12) rfl ?_
    refine ev_getf i22_12 zf2_21 (u := zR 17 b) rfl (p := 15) rfl ?_
    refine ev_s i22_15 (p := 16) rfl ?_
    refine ev_iald i22_16 rfl (n := 8) rfl (p := 17) rfl h (fun g4 h => ?_)
    refine ev_s i22_17 (p := 18) rfl ?_
    refine ev_getf i22_18 zf2_21 (u := zR 17 b) rfl (p := 21) rfl ?_
    refine ev_s i22_21 (p := 22) rfl ?_
    refine ev_iald i22_22 rfl (n := 8) rfl (p := 23) rfl h (fun g5 h => ?_)
    refine ev_s i22_23 (p := 24) (t := [zI ((σ 17 b x1.toNatClampNeg) - (σ 17 b v2.toNatClampNeg))]) rfl ?_
    obtain ⟨r7, hr6, h⟩ := bd_some h
    refine ev_callS i22_24 zn2_70 zc2_70 zm221 (as := [zI ((σ 17 b x1.toNatClampNeg) - (σ 17 b v2.toNatClampNeg))]) (rest := []) rfl rfl (Nat.le_of_ble_eq_true rfl) (Nat.le_of_ble_eq_true rfl) (Nat.le_of_ble_eq_true rfl) (by omega) (l0 := [some (zI ((σ 17 b x1.toNatClampNeg) - (σ 17 b v2.toNatClampNeg)))]) rfl (p := 27) rfl (kJ_abs ((σ 17 b x1.toNatClampNeg) - (σ 17 b v2.toNatClampNeg)) σ r7 hr6 (d - 1) (by omega)) ?_
    change zEv d 22 27 [some (zR 2 b), some (zI x1), some (zI v2)] [zI r7] σ _
    refine ev_goto i22_27 (t := 31) (by decide) ?_
    obtain rfl := Option.some.inj h
    exact ev_iret i22_31 zr22
/-! fR_add -/
def fR_add_J60 (b : Nat) (y5 : Int32) (u0 : Int32) (u1 : Int32) (σ : zS) : Option (Int32 × zS) := zgd (zin u1 8) (zlt (zup σ 19 b u1.toNatClampNeg u0) fun s11 => (fR_apart b y5 s11).bind fun r14 => zgd (zin y5 8) (zlt (zup s11 18 b y5.toNatClampNeg r14) fun s15 => zlt (zup s15 2 b 9 ((s15 2 b 9) + 1)) fun s17 => some (y5, s17)))
set_option maxHeartbeats 4000000 in
theorem kR_add_J60 (b : Nat) (d : Nat) (hd : 2 ≤ d)  : ∀ (y5 : Int32) (u0 : Int32) (u1 : Int32) (σ : zS) (w : Int32 × zS) (z1 : Option zA) (z2 : Option zA) (z3 : Option zA) (z4 : Option zA) (hz4 : znl z4 = true), fR_add_J60 b y5 u0 u1 σ = some w → zEv d 18 60 [some (zR 2 b), z1, z2, z3, z4, some (zI y5)] [zI u0, zI u1, zR 19 b] σ (some (zI w.1), w.2) := by
  intro y5 u0 u1 σ w z1 z2 z3 z4 hz4 h
  unfold fR_add_J60 at h
  refine ev_iast i18_60 rfl (n := 8) rfl (p := 61) rfl h (fun g12 h => ?_)
  refine ev_lets h (fun s11 es11 h => ?_)
  refine ev_s i18_61 (p := 62) rfl ?_
  refine ev_getf i18_62 zf2_24 (u := zR 18 b) rfl (p := 65) rfl ?_
  refine ev_s i18_65 (p := 67) rfl ?_
  refine ev_s i18_67 (p := 68) rfl ?_
  refine ev_s i18_68 (p := 70) rfl ?_
  obtain ⟨r14, hr13, h⟩ := bd_some h
  refine ev_callV i18_70 zc2_62 zm22 zo22 (as' := [zI y5]) (rest := [zI y5, zR 18 b]) rfl rfl (Nat.le_of_ble_eq_true rfl) (Nat.le_of_ble_eq_true rfl) (Nat.le_of_ble_eq_true rfl) (by omega) (l0 := [some (zR 2 b), some (zI y5), none]) rfl (p := 73) rfl (kR_apart b y5 s11 r14 hr13 (d - 1) (by omega)) ?_
  change zEv d 18 73 [some (zR 2 b), z1, z2, z3, z4, some (zI y5)] [zI r14, zI y5, zR 18 b] s11 _
  refine ev_iast i18_73 rfl (n := 8) rfl (p := 74) rfl h (fun g16 h => ?_)
  refine ev_lets h (fun s15 es15 h => ?_)
  refine ev_s i18_74 (p := 75) rfl ?_
  refine ev_s i18_75 (p := 76) rfl ?_
  refine ev_getf i18_76 zf2_53 (u := zI (s15 2 b 9)) rfl (p := 79) rfl ?_
  refine ev_s i18_79 (p := 80) (zic_1 _ _ _ _ _) ?_
  refine ev_s i18_80 (p := 81) (t := [zI ((s15 2 b 9) + 1), zR 2 b]) rfl ?_
  refine ev_putf i18_81 zf2_53 rfl rfl rfl (p := 84) rfl ?_
  refine ev_lets h (fun s17 es17 h => ?_)
  refine ev_s i18_84 (p := 86) rfl ?_
  obtain rfl := Option.some.inj h
  exact ev_iret i18_86 zr18
def fR_add (b : Nat) (x1 : Int32) (x2 : Int32) (x3 : Int32) (x4 : Int32) (σ : zS) : Option (Int32 × zS) := zlt (σ 2 b 9) fun v1 => zgd (zin v1 8) (zlt (zup σ 14 b v1.toNatClampNeg (x1 / 10)) fun s2 => zgd (zin v1 8) (zlt (zup s2 15 b v1.toNatClampNeg (x1 - x1 / 10 * 10)) fun s4 => zgd (zin v1 8) (zlt (zup s4 17 b v1.toNatClampNeg x3) fun s6 => zgd (zin v1 8) (zlt (zup s6 16 b v1.toNatClampNeg x2) fun s8 => (if x2 < 0 then fR_add_J60 b v1 0 v1 s8 else fR_add_J60 b v1 x4 v1 s8)))))
set_option maxHeartbeats 4000000 in
theorem kR_add (b : Nat) (x1 : Int32) (x2 : Int32) (x3 : Int32) (x4 : Int32) (σ : zS) (w : Int32 × zS) (h : fR_add b x1 x2 x3 x4 σ = some w) (d : Nat) (hd : 2 ≤ d) : zEv d 18 0 [some (zR 2 b), some (zI x1), some (zI x2), some (zI x3), some (zI x4), none] [] σ (some (zI w.1), w.2) := by
  unfold fR_add at h
  refine ev_s i18_0 (p := 1) rfl ?_
  refine ev_getf i18_1 zf2_53 (u := zI (σ 2 b 9)) rfl (p := 4) rfl ?_
  refine ev_let h (fun v1 ev1 h => ?_)
  refine ev_s i18_4 (p := 6) (l := [some (zR 2 b), some (zI x1), some (zI x2), some (zI x3), some (zI x4), some (zI v1)]) rfl ?_
  refine ev_s i18_6 (p := 7) rfl ?_
  refine ev_getf i18_7 zf2_9 (u := zR 14 b) rfl (p := 10) rfl ?_
  refine ev_s i18_10 (p := 12) rfl ?_
  refine ev_s i18_12 (p := 13) rfl ?_
  refine ev_s i18_13 (p := 15) (zib_10 _ _ _ _ _) ?_
  refine ev_idivK i18_15 (p := 16) rfl (by decide) ?_
  refine ev_iast i18_16 rfl (n := 8) rfl (p := 17) rfl h (fun g3 h => ?_)
  refine ev_lets h (fun s2 es2 h => ?_)
  refine ev_s i18_17 (p := 18) rfl ?_
  refine ev_getf i18_18 zf2_15 (u := zR 15 b) rfl (p := 21) rfl ?_
  refine ev_s i18_21 (p := 23) rfl ?_
  refine ev_s i18_23 (p := 24) rfl ?_
  refine ev_s i18_24 (p := 26) (zib_10 _ _ _ _ _) ?_
  refine ev_iremK i18_26 (p := 27) rfl (by decide) ?_
  refine ev_iast i18_27 rfl (n := 8) rfl (p := 28) rfl h (fun g5 h => ?_)
  refine ev_lets h (fun s4 es4 h => ?_)
  refine ev_s i18_28 (p := 29) rfl ?_
  refine ev_getf i18_29 zf2_21 (u := zR 17 b) rfl (p := 32) rfl ?_
  refine ev_s i18_32 (p := 34) rfl ?_
  refine ev_s i18_34 (p := 35) rfl ?_
  refine ev_iast i18_35 rfl (n := 8) rfl (p := 36) rfl h (fun g7 h => ?_)
  refine ev_lets h (fun s6 es6 h => ?_)
  refine ev_s i18_36 (p := 37) rfl ?_
  refine ev_getf i18_37 zf2_18 (u := zR 16 b) rfl (p := 40) rfl ?_
  refine ev_s i18_40 (p := 42) rfl ?_
  refine ev_s i18_42 (p := 43) rfl ?_
  refine ev_iast i18_43 rfl (n := 8) rfl (p := 44) rfl h (fun g9 h => ?_)
  refine ev_lets h (fun s8 es8 h => ?_)
  refine ev_s i18_44 (p := 45) rfl ?_
  refine ev_getf i18_45 zf2_27 (u := zR 19 b) rfl (p := 48) rfl ?_
  refine ev_s i18_48 (p := 50) rfl ?_
  refine ev_s i18_50 (p := 51) rfl ?_
  refine ev_iflt i18_51 (t := 59) (by decide) (p := 54) rfl h (fun c10 h => ?_) (fun c10 h => ?_)
  · refine ev_s i18_59 (p := 60) (zic_0 _ _ _ _ _) ?_
    exact kR_add_J60 b d hd v1 0 v1 s8 w _ _ _ _ rfl h
  · refine ev_s i18_54 (p := 56) rfl ?_
    refine ev_goto i18_56 (t := 60) (by decide) ?_
    exact kR_add_J60 b d hd v1 x4 v1 s8 w _ _ _ _ rfl h
/-! fA_refuse -/
def fA_refuse (x1 : Int32) (σ : zS) : Option (Int32 × zS) := (if x1 < 1 then some ((-1000000000) - x1, σ) else (if 6 < x1 then some ((-1000000000) - x1, σ) else zgd (zin x1 7) (zgd (zin x1 7) (zlt (zup σ 26 0 x1.toNatClampNeg ((σ 26 0 x1.toNatClampNeg) + 1)) fun s4 => some ((-1000000000) - x1, s4)))))
set_option maxHeartbeats 4000000 in
theorem kA_refuse (x1 : Int32) (σ : zS) (w : Int32 × zS) (h : fA_refuse x1 σ = some w) (d : Nat) (hd : 0 ≤ d) : zEv d 102 0 [some (zR 7 0), some (zI x1)] [] σ (some (zI w.1), w.2) := by
  unfold fA_refuse at h
  refine ev_s i102_0 (p := 1) rfl ?_
  refine ev_s i102_1 (p := 2) (zic_1 _ _ _ _ _) ?_
  refine ev_cmplt i102_2 (t := 21) (by decide) (p := 5) rfl h (fun c1 h => ?_) (fun c1 h => ?_)
  · refine ev_s i102_21 (p := 24) (zkw7_269 0 _ _ _ _) ?_
    refine ev_s i102_24 (p := 25) rfl ?_
    refine ev_s i102_25 (p := 26) (t := [zI ((-1000000000) - x1)]) rfl ?_
    obtain rfl := Option.some.inj h
    exact ev_iret i102_26 zr102
  · refine ev_s i102_5 (p := 6) rfl ?_
    refine ev_s i102_6 (p := 8) (zib_6 _ _ _ _ _) ?_
    refine ev_cmpgt i102_8 (t := 21) (by decide) (p := 11) rfl h (fun c2 h => ?_) (fun c2 h => ?_)
    · refine ev_s i102_21 (p := 24) (zkw7_269 0 _ _ _ _) ?_
      refine ev_s i102_24 (p := 25) rfl ?_
      refine ev_s i102_25 (p := 26) (t := [zI ((-1000000000) - x1)]) rfl ?_
      obtain rfl := Option.some.inj h
      exact ev_iret i102_26 zr102
    · refine ev_s i102_11 (p := 12) rfl ?_
      refine ev_getf i102_12 zf7_39 (u := zR 26 0) rfl (p := 15) rfl ?_
      refine ev_s i102_15 (p := 16) rfl ?_
      refine ev_s i102_16 (p := 17) rfl ?_
      refine ev_iald i102_17 rfl (n := 7) rfl (p := 18) rfl h (fun g3 h => ?_)
      refine ev_s i102_18 (p := 19) (zic_1 _ _ _ _ _) ?_
      refine ev_s i102_19 (p := 20) (t := [zI ((σ 26 0 x1.toNatClampNeg) + 1), zI x1, zR 26 0]) rfl ?_
      refine ev_iast i102_20 rfl (n := 7) rfl (p := 21) rfl h (fun g5 h => ?_)
      refine ev_lets h (fun s4 es4 h => ?_)
      refine ev_s i102_21 (p := 24) (zkw7_269 0 _ _ _ _) ?_
      refine ev_s i102_24 (p := 25) rfl ?_
      refine ev_s i102_25 (p := 26) (t := [zI ((-1000000000) - x1)]) rfl ?_
      obtain rfl := Option.some.inj h
      exact ev_iret i102_26 zr102
/-! fA_one -/
def fA_one_J53 (σ : zS) : Option (Int32 × zS) := zb2 (fA_refuse 1 σ) fun r24 s23 => some (r24, s23)
set_option maxHeartbeats 4000000 in
theorem kA_one_J53  (d : Nat) (hd : 3 ≤ d)  : ∀ (σ : zS) (w : Int32 × zS) (z1 : Option zA) (z2 : Option zA) (z3 : Option zA) (z4 : Option zA) (hz4 : znl z4 = true) (z5 : Option zA), fA_one_J53 σ = some w → zEv d 61 53 [some (zR 7 0), z1, z2, z3, z4, z5] [] σ (some (zI w.1), w.2) := by
  intro σ w z1 z2 z3 z4 hz4 z5 h
  unfold fA_one_J53 at h
  refine ev_s i61_53 (p := 54) rfl ?_
  refine ev_s i61_54 (p := 55) (zic_1 _ _ _ _ _) ?_
  obtain ⟨r24, s23, hr22, h⟩ := b2_some h
  refine ev_callV i61_55 zc7_72 zm102 zo102 (as' := [zI 1]) (rest := []) rfl rfl (Nat.le_of_ble_eq_true rfl) (Nat.le_of_ble_eq_true rfl) (Nat.le_of_ble_eq_true rfl) (by omega) (l0 := [some (zR 7 0), some (zI 1)]) rfl (p := 58) rfl (kA_refuse 1 σ (r24, s23) hr22 (d - 1) (by omega)) ?_
  change zEv d 61 58 [some (zR 7 0), z1, z2, z3, z4, z5] [zI r24] s23 _
  obtain rfl := Option.some.inj h
  exact ev_iret i61_58 zr61
def fA_one_J48 (y1 : Int32) (y2 : Int32) (y3 : Int32) (y4 : Int32) (y5 : Int32) (σ : zS) : Option (Int32 × zS) := (if y5 = 0 then fA_one_J53 σ else (if (σ 2 0 9) < 8 then zb2 (fR_add 0 y1 y2 y3 y4 σ) fun r18 s17 => some (r18, s17) else zb2 (fA_refuse 4 σ) fun r21 s20 => some (r21, s20)))
set_option maxHeartbeats 4000000 in
theorem kA_one_J48  (d : Nat) (hd : 3 ≤ d)  : ∀ (y1 : Int32) (y2 : Int32) (y3 : Int32) (y4 : Int32) (y5 : Int32) (σ : zS) (w : Int32 × zS), fA_one_J48 y1 y2 y3 y4 y5 σ = some w → zEv d 61 48 [some (zR 7 0), some (zI y1), some (zI y2), some (zI y3), some (zI y4), some (zI y5)] [] σ (some (zI w.1), w.2) := by
  intro y1 y2 y3 y4 y5 σ w h
  unfold fA_one_J48 at h
  refine ev_s i61_48 (p := 50) rfl ?_
  refine ev_ifne i61_50 (t := 59) (by decide) (p := 53) rfl h (fun c14 h => ?_) (fun c14 h => ?_)
  · exact kA_one_J53 d hd σ w _ _ _ _ rfl _ h
  · refine ev_s i61_59 (p := 60) rfl ?_
    refine ev_getf i61_60 zf7_47 (u := zR 2 0) rfl (p := 63) rfl ?_
    refine ev_getf i61_63 zf7_76 (u := zI (σ 2 0 9)) rfl (p := 66) rfl ?_
    refine ev_s i61_66 (p := 68) (zib_8 _ _ _ _ _) ?_
    refine ev_cmplt i61_68 (t := 77) (by decide) (p := 71) rfl h (fun c15 h => ?_) (fun c15 h => ?_)
    · refine ev_s i61_77 (p := 78) rfl ?_
      refine ev_getf i61_78 zf7_47 (u := zR 2 0) rfl (p := 81) rfl ?_
      refine ev_s i61_81 (p := 82) rfl ?_
      refine ev_s i61_82 (p := 83) rfl ?_
      refine ev_s i61_83 (p := 84) rfl ?_
      refine ev_s i61_84 (p := 86) rfl ?_
      obtain ⟨r18, s17, hr16, h⟩ := b2_some h
      refine ev_callV i61_86 zc7_80 zm18 zo18 (as' := [zI y1, zI y2, zI y3, zI y4]) (rest := []) rfl rfl (Nat.le_of_ble_eq_true rfl) (Nat.le_of_ble_eq_true rfl) (Nat.le_of_ble_eq_true rfl) (by omega) (l0 := [some (zR 2 0), some (zI y1), some (zI y2), some (zI y3), some (zI y4), none]) rfl (p := 89) rfl (kR_add 0 y1 y2 y3 y4 σ (r18, s17) hr16 (d - 1) (by omega)) ?_
      change zEv d 61 89 [some (zR 7 0), some (zI y1), some (zI y2), some (zI y3), some (zI y4), some (zI y5)] [zI r18] s17 _
      obtain rfl := Option.some.inj h
      exact ev_iret i61_89 zr61
    · refine ev_s i61_71 (p := 72) rfl ?_
      refine ev_s i61_72 (p := 73) (zic_4 _ _ _ _ _) ?_
      obtain ⟨r21, s20, hr19, h⟩ := b2_some h
      refine ev_callV i61_73 zc7_72 zm102 zo102 (as' := [zI 4]) (rest := []) rfl rfl (Nat.le_of_ble_eq_true rfl) (Nat.le_of_ble_eq_true rfl) (Nat.le_of_ble_eq_true rfl) (by omega) (l0 := [some (zR 7 0), some (zI 4)]) rfl (p := 76) rfl (kA_refuse 4 σ (r21, s20) hr19 (d - 1) (by omega)) ?_
      change zEv d 61 76 [some (zR 7 0), some (zI y1), some (zI y2), some (zI y3), some (zI y4), some (zI y5)] [zI r21] s20 _
      obtain rfl := Option.some.inj h
      exact ev_iret i61_76 zr61
def fA_one_J24 (y1 : Int32) (y2 : Int32) (y3 : Int32) (y4 : Int32) (u0 : Int32) (σ : zS) : Option (Int32 × zS) := (fA_within y1 69).bind fun r8 => (if r8 = 0 then fA_one_J53 σ else (if y2 = (-1) then fA_one_J48 y1 y2 y3 y4 u0 σ else (fA_isThere y2 σ).bind fun r12 => (if r12 = 0 then fA_one_J53 σ else fA_one_J48 y1 y2 y3 y4 u0 σ)))
set_option maxHeartbeats 4000000 in
theorem kA_one_J24  (d : Nat) (hd : 3 ≤ d)  : ∀ (y1 : Int32) (y2 : Int32) (y3 : Int32) (y4 : Int32) (u0 : Int32) (σ : zS) (w : Int32 × zS) (z5 : Option zA), fA_one_J24 y1 y2 y3 y4 u0 σ = some w → zEv d 61 24 [some (zR 7 0), some (zI y1), some (zI y2), some (zI y3), some (zI y4), z5] [zI u0] σ (some (zI w.1), w.2) := by
  intro y1 y2 y3 y4 u0 σ w z5 h
  unfold fA_one_J24 at h
  refine ev_s i61_24 (p := 26) (l := [some (zR 7 0), some (zI y1), some (zI y2), some (zI y3), some (zI y4), some (zI u0)]) rfl ?_
  refine ev_s i61_26 (p := 27) rfl ?_
  refine ev_s i61_27 (p := 29) (zib_69 _ _ _ _ _) ?_
  obtain ⟨r8, hr7, h⟩ := bd_some h
  refine ev_callS i61_29 zn7_64 zc7_64 zm103 (as := [zI y1, zI 69]) (rest := []) rfl rfl (Nat.le_of_ble_eq_true rfl) (Nat.le_of_ble_eq_true rfl) (Nat.le_of_ble_eq_true rfl) (by omega) (l0 := [some (zI y1), some (zI 69)]) rfl (p := 32) rfl (kA_within y1 69 σ r8 hr7 (d - 1) (by omega)) ?_
  change zEv d 61 32 [some (zR 7 0), some (zI y1), some (zI y2), some (zI y3), some (zI y4), some (zI u0)] [zI r8] σ _
  refine ev_ifeq i61_32 (t := 53) (by decide) (p := 35) rfl h (fun c9 h => ?_) (fun c9 h => ?_)
  · exact kA_one_J53 d hd σ w _ _ _ _ rfl _ h
  · refine ev_s i61_35 (p := 36) rfl ?_
    refine ev_s i61_36 (p := 37) (zic_m1 _ _ _ _ _) ?_
    refine ev_cmpeq i61_37 (t := 48) (by decide) (p := 40) rfl h (fun c10 h => ?_) (fun c10 h => ?_)
    · exact kA_one_J48 d hd y1 y2 y3 y4 u0 σ w h
    · refine ev_s i61_40 (p := 41) rfl ?_
      refine ev_s i61_41 (p := 42) rfl ?_
      obtain ⟨r12, hr11, h⟩ := bd_some h
      refine ev_callV i61_42 zc7_68 zm104 zo104 (as' := [zI y2]) (rest := []) rfl rfl (Nat.le_of_ble_eq_true rfl) (Nat.le_of_ble_eq_true rfl) (Nat.le_of_ble_eq_true rfl) (by omega) (l0 := [some (zR 7 0), some (zI y2)]) rfl (p := 45) rfl (kA_isThere y2 σ r12 hr11 (d - 1) (by omega)) ?_
      change zEv d 61 45 [some (zR 7 0), some (zI y1), some (zI y2), some (zI y3), some (zI y4), some (zI u0)] [zI r12] σ _
      refine ev_ifeq i61_45 (t := 53) (by decide) (p := 48) rfl h (fun c13 h => ?_) (fun c13 h => ?_)
      · exact kA_one_J53 d hd σ w _ _ _ _ rfl _ h
      · exact kA_one_J48 d hd y1 y2 y3 y4 u0 σ w h
def fA_one_J23 (y1 : Int32) (y2 : Int32) (y3 : Int32) (y4 : Int32) (σ : zS) : Option (Int32 × zS) := fA_one_J24 y1 y2 y3 y4 0 σ
set_option maxHeartbeats 4000000 in
theorem kA_one_J23  (d : Nat) (hd : 3 ≤ d)  : ∀ (y1 : Int32) (y2 : Int32) (y3 : Int32) (y4 : Int32) (σ : zS) (w : Int32 × zS) (z5 : Option zA), fA_one_J23 y1 y2 y3 y4 σ = some w → zEv d 61 23 [some (zR 7 0), some (zI y1), some (zI y2), some (zI y3), some (zI y4), z5] [] σ (some (zI w.1), w.2) := by
  intro y1 y2 y3 y4 σ w z5 h
  unfold fA_one_J23 at h
  refine ev_s i61_23 (p := 24) (zic_0 _ _ _ _ _) ?_
  exact kA_one_J24 d hd y1 y2 y3 y4 0 σ w _ h
def fA_one (x1 : Int32) (x2 : Int32) (x3 : Int32) (x4 : Int32) (σ : zS) : Option (Int32 × zS) := (fA_within x3 63).bind fun r2 => (if r2 = 0 then fA_one_J23 x1 x2 x3 x4 σ else (fA_within x4 99).bind fun r5 => (if r5 = 0 then fA_one_J23 x1 x2 x3 x4 σ else fA_one_J24 x1 x2 x3 x4 1 σ))
set_option maxHeartbeats 4000000 in
theorem kA_one (x1 : Int32) (x2 : Int32) (x3 : Int32) (x4 : Int32) (σ : zS) (w : Int32 × zS) (h : fA_one x1 x2 x3 x4 σ = some w) (d : Nat) (hd : 3 ≤ d) : zEv d 61 0 [some (zR 7 0), some (zI x1), some (zI x2), some (zI x3), some (zI x4), none] [] σ (some (zI w.1), w.2) := by
  unfold fA_one at h
  refine ev_s i61_0 (p := 1) rfl ?_
  refine ev_s i61_1 (p := 3) (zib_63 _ _ _ _ _) ?_
  obtain ⟨r2, hr1, h⟩ := bd_some h
  refine ev_callS i61_3 zn7_64 zc7_64 zm103 (as := [zI x3, zI 63]) (rest := []) rfl rfl (Nat.le_of_ble_eq_true rfl) (Nat.le_of_ble_eq_true rfl) (Nat.le_of_ble_eq_true rfl) (by omega) (l0 := [some (zI x3), some (zI 63)]) rfl (p := 6) rfl (kA_within x3 63 σ r2 hr1 (d - 1) (by omega)) ?_
  change zEv d 61 6 [some (zR 7 0), some (zI x1), some (zI x2), some (zI x3), some (zI x4), none] [zI r2] σ _
  refine ev_ifeq i61_6 (t := 23) (by decide) (p := 9) rfl h (fun c3 h => ?_) (fun c3 h => ?_)
  · exact kA_one_J23 d hd x1 x2 x3 x4 σ w _ h
  · refine ev_s i61_9 (p := 11) rfl ?_
    refine ev_s i61_11 (p := 13) (zib_99 _ _ _ _ _) ?_
    obtain ⟨r5, hr4, h⟩ := bd_some h
    refine ev_callS i61_13 zn7_64 zc7_64 zm103 (as := [zI x4, zI 99]) (rest := []) rfl rfl (Nat.le_of_ble_eq_true rfl) (Nat.le_of_ble_eq_true rfl) (Nat.le_of_ble_eq_true rfl) (by omega) (l0 := [some (zI x4), some (zI 99)]) rfl (p := 16) rfl (kA_within x4 99 σ r5 hr4 (d - 1) (by omega)) ?_
    change zEv d 61 16 [some (zR 7 0), some (zI x1), some (zI x2), some (zI x3), some (zI x4), none] [zI r5] σ _
    refine ev_ifeq i61_16 (t := 23) (by decide) (p := 19) rfl h (fun c6 h => ?_) (fun c6 h => ?_)
    · exact kA_one_J23 d hd x1 x2 x3 x4 σ w _ h
    · refine ev_s i61_19 (p := 20) (zic_1 _ _ _ _ _) ?_
      refine ev_goto i61_20 (t := 24) (by decide) ?_
      exact kA_one_J24 d hd x1 x2 x3 x4 1 σ w _ h
/-! fM_in -/
def fM_in (x0 : Int32) (x1 : Int32) (x2 : Int32) : Option (Int32) := (if x0 < x1 then some (0) else (if x2 < x0 then some (0) else some (1)))
set_option maxHeartbeats 4000000 in
theorem kM_in (x0 : Int32) (x1 : Int32) (x2 : Int32) (σ : zS) (w : Int32) (h : fM_in x0 x1 x2 = some w) (d : Nat) (hd : 0 ≤ d) : zEv d 111 0 [some (zI x0), some (zI x1), some (zI x2)] [] σ (some (zI w), σ) := by
  unfold fM_in at h
  refine ev_s i111_0 (p := 1) rfl ?_
  refine ev_s i111_1 (p := 2) rfl ?_
  refine ev_cmplt i111_2 (t := 14) (by decide) (p := 5) rfl h (fun c1 h => ?_) (fun c1 h => ?_)
  · refine ev_s i111_14 (p := 15) (zic_0 _ _ _ _ _) ?_
    obtain rfl := Option.some.inj h
    exact ev_zret i111_15 zr111 (by decide)
  · refine ev_s i111_5 (p := 6) rfl ?_
    refine ev_s i111_6 (p := 7) rfl ?_
    refine ev_cmpgt i111_7 (t := 14) (by decide) (p := 10) rfl h (fun c2 h => ?_) (fun c2 h => ?_)
    · refine ev_s i111_14 (p := 15) (zic_0 _ _ _ _ _) ?_
      obtain rfl := Option.some.inj h
      exact ev_zret i111_15 zr111 (by decide)
    · refine ev_s i111_10 (p := 11) (zic_1 _ _ _ _ _) ?_
      refine ev_goto i111_11 (t := 15) (by decide) ?_
      obtain rfl := Option.some.inj h
      exact ev_zret i111_15 zr111 (by decide)
/-! fM_isKm -/
def fM_isKm (x0 : Int32) : Option (Int32) := (fM_in x0 0 69).bind fun r2 => zgd (r2 = 0 ∨ r2 = 1) (some (r2))
set_option maxHeartbeats 4000000 in
theorem kM_isKm (x0 : Int32) (σ : zS) (w : Int32) (h : fM_isKm x0 = some w) (d : Nat) (hd : 1 ≤ d) : zEv d 158 0 [some (zI x0)] [] σ (some (zI w), σ) := by
  unfold fM_isKm at h
  refine ev_s i158_0 (p := 1) rfl ?_
  refine ev_s i158_1 (p := 2) (zic_0 _ _ _ _ _) ?_
  refine ev_s i158_2 (p := 4) (zib_69 _ _ _ _ _) ?_
  obtain ⟨r2, hr1, h⟩ := bd_some h
  refine ev_callS i158_4 zn8_50 zc8_50 zm111 (as := [zI x0, zI 0, zI 69]) (rest := []) rfl rfl (Nat.le_of_ble_eq_true rfl) (Nat.le_of_ble_eq_true rfl) (Nat.le_of_ble_eq_true rfl) (by omega) (l0 := [some (zI x0), some (zI 0), some (zI 69)]) rfl (p := 7) rfl (kM_in x0 0 69 σ r2 hr1 (d - 1) (by omega)) ?_
  change zEv d 158 7 [some (zI x0)] [zI r2] σ _
  obtain ⟨g3, h⟩ := zgd_some h
  obtain rfl := Option.some.inj h
  exact ev_zret i158_7 zr158 g3
/-! fM_isCell -/
def fM_isCell (x0 : Int32) : Option (Int32) := (fM_in x0 0 63).bind fun r2 => zgd (r2 = 0 ∨ r2 = 1) (some (r2))
set_option maxHeartbeats 4000000 in
theorem kM_isCell (x0 : Int32) (σ : zS) (w : Int32) (h : fM_isCell x0 = some w) (d : Nat) (hd : 1 ≤ d) : zEv d 117 0 [some (zI x0)] [] σ (some (zI w), σ) := by
  unfold fM_isCell at h
  refine ev_s i117_0 (p := 1) rfl ?_
  refine ev_s i117_1 (p := 2) (zic_0 _ _ _ _ _) ?_
  refine ev_s i117_2 (p := 4) (zib_63 _ _ _ _ _) ?_
  obtain ⟨r2, hr1, h⟩ := bd_some h
  refine ev_callS i117_4 zn8_50 zc8_50 zm111 (as := [zI x0, zI 0, zI 63]) (rest := []) rfl rfl (Nat.le_of_ble_eq_true rfl) (Nat.le_of_ble_eq_true rfl) (Nat.le_of_ble_eq_true rfl) (by omega) (l0 := [some (zI x0), some (zI 0), some (zI 63)]) rfl (p := 7) rfl (kM_in x0 0 63 σ r2 hr1 (d - 1) (by omega)) ?_
  change zEv d 117 7 [some (zI x0)] [zI r2] σ _
  obtain ⟨g3, h⟩ := zgd_some h
  obtain rfl := Option.some.inj h
  exact ev_zret i117_7 zr117 g3
/-! fM_error -/
def fM_error (x1 : Int32) (σ : zS) : Option (Int32 × zS) := zgd (zin x1 7) (zgd (zin x1 7) (zlt (zup σ 34 0 x1.toNatClampNeg ((σ 34 0 x1.toNatClampNeg) + 1)) fun s2 => some ((-1000000000) - x1, s2)))
set_option maxHeartbeats 4000000 in
theorem kM_error (x1 : Int32) (σ : zS) (w : Int32 × zS) (h : fM_error x1 σ = some w) (d : Nat) (hd : 0 ≤ d) : zEv d 110 0 [some (zR 8 0), some (zI x1)] [] σ (some (zI w.1), w.2) := by
  unfold fM_error at h
  refine ev_s i110_0 (p := 1) rfl ?_
  refine ev_getf i110_1 zf8_22 (u := zR 34 0) rfl (p := 4) rfl ?_
  refine ev_s i110_4 (p := 5) rfl ?_
  refine ev_s i110_5 (p := 6) rfl ?_
  refine ev_iald i110_6 rfl (n := 7) rfl (p := 7) rfl h (fun g1 h => ?_)
  refine ev_s i110_7 (p := 8) (zic_1 _ _ _ _ _) ?_
  refine ev_s i110_8 (p := 9) (t := [zI ((σ 34 0 x1.toNatClampNeg) + 1), zI x1, zR 34 0]) rfl ?_
  refine ev_iast i110_9 rfl (n := 7) rfl (p := 10) rfl h (fun g3 h => ?_)
  refine ev_lets h (fun s2 es2 h => ?_)
  refine ev_s i110_10 (p := 12) (zk8_49 0 _ _ _ _) ?_
  refine ev_s i110_12 (p := 13) rfl ?_
  refine ev_s i110_13 (p := 14) (t := [zI ((-1000000000) - x1)]) rfl ?_
  obtain rfl := Option.some.inj h
  exact ev_iret i110_14 zr110
/-! fM_lays1 -/
def fM_lays1 (x1 : Int32) (x2 : Int32) (x3 : Int32) (σ : zS) : Option (zS) := zgd (zin ((12 + (6 * x1)) + x2) 394) (zlt (zup σ 30 0 ((12 + (6 * x1)) + x2).toNatClampNeg x3) fun s1 => some s1)
set_option maxHeartbeats 4000000 in
theorem kM_lays1 (x1 : Int32) (x2 : Int32) (x3 : Int32) (σ : zS) (w : zS) (h : fM_lays1 x1 x2 x3 σ = some w) (d : Nat) (hd : 0 ≤ d) : zEv d 119 0 [some (zR 8 0), some (zI x1), some (zI x2), some (zI x3)] [] σ (none, w) := by
  unfold fM_lays1 at h
  refine ev_s i119_0 (p := 1) rfl ?_
  refine ev_getf i119_1 zf8_7 (u := zR 30 0) rfl (p := 4) rfl ?_
  refine ev_s i119_4 (p := 6) (zib_12 _ _ _ _ _) ?_
  refine ev_s i119_6 (p := 8) (zib_6 _ _ _ _ _) ?_
  refine ev_s i119_8 (p := 9) rfl ?_
  refine ev_s i119_9 (p := 10) (t := [zI (6 * x1), zI 12, zR 30 0]) rfl ?_
  refine ev_s i119_10 (p := 11) (t := [zI (12 + (6 * x1)), zR 30 0]) rfl ?_
  refine ev_s i119_11 (p := 12) rfl ?_
  refine ev_s i119_12 (p := 13) (t := [zI ((12 + (6 * x1)) + x2), zR 30 0]) rfl ?_
  refine ev_s i119_13 (p := 14) rfl ?_
  refine ev_iast i119_14 rfl (n := 394) rfl (p := 15) rfl h (fun g2 h => ?_)
  refine ev_lets h (fun s1 es1 h => ?_)
  obtain rfl := Option.some.inj h
  exact ev_vret i119_15 zr119
/-! fM_its -/
def fM_its (x1 : Int32) (x2 : Int32) (σ : zS) : Option (Int32) := zgd (zin ((12 + (6 * x1)) + x2) 394) (some (σ 30 0 ((12 + (6 * x1)) + x2).toNatClampNeg))
set_option maxHeartbeats 4000000 in
theorem kM_its (x1 : Int32) (x2 : Int32) (σ : zS) (w : Int32) (h : fM_its x1 x2 σ = some w) (d : Nat) (hd : 0 ≤ d) : zEv d 118 0 [some (zR 8 0), some (zI x1), some (zI x2)] [] σ (some (zI w), σ) := by
  unfold fM_its at h
  refine ev_s i118_0 (p := 1) rfl ?_
  refine ev_getf i118_1 zf8_7 (u := zR 30 0) rfl (p := 4) rfl ?_
  refine ev_s i118_4 (p := 6) (zib_12 _ _ _ _ _) ?_
  refine ev_s i118_6 (p := 8) (zib_6 _ _ _ _ _) ?_
  refine ev_s i118_8 (p := 9) rfl ?_
  refine ev_s i118_9 (p := 10) (t := [zI (6 * x1), zI 12, zR 30 0]) rfl ?_
  refine ev_s i118_10 (p := 11) (t := [zI (12 + (6 * x1)), zR 30 0]) rfl ?_
  refine ev_s i118_11 (p := 12) rfl ?_
  refine ev_s i118_12 (p := 13) (t := [zI ((12 + (6 * x1)) + x2), zR 30 0]) rfl ?_
  refine ev_iald i118_13 rfl (n := 394) rfl (p := 14) rfl h (fun g1 h => ?_)
  obtain rfl := Option.some.inj h
  exact ev_iret i118_14 zr118
/-! fM_isTied -/
def fM_isTied (x1 : Int32) (σ : zS) : Option (Int32) := (fM_its x1 2 σ).bind fun r2 => (if r2 < 0 then some (0) else some (1))
set_option maxHeartbeats 4000000 in
theorem kM_isTied (x1 : Int32) (σ : zS) (w : Int32) (h : fM_isTied x1 σ = some w) (d : Nat) (hd : 1 ≤ d) : zEv d 121 0 [some (zR 8 0), some (zI x1)] [] σ (some (zI w), σ) := by
  unfold fM_isTied at h
  refine ev_s i121_0 (p := 1) rfl ?_
  refine ev_s i121_1 (p := 2) rfl ?_
  refine ev_s i121_2 (p := 3) (zic_2 _ _ _ _ _) ?_
  obtain ⟨r2, hr1, h⟩ := bd_some h
  refine ev_callV i121_3 zc8_54 zm118 zo118 (as' := [zI x1, zI 2]) (rest := []) rfl rfl (Nat.le_of_ble_eq_true rfl) (Nat.le_of_ble_eq_true rfl) (Nat.le_of_ble_eq_true rfl) (by omega) (l0 := [some (zR 8 0), some (zI x1), some (zI 2)]) rfl (p := 6) rfl (kM_its x1 2 σ r2 hr1 (d - 1) (by omega)) ?_
  change zEv d 121 6 [some (zR 8 0), some (zI x1)] [zI r2] σ _
  refine ev_iflt i121_6 (t := 13) (by decide) (p := 9) rfl h (fun c3 h => ?_) (fun c3 h => ?_)
  · refine ev_s i121_13 (p := 14) (zic_0 _ _ _ _ _) ?_
    obtain rfl := Option.some.inj h
    exact ev_zret i121_14 zr121 (by decide)
  · refine ev_s i121_9 (p := 10) (zic_1 _ _ _ _ _) ?_
    refine ev_goto i121_10 (t := 14) (by decide) ?_
    obtain rfl := Option.some.inj h
    exact ev_zret i121_14 zr121 (by decide)
/-! fM_off -/
def fM_off (x0 : Int32) (x1 : Int32) : Option (Int32) := (if x1 ≤ x0 then some (x0 - x1) else some (x1 - x0))
set_option maxHeartbeats 4000000 in
theorem kM_off (x0 : Int32) (x1 : Int32) (σ : zS) (w : Int32) (h : fM_off x0 x1 = some w) (d : Nat) (hd : 0 ≤ d) : zEv d 145 0 [some (zI x0), some (zI x1)] [] σ (some (zI w), σ) := by
  unfold fM_off at h
  refine ev_s i145_0 (p := 1) rfl ?_
  refine ev_s i145_1 (p := 2) rfl ?_
  refine ev_cmpge i145_2 (t := 11) (by decide) (p := 5) rfl h (fun c1 h => ?_) (fun c1 h => ?_)
  · refine ev_s i145_11 (p := 12) rfl ?_
    refine ev_s i145_12 (p := 13) rfl ?_
    refine ev_s i145_13 (p := 14) (t := [zI (x0 - x1)]) rfl ?_
    obtain rfl := Option.some.inj h
    exact ev_iret i145_14 zr145
  · refine ev_s i145_5 (p := 6) rfl ?_
    refine ev_s i145_6 (p := 7) rfl ?_
    refine ev_s i145_7 (p := 8) (t := [zI (x1 - x0)]) rfl ?_
    refine ev_goto i145_8 (t := 14) (by decide) ?_
    obtain rfl := Option.some.inj h
    exact ev_iret i145_14 zr145
/-! fM_apartOf -/
def fM_apartOf (x1 : Int32) (σ : zS) : Option (Int32) := (fM_isTied x1 σ).bind fun r2 => (if r2 = 0 then some (0) else (fM_its x1 3 σ).bind fun r5 => (fM_its x1 2 σ).bind fun r7 => (fM_its r7 3 σ).bind fun r9 => (fM_off r5 r9).bind fun r11 => some (r11))
set_option maxHeartbeats 4000000 in
theorem kM_apartOf (x1 : Int32) (σ : zS) (w : Int32) (h : fM_apartOf x1 σ = some w) (d : Nat) (hd : 2 ≤ d) : zEv d 146 0 [some (zR 8 0), some (zI x1)] [] σ (some (zI w), σ) := by
  unfold fM_apartOf at h
  refine ev_s i146_0 (p := 1) rfl ?_
  refine ev_s i146_1 (p := 2) rfl ?_
  obtain ⟨r2, hr1, h⟩ := bd_some h
  refine ev_callV i146_2 zc8_140 zm121 zo121 (as' := [zI x1]) (rest := []) rfl rfl (Nat.le_of_ble_eq_true rfl) (Nat.le_of_ble_eq_true rfl) (Nat.le_of_ble_eq_true rfl) (by omega) (l0 := [some (zR 8 0), some (zI x1)]) rfl (p := 5) rfl (kM_isTied x1 σ r2 hr1 (d - 1) (by omega)) ?_
  change zEv d 146 5 [some (zR 8 0), some (zI x1)] [zI r2] σ _
  refine ev_ifeq i146_5 (t := 31) (by decide) (p := 8) rfl h (fun c3 h => ?_) (fun c3 h => ?_)
  · refine ev_s i146_31 (p := 32) (zic_0 _ _ _ _ _) ?_
    obtain rfl := Option.some.inj h
    exact ev_iret i146_32 zr146
  · refine ev_s i146_8 (p := 9) rfl ?_
    refine ev_s i146_9 (p := 10) rfl ?_
    refine ev_s i146_10 (p := 11) (zic_3 _ _ _ _ _) ?_
    obtain ⟨r5, hr4, h⟩ := bd_some h
    refine ev_callV i146_11 zc8_54 zm118 zo118 (as' := [zI x1, zI 3]) (rest := []) rfl rfl (Nat.le_of_ble_eq_true rfl) (Nat.le_of_ble_eq_true rfl) (Nat.le_of_ble_eq_true rfl) (by omega) (l0 := [some (zR 8 0), some (zI x1), some (zI 3)]) rfl (p := 14) rfl (kM_its x1 3 σ r5 hr4 (d - 1) (by omega)) ?_
    change zEv d 146 14 [some (zR 8 0), some (zI x1)] [zI r5] σ _
    refine ev_s i146_14 (p := 15) rfl ?_
    refine ev_s i146_15 (p := 16) rfl ?_
    refine ev_s i146_16 (p := 17) rfl ?_
    refine ev_s i146_17 (p := 18) (zic_2 _ _ _ _ _) ?_
    obtain ⟨r7, hr6, h⟩ := bd_some h
    refine ev_callV i146_18 zc8_54 zm118 zo118 (as' := [zI x1, zI 2]) (rest := [zR 8 0, zI r5]) rfl rfl (Nat.le_of_ble_eq_true rfl) (Nat.le_of_ble_eq_true rfl) (Nat.le_of_ble_eq_true rfl) (by omega) (l0 := [some (zR 8 0), some (zI x1), some (zI 2)]) rfl (p := 21) rfl (kM_its x1 2 σ r7 hr6 (d - 1) (by omega)) ?_
    change zEv d 146 21 [some (zR 8 0), some (zI x1)] [zI r7, zR 8 0, zI r5] σ _
    refine ev_s i146_21 (p := 22) (zic_3 _ _ _ _ _) ?_
    obtain ⟨r9, hr8, h⟩ := bd_some h
    refine ev_callV i146_22 zc8_54 zm118 zo118 (as' := [zI r7, zI 3]) (rest := [zI r5]) rfl rfl (Nat.le_of_ble_eq_true rfl) (Nat.le_of_ble_eq_true rfl) (Nat.le_of_ble_eq_true rfl) (by omega) (l0 := [some (zR 8 0), some (zI r7), some (zI 3)]) rfl (p := 25) rfl (kM_its r7 3 σ r9 hr8 (d - 1) (by omega)) ?_
    change zEv d 146 25 [some (zR 8 0), some (zI x1)] [zI r9, zI r5] σ _
    obtain ⟨r11, hr10, h⟩ := bd_some h
    refine ev_callS i146_25 zn8_143 zc8_143 zm145 (as := [zI r5, zI r9]) (rest := []) rfl rfl (Nat.le_of_ble_eq_true rfl) (Nat.le_of_ble_eq_true rfl) (Nat.le_of_ble_eq_true rfl) (by omega) (l0 := [some (zI r5), some (zI r9)]) rfl (p := 28) rfl (kM_off r5 r9 σ r11 hr10 (d - 1) (by omega)) ?_
    change zEv d 146 28 [some (zR 8 0), some (zI x1)] [zI r11] σ _
    refine ev_goto i146_28 (t := 32) (by decide) ?_
    obtain rfl := Option.some.inj h
    exact ev_iret i146_32 zr146
/-! fM_one -/
def fM_one_J137 (y5 : Int32) (u0 : Int32) (u1 : Int32) (u2 : Int32) (σ : zS) : Option (Int32 × zS) := (fM_lays1 u2 u1 u0 σ).bind fun s35 => zlt (zup s35 30 0 4 ((s35 30 0 4) + 1)) fun s36 => some (y5, s36)
set_option maxHeartbeats 4000000 in
theorem kM_one_J137  (d : Nat) (hd : 3 ≤ d)  : ∀ (y5 : Int32) (u0 : Int32) (u1 : Int32) (u2 : Int32) (σ : zS) (w : Int32 × zS) (z1 : Option zA) (z2 : Option zA) (z3 : Option zA) (z4 : Option zA) (hz4 : znl z4 = true), fM_one_J137 y5 u0 u1 u2 σ = some w → zEv d 159 137 [some (zR 8 0), z1, z2, z3, z4, some (zI y5)] [zI u0, zI u1, zI u2, zR 8 0] σ (some (zI w.1), w.2) := by
  intro y5 u0 u1 u2 σ w z1 z2 z3 z4 hz4 h
  unfold fM_one_J137 at h
  obtain ⟨s35, hr34, h⟩ := bd_some h
  refine ev_callV i159_137 zc8_149 zm119 zo119 (as' := [zI u2, zI u1, zI u0]) (rest := []) rfl rfl (Nat.le_of_ble_eq_true rfl) (Nat.le_of_ble_eq_true rfl) (Nat.le_of_ble_eq_true rfl) (by omega) (l0 := [some (zR 8 0), some (zI u2), some (zI u1), some (zI u0)]) rfl (p := 140) rfl (kM_lays1 u2 u1 u0 σ s35 hr34 (d - 1) (by omega)) ?_
  change zEv d 159 140 [some (zR 8 0), z1, z2, z3, z4, some (zI y5)] [] s35 _
  refine ev_s i159_140 (p := 141) rfl ?_
  refine ev_getf i159_141 zf8_7 (u := zR 30 0) rfl (p := 144) rfl ?_
  refine ev_s i159_144 (p := 145) (zic_4 _ _ _ _ _) ?_
  refine ev_s i159_145 (p := 146) rfl ?_
  refine ev_ialdK i159_146 rfl (n := 394) rfl (by decide) (p := 147) rfl ?_
  change zEv d 159 147 [some (zR 8 0), z1, z2, z3, z4, some (zI y5)] [zI (s35 30 0 4), zI 4, zR 30 0] s35 _
  refine ev_s i159_147 (p := 148) (zic_1 _ _ _ _ _) ?_
  refine ev_s i159_148 (p := 149) (t := [zI ((s35 30 0 4) + 1), zI 4, zR 30 0]) rfl ?_
  refine ev_iastK i159_149 rfl (n := 394) rfl (by decide) (p := 150) rfl ?_
  change zEv d 159 150 [some (zR 8 0), z1, z2, z3, z4, some (zI y5)] [] (zup s35 30 0 4 ((s35 30 0 4) + 1)) _
  refine ev_lets h (fun s36 es36 h => ?_)
  refine ev_s i159_150 (p := 152) rfl ?_
  obtain rfl := Option.some.inj h
  exact ev_iret i159_152 zr159
def fM_one_J41 (σ : zS) : Option (Int32 × zS) := zb2 (fM_error 1 σ) fun r33 s32 => some (r33, s32)
set_option maxHeartbeats 4000000 in
theorem kM_one_J41  (d : Nat) (hd : 3 ≤ d)  : ∀ (σ : zS) (w : Int32 × zS) (z1 : Option zA) (z2 : Option zA) (z3 : Option zA) (z4 : Option zA) (hz4 : znl z4 = true) (z5 : Option zA), fM_one_J41 σ = some w → zEv d 159 41 [some (zR 8 0), z1, z2, z3, z4, z5] [] σ (some (zI w.1), w.2) := by
  intro σ w z1 z2 z3 z4 hz4 z5 h
  unfold fM_one_J41 at h
  refine ev_s i159_41 (p := 42) rfl ?_
  refine ev_s i159_42 (p := 43) (zic_1 _ _ _ _ _) ?_
  obtain ⟨r33, s32, hr31, h⟩ := b2_some h
  refine ev_callV i159_43 zc8_58 zm110 zo110 (as' := [zI 1]) (rest := []) rfl rfl (Nat.le_of_ble_eq_true rfl) (Nat.le_of_ble_eq_true rfl) (Nat.le_of_ble_eq_true rfl) (by omega) (l0 := [some (zR 8 0), some (zI 1)]) rfl (p := 46) rfl (kM_error 1 σ (r33, s32) hr31 (d - 1) (by omega)) ?_
  change zEv d 159 46 [some (zR 8 0), z1, z2, z3, z4, z5] [zI r33] s32 _
  obtain rfl := Option.some.inj h
  exact ev_iret i159_46 zr159
def fM_one (x1 : Int32) (x2 : Int32) (x3 : Int32) (x4 : Int32) (σ : zS) : Option (Int32 × zS) := (fM_isKm x1).bind fun r2 => (if r2 = 0 then fM_one_J41 σ else (fM_in x2 (-1) ((σ 30 0 4) - 1)).bind fun r5 => (if r5 = 0 then fM_one_J41 σ else (fM_isCell x3).bind fun r8 => (if r8 = 0 then fM_one_J41 σ else (fM_in x4 0 99).bind fun r11 => (if r11 = 0 then fM_one_J41 σ else (if (σ 30 0 4) = 8 then zb2 (fM_error 4 σ) fun r16 s15 => some (r16, s15) else zlt (σ 30 0 4) fun v17 => (fM_lays1 v17 0 (x1 / 10) σ).bind fun s19 => (fM_lays1 v17 1 (x1 - x1 / 10 * 10) s19).bind fun s21 => (fM_lays1 v17 2 x2 s21).bind fun s23 => (fM_lays1 v17 3 x3 s23).bind fun s25 => (fM_apartOf v17 s25).bind fun r27 => (fM_lays1 v17 4 r27 s25).bind fun s29 => (if 0 ≤ x2 then fM_one_J137 v17 x4 5 v17 s29 else fM_one_J137 v17 0 5 v17 s29))))))
set_option maxHeartbeats 4000000 in
theorem kM_one (x1 : Int32) (x2 : Int32) (x3 : Int32) (x4 : Int32) (σ : zS) (w : Int32 × zS) (h : fM_one x1 x2 x3 x4 σ = some w) (d : Nat) (hd : 3 ≤ d) : zEv d 159 0 [some (zR 8 0), some (zI x1), some (zI x2), some (zI x3), some (zI x4), none] [] σ (some (zI w.1), w.2) := by
  unfold fM_one at h
  refine ev_s i159_0 (p := 1) rfl ?_
  obtain ⟨r2, hr1, h⟩ := bd_some h
  refine ev_callS i159_1 zn8_191 zc8_191 zm158 (as := [zI x1]) (rest := []) rfl rfl (Nat.le_of_ble_eq_true rfl) (Nat.le_of_ble_eq_true rfl) (Nat.le_of_ble_eq_true rfl) (by omega) (l0 := [some (zI x1)]) rfl (p := 4) rfl (kM_isKm x1 σ r2 hr1 (d - 1) (by omega)) ?_
  change zEv d 159 4 [some (zR 8 0), some (zI x1), some (zI x2), some (zI x3), some (zI x4), none] [zI r2] σ _
  refine ev_ifeq i159_4 (t := 41) (by decide) (p := 7) rfl h (fun c3 h => ?_) (fun c3 h => ?_)
  · exact kM_one_J41 d hd σ w _ _ _ _ rfl _ h
  · refine ev_s i159_7 (p := 8) rfl ?_
    refine ev_s i159_8 (p := 9) (zic_m1 _ _ _ _ _) ?_
    refine ev_s i159_9 (p := 10) rfl ?_
    refine ev_getf i159_10 zf8_7 (u := zR 30 0) rfl (p := 13) rfl ?_
    refine ev_s i159_13 (p := 14) (zic_4 _ _ _ _ _) ?_
    refine ev_ialdK i159_14 rfl (n := 394) rfl (by decide) (p := 15) rfl ?_
    change zEv d 159 15 [some (zR 8 0), some (zI x1), some (zI x2), some (zI x3), some (zI x4), none] [zI (σ 30 0 4), zI (-1), zI x2] σ _
    refine ev_s i159_15 (p := 16) (zic_1 _ _ _ _ _) ?_
    refine ev_s i159_16 (p := 17) (t := [zI ((σ 30 0 4) - 1), zI (-1), zI x2]) rfl ?_
    obtain ⟨r5, hr4, h⟩ := bd_some h
    refine ev_callS i159_17 zn8_50 zc8_50 zm111 (as := [zI x2, zI (-1), zI ((σ 30 0 4) - 1)]) (rest := []) rfl rfl (Nat.le_of_ble_eq_true rfl) (Nat.le_of_ble_eq_true rfl) (Nat.le_of_ble_eq_true rfl) (by omega) (l0 := [some (zI x2), some (zI (-1)), some (zI ((σ 30 0 4) - 1))]) rfl (p := 20) rfl (kM_in x2 (-1) ((σ 30 0 4) - 1) σ r5 hr4 (d - 1) (by omega)) ?_
    change zEv d 159 20 [some (zR 8 0), some (zI x1), some (zI x2), some (zI x3), some (zI x4), none] [zI r5] σ _
    refine ev_ifeq i159_20 (t := 41) (by decide) (p := 23) rfl h (fun c6 h => ?_) (fun c6 h => ?_)
    · exact kM_one_J41 d hd σ w _ _ _ _ rfl _ h
    · refine ev_s i159_23 (p := 24) rfl ?_
      obtain ⟨r8, hr7, h⟩ := bd_some h
      refine ev_callS i159_24 zn8_172 zc8_172 zm117 (as := [zI x3]) (rest := []) rfl rfl (Nat.le_of_ble_eq_true rfl) (Nat.le_of_ble_eq_true rfl) (Nat.le_of_ble_eq_true rfl) (by omega) (l0 := [some (zI x3)]) rfl (p := 27) rfl (kM_isCell x3 σ r8 hr7 (d - 1) (by omega)) ?_
      change zEv d 159 27 [some (zR 8 0), some (zI x1), some (zI x2), some (zI x3), some (zI x4), none] [zI r8] σ _
      refine ev_ifeq i159_27 (t := 41) (by decide) (p := 30) rfl h (fun c9 h => ?_) (fun c9 h => ?_)
      · exact kM_one_J41 d hd σ w _ _ _ _ rfl _ h
      · refine ev_s i159_30 (p := 32) rfl ?_
        refine ev_s i159_32 (p := 33) (zic_0 _ _ _ _ _) ?_
        refine ev_s i159_33 (p := 35) (zib_99 _ _ _ _ _) ?_
        obtain ⟨r11, hr10, h⟩ := bd_some h
        refine ev_callS i159_35 zn8_50 zc8_50 zm111 (as := [zI x4, zI 0, zI 99]) (rest := []) rfl rfl (Nat.le_of_ble_eq_true rfl) (Nat.le_of_ble_eq_true rfl) (Nat.le_of_ble_eq_true rfl) (by omega) (l0 := [some (zI x4), some (zI 0), some (zI 99)]) rfl (p := 38) rfl (kM_in x4 0 99 σ r11 hr10 (d - 1) (by omega)) ?_
        change zEv d 159 38 [some (zR 8 0), some (zI x1), some (zI x2), some (zI x3), some (zI x4), none] [zI r11] σ _
        refine ev_ifne i159_38 (t := 47) (by decide) (p := 41) rfl h (fun c12 h => ?_) (fun c12 h => ?_)
        · exact kM_one_J41 d hd σ w _ _ _ _ rfl _ h
        · refine ev_s i159_47 (p := 48) rfl ?_
          refine ev_getf i159_48 zf8_7 (u := zR 30 0) rfl (p := 51) rfl ?_
          refine ev_s i159_51 (p := 52) (zic_4 _ _ _ _ _) ?_
          refine ev_ialdK i159_52 rfl (n := 394) rfl (by decide) (p := 53) rfl ?_
          change zEv d 159 53 [some (zR 8 0), some (zI x1), some (zI x2), some (zI x3), some (zI x4), none] [zI (σ 30 0 4)] σ _
          refine ev_s i159_53 (p := 55) (zib_8 _ _ _ _ _) ?_
          refine ev_cmpne i159_55 (t := 64) (by decide) (p := 58) rfl h (fun c13 h => ?_) (fun c13 h => ?_)
          · refine ev_s i159_58 (p := 59) rfl ?_
            refine ev_s i159_59 (p := 60) (zic_4 _ _ _ _ _) ?_
            obtain ⟨r16, s15, hr14, h⟩ := b2_some h
            refine ev_callV i159_60 zc8_58 zm110 zo110 (as' := [zI 4]) (rest := []) rfl rfl (Nat.le_of_ble_eq_true rfl) (Nat.le_of_ble_eq_true rfl) (Nat.le_of_ble_eq_true rfl) (by omega) (l0 := [some (zR 8 0), some (zI 4)]) rfl (p := 63) rfl (kM_error 4 σ (r16, s15) hr14 (d - 1) (by omega)) ?_
            change zEv d 159 63 [some (zR 8 0), some (zI x1), some (zI x2), some (zI x3), some (zI x4), none] [zI r16] s15 _
            obtain rfl := Option.some.inj h
            exact ev_iret i159_63 zr159
          · refine ev_s i159_64 (p := 65) rfl ?_
            refine ev_getf i159_65 zf8_7 (u := zR 30 0) rfl (p := 68) rfl ?_
            refine ev_s i159_68 (p := 69) (zic_4 _ _ _ _ _) ?_
            refine ev_ialdK i159_69 rfl (n := 394) rfl (by decide) (p := 70) rfl ?_
            change zEv d 159 70 [some (zR 8 0), some (zI x1), some (zI x2), some (zI x3), some (zI x4), none] [zI (σ 30 0 4)] σ _
            refine ev_let h (fun v17 ev17 h => ?_)
            refine ev_s i159_70 (p := 72) (l := [some (zR 8 0), some (zI x1), some (zI x2), some (zI x3), some (zI x4), some (zI v17)]) rfl ?_
            refine ev_s i159_72 (p := 73) rfl ?_
            refine ev_s i159_73 (p := 75) rfl ?_
            refine ev_s i159_75 (p := 76) (zic_0 _ _ _ _ _) ?_
            refine ev_s i159_76 (p := 77) rfl ?_
            refine ev_s i159_77 (p := 79) (zib_10 _ _ _ _ _) ?_
            refine ev_idivK i159_79 (p := 80) rfl (by decide) ?_
            obtain ⟨s19, hr18, h⟩ := bd_some h
            refine ev_callV i159_80 zc8_149 zm119 zo119 (as' := [zI v17, zI 0, zI (x1 / 10)]) (rest := []) rfl rfl (Nat.le_of_ble_eq_true rfl) (Nat.le_of_ble_eq_true rfl) (Nat.le_of_ble_eq_true rfl) (by omega) (l0 := [some (zR 8 0), some (zI v17), some (zI 0), some (zI (x1 / 10))]) rfl (p := 83) rfl (kM_lays1 v17 0 (x1 / 10) σ s19 hr18 (d - 1) (by omega)) ?_
            change zEv d 159 83 [some (zR 8 0), some (zI x1), some (zI x2), some (zI x3), some (zI x4), some (zI v17)] [] s19 _
            refine ev_s i159_83 (p := 84) rfl ?_
            refine ev_s i159_84 (p := 86) rfl ?_
            refine ev_s i159_86 (p := 87) (zic_1 _ _ _ _ _) ?_
            refine ev_s i159_87 (p := 88) rfl ?_
            refine ev_s i159_88 (p := 90) (zib_10 _ _ _ _ _) ?_
            refine ev_iremK i159_90 (p := 91) rfl (by decide) ?_
            obtain ⟨s21, hr20, h⟩ := bd_some h
            refine ev_callV i159_91 zc8_149 zm119 zo119 (as' := [zI v17, zI 1, zI (x1 - x1 / 10 * 10)]) (rest := []) rfl rfl (Nat.le_of_ble_eq_true rfl) (Nat.le_of_ble_eq_true rfl) (Nat.le_of_ble_eq_true rfl) (by omega) (l0 := [some (zR 8 0), some (zI v17), some (zI 1), some (zI (x1 - x1 / 10 * 10))]) rfl (p := 94) rfl (kM_lays1 v17 1 (x1 - x1 / 10 * 10) s19 s21 hr20 (d - 1) (by omega)) ?_
            change zEv d 159 94 [some (zR 8 0), some (zI x1), some (zI x2), some (zI x3), some (zI x4), some (zI v17)] [] s21 _
            refine ev_s i159_94 (p := 95) rfl ?_
            refine ev_s i159_95 (p := 97) rfl ?_
            refine ev_s i159_97 (p := 98) (zic_2 _ _ _ _ _) ?_
            refine ev_s i159_98 (p := 99) rfl ?_
            obtain ⟨s23, hr22, h⟩ := bd_some h
            refine ev_callV i159_99 zc8_149 zm119 zo119 (as' := [zI v17, zI 2, zI x2]) (rest := []) rfl rfl (Nat.le_of_ble_eq_true rfl) (Nat.le_of_ble_eq_true rfl) (Nat.le_of_ble_eq_true rfl) (by omega) (l0 := [some (zR 8 0), some (zI v17), some (zI 2), some (zI x2)]) rfl (p := 102) rfl (kM_lays1 v17 2 x2 s21 s23 hr22 (d - 1) (by omega)) ?_
            change zEv d 159 102 [some (zR 8 0), some (zI x1), some (zI x2), some (zI x3), some (zI x4), some (zI v17)] [] s23 _
            refine ev_s i159_102 (p := 103) rfl ?_
            refine ev_s i159_103 (p := 105) rfl ?_
            refine ev_s i159_105 (p := 106) (zic_3 _ _ _ _ _) ?_
            refine ev_s i159_106 (p := 107) rfl ?_
            obtain ⟨s25, hr24, h⟩ := bd_some h
            refine ev_callV i159_107 zc8_149 zm119 zo119 (as' := [zI v17, zI 3, zI x3]) (rest := []) rfl rfl (Nat.le_of_ble_eq_true rfl) (Nat.le_of_ble_eq_true rfl) (Nat.le_of_ble_eq_true rfl) (by omega) (l0 := [some (zR 8 0), some (zI v17), some (zI 3), some (zI x3)]) rfl (p := 110) rfl (kM_lays1 v17 3 x3 s23 s25 hr24 (d - 1) (by omega)) ?_
            change zEv d 159 110 [some (zR 8 0), some (zI x1), some (zI x2), some (zI x3), some (zI x4), some (zI v17)] [] s25 _
            refine ev_s i159_110 (p := 111) rfl ?_
            refine ev_s i159_111 (p := 113) rfl ?_
            refine ev_s i159_113 (p := 114) (zic_4 _ _ _ _ _) ?_
            refine ev_s i159_114 (p := 115) rfl ?_
            refine ev_s i159_115 (p := 117) rfl ?_
            obtain ⟨r27, hr26, h⟩ := bd_some h
            refine ev_callV i159_117 zc8_146 zm146 zo146 (as' := [zI v17]) (rest := [zI 4, zI v17, zR 8 0]) rfl rfl (Nat.le_of_ble_eq_true rfl) (Nat.le_of_ble_eq_true rfl) (Nat.le_of_ble_eq_true rfl) (by omega) (l0 := [some (zR 8 0), some (zI v17)]) rfl (p := 120) rfl (kM_apartOf v17 s25 r27 hr26 (d - 1) (by omega)) ?_
            change zEv d 159 120 [some (zR 8 0), some (zI x1), some (zI x2), some (zI x3), some (zI x4), some (zI v17)] [zI r27, zI 4, zI v17, zR 8 0] s25 _
            obtain ⟨s29, hr28, h⟩ := bd_some h
            refine ev_callV i159_120 zc8_149 zm119 zo119 (as' := [zI v17, zI 4, zI r27]) (rest := []) rfl rfl (Nat.le_of_ble_eq_true rfl) (Nat.le_of_ble_eq_true rfl) (Nat.le_of_ble_eq_true rfl) (by omega) (l0 := [some (zR 8 0), some (zI v17), some (zI 4), some (zI r27)]) rfl (p := 123) rfl (kM_lays1 v17 4 r27 s25 s29 hr28 (d - 1) (by omega)) ?_
            change zEv d 159 123 [some (zR 8 0), some (zI x1), some (zI x2), some (zI x3), some (zI x4), some (zI v17)] [] s29 _
            refine ev_s i159_123 (p := 124) rfl ?_
            refine ev_s i159_124 (p := 126) rfl ?_
            refine ev_s i159_126 (p := 127) (zic_5 _ _ _ _ _) ?_
            refine ev_s i159_127 (p := 128) rfl ?_
            refine ev_ifge i159_128 (t := 135) (by decide) (p := 131) rfl h (fun c30 h => ?_) (fun c30 h => ?_)
            · refine ev_s i159_135 (p := 137) rfl ?_
              exact kM_one_J137 d hd v17 x4 5 v17 s29 w _ _ _ _ rfl h
            · refine ev_s i159_131 (p := 132) (zic_0 _ _ _ _ _) ?_
              refine ev_goto i159_132 (t := 137) (by decide) ?_
              exact kM_one_J137 d hd v17 0 5 v17 s29 w _ _ _ _ rfl h
/-! fR_hasChildren -/
def fR_hasChildren_L4 (N : Nat) (b : Nat) : Nat → Int32 → Int32 → zS → Option (Int32)
  | 0, _, _, _ => none
  | n + 1, y1, y2, σ => (if (σ 2 b 9) ≤ y2 then some (0) else zgd (zin y2 8) ((if (σ 16 b y2.toNatClampNeg) = y1 then some (1) else fR_hasChildren_L4 N b n y1 (y2 + 1) σ)))
set_option maxHeartbeats 4000000 in
theorem kR_hasChildren_L4 (N : Nat) (b : Nat) (d : Nat) (hd : 0 ≤ d)  : ∀ n : Nat, ∀ (y1 : Int32) (y2 : Int32) (σ : zS) (w : Int32), fR_hasChildren_L4 N b n y1 y2 σ = some w → zEv d 33 4 [some (zR 2 b), some (zI y1), some (zI y2)] [] σ (some (zI w), σ) := by
  intro n
  induction n with
  | zero =>
    intro y1 y2 σ w h
    cases h
  | succ n ih =>
    intro y1 y2 σ w h
    rw [fR_hasChildren_L4] at h
    refine ev_s i33_4 (p := 5) rfl ?_
    refine ev_s i33_5 (p := 6) rfl ?_
    refine ev_getf i33_6 zf2_53 (u := zI (σ 2 b 9)) rfl (p := 9) rfl ?_
    refine ev_cmpge i33_9 (t := 30) (by decide) (p := 12) rfl h (fun c2 h => ?_) (fun c2 h => ?_)
    · refine ev_s i33_30 (p := 31) (zic_0 _ _ _ _ _) ?_
      obtain rfl := Option.some.inj h
      exact ev_zret i33_31 zr33 (by decide)
    · refine ev_s i33_12 (p := 13) rfl ?_
      refine ev_getf i33_13 zf2_18 (u := zR 16 b) rfl (p := 16) rfl ?_
      refine ev_s i33_16 (p := 17) rfl ?_
      refine ev_iald i33_17 rfl (n := 8) rfl (p := 18) rfl h (fun g3 h => ?_)
      refine ev_s i33_18 (p := 19) rfl ?_
      refine ev_cmpne i33_19 (t := 24) (by decide) (p := 22) rfl h (fun c4 h => ?_) (fun c4 h => ?_)
      · refine ev_s i33_22 (p := 23) (zic_1 _ _ _ _ _) ?_
        obtain rfl := Option.some.inj h
        exact ev_zret i33_23 zr33 (by decide)
      · refine ev_iinc i33_24 zii_1 rfl (l := [some (zR 2 b), some (zI y1), some (zI (y2 + 1))]) rfl (p := 27) rfl ?_
        refine ev_goto i33_27 (t := 4) (by decide) ?_
        exact ih y1 (y2 + 1) σ w h
def fR_hasChildren (N : Nat) (b : Nat) (x1 : Int32) (σ : zS) : Option (Int32) := zlt (x1 + 1) fun v1 => fR_hasChildren_L4 N b N x1 v1 σ
set_option maxHeartbeats 4000000 in
theorem kR_hasChildren (N : Nat) (b : Nat) (x1 : Int32) (σ : zS) (w : Int32) (h : fR_hasChildren N b x1 σ = some w) (d : Nat) (hd : 0 ≤ d) : zEv d 33 0 [some (zR 2 b), some (zI x1), none] [] σ (some (zI w), σ) := by
  unfold fR_hasChildren at h
  refine ev_s i33_0 (p := 1) rfl ?_
  refine ev_s i33_1 (p := 2) (zic_1 _ _ _ _ _) ?_
  refine ev_s i33_2 (p := 3) (t := [zI (x1 + 1)]) rfl ?_
  refine ev_let h (fun v1 ev1 h => ?_)
  refine ev_s i33_3 (p := 4) (l := [some (zR 2 b), some (zI x1), some (zI v1)]) rfl ?_
  exact kR_hasChildren_L4 N b d hd N x1 v1 σ w h
/-! fR_yielding -/
def fR_yielding (N : Nat) (b : Nat) (x1 : Int32) (σ : zS) : Option (Int32) := zgd (zin x1 8) ((if (σ 14 b x1.toNatClampNeg) = 0 then some (0) else (if (σ 14 b x1.toNatClampNeg) = 1 then some (1) else (if (σ 14 b x1.toNatClampNeg) = 2 then zgd (zin x1 8) ((if (σ 19 b x1.toNatClampNeg) ≤ 0 then some (0) else some (3))) else (if (σ 14 b x1.toNatClampNeg) = 3 then some (2) else (if (σ 14 b x1.toNatClampNeg) = 4 then (fR_hasChildren N b x1 σ).bind fun r9 => (if r9 = 0 then some (1) else some (0)) else (if (σ 14 b x1.toNatClampNeg) = 5 then zgd (zin x1 8) ((if 4 < (σ 15 b x1.toNatClampNeg) then zgd (zin x1 8) ((if (σ 19 b x1.toNatClampNeg) ≤ 0 then some (0) else some (3))) else some (2))) else zgd (zin x1 8) (some (((σ 2 b 10) + (σ 15 b x1.toNatClampNeg)) - ((σ 2 b 10) + (σ 15 b x1.toNatClampNeg)) / 4 * 4)))))))))
set_option maxHeartbeats 4000000 in
theorem kR_yielding (N : Nat) (b : Nat) (x1 : Int32) (σ : zS) (w : Int32) (h : fR_yielding N b x1 σ = some w) (d : Nat) (hd : 1 ≤ d) : zEv d 32 0 [some (zR 2 b), some (zI x1)] [] σ (some (zI w), σ) := by
  unfold fR_yielding at h
  refine ev_s i32_0 (p := 1) rfl ?_
  refine ev_getf i32_1 zf2_9 (u := zR 14 b) rfl (p := 4) rfl ?_
  refine ev_s i32_4 (p := 5) rfl ?_
  refine ev_iald i32_5 rfl (n := 8) rfl (p := 6) rfl h (fun g1 h => ?_)
  refine ev_sel h (fun c2 h => ?_) (fun c2 h => ?_)
  · refine ev_tsw i32_6 (by decide) (t := 44) (by rw [c2]; decide) ?_
    refine ev_s i32_44 (p := 45) (zic_0 _ _ _ _ _) ?_
    obtain rfl := Option.some.inj h
    exact ev_iret i32_45 zr32
  refine ev_sel h (fun c3 h => ?_) (fun c3 h => ?_)
  · refine ev_tsw i32_6 (by decide) (t := 46) (by rw [c3]; decide) ?_
    refine ev_s i32_46 (p := 47) (zic_1 _ _ _ _ _) ?_
    obtain rfl := Option.some.inj h
    exact ev_iret i32_47 zr32
  refine ev_sel h (fun c6 h => ?_) (fun c6 h => ?_)
  · refine ev_tsw i32_6 (by decide) (t := 48) (by rw [c6]; decide) ?_
    refine ev_s i32_48 (p := 49) rfl ?_
    refine ev_getf i32_49 zf2_27 (u := zR 19 b) rfl (p := 52) rfl ?_
    refine ev_s i32_52 (p := 53) rfl ?_
    refine ev_iald i32_53 rfl (n := 8) rfl (p := 54) rfl h (fun g4 h => ?_)
    refine ev_ifle i32_54 (t := 61) (by decide) (p := 57) rfl h (fun c5 h => ?_) (fun c5 h => ?_)
    · refine ev_s i32_61 (p := 62) (zic_0 _ _ _ _ _) ?_
      obtain rfl := Option.some.inj h
      exact ev_iret i32_62 zr32
    · refine ev_s i32_57 (p := 58) (zic_3 _ _ _ _ _) ?_
      refine ev_goto i32_58 (t := 62) (by decide) ?_
      obtain rfl := Option.some.inj h
      exact ev_iret i32_62 zr32
  refine ev_sel h (fun c7 h => ?_) (fun c7 h => ?_)
  · refine ev_tsw i32_6 (by decide) (t := 63) (by rw [c7]; decide) ?_
    refine ev_s i32_63 (p := 64) (zic_2 _ _ _ _ _) ?_
    obtain rfl := Option.some.inj h
    exact ev_iret i32_64 zr32
  refine ev_sel h (fun c11 h => ?_) (fun c11 h => ?_)
  · refine ev_tsw i32_6 (by decide) (t := 65) (by rw [c11]; decide) ?_
    refine ev_s i32_65 (p := 66) rfl ?_
    refine ev_s i32_66 (p := 67) rfl ?_
    obtain ⟨r9, hr8, h⟩ := bd_some h
    refine ev_callV i32_67 zc2_97 zm33 zo33 (as' := [zI x1]) (rest := []) rfl rfl (Nat.le_of_ble_eq_true rfl) (Nat.le_of_ble_eq_true rfl) (Nat.le_of_ble_eq_true rfl) (by omega) (l0 := [some (zR 2 b), some (zI x1), none]) rfl (p := 70) rfl (kR_hasChildren N b x1 σ r9 hr8 (d - 1) (by omega)) ?_
    change zEv d 32 70 [some (zR 2 b), some (zI x1)] [zI r9] σ _
    refine ev_ifeq i32_70 (t := 77) (by decide) (p := 73) rfl h (fun c10 h => ?_) (fun c10 h => ?_)
    · refine ev_s i32_77 (p := 78) (zic_1 _ _ _ _ _) ?_
      obtain rfl := Option.some.inj h
      exact ev_iret i32_78 zr32
    · refine ev_s i32_73 (p := 74) (zic_0 _ _ _ _ _) ?_
      refine ev_goto i32_74 (t := 78) (by decide) ?_
      obtain rfl := Option.some.inj h
      exact ev_iret i32_78 zr32
  refine ev_sel h (fun c16 h => ?_) (fun c16 h => ?_)
  · refine ev_tsw i32_6 (by decide) (t := 79) (by rw [c16]; decide) ?_
    refine ev_s i32_79 (p := 80) rfl ?_
    refine ev_getf i32_80 zf2_15 (u := zR 15 b) rfl (p := 83) rfl ?_
    refine ev_s i32_83 (p := 84) rfl ?_
    refine ev_iald i32_84 rfl (n := 8) rfl (p := 85) rfl h (fun g12 h => ?_)
    refine ev_s i32_85 (p := 86) (zic_4 _ _ _ _ _) ?_
    refine ev_cmpgt i32_86 (t := 91) (by decide) (p := 89) rfl h (fun c13 h => ?_) (fun c13 h => ?_)
    · refine ev_s i32_91 (p := 92) rfl ?_
      refine ev_getf i32_92 zf2_27 (u := zR 19 b) rfl (p := 95) rfl ?_
      refine ev_s i32_95 (p := 96) rfl ?_
      refine ev_iald i32_96 rfl (n := 8) rfl (p := 97) rfl h (fun g14 h => ?_)
      refine ev_ifle i32_97 (t := 104) (by decide) (p := 100) rfl h (fun c15 h => ?_) (fun c15 h => ?_)
      · refine ev_s i32_104 (p := 105) (zic_0 _ _ _ _ _) ?_
        obtain rfl := Option.some.inj h
        exact ev_iret i32_105 zr32
      · refine ev_s i32_100 (p := 101) (zic_3 _ _ _ _ _) ?_
        refine ev_goto i32_101 (t := 105) (by decide) ?_
        obtain rfl := Option.some.inj h
        exact ev_iret i32_105 zr32
    · refine ev_s i32_89 (p := 90) (zic_2 _ _ _ _ _) ?_
      obtain rfl := Option.some.inj h
      exact ev_iret i32_90 zr32
  refine ev_tsw i32_6 (by decide) (t := 106) (by show (6 : Int) + zsw (σ 14 b x1.toNatClampNeg) (0) [38, 40, 42, 57, 59, 73] (100) = 106; rw [zsw_st c2 (by decide), zsw_st c3 (by decide), zsw_st c6 (by decide), zsw_st c7 (by decide), zsw_st c11 (by decide), zsw_st c16 (by decide)]; rfl) ?_
  refine ev_s i32_106 (p := 107) rfl ?_
  refine ev_getf i32_107 zf2_56 (u := zI (σ 2 b 10)) rfl (p := 110) rfl ?_
  refine ev_s i32_110 (p := 111) rfl ?_
  refine ev_getf i32_111 zf2_15 (u := zR 15 b) rfl (p := 114) rfl ?_
  refine ev_s i32_114 (p := 115) rfl ?_
  refine ev_iald i32_115 rfl (n := 8) rfl (p := 116) rfl h (fun g17 h => ?_)
  refine ev_s i32_116 (p := 117) (t := [zI ((σ 2 b 10) + (σ 15 b x1.toNatClampNeg))]) rfl ?_
  refine ev_s i32_117 (p := 118) (zic_4 _ _ _ _ _) ?_
  refine ev_iremK i32_118 (p := 119) rfl (by decide) ?_
  obtain rfl := Option.some.inj h
  exact ev_iret i32_119 zr32
/-! fL_joined -/
def fL_joined (x0 : Int32) (x1 : Int32) (x2 : Int32) : Option (Int32) := (if x0 = 38 then (if x1 = 0 then some (0) else (if x2 = 0 then some (0) else some (1))) else (if x0 = 42 then some (x1 * x2) else (if x0 = 43 then some (x1 + x2) else (if x0 = 45 then some (x1 - x2) else (if x0 = 47 then (if x2 = 0 then some (0) else zgd (¬ x2 = 0) (some (x1 / x2))) else (if x0 = 60 then (if x2 ≤ x1 then some (0) else some (1)) else (if x0 = 61 then (if x1 = x2 then some (1) else some (0)) else (if x0 = 62 then (if x1 ≤ x2 then some (0) else some (1)) else (if x0 = 124 then (if x1 = 0 then (if x2 = 0 then some (0) else some (1)) else some (1)) else (if x2 = 0 then some (0) else zgd (¬ x2 = 0) (some (x1 - x1 / x2 * x2))))))))))))
set_option maxHeartbeats 4000000 in
theorem kL_joined (x0 : Int32) (x1 : Int32) (x2 : Int32) (σ : zS) (w : Int32) (h : fL_joined x0 x1 x2 = some w) (d : Nat) (hd : 0 ≤ d) : zEv d 2 0 [some (zI x0), some (zI x1), some (zI x2)] [] σ (some (zI w), σ) := by
  unfold fL_joined at h
  refine ev_s i2_0 (p := 1) rfl ?_
  refine ev_sel h (fun c3 h => ?_) (fun c3 h => ?_)
  · refine ev_lsw i2_1 (by decide) (t := 98) (by rw [c3]; decide) ?_
    refine ev_s i2_98 (p := 99) rfl ?_
    refine ev_ifeq i2_99 (t := 110) (by decide) (p := 102) rfl h (fun c1 h => ?_) (fun c1 h => ?_)
    · refine ev_s i2_110 (p := 111) (zic_0 _ _ _ _ _) ?_
      obtain rfl := Option.some.inj h
      exact ev_iret i2_111 zr2
    · refine ev_s i2_102 (p := 103) rfl ?_
      refine ev_ifeq i2_103 (t := 110) (by decide) (p := 106) rfl h (fun c2 h => ?_) (fun c2 h => ?_)
      · refine ev_s i2_110 (p := 111) (zic_0 _ _ _ _ _) ?_
        obtain rfl := Option.some.inj h
        exact ev_iret i2_111 zr2
      · refine ev_s i2_106 (p := 107) (zic_1 _ _ _ _ _) ?_
        refine ev_goto i2_107 (t := 111) (by decide) ?_
        obtain rfl := Option.some.inj h
        exact ev_iret i2_111 zr2
  refine ev_sel h (fun c4 h => ?_) (fun c4 h => ?_)
  · refine ev_lsw i2_1 (by decide) (t := 153) (by rw [c4]; decide) ?_
    refine ev_s i2_153 (p := 154) rfl ?_
    refine ev_s i2_154 (p := 155) rfl ?_
    refine ev_s i2_155 (p := 156) (t := [zI (x1 * x2)]) rfl ?_
    obtain rfl := Option.some.inj h
    exact ev_iret i2_156 zr2
  refine ev_sel h (fun c5 h => ?_) (fun c5 h => ?_)
  · refine ev_lsw i2_1 (by decide) (t := 145) (by rw [c5]; decide) ?_
    refine ev_s i2_145 (p := 146) rfl ?_
    refine ev_s i2_146 (p := 147) rfl ?_
    refine ev_s i2_147 (p := 148) (t := [zI (x1 + x2)]) rfl ?_
    obtain rfl := Option.some.inj h
    exact ev_iret i2_148 zr2
  refine ev_sel h (fun c6 h => ?_) (fun c6 h => ?_)
  · refine ev_lsw i2_1 (by decide) (t := 149) (by rw [c6]; decide) ?_
    refine ev_s i2_149 (p := 150) rfl ?_
    refine ev_s i2_150 (p := 151) rfl ?_
    refine ev_s i2_151 (p := 152) (t := [zI (x1 - x2)]) rfl ?_
    obtain rfl := Option.some.inj h
    exact ev_iret i2_152 zr2
  refine ev_sel h (fun c9 h => ?_) (fun c9 h => ?_)
  · refine ev_lsw i2_1 (by decide) (t := 157) (by rw [c9]; decide) ?_
    refine ev_s i2_157 (p := 158) rfl ?_
    refine ev_ifne i2_158 (t := 165) (by decide) (p := 161) rfl h (fun c7 h => ?_) (fun c7 h => ?_)
    · refine ev_s i2_161 (p := 162) (zic_0 _ _ _ _ _) ?_
      refine ev_goto i2_162 (t := 168) (by decide) ?_
      obtain rfl := Option.some.inj h
      exact ev_iret i2_168 zr2
    · refine ev_s i2_165 (p := 166) rfl ?_
      refine ev_s i2_166 (p := 167) rfl ?_
      refine ev_idiv i2_167 (p := 168) rfl h (fun g8 h => ?_)
      obtain rfl := Option.some.inj h
      exact ev_iret i2_168 zr2
  refine ev_sel h (fun c11 h => ?_) (fun c11 h => ?_)
  · refine ev_lsw i2_1 (by decide) (t := 112) (by rw [c11]; decide) ?_
    refine ev_s i2_112 (p := 113) rfl ?_
    refine ev_s i2_113 (p := 114) rfl ?_
    refine ev_cmpge i2_114 (t := 121) (by decide) (p := 117) rfl h (fun c10 h => ?_) (fun c10 h => ?_)
    · refine ev_s i2_121 (p := 122) (zic_0 _ _ _ _ _) ?_
      obtain rfl := Option.some.inj h
      exact ev_iret i2_122 zr2
    · refine ev_s i2_117 (p := 118) (zic_1 _ _ _ _ _) ?_
      refine ev_goto i2_118 (t := 122) (by decide) ?_
      obtain rfl := Option.some.inj h
      exact ev_iret i2_122 zr2
  refine ev_sel h (fun c13 h => ?_) (fun c13 h => ?_)
  · refine ev_lsw i2_1 (by decide) (t := 123) (by rw [c13]; decide) ?_
    refine ev_s i2_123 (p := 124) rfl ?_
    refine ev_s i2_124 (p := 125) rfl ?_
    refine ev_cmpne i2_125 (t := 132) (by decide) (p := 128) rfl h (fun c12 h => ?_) (fun c12 h => ?_)
    · refine ev_s i2_128 (p := 129) (zic_1 _ _ _ _ _) ?_
      refine ev_goto i2_129 (t := 133) (by decide) ?_
      obtain rfl := Option.some.inj h
      exact ev_iret i2_133 zr2
    · refine ev_s i2_132 (p := 133) (zic_0 _ _ _ _ _) ?_
      obtain rfl := Option.some.inj h
      exact ev_iret i2_133 zr2
  refine ev_sel h (fun c15 h => ?_) (fun c15 h => ?_)
  · refine ev_lsw i2_1 (by decide) (t := 134) (by rw [c15]; decide) ?_
    refine ev_s i2_134 (p := 135) rfl ?_
    refine ev_s i2_135 (p := 136) rfl ?_
    refine ev_cmple i2_136 (t := 143) (by decide) (p := 139) rfl h (fun c14 h => ?_) (fun c14 h => ?_)
    · refine ev_s i2_143 (p := 144) (zic_0 _ _ _ _ _) ?_
      obtain rfl := Option.some.inj h
      exact ev_iret i2_144 zr2
    · refine ev_s i2_139 (p := 140) (zic_1 _ _ _ _ _) ?_
      refine ev_goto i2_140 (t := 144) (by decide) ?_
      obtain rfl := Option.some.inj h
      exact ev_iret i2_144 zr2
  refine ev_sel h (fun c18 h => ?_) (fun c18 h => ?_)
  · refine ev_lsw i2_1 (by decide) (t := 84) (by rw [c18]; decide) ?_
    refine ev_s i2_84 (p := 85) rfl ?_
    refine ev_ifne i2_85 (t := 92) (by decide) (p := 88) rfl h (fun c16 h => ?_) (fun c16 h => ?_)
    · refine ev_s i2_88 (p := 89) rfl ?_
      refine ev_ifeq i2_89 (t := 96) (by decide) (p := 92) rfl h (fun c17 h => ?_) (fun c17 h => ?_)
      · refine ev_s i2_96 (p := 97) (zic_0 _ _ _ _ _) ?_
        obtain rfl := Option.some.inj h
        exact ev_iret i2_97 zr2
      · refine ev_s i2_92 (p := 93) (zic_1 _ _ _ _ _) ?_
        refine ev_goto i2_93 (t := 97) (by decide) ?_
        obtain rfl := Option.some.inj h
        exact ev_iret i2_97 zr2
    · refine ev_s i2_92 (p := 93) (zic_1 _ _ _ _ _) ?_
      refine ev_goto i2_93 (t := 97) (by decide) ?_
      obtain rfl := Option.some.inj h
      exact ev_iret i2_97 zr2
  refine ev_lsw i2_1 (by decide) (t := 169) (by show (1 : Int) + zlk x0 [(38, 97), (42, 152), (43, 144), (45, 148), (47, 156), (60, 111), (61, 122), (62, 133), (124, 83)] (168) = 169; rw [zlk_st c3 (by decide), zlk_st c4 (by decide), zlk_st c5 (by decide), zlk_st c6 (by decide), zlk_st c9 (by decide), zlk_st c11 (by decide), zlk_st c13 (by decide), zlk_st c15 (by decide), zlk_st c18 (by decide)]; rfl) ?_
  refine ev_s i2_169 (p := 170) rfl ?_
  refine ev_ifne i2_170 (t := 177) (by decide) (p := 173) rfl h (fun c19 h => ?_) (fun c19 h => ?_)
  · refine ev_s i2_173 (p := 174) (zic_0 _ _ _ _ _) ?_
    refine ev_goto i2_174 (t := 180) (by decide) ?_
    obtain rfl := Option.some.inj h
    exact ev_iret i2_180 zr2
  · refine ev_s i2_177 (p := 178) rfl ?_
    refine ev_s i2_178 (p := 179) rfl ?_
    refine ev_irem i2_179 (p := 180) rfl h (fun g20 h => ?_)
    obtain rfl := Option.some.inj h
    exact ev_iret i2_180 zr2
/-! fJ_floorMod -/
def fJ_floorMod (x0 : Int32) (x1 : Int32) : Option (Int32) := zgd (¬ x1 = 0) (zlt (x0 - x0 / x1 * x1) fun v2 => (if 0 ≤ (x0 ^^^ x1) then some (v2) else (if v2 = 0 then some (v2) else some (v2 + x1))))
set_option maxHeartbeats 4000000 in
theorem kJ_floorMod (x0 : Int32) (x1 : Int32) (σ : zS) (w : Int32) (h : fJ_floorMod x0 x1 = some w) (d : Nat) (hd : 0 ≤ d) : zEv d 220 0 [some (zI x0), some (zI x1), none] [] σ (some (zI w), σ) := by
  unfold fJ_floorMod at h
  refine ev_s i220_0 (p := 1) rfl ?_
  refine ev_s i220_1 (p := 2) rfl ?_
  refine ev_irem i220_2 (p := 3) rfl h (fun g1 h => ?_)
  refine ev_let h (fun v2 ev2 h => ?_)
  refine ev_s i220_3 (p := 4) (l := [some (zI x0), some (zI x1), some (zI v2)]) rfl ?_
  refine ev_s i220_4 (p := 5) rfl ?_
  refine ev_s i220_5 (p := 6) rfl ?_
  refine ev_s i220_6 (p := 7) (t := [zI (x0 ^^^ x1)]) rfl ?_
  refine ev_ifge i220_7 (t := 18) (by decide) (p := 10) rfl h (fun c3 h => ?_) (fun c3 h => ?_)
  · refine ev_s i220_18 (p := 19) rfl ?_
    obtain rfl := Option.some.inj h
    exact ev_iret i220_19 zr220
  · refine ev_s i220_10 (p := 11) rfl ?_
    refine ev_ifeq i220_11 (t := 18) (by decide) (p := 14) rfl h (fun c4 h => ?_) (fun c4 h => ?_)
    · refine ev_s i220_18 (p := 19) rfl ?_
      obtain rfl := Option.some.inj h
      exact ev_iret i220_19 zr220
    · refine ev_s i220_14 (p := 15) rfl ?_
      refine ev_s i220_15 (p := 16) rfl ?_
      refine ev_s i220_16 (p := 17) (t := [zI (v2 + x1)]) rfl ?_
      obtain rfl := Option.some.inj h
      exact ev_iret i220_17 zr220
/-! fJ_min -/
def fJ_min (x0 : Int32) (x1 : Int32) : Option (Int32) := (if x1 < x0 then some (x1) else some (x0))
set_option maxHeartbeats 4000000 in
theorem kJ_min (x0 : Int32) (x1 : Int32) (σ : zS) (w : Int32) (h : fJ_min x0 x1 = some w) (d : Nat) (hd : 0 ≤ d) : zEv d 223 0 [some (zI x0), some (zI x1)] [] σ (some (zI w), σ) := by
  unfold fJ_min at h
  refine ev_s i223_0 (p := 1) rfl ?_
  refine ev_s i223_1 (p := 2) rfl ?_
  refine ev_cmpgt i223_2 (t := 9) (by decide) (p := 5) rfl h (fun c1 h => ?_) (fun c1 h => ?_)
  · refine ev_s i223_9 (p := 10) rfl ?_
    obtain rfl := Option.some.inj h
    exact ev_iret i223_10 zr223
  · refine ev_s i223_5 (p := 6) rfl ?_
    refine ev_goto i223_6 (t := 10) (by decide) ?_
    obtain rfl := Option.some.inj h
    exact ev_iret i223_10 zr223
/-! fJ_max -/
def fJ_max (x0 : Int32) (x1 : Int32) : Option (Int32) := (if x0 < x1 then some (x1) else some (x0))
set_option maxHeartbeats 4000000 in
theorem kJ_max (x0 : Int32) (x1 : Int32) (σ : zS) (w : Int32) (h : fJ_max x0 x1 = some w) (d : Nat) (hd : 0 ≤ d) : zEv d 222 0 [some (zI x0), some (zI x1)] [] σ (some (zI w), σ) := by
  unfold fJ_max at h
  refine ev_s i222_0 (p := 1) rfl ?_
  refine ev_s i222_1 (p := 2) rfl ?_
  refine ev_cmplt i222_2 (t := 9) (by decide) (p := 5) rfl h (fun c1 h => ?_) (fun c1 h => ?_)
  · refine ev_s i222_9 (p := 10) rfl ?_
    obtain rfl := Option.some.inj h
    exact ev_iret i222_10 zr222
  · refine ev_s i222_5 (p := 6) rfl ?_
    refine ev_goto i222_6 (t := 10) (by decide) ?_
    obtain rfl := Option.some.inj h
    exact ev_iret i222_10 zr222
/-! fL_gives -/
def fL_gives_J208 (N : Nat) (b : Nat) (u0 : Int32) (σ : zS) : Option (Int32 × zS) := (if (σ 0 b 2) = 0 then (fJ_floorMod u0 4).bind fun r29 => some (r29, σ) else (fJ_min 9 u0).bind fun r31 => (fJ_max 0 r31).bind fun r33 => some (r33, σ))
set_option maxHeartbeats 4000000 in
theorem kL_gives_J208 (N : Nat) (b : Nat) (d : Nat) (hd : 1 ≤ d)  : ∀ (u0 : Int32) (σ : zS) (w : Int32 × zS) (z1 : Option zA) (z2 : Option zA) (z3 : Option zA) (hz3 : znl z3 = true) (z4 : Option zA) (hz4 : znl z4 = true) (z5 : Option zA) (hz5 : znl z5 = true) (z6 : Option zA), fL_gives_J208 N b u0 σ = some w → zEv d 1 208 [some (zR 0 b), z1, z2, z3, z4, z5, z6] [zI u0] σ (some (zI w.1), w.2) := by
  intro u0 σ w z1 z2 z3 hz3 z4 hz4 z5 hz5 z6 h
  unfold fL_gives_J208 at h
  refine ev_s i1_208 (p := 210) (l := [some (zR 0 b), z1, z2, z3, z4, some (zI u0), z6]) (t := []) (s := σ) (by rcases z4 with _ | _ | _ | _ <;> first | rfl | cases hz4) ?_
  refine ev_s i1_210 (p := 211) rfl ?_
  refine ev_getf i1_211 zf0_18 (u := zI (σ 0 b 2)) rfl (p := 214) rfl ?_
  refine ev_ifne i1_214 (t := 226) (by decide) (p := 217) rfl h (fun c27 h => ?_) (fun c27 h => ?_)
  · refine ev_s i1_217 (p := 219) rfl ?_
    refine ev_s i1_219 (p := 220) (zic_4 _ _ _ _ _) ?_
    obtain ⟨r29, hr28, h⟩ := bd_some h
    refine ev_callS i1_220 zn0_29 zc0_29 zm220 (as := [zI u0, zI 4]) (rest := []) rfl rfl (Nat.le_of_ble_eq_true rfl) (Nat.le_of_ble_eq_true rfl) (Nat.le_of_ble_eq_true rfl) (by omega) (l0 := [some (zI u0), some (zI 4), none]) rfl (p := 223) rfl (kJ_floorMod u0 4 σ r29 hr28 (d - 1) (by omega)) ?_
    change zEv d 1 223 [some (zR 0 b), z1, z2, z3, z4, some (zI u0), z6] [zI r29] σ _
    refine ev_goto i1_223 (t := 237) (by decide) ?_
    obtain rfl := Option.some.inj h
    exact ev_iret i1_237 zr1
  · refine ev_s i1_226 (p := 227) (zic_0 _ _ _ _ _) ?_
    refine ev_s i1_227 (p := 229) (zib_9 _ _ _ _ _) ?_
    refine ev_s i1_229 (p := 231) rfl ?_
    obtain ⟨r31, hr30, h⟩ := bd_some h
    refine ev_callS i1_231 zn0_35 zc0_35 zm223 (as := [zI 9, zI u0]) (rest := [zI 0]) rfl rfl (Nat.le_of_ble_eq_true rfl) (Nat.le_of_ble_eq_true rfl) (Nat.le_of_ble_eq_true rfl) (by omega) (l0 := [some (zI 9), some (zI u0)]) rfl (p := 234) rfl (kJ_min 9 u0 σ r31 hr30 (d - 1) (by omega)) ?_
    change zEv d 1 234 [some (zR 0 b), z1, z2, z3, z4, some (zI u0), z6] [zI r31, zI 0] σ _
    obtain ⟨r33, hr32, h⟩ := bd_some h
    refine ev_callS i1_234 zn0_38 zc0_38 zm222 (as := [zI 0, zI r31]) (rest := []) rfl rfl (Nat.le_of_ble_eq_true rfl) (Nat.le_of_ble_eq_true rfl) (Nat.le_of_ble_eq_true rfl) (by omega) (l0 := [some (zI 0), some (zI r31)]) rfl (p := 237) rfl (kJ_max 0 r31 σ r33 hr32 (d - 1) (by omega)) ?_
    change zEv d 1 237 [some (zR 0 b), z1, z2, z3, z4, some (zI u0), z6] [zI r33] σ _
    obtain rfl := Option.some.inj h
    exact ev_iret i1_237 zr1
def fL_gives_J191 (N : Nat) (b : Nat) (y1 : Int32) (σ : zS) : Option (Int32 × zS) := (if (σ 0 b 1) ≤ 0 then fL_gives_J208 N b y1 σ else fL_gives_J208 N b (σ 11 b 0) σ)
set_option maxHeartbeats 4000000 in
theorem kL_gives_J191 (N : Nat) (b : Nat) (d : Nat) (hd : 1 ≤ d)  : ∀ (y1 : Int32) (σ : zS) (w : Int32 × zS) (z2 : Option zA) (z3 : Option zA) (hz3 : znl z3 = true) (z4 : Option zA) (hz4 : znl z4 = true) (z5 : Option zA) (hz5 : znl z5 = true) (z6 : Option zA), fL_gives_J191 N b y1 σ = some w → zEv d 1 191 [some (zR 0 b), some (zI y1), z2, z3, z4, z5, z6] [] σ (some (zI w.1), w.2) := by
  intro y1 σ w z2 z3 hz3 z4 hz4 z5 hz5 z6 h
  unfold fL_gives_J191 at h
  refine ev_s i1_191 (p := 192) rfl ?_
  refine ev_getf i1_192 zf0_22 (u := zI (σ 0 b 1)) rfl (p := 195) rfl ?_
  refine ev_ifle i1_195 (t := 207) (by decide) (p := 198) rfl h (fun c26 h => ?_) (fun c26 h => ?_)
  · refine ev_s i1_207 (p := 208) rfl ?_
    exact kL_gives_J208 N b d hd y1 σ w _ _ _ hz3 _ hz4 _ hz5 _ h
  · refine ev_s i1_198 (p := 199) rfl ?_
    refine ev_getf i1_199 zf0_15 (u := zR 11 b) rfl (p := 202) rfl ?_
    refine ev_s i1_202 (p := 203) (zic_0 _ _ _ _ _) ?_
    refine ev_ialdK i1_203 rfl (n := 61) rfl (by decide) (p := 204) rfl ?_
    change zEv d 1 204 [some (zR 0 b), some (zI y1), z2, z3, z4, z5, z6] [zI (σ 11 b 0)] σ _
    refine ev_goto i1_204 (t := 208) (by decide) ?_
    exact kL_gives_J208 N b d hd (σ 11 b 0) σ w _ _ _ hz3 _ hz4 _ hz5 _ h
def fL_gives_J138 (N : Nat) (b : Nat) (K6 : Int32 → Int32 → Int32 → Int32 → Int32 → zS → Option (Int32 × zS)) (y1 : Int32) (y2 : Int32) (y3 : Int32) (y4 : Int32) (y5 : Int32) (u0 : Int32) (u1 : Int32) (σ : zS) : Option (Int32 × zS) := zgd (zin u1 61) (zlt (zup σ 11 b u1.toNatClampNeg u0) fun s24 => K6 y1 y2 y3 y4 (y5 + 1) s24)
set_option maxHeartbeats 4000000 in
theorem kL_gives_J138 (N : Nat) (b : Nat) (d : Nat) (hd : 1 ≤ d) (K6 : Int32 → Int32 → Int32 → Int32 → Int32 → zS → Option (Int32 × zS)) (hK6 : ∀ (y1 : Int32) (y2 : Int32) (y3 : Int32) (y4 : Int32) (y5 : Int32) (σ : zS) (w : Int32 × zS) (z6 : Option zA), K6 y1 y2 y3 y4 y5 σ = some w → zEv d 1 6 [some (zR 0 b), some (zI y1), some (zI y2), some (zI y3), some (zI y4), some (zI y5), z6] [] σ (some (zI w.1), w.2)) : ∀ (y1 : Int32) (y2 : Int32) (y3 : Int32) (y4 : Int32) (y5 : Int32) (u0 : Int32) (u1 : Int32) (σ : zS) (w : Int32 × zS) (z6 : Option zA), fL_gives_J138 N b K6 y1 y2 y3 y4 y5 u0 u1 σ = some w → zEv d 1 138 [some (zR 0 b), some (zI y1), some (zI y2), some (zI y3), some (zI y4), some (zI y5), z6] [zI u0, zI u1, zR 11 b] σ (some (zI w.1), w.2) := by
  intro y1 y2 y3 y4 y5 u0 u1 σ w z6 h
  unfold fL_gives_J138 at h
  refine ev_iast i1_138 rfl (n := 61) rfl (p := 139) rfl h (fun g25 h => ?_)
  refine ev_lets h (fun s24 es24 h => ?_)
  refine ev_goto i1_139 (t := 185) (by decide) ?_
  refine ev_iinc i1_185 zii_1 rfl (l := [some (zR 0 b), some (zI y1), some (zI y2), some (zI y3), some (zI y4), some (zI (y5 + 1)), z6]) rfl (p := 188) rfl ?_
  refine ev_goto i1_188 (t := 6) (by decide) ?_
  exact hK6 y1 y2 y3 y4 (y5 + 1) s24 w _ h
def fL_gives_J93 (N : Nat) (b : Nat) (K6 : Int32 → Int32 → Int32 → Int32 → Int32 → zS → Option (Int32 × zS)) (y1 : Int32) (y2 : Int32) (y3 : Int32) (y4 : Int32) (y5 : Int32) (u0 : Int32) (u1 : Int32) (σ : zS) : Option (Int32 × zS) := zgd (zin u1 61) (zlt (zup σ 11 b u1.toNatClampNeg u0) fun s22 => K6 y1 y2 y3 (y4 + 1) (y5 + 1) s22)
set_option maxHeartbeats 4000000 in
theorem kL_gives_J93 (N : Nat) (b : Nat) (d : Nat) (hd : 1 ≤ d) (K6 : Int32 → Int32 → Int32 → Int32 → Int32 → zS → Option (Int32 × zS)) (hK6 : ∀ (y1 : Int32) (y2 : Int32) (y3 : Int32) (y4 : Int32) (y5 : Int32) (σ : zS) (w : Int32 × zS) (z6 : Option zA), K6 y1 y2 y3 y4 y5 σ = some w → zEv d 1 6 [some (zR 0 b), some (zI y1), some (zI y2), some (zI y3), some (zI y4), some (zI y5), z6] [] σ (some (zI w.1), w.2)) : ∀ (y1 : Int32) (y2 : Int32) (y3 : Int32) (y4 : Int32) (y5 : Int32) (u0 : Int32) (u1 : Int32) (σ : zS) (w : Int32 × zS) (z6 : Option zA), fL_gives_J93 N b K6 y1 y2 y3 y4 y5 u0 u1 σ = some w → zEv d 1 93 [some (zR 0 b), some (zI y1), some (zI y2), some (zI y3), some (zI y4), some (zI y5), z6] [zI u0, zI u1, zR 11 b] σ (some (zI w.1), w.2) := by
  intro y1 y2 y3 y4 y5 u0 u1 σ w z6 h
  unfold fL_gives_J93 at h
  refine ev_iast i1_93 rfl (n := 61) rfl (p := 94) rfl h (fun g23 h => ?_)
  refine ev_lets h (fun s22 es22 h => ?_)
  refine ev_iinc i1_94 zii_1 rfl (l := [some (zR 0 b), some (zI y1), some (zI y2), some (zI y3), some (zI (y4 + 1)), some (zI y5), z6]) rfl (p := 97) rfl ?_
  refine ev_goto i1_97 (t := 185) (by decide) ?_
  refine ev_iinc i1_185 zii_1 rfl (l := [some (zR 0 b), some (zI y1), some (zI y2), some (zI y3), some (zI (y4 + 1)), some (zI (y5 + 1)), z6]) rfl (p := 188) rfl ?_
  refine ev_goto i1_188 (t := 6) (by decide) ?_
  exact hK6 y1 y2 y3 (y4 + 1) (y5 + 1) s22 w _ h
def fL_gives_L6 (N : Nat) (b : Nat) : Nat → Int32 → Int32 → Int32 → Int32 → Int32 → zS → Option (Int32 × zS)
  | 0, _, _, _, _, _, _ => none
  | n + 1, y1, y2, y3, y4, y5, σ => (if (σ 0 b 1) ≤ y5 then fL_gives_J191 N b y1 σ else (if 60 ≤ y5 then fL_gives_J191 N b y1 σ else zgd (zin y5 60) (zlt (σ 10 b y5.toNatClampNeg) fun v4 => (if 10000 ≤ v4 then (if 20000 ≤ v4 then (if v4 = 20033 then (if y4 ≤ 0 then fL_gives_L6 N b n y1 y2 y3 y4 (y5 + 1) σ else zgd (zin (y4 - 1) 61) ((if (σ 11 b (y4 - 1).toNatClampNeg) = 0 then fL_gives_J138 N b (fun y1 y2 y3 y4 y5 σ => fL_gives_L6 N b n y1 y2 y3 y4 y5 σ) y1 y2 y3 y4 y5 1 (y4 - 1) σ else fL_gives_J138 N b (fun y1 y2 y3 y4 y5 σ => fL_gives_L6 N b n y1 y2 y3 y4 y5 σ) y1 y2 y3 y4 y5 0 (y4 - 1) σ))) else (if y4 ≤ 1 then fL_gives_L6 N b n y1 y2 y3 y4 (y5 + 1) σ else zgd (zin ((y4 + (-1)) - 1) 61) (zgd (zin (y4 + (-1)) 61) ((fL_joined (v4 - 20000) (σ 11 b ((y4 + (-1)) - 1).toNatClampNeg) (σ 11 b (y4 + (-1)).toNatClampNeg)).bind fun r15 => zgd (zin ((y4 + (-1)) - 1) 61) (zlt (zup σ 11 b ((y4 + (-1)) - 1).toNatClampNeg r15) fun s16 => fL_gives_L6 N b n y1 y2 y3 (y4 + (-1)) (y5 + 1) s16))))) else (if v4 = 10000 then fL_gives_J93 N b (fun y1 y2 y3 y4 y5 σ => fL_gives_L6 N b n y1 y2 y3 y4 y5 σ) y1 y2 y3 y4 y5 y1 y4 σ else (if v4 = 10001 then fL_gives_J93 N b (fun y1 y2 y3 y4 y5 σ => fL_gives_L6 N b n y1 y2 y3 y4 y5 σ) y1 y2 y3 y4 y5 y2 y4 σ else fL_gives_J93 N b (fun y1 y2 y3 y4 y5 σ => fL_gives_L6 N b n y1 y2 y3 y4 y5 σ) y1 y2 y3 y4 y5 y3 y4 σ))) else zgd (zin y4 61) (zlt (zup σ 11 b y4.toNatClampNeg v4) fun s20 => fL_gives_L6 N b n y1 y2 y3 (y4 + 1) (y5 + 1) s20)))))
set_option maxHeartbeats 4000000 in
theorem kL_gives_L6 (N : Nat) (b : Nat) (d : Nat) (hd : 1 ≤ d)  : ∀ n : Nat, ∀ (y1 : Int32) (y2 : Int32) (y3 : Int32) (y4 : Int32) (y5 : Int32) (σ : zS) (w : Int32 × zS) (z6 : Option zA), fL_gives_L6 N b n y1 y2 y3 y4 y5 σ = some w → zEv d 1 6 [some (zR 0 b), some (zI y1), some (zI y2), some (zI y3), some (zI y4), some (zI y5), z6] [] σ (some (zI w.1), w.2) := by
  intro n
  induction n with
  | zero =>
    intro y1 y2 y3 y4 y5 σ w z6 h
    cases h
  | succ n ih =>
    intro y1 y2 y3 y4 y5 σ w z6 h
    rw [fL_gives_L6] at h
    refine ev_s i1_6 (p := 8) rfl ?_
    refine ev_s i1_8 (p := 9) rfl ?_
    refine ev_getf i1_9 zf0_22 (u := zI (σ 0 b 1)) rfl (p := 12) rfl ?_
    refine ev_cmpge i1_12 (t := 191) (by decide) (p := 15) rfl h (fun c1 h => ?_) (fun c1 h => ?_)
    · exact kL_gives_J191 N b d hd y1 σ w _ _ rfl _ rfl _ rfl _ h
    · refine ev_s i1_15 (p := 17) rfl ?_
      refine ev_s i1_17 (p := 19) (zib_60 _ _ _ _ _) ?_
      refine ev_cmpge i1_19 (t := 191) (by decide) (p := 22) rfl h (fun c2 h => ?_) (fun c2 h => ?_)
      · exact kL_gives_J191 N b d hd y1 σ w _ _ rfl _ rfl _ rfl _ h
      · refine ev_s i1_22 (p := 23) rfl ?_
        refine ev_getf i1_23 zf0_9 (u := zR 10 b) rfl (p := 26) rfl ?_
        refine ev_s i1_26 (p := 28) rfl ?_
        refine ev_iald i1_28 rfl (n := 60) rfl (p := 29) rfl h (fun g3 h => ?_)
        refine ev_let h (fun v4 ev4 h => ?_)
        refine ev_s i1_29 (p := 31) (l := [some (zR 0 b), some (zI y1), some (zI y2), some (zI y3), some (zI y4), some (zI y5), some (zI v4)]) rfl ?_
        refine ev_s i1_31 (p := 33) rfl ?_
        refine ev_s i1_33 (p := 36) (zis_10000 _ _ _ _ _) ?_
        refine ev_cmpge i1_36 (t := 54) (by decide) (p := 39) rfl h (fun c5 h => ?_) (fun c5 h => ?_)
        · refine ev_s i1_54 (p := 56) rfl ?_
          refine ev_s i1_56 (p := 59) (zis_20000 _ _ _ _ _) ?_
          refine ev_cmpge i1_59 (t := 100) (by decide) (p := 62) rfl h (fun c6 h => ?_) (fun c6 h => ?_)
          · refine ev_s i1_100 (p := 102) rfl ?_
            refine ev_s i1_102 (p := 105) (zis_20033 _ _ _ _ _) ?_
            refine ev_cmpne i1_105 (t := 142) (by decide) (p := 108) rfl h (fun c7 h => ?_) (fun c7 h => ?_)
            · refine ev_s i1_108 (p := 110) rfl ?_
              refine ev_ifle i1_110 (t := 185) (by decide) (p := 113) rfl h (fun c8 h => ?_) (fun c8 h => ?_)
              · refine ev_iinc i1_185 zii_1 rfl (l := [some (zR 0 b), some (zI y1), some (zI y2), some (zI y3), some (zI y4), some (zI (y5 + 1)), some (zI v4)]) rfl (p := 188) rfl ?_
                refine ev_goto i1_188 (t := 6) (by decide) ?_
                exact ih y1 y2 y3 y4 (y5 + 1) σ w _ h
              · refine ev_s i1_113 (p := 114) rfl ?_
                refine ev_getf i1_114 zf0_15 (u := zR 11 b) rfl (p := 117) rfl ?_
                refine ev_s i1_117 (p := 119) rfl ?_
                refine ev_s i1_119 (p := 120) (zic_1 _ _ _ _ _) ?_
                refine ev_s i1_120 (p := 121) (t := [zI (y4 - 1), zR 11 b]) rfl ?_
                refine ev_s i1_121 (p := 122) rfl ?_
                refine ev_getf i1_122 zf0_15 (u := zR 11 b) rfl (p := 125) rfl ?_
                refine ev_s i1_125 (p := 127) rfl ?_
                refine ev_s i1_127 (p := 128) (zic_1 _ _ _ _ _) ?_
                refine ev_s i1_128 (p := 129) (t := [zI (y4 - 1), zR 11 b, zI (y4 - 1), zR 11 b]) rfl ?_
                refine ev_iald i1_129 rfl (n := 61) rfl (p := 130) rfl h (fun g9 h => ?_)
                refine ev_ifne i1_130 (t := 137) (by decide) (p := 133) rfl h (fun c10 h => ?_) (fun c10 h => ?_)
                · refine ev_s i1_133 (p := 134) (zic_1 _ _ _ _ _) ?_
                  refine ev_goto i1_134 (t := 138) (by decide) ?_
                  exact kL_gives_J138 N b d hd (fun y1 y2 y3 y4 y5 σ => fL_gives_L6 N b n y1 y2 y3 y4 y5 σ) ih y1 y2 y3 y4 y5 1 (y4 - 1) σ w _ h
                · refine ev_s i1_137 (p := 138) (zic_0 _ _ _ _ _) ?_
                  exact kL_gives_J138 N b d hd (fun y1 y2 y3 y4 y5 σ => fL_gives_L6 N b n y1 y2 y3 y4 y5 σ) ih y1 y2 y3 y4 y5 0 (y4 - 1) σ w _ h
            · refine ev_s i1_142 (p := 144) rfl ?_
              refine ev_s i1_144 (p := 145) (zic_1 _ _ _ _ _) ?_
              refine ev_cmple i1_145 (t := 185) (by decide) (p := 148) rfl h (fun c11 h => ?_) (fun c11 h => ?_)
              · refine ev_iinc i1_185 zii_1 rfl (l := [some (zR 0 b), some (zI y1), some (zI y2), some (zI y3), some (zI y4), some (zI (y5 + 1)), some (zI v4)]) rfl (p := 188) rfl ?_
                refine ev_goto i1_188 (t := 6) (by decide) ?_
                exact ih y1 y2 y3 y4 (y5 + 1) σ w _ h
              · refine ev_iinc i1_148 zii_m1 rfl (l := [some (zR 0 b), some (zI y1), some (zI y2), some (zI y3), some (zI (y4 + (-1))), some (zI y5), some (zI v4)]) rfl (p := 151) rfl ?_
                refine ev_s i1_151 (p := 152) rfl ?_
                refine ev_getf i1_152 zf0_15 (u := zR 11 b) rfl (p := 155) rfl ?_
                refine ev_s i1_155 (p := 157) rfl ?_
                refine ev_s i1_157 (p := 158) (zic_1 _ _ _ _ _) ?_
                refine ev_s i1_158 (p := 159) (t := [zI ((y4 + (-1)) - 1), zR 11 b]) rfl ?_
                refine ev_s i1_159 (p := 161) rfl ?_
                refine ev_s i1_161 (p := 164) (zis_20000 _ _ _ _ _) ?_
                refine ev_s i1_164 (p := 165) (t := [zI (v4 - 20000), zI ((y4 + (-1)) - 1), zR 11 b]) rfl ?_
                refine ev_s i1_165 (p := 166) rfl ?_
                refine ev_getf i1_166 zf0_15 (u := zR 11 b) rfl (p := 169) rfl ?_
                refine ev_s i1_169 (p := 171) rfl ?_
                refine ev_s i1_171 (p := 172) (zic_1 _ _ _ _ _) ?_
                refine ev_s i1_172 (p := 173) (t := [zI ((y4 + (-1)) - 1), zR 11 b, zI (v4 - 20000), zI ((y4 + (-1)) - 1), zR 11 b]) rfl ?_
                refine ev_iald i1_173 rfl (n := 61) rfl (p := 174) rfl h (fun g12 h => ?_)
                refine ev_s i1_174 (p := 175) rfl ?_
                refine ev_getf i1_175 zf0_15 (u := zR 11 b) rfl (p := 178) rfl ?_
                refine ev_s i1_178 (p := 180) rfl ?_
                refine ev_iald i1_180 rfl (n := 61) rfl (p := 181) rfl h (fun g13 h => ?_)
                obtain ⟨r15, hr14, h⟩ := bd_some h
                refine ev_callS i1_181 zn0_25 zc0_25 zm2 (as := [zI (v4 - 20000), zI (σ 11 b ((y4 + (-1)) - 1).toNatClampNeg), zI (σ 11 b (y4 + (-1)).toNatClampNeg)]) (rest := [zI ((y4 + (-1)) - 1), zR 11 b]) rfl rfl (Nat.le_of_ble_eq_true rfl) (Nat.le_of_ble_eq_true rfl) (Nat.le_of_ble_eq_true rfl) (by omega) (l0 := [some (zI (v4 - 20000)), some (zI (σ 11 b ((y4 + (-1)) - 1).toNatClampNeg)), some (zI (σ 11 b (y4 + (-1)).toNatClampNeg))]) rfl (p := 184) rfl (kL_joined (v4 - 20000) (σ 11 b ((y4 + (-1)) - 1).toNatClampNeg) (σ 11 b (y4 + (-1)).toNatClampNeg) σ r15 hr14 (d - 1) (by omega)) ?_
                change zEv d 1 184 [some (zR 0 b), some (zI y1), some (zI y2), some (zI y3), some (zI (y4 + (-1))), some (zI y5), some (zI v4)] [zI r15, zI ((y4 + (-1)) - 1), zR 11 b] σ _
                refine ev_iast i1_184 rfl (n := 61) rfl (p := 185) rfl h (fun g17 h => ?_)
                refine ev_lets h (fun s16 es16 h => ?_)
                refine ev_iinc i1_185 zii_1 rfl (l := [some (zR 0 b), some (zI y1), some (zI y2), some (zI y3), some (zI (y4 + (-1))), some (zI (y5 + 1)), some (zI v4)]) rfl (p := 188) rfl ?_
                refine ev_goto i1_188 (t := 6) (by decide) ?_
                exact ih y1 y2 y3 (y4 + (-1)) (y5 + 1) s16 w _ h
          · refine ev_s i1_62 (p := 63) rfl ?_
            refine ev_getf i1_63 zf0_15 (u := zR 11 b) rfl (p := 66) rfl ?_
            refine ev_s i1_66 (p := 68) rfl ?_
            refine ev_s i1_68 (p := 70) rfl ?_
            refine ev_s i1_70 (p := 73) (zis_10000 _ _ _ _ _) ?_
            refine ev_cmpne i1_73 (t := 80) (by decide) (p := 76) rfl h (fun c18 h => ?_) (fun c18 h => ?_)
            · refine ev_s i1_76 (p := 77) rfl ?_
              refine ev_goto i1_77 (t := 93) (by decide) ?_
              exact kL_gives_J93 N b d hd (fun y1 y2 y3 y4 y5 σ => fL_gives_L6 N b n y1 y2 y3 y4 y5 σ) ih y1 y2 y3 y4 y5 y1 y4 σ w _ h
            · refine ev_s i1_80 (p := 82) rfl ?_
              refine ev_s i1_82 (p := 85) (zis_10001 _ _ _ _ _) ?_
              refine ev_cmpne i1_85 (t := 92) (by decide) (p := 88) rfl h (fun c19 h => ?_) (fun c19 h => ?_)
              · refine ev_s i1_88 (p := 89) rfl ?_
                refine ev_goto i1_89 (t := 93) (by decide) ?_
                exact kL_gives_J93 N b d hd (fun y1 y2 y3 y4 y5 σ => fL_gives_L6 N b n y1 y2 y3 y4 y5 σ) ih y1 y2 y3 y4 y5 y2 y4 σ w _ h
              · refine ev_s i1_92 (p := 93) rfl ?_
                exact kL_gives_J93 N b d hd (fun y1 y2 y3 y4 y5 σ => fL_gives_L6 N b n y1 y2 y3 y4 y5 σ) ih y1 y2 y3 y4 y5 y3 y4 σ w _ h
        · refine ev_s i1_39 (p := 40) rfl ?_
          refine ev_getf i1_40 zf0_15 (u := zR 11 b) rfl (p := 43) rfl ?_
          refine ev_s i1_43 (p := 45) rfl ?_
          refine ev_s i1_45 (p := 47) rfl ?_
          refine ev_iast i1_47 rfl (n := 61) rfl (p := 48) rfl h (fun g21 h => ?_)
          refine ev_lets h (fun s20 es20 h => ?_)
          refine ev_iinc i1_48 zii_1 rfl (l := [some (zR 0 b), some (zI y1), some (zI y2), some (zI y3), some (zI (y4 + 1)), some (zI y5), some (zI v4)]) rfl (p := 51) rfl ?_
          refine ev_goto i1_51 (t := 185) (by decide) ?_
          refine ev_iinc i1_185 zii_1 rfl (l := [some (zR 0 b), some (zI y1), some (zI y2), some (zI y3), some (zI (y4 + 1)), some (zI (y5 + 1)), some (zI v4)]) rfl (p := 188) rfl ?_
          refine ev_goto i1_188 (t := 6) (by decide) ?_
          exact ih y1 y2 y3 (y4 + 1) (y5 + 1) s20 w _ h
def fL_gives (N : Nat) (b : Nat) (x1 : Int32) (x2 : Int32) (x3 : Int32) (σ : zS) : Option (Int32 × zS) := fL_gives_L6 N b N x1 x2 x3 0 0 σ
set_option maxHeartbeats 4000000 in
theorem kL_gives (N : Nat) (b : Nat) (x1 : Int32) (x2 : Int32) (x3 : Int32) (σ : zS) (w : Int32 × zS) (h : fL_gives N b x1 x2 x3 σ = some w) (d : Nat) (hd : 1 ≤ d) : zEv d 1 0 [some (zR 0 b), some (zI x1), some (zI x2), some (zI x3), none, none, none] [] σ (some (zI w.1), w.2) := by
  unfold fL_gives at h
  refine ev_s i1_0 (p := 1) (zic_0 _ _ _ _ _) ?_
  refine ev_s i1_1 (p := 3) (l := [some (zR 0 b), some (zI x1), some (zI x2), some (zI x3), some (zI 0), none, none]) rfl ?_
  refine ev_s i1_3 (p := 4) (zic_0 _ _ _ _ _) ?_
  refine ev_s i1_4 (p := 6) (l := [some (zR 0 b), some (zI x1), some (zI x2), some (zI x3), some (zI 0), some (zI 0), none]) rfl ?_
  exact kL_gives_L6 N b d hd N x1 x2 x3 0 0 σ w _ h
/-! fR_doesNow -/
def fR_doesNow (N : Nat) (b : Nat) (x1 : Int32) (σ : zS) : Option (Int32 × zS) := (fR_yielding N b x1 σ).bind fun r2 => zgd (zin x1 8) (zb2 (fL_gives N (if b = 2 then 0 else 2 * b) r2 (σ 19 b x1.toNatClampNeg) ((σ 2 b 10) - (σ 2 b 10) / 8 * 8) σ) fun r6 s5 => some (r6, s5))
set_option maxHeartbeats 4000000 in
theorem kR_doesNow (N : Nat) (b : Nat) (x1 : Int32) (σ : zS) (w : Int32 × zS) (h : fR_doesNow N b x1 σ = some w) (d : Nat) (hd : 2 ≤ d) : zEv d 30 0 [some (zR 2 b), some (zI x1)] [] σ (some (zI w.1), w.2) := by
  unfold fR_doesNow at h
  refine ev_s i30_0 (p := 1) rfl ?_
  refine ev_getf i30_1 zf2_40 (u := zR 0 (if b = 2 then 0 else 2 * b)) rfl (p := 4) rfl ?_
  refine ev_s i30_4 (p := 5) rfl ?_
  refine ev_s i30_5 (p := 6) rfl ?_
  obtain ⟨r2, hr1, h⟩ := bd_some h
  refine ev_callV i30_6 zc2_85 zm32 zo32 (as' := [zI x1]) (rest := [zR 0 (if b = 2 then 0 else 2 * b)]) rfl rfl (Nat.le_of_ble_eq_true rfl) (Nat.le_of_ble_eq_true rfl) (Nat.le_of_ble_eq_true rfl) (by omega) (l0 := [some (zR 2 b), some (zI x1)]) rfl (p := 9) rfl (kR_yielding N b x1 σ r2 hr1 (d - 1) (by omega)) ?_
  change zEv d 30 9 [some (zR 2 b), some (zI x1)] [zI r2, zR 0 (if b = 2 then 0 else 2 * b)] σ _
  refine ev_s i30_9 (p := 10) rfl ?_
  refine ev_getf i30_10 zf2_27 (u := zR 19 b) rfl (p := 13) rfl ?_
  refine ev_s i30_13 (p := 14) rfl ?_
  refine ev_iald i30_14 rfl (n := 8) rfl (p := 15) rfl h (fun g3 h => ?_)
  refine ev_s i30_15 (p := 16) rfl ?_
  refine ev_getf i30_16 zf2_56 (u := zI (σ 2 b 10)) rfl (p := 19) rfl ?_
  refine ev_s i30_19 (p := 21) (zib_8 _ _ _ _ _) ?_
  refine ev_iremK i30_21 (p := 22) rfl (by decide) ?_
  obtain ⟨r6, s5, hr4, h⟩ := b2_some h
  refine ev_callV i30_22 zc2_88 zm1 zo1 (as' := [zI r2, zI (σ 19 b x1.toNatClampNeg), zI ((σ 2 b 10) - (σ 2 b 10) / 8 * 8)]) (rest := []) rfl rfl (Nat.le_of_ble_eq_true rfl) (Nat.le_of_ble_eq_true rfl) (Nat.le_of_ble_eq_true rfl) (by omega) (l0 := [some (zR 0 (if b = 2 then 0 else 2 * b)), some (zI r2), some (zI (σ 19 b x1.toNatClampNeg)), some (zI ((σ 2 b 10) - (σ 2 b 10) / 8 * 8)), none, none, none]) rfl (p := 25) rfl (kL_gives N (if b = 2 then 0 else 2 * b) r2 (σ 19 b x1.toNatClampNeg) ((σ 2 b 10) - (σ 2 b 10) / 8 * 8) σ (r6, s5) hr4 (d - 1) (by omega)) ?_
  change zEv d 30 25 [some (zR 2 b), some (zI x1)] [zI r6] s5 _
  obtain rfl := Option.some.inj h
  exact ev_iret i30_25 zr30
/-! fR_steps -/
def fR_steps (b : Nat) (x1 : Int32) (σ : zS) : Option (Int32) := zgd (zin x1 8) ((if (σ 14 b x1.toNatClampNeg) = 0 then some (2) else (if (σ 14 b x1.toNatClampNeg) = 1 then some (2 + ((σ 2 b 10) - (σ 2 b 10) / 2 * 2)) else (if (σ 14 b x1.toNatClampNeg) = 2 then some (1) else (if (σ 14 b x1.toNatClampNeg) = 3 then zgd (zin x1 8) (some ((σ 15 b x1.toNatClampNeg) / 5)) else (if (σ 14 b x1.toNatClampNeg) = 4 then zgd (zin x1 8) (some ((2 + ((σ 2 b 10) - (σ 2 b 10) / 2 * 2)) + (σ 15 b x1.toNatClampNeg))) else (if (σ 14 b x1.toNatClampNeg) = 5 then some (4) else some (1))))))))
set_option maxHeartbeats 4000000 in
theorem kR_steps (b : Nat) (x1 : Int32) (σ : zS) (w : Int32) (h : fR_steps b x1 σ = some w) (d : Nat) (hd : 0 ≤ d) : zEv d 34 0 [some (zR 2 b), some (zI x1)] [] σ (some (zI w), σ) := by
  unfold fR_steps at h
  refine ev_s i34_0 (p := 1) rfl ?_
  refine ev_getf i34_1 zf2_9 (u := zR 14 b) rfl (p := 4) rfl ?_
  refine ev_s i34_4 (p := 5) rfl ?_
  refine ev_iald i34_5 rfl (n := 8) rfl (p := 6) rfl h (fun g1 h => ?_)
  refine ev_sel h (fun c2 h => ?_) (fun c2 h => ?_)
  · refine ev_tsw i34_6 (by decide) (t := 44) (by rw [c2]; decide) ?_
    refine ev_s i34_44 (p := 45) (zic_2 _ _ _ _ _) ?_
    obtain rfl := Option.some.inj h
    exact ev_iret i34_45 zr34
  refine ev_sel h (fun c3 h => ?_) (fun c3 h => ?_)
  · refine ev_tsw i34_6 (by decide) (t := 46) (by rw [c3]; decide) ?_
    refine ev_s i34_46 (p := 47) (zic_2 _ _ _ _ _) ?_
    refine ev_s i34_47 (p := 48) rfl ?_
    refine ev_getf i34_48 zf2_56 (u := zI (σ 2 b 10)) rfl (p := 51) rfl ?_
    refine ev_s i34_51 (p := 52) (zic_2 _ _ _ _ _) ?_
    refine ev_iremK i34_52 (p := 53) rfl (by decide) ?_
    refine ev_s i34_53 (p := 54) (t := [zI (2 + ((σ 2 b 10) - (σ 2 b 10) / 2 * 2))]) rfl ?_
    obtain rfl := Option.some.inj h
    exact ev_iret i34_54 zr34
  refine ev_sel h (fun c4 h => ?_) (fun c4 h => ?_)
  · refine ev_tsw i34_6 (by decide) (t := 55) (by rw [c4]; decide) ?_
    refine ev_s i34_55 (p := 56) (zic_1 _ _ _ _ _) ?_
    obtain rfl := Option.some.inj h
    exact ev_iret i34_56 zr34
  refine ev_sel h (fun c6 h => ?_) (fun c6 h => ?_)
  · refine ev_tsw i34_6 (by decide) (t := 57) (by rw [c6]; decide) ?_
    refine ev_s i34_57 (p := 58) rfl ?_
    refine ev_getf i34_58 zf2_15 (u := zR 15 b) rfl (p := 61) rfl ?_
    refine ev_s i34_61 (p := 62) rfl ?_
    refine ev_iald i34_62 rfl (n := 8) rfl (p := 63) rfl h (fun g5 h => ?_)
    refine ev_s i34_63 (p := 64) (zic_5 _ _ _ _ _) ?_
    refine ev_idivK i34_64 (p := 65) rfl (by decide) ?_
    obtain rfl := Option.some.inj h
    exact ev_iret i34_65 zr34
  refine ev_sel h (fun c8 h => ?_) (fun c8 h => ?_)
  · refine ev_tsw i34_6 (by decide) (t := 66) (by rw [c8]; decide) ?_
    refine ev_s i34_66 (p := 67) (zic_2 _ _ _ _ _) ?_
    refine ev_s i34_67 (p := 68) rfl ?_
    refine ev_getf i34_68 zf2_56 (u := zI (σ 2 b 10)) rfl (p := 71) rfl ?_
    refine ev_s i34_71 (p := 72) (zic_2 _ _ _ _ _) ?_
    refine ev_iremK i34_72 (p := 73) rfl (by decide) ?_
    refine ev_s i34_73 (p := 74) (t := [zI (2 + ((σ 2 b 10) - (σ 2 b 10) / 2 * 2))]) rfl ?_
    refine ev_s i34_74 (p := 75) rfl ?_
    refine ev_getf i34_75 zf2_15 (u := zR 15 b) rfl (p := 78) rfl ?_
    refine ev_s i34_78 (p := 79) rfl ?_
    refine ev_iald i34_79 rfl (n := 8) rfl (p := 80) rfl h (fun g7 h => ?_)
    refine ev_s i34_80 (p := 81) (t := [zI ((2 + ((σ 2 b 10) - (σ 2 b 10) / 2 * 2)) + (σ 15 b x1.toNatClampNeg))]) rfl ?_
    obtain rfl := Option.some.inj h
    exact ev_iret i34_81 zr34
  refine ev_sel h (fun c9 h => ?_) (fun c9 h => ?_)
  · refine ev_tsw i34_6 (by decide) (t := 82) (by rw [c9]; decide) ?_
    refine ev_s i34_82 (p := 83) (zic_4 _ _ _ _ _) ?_
    obtain rfl := Option.some.inj h
    exact ev_iret i34_83 zr34
  refine ev_tsw i34_6 (by decide) (t := 84) (by show (6 : Int) + zsw (σ 14 b x1.toNatClampNeg) (0) [38, 40, 49, 51, 60, 76] (78) = 84; rw [zsw_st c2 (by decide), zsw_st c3 (by decide), zsw_st c4 (by decide), zsw_st c6 (by decide), zsw_st c8 (by decide), zsw_st c9 (by decide)]; rfl) ?_
  refine ev_s i34_84 (p := 85) (zic_1 _ _ _ _ _) ?_
  obtain rfl := Option.some.inj h
  exact ev_iret i34_85 zr34
/-! fR_goesNow -/
def fR_goesNow (N : Nat) (b : Nat) (x1 : Int32) (σ : zS) : Option (Int32 × zS) := (fR_steps b x1 σ).bind fun r2 => zgd (zin x1 8) (zb2 (fL_gives N (if b = 2 then 1 else 2 * b + 1) r2 (σ 18 b x1.toNatClampNeg) ((σ 2 b 10) - (σ 2 b 10) / 8 * 8) σ) fun r6 s5 => some (r6, s5))
set_option maxHeartbeats 4000000 in
theorem kR_goesNow (N : Nat) (b : Nat) (x1 : Int32) (σ : zS) (w : Int32 × zS) (h : fR_goesNow N b x1 σ = some w) (d : Nat) (hd : 2 ≤ d) : zEv d 31 0 [some (zR 2 b), some (zI x1)] [] σ (some (zI w.1), w.2) := by
  unfold fR_goesNow at h
  refine ev_s i31_0 (p := 1) rfl ?_
  refine ev_getf i31_1 zf2_44 (u := zR 0 (if b = 2 then 1 else 2 * b + 1)) rfl (p := 4) rfl ?_
  refine ev_s i31_4 (p := 5) rfl ?_
  refine ev_s i31_5 (p := 6) rfl ?_
  obtain ⟨r2, hr1, h⟩ := bd_some h
  refine ev_callV i31_6 zc2_94 zm34 zo34 (as' := [zI x1]) (rest := [zR 0 (if b = 2 then 1 else 2 * b + 1)]) rfl rfl (Nat.le_of_ble_eq_true rfl) (Nat.le_of_ble_eq_true rfl) (Nat.le_of_ble_eq_true rfl) (by omega) (l0 := [some (zR 2 b), some (zI x1)]) rfl (p := 9) rfl (kR_steps b x1 σ r2 hr1 (d - 1) (by omega)) ?_
  change zEv d 31 9 [some (zR 2 b), some (zI x1)] [zI r2, zR 0 (if b = 2 then 1 else 2 * b + 1)] σ _
  refine ev_s i31_9 (p := 10) rfl ?_
  refine ev_getf i31_10 zf2_24 (u := zR 18 b) rfl (p := 13) rfl ?_
  refine ev_s i31_13 (p := 14) rfl ?_
  refine ev_iald i31_14 rfl (n := 8) rfl (p := 15) rfl h (fun g3 h => ?_)
  refine ev_s i31_15 (p := 16) rfl ?_
  refine ev_getf i31_16 zf2_56 (u := zI (σ 2 b 10)) rfl (p := 19) rfl ?_
  refine ev_s i31_19 (p := 21) (zib_8 _ _ _ _ _) ?_
  refine ev_iremK i31_21 (p := 22) rfl (by decide) ?_
  obtain ⟨r6, s5, hr4, h⟩ := b2_some h
  refine ev_callV i31_22 zc2_88 zm1 zo1 (as' := [zI r2, zI (σ 18 b x1.toNatClampNeg), zI ((σ 2 b 10) - (σ 2 b 10) / 8 * 8)]) (rest := []) rfl rfl (Nat.le_of_ble_eq_true rfl) (Nat.le_of_ble_eq_true rfl) (Nat.le_of_ble_eq_true rfl) (by omega) (l0 := [some (zR 0 (if b = 2 then 1 else 2 * b + 1)), some (zI r2), some (zI (σ 18 b x1.toNatClampNeg)), some (zI ((σ 2 b 10) - (σ 2 b 10) / 8 * 8)), none, none, none]) rfl (p := 25) rfl (kL_gives N (if b = 2 then 1 else 2 * b + 1) r2 (σ 18 b x1.toNatClampNeg) ((σ 2 b 10) - (σ 2 b 10) / 8 * 8) σ (r6, s5) hr4 (d - 1) (by omega)) ?_
  change zEv d 31 25 [some (zR 2 b), some (zI x1)] [zI r6] s5 _
  obtain rfl := Option.some.inj h
  exact ev_iret i31_25 zr31
/-! fA_oneIs -/
def fA_oneIs (N : Nat) (x1 : Int32) (x2 : Int32) (σ : zS) : Option (Int32 × zS) := (fA_isThere x1 σ).bind fun r2 => (if r2 = 0 then zb2 (fA_refuse 1 σ) fun r6 s5 => some (r6, s5) else (if x2 = 0 then zgd (zin x1 8) (some (σ 14 0 x1.toNatClampNeg, σ)) else (if x2 = 1 then zgd (zin x1 8) (some (σ 15 0 x1.toNatClampNeg, σ)) else (if x2 = 2 then zgd (zin x1 8) (some (σ 16 0 x1.toNatClampNeg, σ)) else (if x2 = 3 then zgd (zin x1 8) (some (σ 17 0 x1.toNatClampNeg, σ)) else (if x2 = 4 then zgd (zin x1 8) (some (σ 18 0 x1.toNatClampNeg, σ)) else (if x2 = 5 then zgd (zin x1 8) (some (σ 19 0 x1.toNatClampNeg, σ)) else (if x2 = 6 then (fR_apart 0 x1 σ).bind fun r20 => some (r20, σ) else (if x2 = 7 then zb2 (fR_doesNow N 0 x1 σ) fun r24 s23 => some (r24, s23) else (if x2 = 8 then zb2 (fR_goesNow N 0 x1 σ) fun r28 s27 => some (r28, s27) else zb2 (fA_refuse 1 σ) fun r32 s31 => some (r32, s31)))))))))))
set_option maxHeartbeats 4000000 in
theorem kA_oneIs (N : Nat) (x1 : Int32) (x2 : Int32) (σ : zS) (w : Int32 × zS) (h : fA_oneIs N x1 x2 σ = some w) (d : Nat) (hd : 3 ≤ d) : zEv d 62 0 [some (zR 7 0), some (zI x1), some (zI x2)] [] σ (some (zI w.1), w.2) := by
  unfold fA_oneIs at h
  refine ev_s i62_0 (p := 1) rfl ?_
  refine ev_s i62_1 (p := 2) rfl ?_
  obtain ⟨r2, hr1, h⟩ := bd_some h
  refine ev_callV i62_2 zc7_68 zm104 zo104 (as' := [zI x1]) (rest := []) rfl rfl (Nat.le_of_ble_eq_true rfl) (Nat.le_of_ble_eq_true rfl) (Nat.le_of_ble_eq_true rfl) (by omega) (l0 := [some (zR 7 0), some (zI x1)]) rfl (p := 5) rfl (kA_isThere x1 σ r2 hr1 (d - 1) (by omega)) ?_
  change zEv d 62 5 [some (zR 7 0), some (zI x1), some (zI x2)] [zI r2] σ _
  refine ev_ifne i62_5 (t := 14) (by decide) (p := 8) rfl h (fun c3 h => ?_) (fun c3 h => ?_)
  · refine ev_s i62_8 (p := 9) rfl ?_
    refine ev_s i62_9 (p := 10) (zic_1 _ _ _ _ _) ?_
    obtain ⟨r6, s5, hr4, h⟩ := b2_some h
    refine ev_callV i62_10 zc7_72 zm102 zo102 (as' := [zI 1]) (rest := []) rfl rfl (Nat.le_of_ble_eq_true rfl) (Nat.le_of_ble_eq_true rfl) (Nat.le_of_ble_eq_true rfl) (by omega) (l0 := [some (zR 7 0), some (zI 1)]) rfl (p := 13) rfl (kA_refuse 1 σ (r6, s5) hr4 (d - 1) (by omega)) ?_
    change zEv d 62 13 [some (zR 7 0), some (zI x1), some (zI x2)] [zI r6] s5 _
    obtain rfl := Option.some.inj h
    exact ev_iret i62_13 zr62
  · refine ev_s i62_14 (p := 15) rfl ?_
    refine ev_sel h (fun c8 h => ?_) (fun c8 h => ?_)
    · refine ev_tsw i62_15 (by decide) (t := 64) (by rw [c8]; decide) ?_
      refine ev_s i62_64 (p := 65) rfl ?_
      refine ev_getf i62_65 zf7_47 (u := zR 2 0) rfl (p := 68) rfl ?_
      refine ev_getf i62_68 zf7_84 (u := zR 14 0) rfl (p := 71) rfl ?_
      refine ev_s i62_71 (p := 72) rfl ?_
      refine ev_iald i62_72 rfl (n := 8) rfl (p := 73) rfl h (fun g7 h => ?_)
      obtain rfl := Option.some.inj h
      exact ev_iret i62_73 zr62
    refine ev_sel h (fun c10 h => ?_) (fun c10 h => ?_)
    · refine ev_tsw i62_15 (by decide) (t := 74) (by rw [c10]; decide) ?_
      refine ev_s i62_74 (p := 75) rfl ?_
      refine ev_getf i62_75 zf7_47 (u := zR 2 0) rfl (p := 78) rfl ?_
      refine ev_getf i62_78 zf7_87 (u := zR 15 0) rfl (p := 81) rfl ?_
      refine ev_s i62_81 (p := 82) rfl ?_
      refine ev_iald i62_82 rfl (n := 8) rfl (p := 83) rfl h (fun g9 h => ?_)
      obtain rfl := Option.some.inj h
      exact ev_iret i62_83 zr62
    refine ev_sel h (fun c12 h => ?_) (fun c12 h => ?_)
    · refine ev_tsw i62_15 (by decide) (t := 84) (by rw [c12]; decide) ?_
      refine ev_s i62_84 (p := 85) rfl ?_
      refine ev_getf i62_85 zf7_47 (u := zR 2 0) rfl (p := 88) rfl ?_
      refine ev_getf i62_88 zf7_90 (u := zR 16 0) rfl (p := 91) rfl ?_
      refine ev_s i62_91 (p := 92) rfl ?_
      refine ev_iald i62_92 rfl (n := 8) rfl (p := 93) rfl h (fun g11 h => ?_)
      obtain rfl := Option.some.inj h
      exact ev_iret i62_93 zr62
    refine ev_sel h (fun c14 h => ?_) (fun c14 h => ?_)
    · refine ev_tsw i62_15 (by decide) (t := 94) (by rw [c14]; decide) ?_
      refine ev_s i62_94 (p := 95) rfl ?_
      refine ev_getf i62_95 zf7_47 (u := zR 2 0) rfl (p := 98) rfl ?_
      refine ev_getf i62_98 zf7_93 (u := zR 17 0) rfl (p := 101) rfl ?_
      refine ev_s i62_101 (p := 102) rfl ?_
      refine ev_iald i62_102 rfl (n := 8) rfl (p := 103) rfl h (fun g13 h => ?_)
      obtain rfl := Option.some.inj h
      exact ev_iret i62_103 zr62
    refine ev_sel h (fun c16 h => ?_) (fun c16 h => ?_)
    · refine ev_tsw i62_15 (by decide) (t := 104) (by rw [c16]; decide) ?_
      refine ev_s i62_104 (p := 105) rfl ?_
      refine ev_getf i62_105 zf7_47 (u := zR 2 0) rfl (p := 108) rfl ?_
      refine ev_getf i62_108 zf7_96 (u := zR 18 0) rfl (p := 111) rfl ?_
      refine ev_s i62_111 (p := 112) rfl ?_
      refine ev_iald i62_112 rfl (n := 8) rfl (p := 113) rfl h (fun g15 h => ?_)
      obtain rfl := Option.some.inj h
      exact ev_iret i62_113 zr62
    refine ev_sel h (fun c18 h => ?_) (fun c18 h => ?_)
    · refine ev_tsw i62_15 (by decide) (t := 114) (by rw [c18]; decide) ?_
      refine ev_s i62_114 (p := 115) rfl ?_
      refine ev_getf i62_115 zf7_47 (u := zR 2 0) rfl (p := 118) rfl ?_
      refine ev_getf i62_118 zf7_99 (u := zR 19 0) rfl (p := 121) rfl ?_
      refine ev_s i62_121 (p := 122) rfl ?_
      refine ev_iald i62_122 rfl (n := 8) rfl (p := 123) rfl h (fun g17 h => ?_)
      obtain rfl := Option.some.inj h
      exact ev_iret i62_123 zr62
    refine ev_sel h (fun c21 h => ?_) (fun c21 h => ?_)
    · refine ev_tsw i62_15 (by decide) (t := 124) (by rw [c21]; decide) ?_
      refine ev_s i62_124 (p := 125) rfl ?_
      refine ev_getf i62_125 zf7_47 (u := zR 2 0) rfl (p := 128) rfl ?_
      refine ev_s i62_128 (p := 129) rfl ?_
      obtain ⟨r20, hr19, h⟩ := bd_some h
      refine ev_callV i62_129 zc7_102 zm22 zo22 (as' := [zI x1]) (rest := []) rfl rfl (Nat.le_of_ble_eq_true rfl) (Nat.le_of_ble_eq_true rfl) (Nat.le_of_ble_eq_true rfl) (by omega) (l0 := [some (zR 2 0), some (zI x1), none]) rfl (p := 132) rfl (kR_apart 0 x1 σ r20 hr19 (d - 1) (by omega)) ?_
      change zEv d 62 132 [some (zR 7 0), some (zI x1), some (zI x2)] [zI r20] σ _
      obtain rfl := Option.some.inj h
      exact ev_iret i62_132 zr62
    refine ev_sel h (fun c25 h => ?_) (fun c25 h => ?_)
    · refine ev_tsw i62_15 (by decide) (t := 133) (by rw [c25]; decide) ?_
      refine ev_s i62_133 (p := 134) rfl ?_
      refine ev_getf i62_134 zf7_47 (u := zR 2 0) rfl (p := 137) rfl ?_
      refine ev_s i62_137 (p := 138) rfl ?_
      obtain ⟨r24, s23, hr22, h⟩ := b2_some h
      refine ev_callV i62_138 zc7_105 zm30 zo30 (as' := [zI x1]) (rest := []) rfl rfl (Nat.le_of_ble_eq_true rfl) (Nat.le_of_ble_eq_true rfl) (Nat.le_of_ble_eq_true rfl) (by omega) (l0 := [some (zR 2 0), some (zI x1)]) rfl (p := 141) rfl (kR_doesNow N 0 x1 σ (r24, s23) hr22 (d - 1) (by omega)) ?_
      change zEv d 62 141 [some (zR 7 0), some (zI x1), some (zI x2)] [zI r24] s23 _
      obtain rfl := Option.some.inj h
      exact ev_iret i62_141 zr62
    refine ev_sel h (fun c29 h => ?_) (fun c29 h => ?_)
    · refine ev_tsw i62_15 (by decide) (t := 142) (by rw [c29]; decide) ?_
      refine ev_s i62_142 (p := 143) rfl ?_
      refine ev_getf i62_143 zf7_47 (u := zR 2 0) rfl (p := 146) rfl ?_
      refine ev_s i62_146 (p := 147) rfl ?_
      obtain ⟨r28, s27, hr26, h⟩ := b2_some h
      refine ev_callV i62_147 zc7_108 zm31 zo31 (as' := [zI x1]) (rest := []) rfl rfl (Nat.le_of_ble_eq_true rfl) (Nat.le_of_ble_eq_true rfl) (Nat.le_of_ble_eq_true rfl) (by omega) (l0 := [some (zR 2 0), some (zI x1)]) rfl (p := 150) rfl (kR_goesNow N 0 x1 σ (r28, s27) hr26 (d - 1) (by omega)) ?_
      change zEv d 62 150 [some (zR 7 0), some (zI x1), some (zI x2)] [zI r28] s27 _
      obtain rfl := Option.some.inj h
      exact ev_iret i62_150 zr62
    refine ev_tsw i62_15 (by decide) (t := 151) (by show (15 : Int) + zsw x2 (0) [49, 59, 69, 79, 89, 99, 109, 118, 127] (136) = 151; rw [zsw_st c8 (by decide), zsw_st c10 (by decide), zsw_st c12 (by decide), zsw_st c14 (by decide), zsw_st c16 (by decide), zsw_st c18 (by decide), zsw_st c21 (by decide), zsw_st c25 (by decide), zsw_st c29 (by decide)]; rfl) ?_
    refine ev_s i62_151 (p := 152) rfl ?_
    refine ev_s i62_152 (p := 153) (zic_1 _ _ _ _ _) ?_
    obtain ⟨r32, s31, hr30, h⟩ := b2_some h
    refine ev_callV i62_153 zc7_72 zm102 zo102 (as' := [zI 1]) (rest := []) rfl rfl (Nat.le_of_ble_eq_true rfl) (Nat.le_of_ble_eq_true rfl) (Nat.le_of_ble_eq_true rfl) (by omega) (l0 := [some (zR 7 0), some (zI 1)]) rfl (p := 156) rfl (kA_refuse 1 σ (r32, s31) hr30 (d - 1) (by omega)) ?_
    change zEv d 62 156 [some (zR 7 0), some (zI x1), some (zI x2)] [zI r32] s31 _
    obtain rfl := Option.some.inj h
    exact ev_iret i62_156 zr62
/-! fM_isOne -/
def fM_isOne (x1 : Int32) (σ : zS) : Option (Int32) := (fM_in x1 0 ((σ 30 0 4) - 1)).bind fun r2 => zgd (r2 = 0 ∨ r2 = 1) (some (r2))
set_option maxHeartbeats 4000000 in
theorem kM_isOne (x1 : Int32) (σ : zS) (w : Int32) (h : fM_isOne x1 σ = some w) (d : Nat) (hd : 1 ≤ d) : zEv d 116 0 [some (zR 8 0), some (zI x1)] [] σ (some (zI w), σ) := by
  unfold fM_isOne at h
  refine ev_s i116_0 (p := 1) rfl ?_
  refine ev_s i116_1 (p := 2) (zic_0 _ _ _ _ _) ?_
  refine ev_s i116_2 (p := 3) rfl ?_
  refine ev_getf i116_3 zf8_7 (u := zR 30 0) rfl (p := 6) rfl ?_
  refine ev_s i116_6 (p := 7) (zic_4 _ _ _ _ _) ?_
  refine ev_ialdK i116_7 rfl (n := 394) rfl (by decide) (p := 8) rfl ?_
  change zEv d 116 8 [some (zR 8 0), some (zI x1)] [zI (σ 30 0 4), zI 0, zI x1] σ _
  refine ev_s i116_8 (p := 9) (zic_1 _ _ _ _ _) ?_
  refine ev_s i116_9 (p := 10) (t := [zI ((σ 30 0 4) - 1), zI 0, zI x1]) rfl ?_
  obtain ⟨r2, hr1, h⟩ := bd_some h
  refine ev_callS i116_10 zn8_50 zc8_50 zm111 (as := [zI x1, zI 0, zI ((σ 30 0 4) - 1)]) (rest := []) rfl rfl (Nat.le_of_ble_eq_true rfl) (Nat.le_of_ble_eq_true rfl) (Nat.le_of_ble_eq_true rfl) (by omega) (l0 := [some (zI x1), some (zI 0), some (zI ((σ 30 0 4) - 1))]) rfl (p := 13) rfl (kM_in x1 0 ((σ 30 0 4) - 1) σ r2 hr1 (d - 1) (by omega)) ?_
  change zEv d 116 13 [some (zR 8 0), some (zI x1)] [zI r2] σ _
  obtain ⟨g3, h⟩ := zgd_some h
  obtain rfl := Option.some.inj h
  exact ev_zret i116_13 zr116 g3
/-! fM_hasChildren -/
def fM_hasChildren_J28 (N : Nat) (K4 : Int32 → Int32 → Int32 → zS → Option (Int32)) (y1 : Int32) (y3 : Int32) (σ : zS) : Option (Int32) := K4 y1 1 (y3 + 1) σ
set_option maxHeartbeats 4000000 in
theorem kM_hasChildren_J28 (N : Nat) (d : Nat) (hd : 1 ≤ d) (K4 : Int32 → Int32 → Int32 → zS → Option (Int32)) (hK4 : ∀ (y1 : Int32) (y2 : Int32) (y3 : Int32) (σ : zS) (w : Int32), K4 y1 y2 y3 σ = some w → zEv d 138 4 [some (zR 8 0), some (zI y1), some (zI y2), some (zI y3)] [] σ (some (zI w), σ)) : ∀ (y1 : Int32) (y3 : Int32) (σ : zS) (w : Int32) (z2 : Option zA) (hz2 : znl z2 = true), fM_hasChildren_J28 N K4 y1 y3 σ = some w → zEv d 138 28 [some (zR 8 0), some (zI y1), z2, some (zI y3)] [] σ (some (zI w), σ) := by
  intro y1 y3 σ w z2 hz2 h
  unfold fM_hasChildren_J28 at h
  refine ev_s i138_28 (p := 29) (zic_1 _ _ _ _ _) ?_
  refine ev_goto i138_29 (t := 33) (by decide) ?_
  refine ev_s i138_33 (p := 34) (l := [some (zR 8 0), some (zI y1), some (zI 1), some (zI y3)]) rfl ?_
  refine ev_iinc i138_34 zii_1 rfl (l := [some (zR 8 0), some (zI y1), some (zI 1), some (zI (y3 + 1))]) rfl (p := 37) rfl ?_
  refine ev_goto i138_37 (t := 4) (by decide) ?_
  exact hK4 y1 1 (y3 + 1) σ w h
def fM_hasChildren_L4 (N : Nat) : Nat → Int32 → Int32 → Int32 → zS → Option (Int32)
  | 0, _, _, _, _ => none
  | n + 1, y1, y2, y3, σ => (if (σ 30 0 4) ≤ y3 then zgd (y2 = 0 ∨ y2 = 1) (some (y2)) else (if y2 = 0 then (fM_its y3 2 σ).bind fun r5 => (if r5 = y1 then fM_hasChildren_J28 N (fun y1 y2 y3 σ => fM_hasChildren_L4 N n y1 y2 y3 σ) y1 y3 σ else fM_hasChildren_L4 N n y1 0 (y3 + 1) σ) else fM_hasChildren_J28 N (fun y1 y2 y3 σ => fM_hasChildren_L4 N n y1 y2 y3 σ) y1 y3 σ))
set_option maxHeartbeats 4000000 in
theorem kM_hasChildren_L4 (N : Nat) (d : Nat) (hd : 1 ≤ d)  : ∀ n : Nat, ∀ (y1 : Int32) (y2 : Int32) (y3 : Int32) (σ : zS) (w : Int32), fM_hasChildren_L4 N n y1 y2 y3 σ = some w → zEv d 138 4 [some (zR 8 0), some (zI y1), some (zI y2), some (zI y3)] [] σ (some (zI w), σ) := by
  intro n
  induction n with
  | zero =>
    intro y1 y2 y3 σ w h
    cases h
  | succ n ih =>
    intro y1 y2 y3 σ w h
    rw [fM_hasChildren_L4] at h
    refine ev_s i138_4 (p := 5) rfl ?_
    refine ev_s i138_5 (p := 6) rfl ?_
    refine ev_getf i138_6 zf8_7 (u := zR 30 0) rfl (p := 9) rfl ?_
    refine ev_s i138_9 (p := 10) (zic_4 _ _ _ _ _) ?_
    refine ev_ialdK i138_10 rfl (n := 394) rfl (by decide) (p := 11) rfl ?_
    change zEv d 138 11 [some (zR 8 0), some (zI y1), some (zI y2), some (zI y3)] [zI (σ 30 0 4), zI y3] σ _
    refine ev_cmpge i138_11 (t := 40) (by decide) (p := 14) rfl h (fun c1 h => ?_) (fun c1 h => ?_)
    · refine ev_s i138_40 (p := 41) rfl ?_
      obtain ⟨g2, h⟩ := zgd_some h
      obtain rfl := Option.some.inj h
      exact ev_zret i138_41 zr138 g2
    · refine ev_s i138_14 (p := 15) rfl ?_
      refine ev_ifne i138_15 (t := 28) (by decide) (p := 18) rfl h (fun c3 h => ?_) (fun c3 h => ?_)
      · refine ev_s i138_18 (p := 19) rfl ?_
        refine ev_s i138_19 (p := 20) rfl ?_
        refine ev_s i138_20 (p := 21) (zic_2 _ _ _ _ _) ?_
        obtain ⟨r5, hr4, h⟩ := bd_some h
        refine ev_callV i138_21 zc8_54 zm118 zo118 (as' := [zI y3, zI 2]) (rest := []) rfl rfl (Nat.le_of_ble_eq_true rfl) (Nat.le_of_ble_eq_true rfl) (Nat.le_of_ble_eq_true rfl) (by omega) (l0 := [some (zR 8 0), some (zI y3), some (zI 2)]) rfl (p := 24) rfl (kM_its y3 2 σ r5 hr4 (d - 1) (by omega)) ?_
        change zEv d 138 24 [some (zR 8 0), some (zI y1), some (zI y2), some (zI y3)] [zI r5] σ _
        refine ev_s i138_24 (p := 25) rfl ?_
        refine ev_cmpne i138_25 (t := 32) (by decide) (p := 28) rfl h (fun c6 h => ?_) (fun c6 h => ?_)
        · exact kM_hasChildren_J28 N d hd (fun y1 y2 y3 σ => fM_hasChildren_L4 N n y1 y2 y3 σ) ih y1 y3 σ w _ rfl h
        · refine ev_s i138_32 (p := 33) (zic_0 _ _ _ _ _) ?_
          refine ev_s i138_33 (p := 34) (l := [some (zR 8 0), some (zI y1), some (zI 0), some (zI y3)]) rfl ?_
          refine ev_iinc i138_34 zii_1 rfl (l := [some (zR 8 0), some (zI y1), some (zI 0), some (zI (y3 + 1))]) rfl (p := 37) rfl ?_
          refine ev_goto i138_37 (t := 4) (by decide) ?_
          exact ih y1 0 (y3 + 1) σ w h
      · exact kM_hasChildren_J28 N d hd (fun y1 y2 y3 σ => fM_hasChildren_L4 N n y1 y2 y3 σ) ih y1 y3 σ w _ rfl h
def fM_hasChildren (N : Nat) (x1 : Int32) (σ : zS) : Option (Int32) := fM_hasChildren_L4 N N x1 0 0 σ
set_option maxHeartbeats 4000000 in
theorem kM_hasChildren (N : Nat) (x1 : Int32) (σ : zS) (w : Int32) (h : fM_hasChildren N x1 σ = some w) (d : Nat) (hd : 1 ≤ d) : zEv d 138 0 [some (zR 8 0), some (zI x1), none, none] [] σ (some (zI w), σ) := by
  unfold fM_hasChildren at h
  refine ev_s i138_0 (p := 1) (zic_0 _ _ _ _ _) ?_
  refine ev_s i138_1 (p := 2) (l := [some (zR 8 0), some (zI x1), some (zI 0), none]) rfl ?_
  refine ev_s i138_2 (p := 3) (zic_0 _ _ _ _ _) ?_
  refine ev_s i138_3 (p := 4) (l := [some (zR 8 0), some (zI x1), some (zI 0), some (zI 0)]) rfl ?_
  exact kM_hasChildren_L4 N d hd N x1 0 0 σ w h
/-! fM_yieldsOf -/
def fM_yieldsOf_J21 (N : Nat) (y1 : Int32) (y2 : Int32) (u0 : Int32) (σ : zS) : Option (Int32) := (fM_its y1 0 σ).bind fun r7 => (if r7 = 1 then some (1) else (if r7 = 2 then some (u0) else (if r7 = 3 then some (2) else (if r7 = 4 then (fM_hasChildren N y1 σ).bind fun r12 => (if r12 = 0 then some (1) else some (0)) else (if r7 = 5 then (if y2 ≤ 4 then some (2) else some (u0)) else (if r7 = 6 then some (((σ 30 0 0) + y2) - ((σ 30 0 0) + y2) / 4 * 4) else some (0)))))))
set_option maxHeartbeats 4000000 in
theorem kM_yieldsOf_J21 (N : Nat) (d : Nat) (hd : 2 ≤ d)  : ∀ (y1 : Int32) (y2 : Int32) (u0 : Int32) (σ : zS) (w : Int32) (z3 : Option zA), fM_yieldsOf_J21 N y1 y2 u0 σ = some w → zEv d 139 21 [some (zR 8 0), some (zI y1), some (zI y2), z3] [zI u0] σ (some (zI w), σ) := by
  intro y1 y2 u0 σ w z3 h
  unfold fM_yieldsOf_J21 at h
  refine ev_s i139_21 (p := 22) (l := [some (zR 8 0), some (zI y1), some (zI y2), some (zI u0)]) rfl ?_
  refine ev_s i139_22 (p := 23) rfl ?_
  refine ev_s i139_23 (p := 24) rfl ?_
  refine ev_s i139_24 (p := 25) (zic_0 _ _ _ _ _) ?_
  obtain ⟨r7, hr6, h⟩ := bd_some h
  refine ev_callV i139_25 zc8_54 zm118 zo118 (as' := [zI y1, zI 0]) (rest := []) rfl rfl (Nat.le_of_ble_eq_true rfl) (Nat.le_of_ble_eq_true rfl) (Nat.le_of_ble_eq_true rfl) (by omega) (l0 := [some (zR 8 0), some (zI y1), some (zI 0)]) rfl (p := 28) rfl (kM_its y1 0 σ r7 hr6 (d - 1) (by omega)) ?_
  change zEv d 139 28 [some (zR 8 0), some (zI y1), some (zI y2), some (zI u0)] [zI r7] σ _
  refine ev_sel h (fun c8 h => ?_) (fun c8 h => ?_)
  · refine ev_tsw i139_28 (by decide) (t := 68) (by rw [c8]; decide) ?_
    refine ev_s i139_68 (p := 69) (zic_1 _ _ _ _ _) ?_
    obtain rfl := Option.some.inj h
    exact ev_iret i139_69 zr139
  refine ev_sel h (fun c9 h => ?_) (fun c9 h => ?_)
  · refine ev_tsw i139_28 (by decide) (t := 70) (by rw [c9]; decide) ?_
    refine ev_s i139_70 (p := 71) rfl ?_
    obtain rfl := Option.some.inj h
    exact ev_iret i139_71 zr139
  refine ev_sel h (fun c10 h => ?_) (fun c10 h => ?_)
  · refine ev_tsw i139_28 (by decide) (t := 72) (by rw [c10]; decide) ?_
    refine ev_s i139_72 (p := 73) (zic_2 _ _ _ _ _) ?_
    obtain rfl := Option.some.inj h
    exact ev_iret i139_73 zr139
  refine ev_sel h (fun c14 h => ?_) (fun c14 h => ?_)
  · refine ev_tsw i139_28 (by decide) (t := 74) (by rw [c14]; decide) ?_
    refine ev_s i139_74 (p := 75) rfl ?_
    refine ev_s i139_75 (p := 76) rfl ?_
    obtain ⟨r12, hr11, h⟩ := bd_some h
    refine ev_callV i139_76 zc8_118 zm138 zo138 (as' := [zI y1]) (rest := []) rfl rfl (Nat.le_of_ble_eq_true rfl) (Nat.le_of_ble_eq_true rfl) (Nat.le_of_ble_eq_true rfl) (by omega) (l0 := [some (zR 8 0), some (zI y1), none, none]) rfl (p := 79) rfl (kM_hasChildren N y1 σ r12 hr11 (d - 1) (by omega)) ?_
    change zEv d 139 79 [some (zR 8 0), some (zI y1), some (zI y2), some (zI u0)] [zI r12] σ _
    refine ev_ifeq i139_79 (t := 86) (by decide) (p := 82) rfl h (fun c13 h => ?_) (fun c13 h => ?_)
    · refine ev_s i139_86 (p := 87) (zic_1 _ _ _ _ _) ?_
      obtain rfl := Option.some.inj h
      exact ev_iret i139_87 zr139
    · refine ev_s i139_82 (p := 83) (zic_0 _ _ _ _ _) ?_
      refine ev_goto i139_83 (t := 87) (by decide) ?_
      obtain rfl := Option.some.inj h
      exact ev_iret i139_87 zr139
  refine ev_sel h (fun c16 h => ?_) (fun c16 h => ?_)
  · refine ev_tsw i139_28 (by decide) (t := 88) (by rw [c16]; decide) ?_
    refine ev_s i139_88 (p := 89) rfl ?_
    refine ev_s i139_89 (p := 90) (zic_4 _ _ _ _ _) ?_
    refine ev_cmple i139_90 (t := 97) (by decide) (p := 93) rfl h (fun c15 h => ?_) (fun c15 h => ?_)
    · refine ev_s i139_97 (p := 98) (zic_2 _ _ _ _ _) ?_
      obtain rfl := Option.some.inj h
      exact ev_iret i139_98 zr139
    · refine ev_s i139_93 (p := 94) rfl ?_
      refine ev_goto i139_94 (t := 98) (by decide) ?_
      obtain rfl := Option.some.inj h
      exact ev_iret i139_98 zr139
  refine ev_sel h (fun c17 h => ?_) (fun c17 h => ?_)
  · refine ev_tsw i139_28 (by decide) (t := 99) (by rw [c17]; decide) ?_
    refine ev_s i139_99 (p := 100) rfl ?_
    refine ev_getf i139_100 zf8_7 (u := zR 30 0) rfl (p := 103) rfl ?_
    refine ev_s i139_103 (p := 104) (zic_0 _ _ _ _ _) ?_
    refine ev_ialdK i139_104 rfl (n := 394) rfl (by decide) (p := 105) rfl ?_
    change zEv d 139 105 [some (zR 8 0), some (zI y1), some (zI y2), some (zI u0)] [zI (σ 30 0 0)] σ _
    refine ev_s i139_105 (p := 106) rfl ?_
    refine ev_s i139_106 (p := 107) (t := [zI ((σ 30 0 0) + y2)]) rfl ?_
    refine ev_s i139_107 (p := 108) (zic_4 _ _ _ _ _) ?_
    refine ev_iremK i139_108 (p := 109) rfl (by decide) ?_
    obtain rfl := Option.some.inj h
    exact ev_iret i139_109 zr139
  refine ev_tsw i139_28 (by decide) (t := 110) (by show (28 : Int) + zsw r7 (1) [40, 42, 44, 46, 60, 71] (82) = 110; rw [zsw_st c8 (by decide), zsw_st c9 (by decide), zsw_st c10 (by decide), zsw_st c14 (by decide), zsw_st c16 (by decide), zsw_st c17 (by decide)]; rfl) ?_
  refine ev_s i139_110 (p := 111) (zic_0 _ _ _ _ _) ?_
  obtain rfl := Option.some.inj h
  exact ev_iret i139_111 zr139
def fM_yieldsOf (N : Nat) (x1 : Int32) (σ : zS) : Option (Int32) := (fM_its x1 1 σ).bind fun r2 => (fM_its x1 5 σ).bind fun r4 => (if r4 ≤ 0 then fM_yieldsOf_J21 N x1 r2 0 σ else fM_yieldsOf_J21 N x1 r2 3 σ)
set_option maxHeartbeats 4000000 in
theorem kM_yieldsOf (N : Nat) (x1 : Int32) (σ : zS) (w : Int32) (h : fM_yieldsOf N x1 σ = some w) (d : Nat) (hd : 2 ≤ d) : zEv d 139 0 [some (zR 8 0), some (zI x1), none, none] [] σ (some (zI w), σ) := by
  unfold fM_yieldsOf at h
  refine ev_s i139_0 (p := 1) rfl ?_
  refine ev_s i139_1 (p := 2) rfl ?_
  refine ev_s i139_2 (p := 3) (zic_1 _ _ _ _ _) ?_
  obtain ⟨r2, hr1, h⟩ := bd_some h
  refine ev_callV i139_3 zc8_54 zm118 zo118 (as' := [zI x1, zI 1]) (rest := []) rfl rfl (Nat.le_of_ble_eq_true rfl) (Nat.le_of_ble_eq_true rfl) (Nat.le_of_ble_eq_true rfl) (by omega) (l0 := [some (zR 8 0), some (zI x1), some (zI 1)]) rfl (p := 6) rfl (kM_its x1 1 σ r2 hr1 (d - 1) (by omega)) ?_
  change zEv d 139 6 [some (zR 8 0), some (zI x1), none, none] [zI r2] σ _
  refine ev_s i139_6 (p := 7) (l := [some (zR 8 0), some (zI x1), some (zI r2), none]) rfl ?_
  refine ev_s i139_7 (p := 8) rfl ?_
  refine ev_s i139_8 (p := 9) rfl ?_
  refine ev_s i139_9 (p := 10) (zic_5 _ _ _ _ _) ?_
  obtain ⟨r4, hr3, h⟩ := bd_some h
  refine ev_callV i139_10 zc8_54 zm118 zo118 (as' := [zI x1, zI 5]) (rest := []) rfl rfl (Nat.le_of_ble_eq_true rfl) (Nat.le_of_ble_eq_true rfl) (Nat.le_of_ble_eq_true rfl) (by omega) (l0 := [some (zR 8 0), some (zI x1), some (zI 5)]) rfl (p := 13) rfl (kM_its x1 5 σ r4 hr3 (d - 1) (by omega)) ?_
  change zEv d 139 13 [some (zR 8 0), some (zI x1), some (zI r2), none] [zI r4] σ _
  refine ev_ifle i139_13 (t := 20) (by decide) (p := 16) rfl h (fun c5 h => ?_) (fun c5 h => ?_)
  · refine ev_s i139_20 (p := 21) (zic_0 _ _ _ _ _) ?_
    exact kM_yieldsOf_J21 N d hd x1 r2 0 σ w _ h
  · refine ev_s i139_16 (p := 17) (zic_3 _ _ _ _ _) ?_
    refine ev_goto i139_17 (t := 21) (by decide) ?_
    exact kM_yieldsOf_J21 N d hd x1 r2 3 σ w _ h
/-! fM_hasText -/
def fM_hasText (x1 : Int32) (σ : zS) : Option (Int32) := zgd (zin (60 + (125 * x1)) 394) ((if (σ 30 0 (60 + (125 * x1)).toNatClampNeg) ≤ 0 then some (0) else some (1)))
set_option maxHeartbeats 4000000 in
theorem kM_hasText (x1 : Int32) (σ : zS) (w : Int32) (h : fM_hasText x1 σ = some w) (d : Nat) (hd : 0 ≤ d) : zEv d 133 0 [some (zR 8 0), some (zI x1)] [] σ (some (zI w), σ) := by
  unfold fM_hasText at h
  refine ev_s i133_0 (p := 1) rfl ?_
  refine ev_getf i133_1 zf8_7 (u := zR 30 0) rfl (p := 4) rfl ?_
  refine ev_s i133_4 (p := 6) (zib_60 _ _ _ _ _) ?_
  refine ev_s i133_6 (p := 8) (zib_125 _ _ _ _ _) ?_
  refine ev_s i133_8 (p := 9) rfl ?_
  refine ev_s i133_9 (p := 10) (t := [zI (125 * x1), zI 60, zR 30 0]) rfl ?_
  refine ev_s i133_10 (p := 11) (t := [zI (60 + (125 * x1)), zR 30 0]) rfl ?_
  refine ev_iald i133_11 rfl (n := 394) rfl (p := 12) rfl h (fun g1 h => ?_)
  refine ev_ifle i133_12 (t := 19) (by decide) (p := 15) rfl h (fun c2 h => ?_) (fun c2 h => ?_)
  · refine ev_s i133_19 (p := 20) (zic_0 _ _ _ _ _) ?_
    obtain rfl := Option.some.inj h
    exact ev_zret i133_20 zr133 (by decide)
  · refine ev_s i133_15 (p := 16) (zic_1 _ _ _ _ _) ?_
    refine ev_goto i133_16 (t := 20) (by decide) ?_
    obtain rfl := Option.some.inj h
    exact ev_zret i133_20 zr133 (by decide)
/-! fM_joined -/
def fM_joined (x0 : Int32) (x1 : Int32) (x2 : Int32) : Option (Int32) := (if x0 = 37 then (if x2 = 0 then some (0) else (if x2 = (-1) then some (0) else zgd (¬ x2 = 0) (some (x1 - x1 / x2 * x2)))) else (if x0 = 38 then (if x1 = 0 then some (0) else (if x2 = 0 then some (0) else some (1))) else (if x0 = 39 then (if x1 = 0 then (if x2 = 0 then some (0) else some (1)) else some (1)) else (if x0 = 40 then (if x1 = 0 then (if x2 = 0 then some (0) else some (1)) else some (1)) else (if x0 = 41 then (if x1 = 0 then (if x2 = 0 then some (0) else some (1)) else some (1)) else (if x0 = 42 then some (x1 * x2) else (if x0 = 43 then some (x1 + x2) else (if x0 = 44 then (if x1 = 0 then (if x2 = 0 then some (0) else some (1)) else some (1)) else (if x0 = 45 then some (x1 - x2) else (if x0 = 46 then (if x1 = 0 then (if x2 = 0 then some (0) else some (1)) else some (1)) else (if x0 = 47 then (if x2 = 0 then some (0) else (if x2 = (-1) then some ((-x1)) else zgd (¬ x2 = 0) (some (x1 / x2)))) else (if x0 = 48 then (if x1 = 0 then (if x2 = 0 then some (0) else some (1)) else some (1)) else (if x0 = 49 then (if x1 = 0 then (if x2 = 0 then some (0) else some (1)) else some (1)) else (if x0 = 50 then (if x1 = 0 then (if x2 = 0 then some (0) else some (1)) else some (1)) else (if x0 = 51 then (if x1 = 0 then (if x2 = 0 then some (0) else some (1)) else some (1)) else (if x0 = 52 then (if x1 = 0 then (if x2 = 0 then some (0) else some (1)) else some (1)) else (if x0 = 53 then (if x1 = 0 then (if x2 = 0 then some (0) else some (1)) else some (1)) else (if x0 = 54 then (if x1 = 0 then (if x2 = 0 then some (0) else some (1)) else some (1)) else (if x0 = 55 then (if x1 = 0 then (if x2 = 0 then some (0) else some (1)) else some (1)) else (if x0 = 56 then (if x1 = 0 then (if x2 = 0 then some (0) else some (1)) else some (1)) else (if x0 = 57 then (if x1 = 0 then (if x2 = 0 then some (0) else some (1)) else some (1)) else (if x0 = 58 then (if x1 = 0 then (if x2 = 0 then some (0) else some (1)) else some (1)) else (if x0 = 59 then (if x1 = 0 then (if x2 = 0 then some (0) else some (1)) else some (1)) else (if x0 = 60 then (if x2 ≤ x1 then some (0) else some (1)) else (if x0 = 61 then (if x1 = x2 then some (1) else some (0)) else (if x0 = 62 then (if x1 ≤ x2 then some (0) else some (1)) else (if x1 = 0 then (if x2 = 0 then some (0) else some (1)) else some (1))))))))))))))))))))))))))))
set_option maxHeartbeats 4000000 in
theorem kM_joined (x0 : Int32) (x1 : Int32) (x2 : Int32) (σ : zS) (w : Int32) (h : fM_joined x0 x1 x2 = some w) (d : Nat) (hd : 0 ≤ d) : zEv d 136 0 [some (zI x0), some (zI x1), some (zI x2)] [] σ (some (zI w), σ) := by
  unfold fM_joined at h
  refine ev_s i136_0 (p := 1) rfl ?_
  refine ev_sel h (fun c4 h => ?_) (fun c4 h => ?_)
  · refine ev_tsw i136_1 (by decide) (t := 154) (by rw [c4]; decide) ?_
    refine ev_s i136_154 (p := 155) rfl ?_
    refine ev_ifeq i136_155 (t := 163) (by decide) (p := 158) rfl h (fun c1 h => ?_) (fun c1 h => ?_)
    · refine ev_s i136_163 (p := 164) (zic_0 _ _ _ _ _) ?_
      refine ev_goto i136_164 (t := 170) (by decide) ?_
      obtain rfl := Option.some.inj h
      exact ev_iret i136_170 zr136
    · refine ev_s i136_158 (p := 159) rfl ?_
      refine ev_s i136_159 (p := 160) (zic_m1 _ _ _ _ _) ?_
      refine ev_cmpne i136_160 (t := 167) (by decide) (p := 163) rfl h (fun c2 h => ?_) (fun c2 h => ?_)
      · refine ev_s i136_163 (p := 164) (zic_0 _ _ _ _ _) ?_
        refine ev_goto i136_164 (t := 170) (by decide) ?_
        obtain rfl := Option.some.inj h
        exact ev_iret i136_170 zr136
      · refine ev_s i136_167 (p := 168) rfl ?_
        refine ev_s i136_168 (p := 169) rfl ?_
        refine ev_irem i136_169 (p := 170) rfl h (fun g3 h => ?_)
        obtain rfl := Option.some.inj h
        exact ev_iret i136_170 zr136
  refine ev_sel h (fun c7 h => ?_) (fun c7 h => ?_)
  · refine ev_tsw i136_1 (by decide) (t := 204) (by rw [c7]; decide) ?_
    refine ev_s i136_204 (p := 205) rfl ?_
    refine ev_ifeq i136_205 (t := 216) (by decide) (p := 208) rfl h (fun c5 h => ?_) (fun c5 h => ?_)
    · refine ev_s i136_216 (p := 217) (zic_0 _ _ _ _ _) ?_
      obtain rfl := Option.some.inj h
      exact ev_iret i136_217 zr136
    · refine ev_s i136_208 (p := 209) rfl ?_
      refine ev_ifeq i136_209 (t := 216) (by decide) (p := 212) rfl h (fun c6 h => ?_) (fun c6 h => ?_)
      · refine ev_s i136_216 (p := 217) (zic_0 _ _ _ _ _) ?_
        obtain rfl := Option.some.inj h
        exact ev_iret i136_217 zr136
      · refine ev_s i136_212 (p := 213) (zic_1 _ _ _ _ _) ?_
        refine ev_goto i136_213 (t := 217) (by decide) ?_
        obtain rfl := Option.some.inj h
        exact ev_iret i136_217 zr136
  refine ev_sel h (fun c10 h => ?_) (fun c10 h => ?_)
  · refine ev_tsw i136_1 (by decide) (t := 218) (by rw [c10]; decide) ?_
    refine ev_s i136_218 (p := 219) rfl ?_
    refine ev_ifne i136_219 (t := 226) (by decide) (p := 222) rfl h (fun c8 h => ?_) (fun c8 h => ?_)
    · refine ev_s i136_222 (p := 223) rfl ?_
      refine ev_ifeq i136_223 (t := 230) (by decide) (p := 226) rfl h (fun c9 h => ?_) (fun c9 h => ?_)
      · refine ev_s i136_230 (p := 231) (zic_0 _ _ _ _ _) ?_
        obtain rfl := Option.some.inj h
        exact ev_iret i136_231 zr136
      · refine ev_s i136_226 (p := 227) (zic_1 _ _ _ _ _) ?_
        refine ev_goto i136_227 (t := 231) (by decide) ?_
        obtain rfl := Option.some.inj h
        exact ev_iret i136_231 zr136
    · refine ev_s i136_226 (p := 227) (zic_1 _ _ _ _ _) ?_
      refine ev_goto i136_227 (t := 231) (by decide) ?_
      obtain rfl := Option.some.inj h
      exact ev_iret i136_231 zr136
  refine ev_sel h (fun c13 h => ?_) (fun c13 h => ?_)
  · refine ev_tsw i136_1 (by decide) (t := 218) (by rw [c13]; decide) ?_
    refine ev_s i136_218 (p := 219) rfl ?_
    refine ev_ifne i136_219 (t := 226) (by decide) (p := 222) rfl h (fun c11 h => ?_) (fun c11 h => ?_)
    · refine ev_s i136_222 (p := 223) rfl ?_
      refine ev_ifeq i136_223 (t := 230) (by decide) (p := 226) rfl h (fun c12 h => ?_) (fun c12 h => ?_)
      · refine ev_s i136_230 (p := 231) (zic_0 _ _ _ _ _) ?_
        obtain rfl := Option.some.inj h
        exact ev_iret i136_231 zr136
      · refine ev_s i136_226 (p := 227) (zic_1 _ _ _ _ _) ?_
        refine ev_goto i136_227 (t := 231) (by decide) ?_
        obtain rfl := Option.some.inj h
        exact ev_iret i136_231 zr136
    · refine ev_s i136_226 (p := 227) (zic_1 _ _ _ _ _) ?_
      refine ev_goto i136_227 (t := 231) (by decide) ?_
      obtain rfl := Option.some.inj h
      exact ev_iret i136_231 zr136
  refine ev_sel h (fun c16 h => ?_) (fun c16 h => ?_)
  · refine ev_tsw i136_1 (by decide) (t := 218) (by rw [c16]; decide) ?_
    refine ev_s i136_218 (p := 219) rfl ?_
    refine ev_ifne i136_219 (t := 226) (by decide) (p := 222) rfl h (fun c14 h => ?_) (fun c14 h => ?_)
    · refine ev_s i136_222 (p := 223) rfl ?_
      refine ev_ifeq i136_223 (t := 230) (by decide) (p := 226) rfl h (fun c15 h => ?_) (fun c15 h => ?_)
      · refine ev_s i136_230 (p := 231) (zic_0 _ _ _ _ _) ?_
        obtain rfl := Option.some.inj h
        exact ev_iret i136_231 zr136
      · refine ev_s i136_226 (p := 227) (zic_1 _ _ _ _ _) ?_
        refine ev_goto i136_227 (t := 231) (by decide) ?_
        obtain rfl := Option.some.inj h
        exact ev_iret i136_231 zr136
    · refine ev_s i136_226 (p := 227) (zic_1 _ _ _ _ _) ?_
      refine ev_goto i136_227 (t := 231) (by decide) ?_
      obtain rfl := Option.some.inj h
      exact ev_iret i136_231 zr136
  refine ev_sel h (fun c17 h => ?_) (fun c17 h => ?_)
  · refine ev_tsw i136_1 (by decide) (t := 128) (by rw [c17]; decide) ?_
    refine ev_s i136_128 (p := 129) rfl ?_
    refine ev_s i136_129 (p := 130) rfl ?_
    refine ev_s i136_130 (p := 131) (t := [zI (x1 * x2)]) rfl ?_
    obtain rfl := Option.some.inj h
    exact ev_iret i136_131 zr136
  refine ev_sel h (fun c18 h => ?_) (fun c18 h => ?_)
  · refine ev_tsw i136_1 (by decide) (t := 120) (by rw [c18]; decide) ?_
    refine ev_s i136_120 (p := 121) rfl ?_
    refine ev_s i136_121 (p := 122) rfl ?_
    refine ev_s i136_122 (p := 123) (t := [zI (x1 + x2)]) rfl ?_
    obtain rfl := Option.some.inj h
    exact ev_iret i136_123 zr136
  refine ev_sel h (fun c21 h => ?_) (fun c21 h => ?_)
  · refine ev_tsw i136_1 (by decide) (t := 218) (by rw [c21]; decide) ?_
    refine ev_s i136_218 (p := 219) rfl ?_
    refine ev_ifne i136_219 (t := 226) (by decide) (p := 222) rfl h (fun c19 h => ?_) (fun c19 h => ?_)
    · refine ev_s i136_222 (p := 223) rfl ?_
      refine ev_ifeq i136_223 (t := 230) (by decide) (p := 226) rfl h (fun c20 h => ?_) (fun c20 h => ?_)
      · refine ev_s i136_230 (p := 231) (zic_0 _ _ _ _ _) ?_
        obtain rfl := Option.some.inj h
        exact ev_iret i136_231 zr136
      · refine ev_s i136_226 (p := 227) (zic_1 _ _ _ _ _) ?_
        refine ev_goto i136_227 (t := 231) (by decide) ?_
        obtain rfl := Option.some.inj h
        exact ev_iret i136_231 zr136
    · refine ev_s i136_226 (p := 227) (zic_1 _ _ _ _ _) ?_
      refine ev_goto i136_227 (t := 231) (by decide) ?_
      obtain rfl := Option.some.inj h
      exact ev_iret i136_231 zr136
  refine ev_sel h (fun c22 h => ?_) (fun c22 h => ?_)
  · refine ev_tsw i136_1 (by decide) (t := 124) (by rw [c22]; decide) ?_
    refine ev_s i136_124 (p := 125) rfl ?_
    refine ev_s i136_125 (p := 126) rfl ?_
    refine ev_s i136_126 (p := 127) (t := [zI (x1 - x2)]) rfl ?_
    obtain rfl := Option.some.inj h
    exact ev_iret i136_127 zr136
  refine ev_sel h (fun c25 h => ?_) (fun c25 h => ?_)
  · refine ev_tsw i136_1 (by decide) (t := 218) (by rw [c25]; decide) ?_
    refine ev_s i136_218 (p := 219) rfl ?_
    refine ev_ifne i136_219 (t := 226) (by decide) (p := 222) rfl h (fun c23 h => ?_) (fun c23 h => ?_)
    · refine ev_s i136_222 (p := 223) rfl ?_
      refine ev_ifeq i136_223 (t := 230) (by decide) (p := 226) rfl h (fun c24 h => ?_) (fun c24 h => ?_)
      · refine ev_s i136_230 (p := 231) (zic_0 _ _ _ _ _) ?_
        obtain rfl := Option.some.inj h
        exact ev_iret i136_231 zr136
      · refine ev_s i136_226 (p := 227) (zic_1 _ _ _ _ _) ?_
        refine ev_goto i136_227 (t := 231) (by decide) ?_
        obtain rfl := Option.some.inj h
        exact ev_iret i136_231 zr136
    · refine ev_s i136_226 (p := 227) (zic_1 _ _ _ _ _) ?_
      refine ev_goto i136_227 (t := 231) (by decide) ?_
      obtain rfl := Option.some.inj h
      exact ev_iret i136_231 zr136
  refine ev_sel h (fun c29 h => ?_) (fun c29 h => ?_)
  · refine ev_tsw i136_1 (by decide) (t := 132) (by rw [c29]; decide) ?_
    refine ev_s i136_132 (p := 133) rfl ?_
    refine ev_ifne i136_133 (t := 140) (by decide) (p := 136) rfl h (fun c26 h => ?_) (fun c26 h => ?_)
    · refine ev_s i136_136 (p := 137) (zic_0 _ _ _ _ _) ?_
      refine ev_goto i136_137 (t := 153) (by decide) ?_
      obtain rfl := Option.some.inj h
      exact ev_iret i136_153 zr136
    · refine ev_s i136_140 (p := 141) rfl ?_
      refine ev_s i136_141 (p := 142) (zic_m1 _ _ _ _ _) ?_
      refine ev_cmpne i136_142 (t := 150) (by decide) (p := 145) rfl h (fun c27 h => ?_) (fun c27 h => ?_)
      · refine ev_s i136_145 (p := 146) rfl ?_
        refine ev_s i136_146 (p := 147) rfl ?_
        refine ev_goto i136_147 (t := 153) (by decide) ?_
        obtain rfl := Option.some.inj h
        exact ev_iret i136_153 zr136
      · refine ev_s i136_150 (p := 151) rfl ?_
        refine ev_s i136_151 (p := 152) rfl ?_
        refine ev_idiv i136_152 (p := 153) rfl h (fun g28 h => ?_)
        obtain rfl := Option.some.inj h
        exact ev_iret i136_153 zr136
  refine ev_sel h (fun c32 h => ?_) (fun c32 h => ?_)
  · refine ev_tsw i136_1 (by decide) (t := 218) (by rw [c32]; decide) ?_
    refine ev_s i136_218 (p := 219) rfl ?_
    refine ev_ifne i136_219 (t := 226) (by decide) (p := 222) rfl h (fun c30 h => ?_) (fun c30 h => ?_)
    · refine ev_s i136_222 (p := 223) rfl ?_
      refine ev_ifeq i136_223 (t := 230) (by decide) (p := 226) rfl h (fun c31 h => ?_) (fun c31 h => ?_)
      · refine ev_s i136_230 (p := 231) (zic_0 _ _ _ _ _) ?_
        obtain rfl := Option.some.inj h
        exact ev_iret i136_231 zr136
      · refine ev_s i136_226 (p := 227) (zic_1 _ _ _ _ _) ?_
        refine ev_goto i136_227 (t := 231) (by decide) ?_
        obtain rfl := Option.some.inj h
        exact ev_iret i136_231 zr136
    · refine ev_s i136_226 (p := 227) (zic_1 _ _ _ _ _) ?_
      refine ev_goto i136_227 (t := 231) (by decide) ?_
      obtain rfl := Option.some.inj h
      exact ev_iret i136_231 zr136
  refine ev_sel h (fun c35 h => ?_) (fun c35 h => ?_)
  · refine ev_tsw i136_1 (by decide) (t := 218) (by rw [c35]; decide) ?_
    refine ev_s i136_218 (p := 219) rfl ?_
    refine ev_ifne i136_219 (t := 226) (by decide) (p := 222) rfl h (fun c33 h => ?_) (fun c33 h => ?_)
    · refine ev_s i136_222 (p := 223) rfl ?_
      refine ev_ifeq i136_223 (t := 230) (by decide) (p := 226) rfl h (fun c34 h => ?_) (fun c34 h => ?_)
      · refine ev_s i136_230 (p := 231) (zic_0 _ _ _ _ _) ?_
        obtain rfl := Option.some.inj h
        exact ev_iret i136_231 zr136
      · refine ev_s i136_226 (p := 227) (zic_1 _ _ _ _ _) ?_
        refine ev_goto i136_227 (t := 231) (by decide) ?_
        obtain rfl := Option.some.inj h
        exact ev_iret i136_231 zr136
    · refine ev_s i136_226 (p := 227) (zic_1 _ _ _ _ _) ?_
      refine ev_goto i136_227 (t := 231) (by decide) ?_
      obtain rfl := Option.some.inj h
      exact ev_iret i136_231 zr136
  refine ev_sel h (fun c38 h => ?_) (fun c38 h => ?_)
  · refine ev_tsw i136_1 (by decide) (t := 218) (by rw [c38]; decide) ?_
    refine ev_s i136_218 (p := 219) rfl ?_
    refine ev_ifne i136_219 (t := 226) (by decide) (p := 222) rfl h (fun c36 h => ?_) (fun c36 h => ?_)
    · refine ev_s i136_222 (p := 223) rfl ?_
      refine ev_ifeq i136_223 (t := 230) (by decide) (p := 226) rfl h (fun c37 h => ?_) (fun c37 h => ?_)
      · refine ev_s i136_230 (p := 231) (zic_0 _ _ _ _ _) ?_
        obtain rfl := Option.some.inj h
        exact ev_iret i136_231 zr136
      · refine ev_s i136_226 (p := 227) (zic_1 _ _ _ _ _) ?_
        refine ev_goto i136_227 (t := 231) (by decide) ?_
        obtain rfl := Option.some.inj h
        exact ev_iret i136_231 zr136
    · refine ev_s i136_226 (p := 227) (zic_1 _ _ _ _ _) ?_
      refine ev_goto i136_227 (t := 231) (by decide) ?_
      obtain rfl := Option.some.inj h
      exact ev_iret i136_231 zr136
  refine ev_sel h (fun c41 h => ?_) (fun c41 h => ?_)
  · refine ev_tsw i136_1 (by decide) (t := 218) (by rw [c41]; decide) ?_
    refine ev_s i136_218 (p := 219) rfl ?_
    refine ev_ifne i136_219 (t := 226) (by decide) (p := 222) rfl h (fun c39 h => ?_) (fun c39 h => ?_)
    · refine ev_s i136_222 (p := 223) rfl ?_
      refine ev_ifeq i136_223 (t := 230) (by decide) (p := 226) rfl h (fun c40 h => ?_) (fun c40 h => ?_)
      · refine ev_s i136_230 (p := 231) (zic_0 _ _ _ _ _) ?_
        obtain rfl := Option.some.inj h
        exact ev_iret i136_231 zr136
      · refine ev_s i136_226 (p := 227) (zic_1 _ _ _ _ _) ?_
        refine ev_goto i136_227 (t := 231) (by decide) ?_
        obtain rfl := Option.some.inj h
        exact ev_iret i136_231 zr136
    · refine ev_s i136_226 (p := 227) (zic_1 _ _ _ _ _) ?_
      refine ev_goto i136_227 (t := 231) (by decide) ?_
      obtain rfl := Option.some.inj h
      exact ev_iret i136_231 zr136
  refine ev_sel h (fun c44 h => ?_) (fun c44 h => ?_)
  · refine ev_tsw i136_1 (by decide) (t := 218) (by rw [c44]; decide) ?_
    refine ev_s i136_218 (p := 219) rfl ?_
    refine ev_ifne i136_219 (t := 226) (by decide) (p := 222) rfl h (fun c42 h => ?_) (fun c42 h => ?_)
    · refine ev_s i136_222 (p := 223) rfl ?_
      refine ev_ifeq i136_223 (t := 230) (by decide) (p := 226) rfl h (fun c43 h => ?_) (fun c43 h => ?_)
      · refine ev_s i136_230 (p := 231) (zic_0 _ _ _ _ _) ?_
        obtain rfl := Option.some.inj h
        exact ev_iret i136_231 zr136
      · refine ev_s i136_226 (p := 227) (zic_1 _ _ _ _ _) ?_
        refine ev_goto i136_227 (t := 231) (by decide) ?_
        obtain rfl := Option.some.inj h
        exact ev_iret i136_231 zr136
    · refine ev_s i136_226 (p := 227) (zic_1 _ _ _ _ _) ?_
      refine ev_goto i136_227 (t := 231) (by decide) ?_
      obtain rfl := Option.some.inj h
      exact ev_iret i136_231 zr136
  refine ev_sel h (fun c47 h => ?_) (fun c47 h => ?_)
  · refine ev_tsw i136_1 (by decide) (t := 218) (by rw [c47]; decide) ?_
    refine ev_s i136_218 (p := 219) rfl ?_
    refine ev_ifne i136_219 (t := 226) (by decide) (p := 222) rfl h (fun c45 h => ?_) (fun c45 h => ?_)
    · refine ev_s i136_222 (p := 223) rfl ?_
      refine ev_ifeq i136_223 (t := 230) (by decide) (p := 226) rfl h (fun c46 h => ?_) (fun c46 h => ?_)
      · refine ev_s i136_230 (p := 231) (zic_0 _ _ _ _ _) ?_
        obtain rfl := Option.some.inj h
        exact ev_iret i136_231 zr136
      · refine ev_s i136_226 (p := 227) (zic_1 _ _ _ _ _) ?_
        refine ev_goto i136_227 (t := 231) (by decide) ?_
        obtain rfl := Option.some.inj h
        exact ev_iret i136_231 zr136
    · refine ev_s i136_226 (p := 227) (zic_1 _ _ _ _ _) ?_
      refine ev_goto i136_227 (t := 231) (by decide) ?_
      obtain rfl := Option.some.inj h
      exact ev_iret i136_231 zr136
  refine ev_sel h (fun c50 h => ?_) (fun c50 h => ?_)
  · refine ev_tsw i136_1 (by decide) (t := 218) (by rw [c50]; decide) ?_
    refine ev_s i136_218 (p := 219) rfl ?_
    refine ev_ifne i136_219 (t := 226) (by decide) (p := 222) rfl h (fun c48 h => ?_) (fun c48 h => ?_)
    · refine ev_s i136_222 (p := 223) rfl ?_
      refine ev_ifeq i136_223 (t := 230) (by decide) (p := 226) rfl h (fun c49 h => ?_) (fun c49 h => ?_)
      · refine ev_s i136_230 (p := 231) (zic_0 _ _ _ _ _) ?_
        obtain rfl := Option.some.inj h
        exact ev_iret i136_231 zr136
      · refine ev_s i136_226 (p := 227) (zic_1 _ _ _ _ _) ?_
        refine ev_goto i136_227 (t := 231) (by decide) ?_
        obtain rfl := Option.some.inj h
        exact ev_iret i136_231 zr136
    · refine ev_s i136_226 (p := 227) (zic_1 _ _ _ _ _) ?_
      refine ev_goto i136_227 (t := 231) (by decide) ?_
      obtain rfl := Option.some.inj h
      exact ev_iret i136_231 zr136
  refine ev_sel h (fun c53 h => ?_) (fun c53 h => ?_)
  · refine ev_tsw i136_1 (by decide) (t := 218) (by rw [c53]; decide) ?_
    refine ev_s i136_218 (p := 219) rfl ?_
    refine ev_ifne i136_219 (t := 226) (by decide) (p := 222) rfl h (fun c51 h => ?_) (fun c51 h => ?_)
    · refine ev_s i136_222 (p := 223) rfl ?_
      refine ev_ifeq i136_223 (t := 230) (by decide) (p := 226) rfl h (fun c52 h => ?_) (fun c52 h => ?_)
      · refine ev_s i136_230 (p := 231) (zic_0 _ _ _ _ _) ?_
        obtain rfl := Option.some.inj h
        exact ev_iret i136_231 zr136
      · refine ev_s i136_226 (p := 227) (zic_1 _ _ _ _ _) ?_
        refine ev_goto i136_227 (t := 231) (by decide) ?_
        obtain rfl := Option.some.inj h
        exact ev_iret i136_231 zr136
    · refine ev_s i136_226 (p := 227) (zic_1 _ _ _ _ _) ?_
      refine ev_goto i136_227 (t := 231) (by decide) ?_
      obtain rfl := Option.some.inj h
      exact ev_iret i136_231 zr136
  refine ev_sel h (fun c56 h => ?_) (fun c56 h => ?_)
  · refine ev_tsw i136_1 (by decide) (t := 218) (by rw [c56]; decide) ?_
    refine ev_s i136_218 (p := 219) rfl ?_
    refine ev_ifne i136_219 (t := 226) (by decide) (p := 222) rfl h (fun c54 h => ?_) (fun c54 h => ?_)
    · refine ev_s i136_222 (p := 223) rfl ?_
      refine ev_ifeq i136_223 (t := 230) (by decide) (p := 226) rfl h (fun c55 h => ?_) (fun c55 h => ?_)
      · refine ev_s i136_230 (p := 231) (zic_0 _ _ _ _ _) ?_
        obtain rfl := Option.some.inj h
        exact ev_iret i136_231 zr136
      · refine ev_s i136_226 (p := 227) (zic_1 _ _ _ _ _) ?_
        refine ev_goto i136_227 (t := 231) (by decide) ?_
        obtain rfl := Option.some.inj h
        exact ev_iret i136_231 zr136
    · refine ev_s i136_226 (p := 227) (zic_1 _ _ _ _ _) ?_
      refine ev_goto i136_227 (t := 231) (by decide) ?_
      obtain rfl := Option.some.inj h
      exact ev_iret i136_231 zr136
  refine ev_sel h (fun c59 h => ?_) (fun c59 h => ?_)
  · refine ev_tsw i136_1 (by decide) (t := 218) (by rw [c59]; decide) ?_
    refine ev_s i136_218 (p := 219) rfl ?_
    refine ev_ifne i136_219 (t := 226) (by decide) (p := 222) rfl h (fun c57 h => ?_) (fun c57 h => ?_)
    · refine ev_s i136_222 (p := 223) rfl ?_
      refine ev_ifeq i136_223 (t := 230) (by decide) (p := 226) rfl h (fun c58 h => ?_) (fun c58 h => ?_)
      · refine ev_s i136_230 (p := 231) (zic_0 _ _ _ _ _) ?_
        obtain rfl := Option.some.inj h
        exact ev_iret i136_231 zr136
      · refine ev_s i136_226 (p := 227) (zic_1 _ _ _ _ _) ?_
        refine ev_goto i136_227 (t := 231) (by decide) ?_
        obtain rfl := Option.some.inj h
        exact ev_iret i136_231 zr136
    · refine ev_s i136_226 (p := 227) (zic_1 _ _ _ _ _) ?_
      refine ev_goto i136_227 (t := 231) (by decide) ?_
      obtain rfl := Option.some.inj h
      exact ev_iret i136_231 zr136
  refine ev_sel h (fun c62 h => ?_) (fun c62 h => ?_)
  · refine ev_tsw i136_1 (by decide) (t := 218) (by rw [c62]; decide) ?_
    refine ev_s i136_218 (p := 219) rfl ?_
    refine ev_ifne i136_219 (t := 226) (by decide) (p := 222) rfl h (fun c60 h => ?_) (fun c60 h => ?_)
    · refine ev_s i136_222 (p := 223) rfl ?_
      refine ev_ifeq i136_223 (t := 230) (by decide) (p := 226) rfl h (fun c61 h => ?_) (fun c61 h => ?_)
      · refine ev_s i136_230 (p := 231) (zic_0 _ _ _ _ _) ?_
        obtain rfl := Option.some.inj h
        exact ev_iret i136_231 zr136
      · refine ev_s i136_226 (p := 227) (zic_1 _ _ _ _ _) ?_
        refine ev_goto i136_227 (t := 231) (by decide) ?_
        obtain rfl := Option.some.inj h
        exact ev_iret i136_231 zr136
    · refine ev_s i136_226 (p := 227) (zic_1 _ _ _ _ _) ?_
      refine ev_goto i136_227 (t := 231) (by decide) ?_
      obtain rfl := Option.some.inj h
      exact ev_iret i136_231 zr136
  refine ev_sel h (fun c65 h => ?_) (fun c65 h => ?_)
  · refine ev_tsw i136_1 (by decide) (t := 218) (by rw [c65]; decide) ?_
    refine ev_s i136_218 (p := 219) rfl ?_
    refine ev_ifne i136_219 (t := 226) (by decide) (p := 222) rfl h (fun c63 h => ?_) (fun c63 h => ?_)
    · refine ev_s i136_222 (p := 223) rfl ?_
      refine ev_ifeq i136_223 (t := 230) (by decide) (p := 226) rfl h (fun c64 h => ?_) (fun c64 h => ?_)
      · refine ev_s i136_230 (p := 231) (zic_0 _ _ _ _ _) ?_
        obtain rfl := Option.some.inj h
        exact ev_iret i136_231 zr136
      · refine ev_s i136_226 (p := 227) (zic_1 _ _ _ _ _) ?_
        refine ev_goto i136_227 (t := 231) (by decide) ?_
        obtain rfl := Option.some.inj h
        exact ev_iret i136_231 zr136
    · refine ev_s i136_226 (p := 227) (zic_1 _ _ _ _ _) ?_
      refine ev_goto i136_227 (t := 231) (by decide) ?_
      obtain rfl := Option.some.inj h
      exact ev_iret i136_231 zr136
  refine ev_sel h (fun c67 h => ?_) (fun c67 h => ?_)
  · refine ev_tsw i136_1 (by decide) (t := 171) (by rw [c67]; decide) ?_
    refine ev_s i136_171 (p := 172) rfl ?_
    refine ev_s i136_172 (p := 173) rfl ?_
    refine ev_cmpge i136_173 (t := 180) (by decide) (p := 176) rfl h (fun c66 h => ?_) (fun c66 h => ?_)
    · refine ev_s i136_180 (p := 181) (zic_0 _ _ _ _ _) ?_
      obtain rfl := Option.some.inj h
      exact ev_iret i136_181 zr136
    · refine ev_s i136_176 (p := 177) (zic_1 _ _ _ _ _) ?_
      refine ev_goto i136_177 (t := 181) (by decide) ?_
      obtain rfl := Option.some.inj h
      exact ev_iret i136_181 zr136
  refine ev_sel h (fun c69 h => ?_) (fun c69 h => ?_)
  · refine ev_tsw i136_1 (by decide) (t := 193) (by rw [c69]; decide) ?_
    refine ev_s i136_193 (p := 194) rfl ?_
    refine ev_s i136_194 (p := 195) rfl ?_
    refine ev_cmpne i136_195 (t := 202) (by decide) (p := 198) rfl h (fun c68 h => ?_) (fun c68 h => ?_)
    · refine ev_s i136_198 (p := 199) (zic_1 _ _ _ _ _) ?_
      refine ev_goto i136_199 (t := 203) (by decide) ?_
      obtain rfl := Option.some.inj h
      exact ev_iret i136_203 zr136
    · refine ev_s i136_202 (p := 203) (zic_0 _ _ _ _ _) ?_
      obtain rfl := Option.some.inj h
      exact ev_iret i136_203 zr136
  refine ev_sel h (fun c71 h => ?_) (fun c71 h => ?_)
  · refine ev_tsw i136_1 (by decide) (t := 182) (by rw [c71]; decide) ?_
    refine ev_s i136_182 (p := 183) rfl ?_
    refine ev_s i136_183 (p := 184) rfl ?_
    refine ev_cmple i136_184 (t := 191) (by decide) (p := 187) rfl h (fun c70 h => ?_) (fun c70 h => ?_)
    · refine ev_s i136_191 (p := 192) (zic_0 _ _ _ _ _) ?_
      obtain rfl := Option.some.inj h
      exact ev_iret i136_192 zr136
    · refine ev_s i136_187 (p := 188) (zic_1 _ _ _ _ _) ?_
      refine ev_goto i136_188 (t := 192) (by decide) ?_
      obtain rfl := Option.some.inj h
      exact ev_iret i136_192 zr136
  refine ev_tsw i136_1 (by decide) (t := 218) (by show (1 : Int) + zsw x0 (37) [153, 203, 217, 217, 217, 127, 119, 217, 123, 217, 131, 217, 217, 217, 217, 217, 217, 217, 217, 217, 217, 217, 217, 170, 192, 181] (217) = 218; rw [zsw_st c4 (by decide), zsw_st c7 (by decide), zsw_st c10 (by decide), zsw_st c13 (by decide), zsw_st c16 (by decide), zsw_st c17 (by decide), zsw_st c18 (by decide), zsw_st c21 (by decide), zsw_st c22 (by decide), zsw_st c25 (by decide), zsw_st c29 (by decide), zsw_st c32 (by decide), zsw_st c35 (by decide), zsw_st c38 (by decide), zsw_st c41 (by decide), zsw_st c44 (by decide), zsw_st c47 (by decide), zsw_st c50 (by decide), zsw_st c53 (by decide), zsw_st c56 (by decide), zsw_st c59 (by decide), zsw_st c62 (by decide), zsw_st c65 (by decide), zsw_st c67 (by decide), zsw_st c69 (by decide), zsw_st c71 (by decide)]; rfl) ?_
  refine ev_s i136_218 (p := 219) rfl ?_
  refine ev_ifne i136_219 (t := 226) (by decide) (p := 222) rfl h (fun c72 h => ?_) (fun c72 h => ?_)
  · refine ev_s i136_222 (p := 223) rfl ?_
    refine ev_ifeq i136_223 (t := 230) (by decide) (p := 226) rfl h (fun c73 h => ?_) (fun c73 h => ?_)
    · refine ev_s i136_230 (p := 231) (zic_0 _ _ _ _ _) ?_
      obtain rfl := Option.some.inj h
      exact ev_iret i136_231 zr136
    · refine ev_s i136_226 (p := 227) (zic_1 _ _ _ _ _) ?_
      refine ev_goto i136_227 (t := 231) (by decide) ?_
      obtain rfl := Option.some.inj h
      exact ev_iret i136_231 zr136
  · refine ev_s i136_226 (p := 227) (zic_1 _ _ _ _ _) ?_
    refine ev_goto i136_227 (t := 231) (by decide) ?_
    obtain rfl := Option.some.inj h
    exact ev_iret i136_231 zr136
/-! fM_worked -/
def fM_worked_J123 (N : Nat) (K13 : Int32 → Int32 → Int32 → zS → Option (Int32 × zS)) (y2 : Int32) (y3 : Int32) (y4 : Int32) (u0 : Int32) (u1 : Int32) (σ : zS) : Option (Int32 × zS) := zgd (zin u1 64) (zlt (zup σ 37 0 u1.toNatClampNeg u0) fun s21 => K13 y2 y3 (y4 + 1) s21)
set_option maxHeartbeats 4000000 in
theorem kM_worked_J123 (N : Nat) (d : Nat) (hd : 1 ≤ d) (K13 : Int32 → Int32 → Int32 → zS → Option (Int32 × zS)) (hK13 : ∀ (y2 : Int32) (y3 : Int32) (y4 : Int32) (σ : zS) (w : Int32 × zS) (z1 : Option zA) (hz1 : znl z1 = true) (z5 : Option zA) (hz5 : znl z5 = true) (z6 : Option zA), K13 y2 y3 y4 σ = some w → zEv d 137 13 [some (zR 8 0), z1, some (zI y2), some (zI y3), some (zI y4), z5, z6] [] σ (some (zI w.1), w.2)) : ∀ (y2 : Int32) (y3 : Int32) (y4 : Int32) (u0 : Int32) (u1 : Int32) (σ : zS) (w : Int32 × zS) (z1 : Option zA) (hz1 : znl z1 = true) (z5 : Option zA) (hz5 : znl z5 = true) (z6 : Option zA), fM_worked_J123 N K13 y2 y3 y4 u0 u1 σ = some w → zEv d 137 123 [some (zR 8 0), z1, some (zI y2), some (zI y3), some (zI y4), z5, z6] [zI u0, zI u1, zR 37 0] σ (some (zI w.1), w.2) := by
  intro y2 y3 y4 u0 u1 σ w z1 hz1 z5 hz5 z6 h
  unfold fM_worked_J123 at h
  refine ev_iast i137_123 rfl (n := 64) rfl (p := 124) rfl h (fun g22 h => ?_)
  refine ev_lets h (fun s21 es21 h => ?_)
  refine ev_goto i137_124 (t := 157) (by decide) ?_
  refine ev_iinc i137_157 zii_1 rfl (l := [some (zR 8 0), z1, some (zI y2), some (zI y3), some (zI (y4 + 1)), z5, z6]) rfl (p := 160) rfl ?_
  refine ev_goto i137_160 (t := 13) (by decide) ?_
  exact hK13 y2 y3 (y4 + 1) s21 w _ hz1 _ hz5 _ h
def fM_worked_J87 (N : Nat) (K13 : Int32 → Int32 → Int32 → zS → Option (Int32 × zS)) (y2 : Int32) (y3 : Int32) (y4 : Int32) (u0 : Int32) (u1 : Int32) (σ : zS) : Option (Int32 × zS) := zgd (zin u1 64) (zlt (zup σ 37 0 u1.toNatClampNeg u0) fun s23 => K13 y2 (y3 + 1) (y4 + 1) s23)
set_option maxHeartbeats 4000000 in
theorem kM_worked_J87 (N : Nat) (d : Nat) (hd : 1 ≤ d) (K13 : Int32 → Int32 → Int32 → zS → Option (Int32 × zS)) (hK13 : ∀ (y2 : Int32) (y3 : Int32) (y4 : Int32) (σ : zS) (w : Int32 × zS) (z1 : Option zA) (hz1 : znl z1 = true) (z5 : Option zA) (hz5 : znl z5 = true) (z6 : Option zA), K13 y2 y3 y4 σ = some w → zEv d 137 13 [some (zR 8 0), z1, some (zI y2), some (zI y3), some (zI y4), z5, z6] [] σ (some (zI w.1), w.2)) : ∀ (y2 : Int32) (y3 : Int32) (y4 : Int32) (u0 : Int32) (u1 : Int32) (σ : zS) (w : Int32 × zS) (z1 : Option zA) (hz1 : znl z1 = true) (z5 : Option zA) (hz5 : znl z5 = true) (z6 : Option zA), fM_worked_J87 N K13 y2 y3 y4 u0 u1 σ = some w → zEv d 137 87 [some (zR 8 0), z1, some (zI y2), some (zI y3), some (zI y4), z5, z6] [zI u0, zI u1, zR 37 0] σ (some (zI w.1), w.2) := by
  intro y2 y3 y4 u0 u1 σ w z1 hz1 z5 hz5 z6 h
  unfold fM_worked_J87 at h
  refine ev_iast i137_87 rfl (n := 64) rfl (p := 88) rfl h (fun g24 h => ?_)
  refine ev_lets h (fun s23 es23 h => ?_)
  refine ev_iinc i137_88 zii_1 rfl (l := [some (zR 8 0), z1, some (zI y2), some (zI (y3 + 1)), some (zI y4), z5, z6]) rfl (p := 91) rfl ?_
  refine ev_goto i137_91 (t := 157) (by decide) ?_
  refine ev_iinc i137_157 zii_1 rfl (l := [some (zR 8 0), z1, some (zI y2), some (zI (y3 + 1)), some (zI (y4 + 1)), z5, z6]) rfl (p := 160) rfl ?_
  refine ev_goto i137_160 (t := 13) (by decide) ?_
  exact hK13 y2 (y3 + 1) (y4 + 1) s23 w _ hz1 _ hz5 _ h
def fM_worked_J65 (N : Nat) (K13 : Int32 → Int32 → Int32 → zS → Option (Int32 × zS)) (y2 : Int32) (y3 : Int32) (y4 : Int32) (y5 : Int32) (y6 : Int32) (σ : zS) : Option (Int32 × zS) := (if y5 = 0 then fM_worked_J87 N K13 y2 y3 y4 y6 y3 σ else zgd (zin y6 128) (fM_worked_J87 N K13 y2 y3 y4 (σ 36 0 y6.toNatClampNeg) y3 σ))
set_option maxHeartbeats 4000000 in
theorem kM_worked_J65 (N : Nat) (d : Nat) (hd : 1 ≤ d) (K13 : Int32 → Int32 → Int32 → zS → Option (Int32 × zS)) (hK13 : ∀ (y2 : Int32) (y3 : Int32) (y4 : Int32) (σ : zS) (w : Int32 × zS) (z1 : Option zA) (hz1 : znl z1 = true) (z5 : Option zA) (hz5 : znl z5 = true) (z6 : Option zA), K13 y2 y3 y4 σ = some w → zEv d 137 13 [some (zR 8 0), z1, some (zI y2), some (zI y3), some (zI y4), z5, z6] [] σ (some (zI w.1), w.2)) : ∀ (y2 : Int32) (y3 : Int32) (y4 : Int32) (y5 : Int32) (y6 : Int32) (σ : zS) (w : Int32 × zS) (z1 : Option zA) (hz1 : znl z1 = true), fM_worked_J65 N K13 y2 y3 y4 y5 y6 σ = some w → zEv d 137 65 [some (zR 8 0), z1, some (zI y2), some (zI y3), some (zI y4), some (zI y5), some (zI y6)] [] σ (some (zI w.1), w.2) := by
  intro y2 y3 y4 y5 y6 σ w z1 hz1 h
  unfold fM_worked_J65 at h
  refine ev_s i137_65 (p := 66) rfl ?_
  refine ev_getf i137_66 zf8_31 (u := zR 37 0) rfl (p := 69) rfl ?_
  refine ev_s i137_69 (p := 70) rfl ?_
  refine ev_s i137_70 (p := 72) rfl ?_
  refine ev_ifne i137_72 (t := 80) (by decide) (p := 75) rfl h (fun c19 h => ?_) (fun c19 h => ?_)
  · refine ev_s i137_75 (p := 77) rfl ?_
    refine ev_goto i137_77 (t := 87) (by decide) ?_
    exact kM_worked_J87 N d hd K13 hK13 y2 y3 y4 y6 y3 σ w _ hz1 _ rfl _ h
  · refine ev_s i137_80 (p := 81) rfl ?_
    refine ev_getf i137_81 zf8_28 (u := zR 36 0) rfl (p := 84) rfl ?_
    refine ev_s i137_84 (p := 86) rfl ?_
    refine ev_iald i137_86 rfl (n := 128) rfl (p := 87) rfl h (fun g20 h => ?_)
    exact kM_worked_J87 N d hd K13 hK13 y2 y3 y4 (σ 36 0 y6.toNatClampNeg) y3 σ w _ hz1 _ rfl _ h
def fM_worked_L13 (N : Nat) : Nat → Int32 → Int32 → Int32 → zS → Option (Int32 × zS)
  | 0, _, _, _, _ => none
  | n + 1, y2, y3, y4, σ => zgd (zin y2 394) ((if (σ 30 0 y2.toNatClampNeg) ≤ y4 then some (σ 37 0 0, σ) else zgd (zin ((y2 + 1) + (2 * y4)) 394) (zlt (σ 30 0 ((y2 + 1) + (2 * y4)).toNatClampNeg) fun v5 => zgd (zin ((y2 + 2) + (2 * y4)) 394) (zlt (σ 30 0 ((y2 + 2) + (2 * y4)).toNatClampNeg) fun v7 => (if v5 = 0 then fM_worked_J65 N (fun y2 y3 y4 σ => fM_worked_L13 N n y2 y3 y4 σ) y2 y3 y4 v5 v7 σ else (if v5 = 1 then fM_worked_J65 N (fun y2 y3 y4 σ => fM_worked_L13 N n y2 y3 y4 σ) y2 y3 y4 v5 v7 σ else (if v5 = 2 then zgd (zin (y3 - 1) 64) ((if (σ 37 0 (y3 - 1).toNatClampNeg) = 0 then fM_worked_J123 N (fun y2 y3 y4 σ => fM_worked_L13 N n y2 y3 y4 σ) y2 y3 y4 1 (y3 - 1) σ else fM_worked_J123 N (fun y2 y3 y4 σ => fM_worked_L13 N n y2 y3 y4 σ) y2 y3 y4 0 (y3 - 1) σ)) else zgd (zin ((y3 + (-1)) - 1) 64) (zgd (zin (y3 + (-1)) 64) ((fM_joined v7 (σ 37 0 ((y3 + (-1)) - 1).toNatClampNeg) (σ 37 0 (y3 + (-1)).toNatClampNeg)).bind fun r16 => zgd (zin ((y3 + (-1)) - 1) 64) (zlt (zup σ 37 0 ((y3 + (-1)) - 1).toNatClampNeg r16) fun s17 => fM_worked_L13 N n y2 (y3 + (-1)) (y4 + 1) s17))))))))))
set_option maxHeartbeats 4000000 in
theorem kM_worked_L13 (N : Nat) (d : Nat) (hd : 1 ≤ d)  : ∀ n : Nat, ∀ (y2 : Int32) (y3 : Int32) (y4 : Int32) (σ : zS) (w : Int32 × zS) (z1 : Option zA) (hz1 : znl z1 = true) (z5 : Option zA) (hz5 : znl z5 = true) (z6 : Option zA), fM_worked_L13 N n y2 y3 y4 σ = some w → zEv d 137 13 [some (zR 8 0), z1, some (zI y2), some (zI y3), some (zI y4), z5, z6] [] σ (some (zI w.1), w.2) := by
  intro n
  induction n with
  | zero =>
    intro y2 y3 y4 σ w z1 hz1 z5 hz5 z6 h
    cases h
  | succ n ih =>
    intro y2 y3 y4 σ w z1 hz1 z5 hz5 z6 h
    rw [fM_worked_L13] at h
    refine ev_s i137_13 (p := 15) rfl ?_
    refine ev_s i137_15 (p := 16) rfl ?_
    refine ev_getf i137_16 zf8_7 (u := zR 30 0) rfl (p := 19) rfl ?_
    refine ev_s i137_19 (p := 20) rfl ?_
    refine ev_iald i137_20 rfl (n := 394) rfl (p := 21) rfl h (fun g2 h => ?_)
    refine ev_cmpge i137_21 (t := 163) (by decide) (p := 24) rfl h (fun c3 h => ?_) (fun c3 h => ?_)
    · refine ev_s i137_163 (p := 164) rfl ?_
      refine ev_getf i137_164 zf8_31 (u := zR 37 0) rfl (p := 167) rfl ?_
      refine ev_s i137_167 (p := 168) (zic_0 _ _ _ _ _) ?_
      refine ev_ialdK i137_168 rfl (n := 64) rfl (by decide) (p := 169) rfl ?_
      change zEv d 137 169 [some (zR 8 0), z1, some (zI y2), some (zI y3), some (zI y4), z5, z6] [zI (σ 37 0 0)] σ _
      obtain rfl := Option.some.inj h
      exact ev_iret i137_169 zr137
    · refine ev_s i137_24 (p := 25) rfl ?_
      refine ev_getf i137_25 zf8_7 (u := zR 30 0) rfl (p := 28) rfl ?_
      refine ev_s i137_28 (p := 29) rfl ?_
      refine ev_s i137_29 (p := 30) (zic_1 _ _ _ _ _) ?_
      refine ev_s i137_30 (p := 31) (t := [zI (y2 + 1), zR 30 0]) rfl ?_
      refine ev_s i137_31 (p := 32) (zic_2 _ _ _ _ _) ?_
      refine ev_s i137_32 (p := 34) rfl ?_
      refine ev_s i137_34 (p := 35) (t := [zI (2 * y4), zI (y2 + 1), zR 30 0]) rfl ?_
      refine ev_s i137_35 (p := 36) (t := [zI ((y2 + 1) + (2 * y4)), zR 30 0]) rfl ?_
      refine ev_iald i137_36 rfl (n := 394) rfl (p := 37) rfl h (fun g4 h => ?_)
      refine ev_let h (fun v5 ev5 h => ?_)
      refine ev_s i137_37 (p := 39) (l := [some (zR 8 0), z1, some (zI y2), some (zI y3), some (zI y4), some (zI v5), z6]) rfl ?_
      refine ev_s i137_39 (p := 40) rfl ?_
      refine ev_getf i137_40 zf8_7 (u := zR 30 0) rfl (p := 43) rfl ?_
      refine ev_s i137_43 (p := 44) rfl ?_
      refine ev_s i137_44 (p := 45) (zic_2 _ _ _ _ _) ?_
      refine ev_s i137_45 (p := 46) (t := [zI (y2 + 2), zR 30 0]) rfl ?_
      refine ev_s i137_46 (p := 47) (zic_2 _ _ _ _ _) ?_
      refine ev_s i137_47 (p := 49) rfl ?_
      refine ev_s i137_49 (p := 50) (t := [zI (2 * y4), zI (y2 + 2), zR 30 0]) rfl ?_
      refine ev_s i137_50 (p := 51) (t := [zI ((y2 + 2) + (2 * y4)), zR 30 0]) rfl ?_
      refine ev_iald i137_51 rfl (n := 394) rfl (p := 52) rfl h (fun g6 h => ?_)
      refine ev_let h (fun v7 ev7 h => ?_)
      refine ev_s i137_52 (p := 54) (l := [some (zR 8 0), z1, some (zI y2), some (zI y3), some (zI y4), some (zI v5), some (zI v7)]) rfl ?_
      refine ev_s i137_54 (p := 56) rfl ?_
      refine ev_ifeq i137_56 (t := 65) (by decide) (p := 59) rfl h (fun c8 h => ?_) (fun c8 h => ?_)
      · exact kM_worked_J65 N d hd (fun y2 y3 y4 σ => fM_worked_L13 N n y2 y3 y4 σ) ih y2 y3 y4 v5 v7 σ w _ hz1 h
      · refine ev_s i137_59 (p := 61) rfl ?_
        refine ev_s i137_61 (p := 62) (zic_1 _ _ _ _ _) ?_
        refine ev_cmpne i137_62 (t := 94) (by decide) (p := 65) rfl h (fun c9 h => ?_) (fun c9 h => ?_)
        · exact kM_worked_J65 N d hd (fun y2 y3 y4 σ => fM_worked_L13 N n y2 y3 y4 σ) ih y2 y3 y4 v5 v7 σ w _ hz1 h
        · refine ev_s i137_94 (p := 96) rfl ?_
          refine ev_s i137_96 (p := 97) (zic_2 _ _ _ _ _) ?_
          refine ev_cmpne i137_97 (t := 127) (by decide) (p := 100) rfl h (fun c10 h => ?_) (fun c10 h => ?_)
          · refine ev_s i137_100 (p := 101) rfl ?_
            refine ev_getf i137_101 zf8_31 (u := zR 37 0) rfl (p := 104) rfl ?_
            refine ev_s i137_104 (p := 105) rfl ?_
            refine ev_s i137_105 (p := 106) (zic_1 _ _ _ _ _) ?_
            refine ev_s i137_106 (p := 107) (t := [zI (y3 - 1), zR 37 0]) rfl ?_
            refine ev_s i137_107 (p := 108) rfl ?_
            refine ev_getf i137_108 zf8_31 (u := zR 37 0) rfl (p := 111) rfl ?_
            refine ev_s i137_111 (p := 112) rfl ?_
            refine ev_s i137_112 (p := 113) (zic_1 _ _ _ _ _) ?_
            refine ev_s i137_113 (p := 114) (t := [zI (y3 - 1), zR 37 0, zI (y3 - 1), zR 37 0]) rfl ?_
            refine ev_iald i137_114 rfl (n := 64) rfl (p := 115) rfl h (fun g11 h => ?_)
            refine ev_ifne i137_115 (t := 122) (by decide) (p := 118) rfl h (fun c12 h => ?_) (fun c12 h => ?_)
            · refine ev_s i137_118 (p := 119) (zic_1 _ _ _ _ _) ?_
              refine ev_goto i137_119 (t := 123) (by decide) ?_
              exact kM_worked_J123 N d hd (fun y2 y3 y4 σ => fM_worked_L13 N n y2 y3 y4 σ) ih y2 y3 y4 1 (y3 - 1) σ w _ hz1 _ rfl _ h
            · refine ev_s i137_122 (p := 123) (zic_0 _ _ _ _ _) ?_
              exact kM_worked_J123 N d hd (fun y2 y3 y4 σ => fM_worked_L13 N n y2 y3 y4 σ) ih y2 y3 y4 0 (y3 - 1) σ w _ hz1 _ rfl _ h
          · refine ev_iinc i137_127 zii_m1 rfl (l := [some (zR 8 0), z1, some (zI y2), some (zI (y3 + (-1))), some (zI y4), some (zI v5), some (zI v7)]) rfl (p := 130) rfl ?_
            refine ev_s i137_130 (p := 131) rfl ?_
            refine ev_getf i137_131 zf8_31 (u := zR 37 0) rfl (p := 134) rfl ?_
            refine ev_s i137_134 (p := 135) rfl ?_
            refine ev_s i137_135 (p := 136) (zic_1 _ _ _ _ _) ?_
            refine ev_s i137_136 (p := 137) (t := [zI ((y3 + (-1)) - 1), zR 37 0]) rfl ?_
            refine ev_s i137_137 (p := 139) rfl ?_
            refine ev_s i137_139 (p := 140) rfl ?_
            refine ev_getf i137_140 zf8_31 (u := zR 37 0) rfl (p := 143) rfl ?_
            refine ev_s i137_143 (p := 144) rfl ?_
            refine ev_s i137_144 (p := 145) (zic_1 _ _ _ _ _) ?_
            refine ev_s i137_145 (p := 146) (t := [zI ((y3 + (-1)) - 1), zR 37 0, zI v7, zI ((y3 + (-1)) - 1), zR 37 0]) rfl ?_
            refine ev_iald i137_146 rfl (n := 64) rfl (p := 147) rfl h (fun g13 h => ?_)
            refine ev_s i137_147 (p := 148) rfl ?_
            refine ev_getf i137_148 zf8_31 (u := zR 37 0) rfl (p := 151) rfl ?_
            refine ev_s i137_151 (p := 152) rfl ?_
            refine ev_iald i137_152 rfl (n := 64) rfl (p := 153) rfl h (fun g14 h => ?_)
            obtain ⟨r16, hr15, h⟩ := bd_some h
            refine ev_callS i137_153 zn8_114 zc8_114 zm136 (as := [zI v7, zI (σ 37 0 ((y3 + (-1)) - 1).toNatClampNeg), zI (σ 37 0 (y3 + (-1)).toNatClampNeg)]) (rest := [zI ((y3 + (-1)) - 1), zR 37 0]) rfl rfl (Nat.le_of_ble_eq_true rfl) (Nat.le_of_ble_eq_true rfl) (Nat.le_of_ble_eq_true rfl) (by omega) (l0 := [some (zI v7), some (zI (σ 37 0 ((y3 + (-1)) - 1).toNatClampNeg)), some (zI (σ 37 0 (y3 + (-1)).toNatClampNeg))]) rfl (p := 156) rfl (kM_joined v7 (σ 37 0 ((y3 + (-1)) - 1).toNatClampNeg) (σ 37 0 (y3 + (-1)).toNatClampNeg) σ r16 hr15 (d - 1) (by omega)) ?_
            change zEv d 137 156 [some (zR 8 0), z1, some (zI y2), some (zI (y3 + (-1))), some (zI y4), some (zI v5), some (zI v7)] [zI r16, zI ((y3 + (-1)) - 1), zR 37 0] σ _
            refine ev_iast i137_156 rfl (n := 64) rfl (p := 157) rfl h (fun g18 h => ?_)
            refine ev_lets h (fun s17 es17 h => ?_)
            refine ev_iinc i137_157 zii_1 rfl (l := [some (zR 8 0), z1, some (zI y2), some (zI (y3 + (-1))), some (zI (y4 + 1)), some (zI v5), some (zI v7)]) rfl (p := 160) rfl ?_
            refine ev_goto i137_160 (t := 13) (by decide) ?_
            exact ih y2 (y3 + (-1)) (y4 + 1) s17 w _ hz1 _ rfl _ h
def fM_worked (N : Nat) (x1 : Int32) (σ : zS) : Option (Int32 × zS) := zlt (60 + (125 * x1)) fun v1 => fM_worked_L13 N N v1 0 0 σ
set_option maxHeartbeats 4000000 in
theorem kM_worked (N : Nat) (x1 : Int32) (σ : zS) (w : Int32 × zS) (h : fM_worked N x1 σ = some w) (d : Nat) (hd : 1 ≤ d) : zEv d 137 0 [some (zR 8 0), some (zI x1), none, none, none, none, none] [] σ (some (zI w.1), w.2) := by
  unfold fM_worked at h
  refine ev_s i137_0 (p := 2) (zib_60 _ _ _ _ _) ?_
  refine ev_s i137_2 (p := 4) (zib_125 _ _ _ _ _) ?_
  refine ev_s i137_4 (p := 5) rfl ?_
  refine ev_s i137_5 (p := 6) (t := [zI (125 * x1), zI 60]) rfl ?_
  refine ev_s i137_6 (p := 7) (t := [zI (60 + (125 * x1))]) rfl ?_
  refine ev_let h (fun v1 ev1 h => ?_)
  refine ev_s i137_7 (p := 8) (l := [some (zR 8 0), some (zI x1), some (zI v1), none, none, none, none]) rfl ?_
  refine ev_s i137_8 (p := 9) (zic_0 _ _ _ _ _) ?_
  refine ev_s i137_9 (p := 10) (l := [some (zR 8 0), some (zI x1), some (zI v1), some (zI 0), none, none, none]) rfl ?_
  refine ev_s i137_10 (p := 11) (zic_0 _ _ _ _ _) ?_
  refine ev_s i137_11 (p := 13) (l := [some (zR 8 0), some (zI x1), some (zI v1), some (zI 0), some (zI 0), none, none]) rfl ?_
  exact kM_worked_L13 N d hd N v1 0 0 σ w _ rfl _ rfl _ h
/-! fM_restOf -/
def fM_restOf (x0 : Int32) : Option (Int32) := zlt (x0 - x0 / 4 * 4) fun v1 => (if 0 ≤ v1 then some (v1) else some (v1 + 4))
set_option maxHeartbeats 4000000 in
theorem kM_restOf (x0 : Int32) (σ : zS) (w : Int32) (h : fM_restOf x0 = some w) (d : Nat) (hd : 0 ≤ d) : zEv d 141 0 [some (zI x0), none] [] σ (some (zI w), σ) := by
  unfold fM_restOf at h
  refine ev_s i141_0 (p := 1) rfl ?_
  refine ev_s i141_1 (p := 2) (zic_4 _ _ _ _ _) ?_
  refine ev_iremK i141_2 (p := 3) rfl (by decide) ?_
  refine ev_let h (fun v1 ev1 h => ?_)
  refine ev_s i141_3 (p := 4) (l := [some (zI x0), some (zI v1)]) rfl ?_
  refine ev_s i141_4 (p := 5) rfl ?_
  refine ev_ifge i141_5 (t := 14) (by decide) (p := 8) rfl h (fun c2 h => ?_) (fun c2 h => ?_)
  · refine ev_s i141_14 (p := 15) rfl ?_
    obtain rfl := Option.some.inj h
    exact ev_iret i141_15 zr141
  · refine ev_s i141_8 (p := 9) rfl ?_
    refine ev_s i141_9 (p := 10) (zic_4 _ _ _ _ _) ?_
    refine ev_s i141_10 (p := 11) (t := [zI (v1 + 4)]) rfl ?_
    refine ev_goto i141_11 (t := 15) (by decide) ?_
    obtain rfl := Option.some.inj h
    exact ev_iret i141_15 zr141
/-! fM_held -/
def fM_held (x0 : Int32) (x1 : Int32) (x2 : Int32) : Option (Int32) := (if x1 ≤ x0 then (if x0 ≤ x2 then some (x0) else some (x2)) else some (x1))
set_option maxHeartbeats 4000000 in
theorem kM_held (x0 : Int32) (x1 : Int32) (x2 : Int32) (σ : zS) (w : Int32) (h : fM_held x0 x1 x2 = some w) (d : Nat) (hd : 0 ≤ d) : zEv d 112 0 [some (zI x0), some (zI x1), some (zI x2)] [] σ (some (zI w), σ) := by
  unfold fM_held at h
  refine ev_s i112_0 (p := 1) rfl ?_
  refine ev_s i112_1 (p := 2) rfl ?_
  refine ev_cmpge i112_2 (t := 9) (by decide) (p := 5) rfl h (fun c1 h => ?_) (fun c1 h => ?_)
  · refine ev_s i112_9 (p := 10) rfl ?_
    refine ev_s i112_10 (p := 11) rfl ?_
    refine ev_cmple i112_11 (t := 18) (by decide) (p := 14) rfl h (fun c2 h => ?_) (fun c2 h => ?_)
    · refine ev_s i112_18 (p := 19) rfl ?_
      obtain rfl := Option.some.inj h
      exact ev_iret i112_19 zr112
    · refine ev_s i112_14 (p := 15) rfl ?_
      refine ev_goto i112_15 (t := 19) (by decide) ?_
      obtain rfl := Option.some.inj h
      exact ev_iret i112_19 zr112
  · refine ev_s i112_5 (p := 6) rfl ?_
    refine ev_goto i112_6 (t := 19) (by decide) ?_
    obtain rfl := Option.some.inj h
    exact ev_iret i112_19 zr112
/-! fM_givenBy -/
def fM_givenBy_J60 (N : Nat) (y1 : Int32) (u0 : Int32) (σ : zS) : Option (Int32 × zS) := (if y1 = 0 then (fM_restOf u0).bind fun r16 => some (r16, σ) else (fM_held u0 0 9).bind fun r18 => some (r18, σ))
set_option maxHeartbeats 4000000 in
theorem kM_givenBy_J60 (N : Nat) (d : Nat) (hd : 2 ≤ d)  : ∀ (y1 : Int32) (u0 : Int32) (σ : zS) (w : Int32 × zS) (z0 : Option zA) (z2 : Option zA) (z3 : Option zA) (z4 : Option zA) (hz4 : znl z4 = true) (z5 : Option zA), fM_givenBy_J60 N y1 u0 σ = some w → zEv d 142 60 [z0, some (zI y1), z2, z3, z4, z5] [zI u0] σ (some (zI w.1), w.2) := by
  intro y1 u0 σ w z0 z2 z3 z4 hz4 z5 h
  unfold fM_givenBy_J60 at h
  refine ev_s i142_60 (p := 62) (l := [z0, some (zI y1), z2, z3, z4, some (zI u0)]) (t := []) (s := σ) (by rcases z4 with _ | _ | _ | _ <;> first | rfl | cases hz4) ?_
  refine ev_s i142_62 (p := 63) rfl ?_
  refine ev_ifne i142_63 (t := 74) (by decide) (p := 66) rfl h (fun c14 h => ?_) (fun c14 h => ?_)
  · refine ev_s i142_66 (p := 68) rfl ?_
    obtain ⟨r16, hr15, h⟩ := bd_some h
    refine ev_callS i142_68 zn8_124 zc8_124 zm141 (as := [zI u0]) (rest := []) rfl rfl (Nat.le_of_ble_eq_true rfl) (Nat.le_of_ble_eq_true rfl) (Nat.le_of_ble_eq_true rfl) (by omega) (l0 := [some (zI u0), none]) rfl (p := 71) rfl (kM_restOf u0 σ r16 hr15 (d - 1) (by omega)) ?_
    change zEv d 142 71 [z0, some (zI y1), z2, z3, z4, some (zI u0)] [zI r16] σ _
    refine ev_goto i142_71 (t := 82) (by decide) ?_
    obtain rfl := Option.some.inj h
    exact ev_iret i142_82 zr142
  · refine ev_s i142_74 (p := 76) rfl ?_
    refine ev_s i142_76 (p := 77) (zic_0 _ _ _ _ _) ?_
    refine ev_s i142_77 (p := 79) (zib_9 _ _ _ _ _) ?_
    obtain ⟨r18, hr17, h⟩ := bd_some h
    refine ev_callS i142_79 zn8_127 zc8_127 zm112 (as := [zI u0, zI 0, zI 9]) (rest := []) rfl rfl (Nat.le_of_ble_eq_true rfl) (Nat.le_of_ble_eq_true rfl) (Nat.le_of_ble_eq_true rfl) (by omega) (l0 := [some (zI u0), some (zI 0), some (zI 9)]) rfl (p := 82) rfl (kM_held u0 0 9 σ r18 hr17 (d - 1) (by omega)) ?_
    change zEv d 142 82 [z0, some (zI y1), z2, z3, z4, some (zI u0)] [zI r18] σ _
    obtain rfl := Option.some.inj h
    exact ev_iret i142_82 zr142
def fM_givenBy_J32 (N : Nat) (y1 : Int32) (y2 : Int32) (y3 : Int32) (y4 : Int32) (u0 : Int32) (σ : zS) : Option (Int32 × zS) := zgd (zin u0 128) (zlt (zup σ 36 0 u0.toNatClampNeg y3) fun s5 => zlt (zup s5 36 0 100 y4) fun s7 => (fM_hasText y1 s7).bind fun r9 => (if r9 = 0 then fM_givenBy_J60 N y1 y2 s7 else zb2 (fM_worked N y1 s7) fun r13 s12 => fM_givenBy_J60 N y1 r13 s12))
set_option maxHeartbeats 4000000 in
theorem kM_givenBy_J32 (N : Nat) (d : Nat) (hd : 2 ≤ d)  : ∀ (y1 : Int32) (y2 : Int32) (y3 : Int32) (y4 : Int32) (u0 : Int32) (σ : zS) (w : Int32 × zS) (z5 : Option zA), fM_givenBy_J32 N y1 y2 y3 y4 u0 σ = some w → zEv d 142 32 [some (zR 8 0), some (zI y1), some (zI y2), some (zI y3), some (zI y4), z5] [zI u0, zR 36 0] σ (some (zI w.1), w.2) := by
  intro y1 y2 y3 y4 u0 σ w z5 h
  unfold fM_givenBy_J32 at h
  refine ev_s i142_32 (p := 33) rfl ?_
  refine ev_iast i142_33 rfl (n := 128) rfl (p := 34) rfl h (fun g6 h => ?_)
  refine ev_lets h (fun s5 es5 h => ?_)
  refine ev_s i142_34 (p := 35) rfl ?_
  refine ev_getf i142_35 zf8_28 (u := zR 36 0) rfl (p := 38) rfl ?_
  refine ev_s i142_38 (p := 40) (zib_100 _ _ _ _ _) ?_
  refine ev_s i142_40 (p := 42) rfl ?_
  refine ev_iastK i142_42 rfl (n := 128) rfl (by decide) (p := 43) rfl ?_
  change zEv d 142 43 [some (zR 8 0), some (zI y1), some (zI y2), some (zI y3), some (zI y4), z5] [] (zup s5 36 0 100 y4) _
  refine ev_lets h (fun s7 es7 h => ?_)
  refine ev_s i142_43 (p := 44) rfl ?_
  refine ev_s i142_44 (p := 45) rfl ?_
  obtain ⟨r9, hr8, h⟩ := bd_some h
  refine ev_callV i142_45 zc8_111 zm133 zo133 (as' := [zI y1]) (rest := []) rfl rfl (Nat.le_of_ble_eq_true rfl) (Nat.le_of_ble_eq_true rfl) (Nat.le_of_ble_eq_true rfl) (by omega) (l0 := [some (zR 8 0), some (zI y1)]) rfl (p := 48) rfl (kM_hasText y1 s7 r9 hr8 (d - 1) (by omega)) ?_
  change zEv d 142 48 [some (zR 8 0), some (zI y1), some (zI y2), some (zI y3), some (zI y4), z5] [zI r9] s7 _
  refine ev_ifeq i142_48 (t := 59) (by decide) (p := 51) rfl h (fun c10 h => ?_) (fun c10 h => ?_)
  · refine ev_s i142_59 (p := 60) rfl ?_
    exact kM_givenBy_J60 N d hd y1 y2 s7 w _ _ _ _ rfl _ h
  · refine ev_s i142_51 (p := 52) rfl ?_
    refine ev_s i142_52 (p := 53) rfl ?_
    obtain ⟨r13, s12, hr11, h⟩ := b2_some h
    refine ev_callV i142_53 zc8_121 zm137 zo137 (as' := [zI y1]) (rest := []) rfl rfl (Nat.le_of_ble_eq_true rfl) (Nat.le_of_ble_eq_true rfl) (Nat.le_of_ble_eq_true rfl) (by omega) (l0 := [some (zR 8 0), some (zI y1), none, none, none, none, none]) rfl (p := 56) rfl (kM_worked N y1 s7 (r13, s12) hr11 (d - 1) (by omega)) ?_
    change zEv d 142 56 [some (zR 8 0), some (zI y1), some (zI y2), some (zI y3), some (zI y4), z5] [zI r13] s12 _
    refine ev_goto i142_56 (t := 60) (by decide) ?_
    exact kM_givenBy_J60 N d hd y1 r13 s12 w _ _ _ _ rfl _ h
def fM_givenBy_J15 (N : Nat) (y1 : Int32) (y2 : Int32) (y3 : Int32) (y4 : Int32) (u0 : Int32) (σ : zS) : Option (Int32 × zS) := zgd (zin u0 128) (zlt (zup σ 36 0 u0.toNatClampNeg y2) fun s2 => (if y1 = 0 then fM_givenBy_J32 N y1 y2 y3 y4 115 s2 else fM_givenBy_J32 N y1 y2 y3 y4 111 s2))
set_option maxHeartbeats 4000000 in
theorem kM_givenBy_J15 (N : Nat) (d : Nat) (hd : 2 ≤ d)  : ∀ (y1 : Int32) (y2 : Int32) (y3 : Int32) (y4 : Int32) (u0 : Int32) (σ : zS) (w : Int32 × zS) (z5 : Option zA), fM_givenBy_J15 N y1 y2 y3 y4 u0 σ = some w → zEv d 142 15 [some (zR 8 0), some (zI y1), some (zI y2), some (zI y3), some (zI y4), z5] [zI u0, zR 36 0] σ (some (zI w.1), w.2) := by
  intro y1 y2 y3 y4 u0 σ w z5 h
  unfold fM_givenBy_J15 at h
  refine ev_s i142_15 (p := 16) rfl ?_
  refine ev_iast i142_16 rfl (n := 128) rfl (p := 17) rfl h (fun g3 h => ?_)
  refine ev_lets h (fun s2 es2 h => ?_)
  refine ev_s i142_17 (p := 18) rfl ?_
  refine ev_getf i142_18 zf8_28 (u := zR 36 0) rfl (p := 21) rfl ?_
  refine ev_s i142_21 (p := 22) rfl ?_
  refine ev_ifne i142_22 (t := 30) (by decide) (p := 25) rfl h (fun c4 h => ?_) (fun c4 h => ?_)
  · refine ev_s i142_25 (p := 27) (zib_115 _ _ _ _ _) ?_
    refine ev_goto i142_27 (t := 32) (by decide) ?_
    exact kM_givenBy_J32 N d hd y1 y2 y3 y4 115 s2 w _ h
  · refine ev_s i142_30 (p := 32) (zib_111 _ _ _ _ _) ?_
    exact kM_givenBy_J32 N d hd y1 y2 y3 y4 111 s2 w _ h
def fM_givenBy (N : Nat) (x1 : Int32) (x2 : Int32) (x3 : Int32) (x4 : Int32) (σ : zS) : Option (Int32 × zS) := (if x1 = 0 then fM_givenBy_J15 N x1 x2 x3 x4 121 σ else fM_givenBy_J15 N x1 x2 x3 x4 115 σ)
set_option maxHeartbeats 4000000 in
theorem kM_givenBy (N : Nat) (x1 : Int32) (x2 : Int32) (x3 : Int32) (x4 : Int32) (σ : zS) (w : Int32 × zS) (h : fM_givenBy N x1 x2 x3 x4 σ = some w) (d : Nat) (hd : 2 ≤ d) : zEv d 142 0 [some (zR 8 0), some (zI x1), some (zI x2), some (zI x3), some (zI x4), none] [] σ (some (zI w.1), w.2) := by
  unfold fM_givenBy at h
  refine ev_s i142_0 (p := 1) rfl ?_
  refine ev_getf i142_1 zf8_28 (u := zR 36 0) rfl (p := 4) rfl ?_
  refine ev_s i142_4 (p := 5) rfl ?_
  refine ev_ifne i142_5 (t := 13) (by decide) (p := 8) rfl h (fun c1 h => ?_) (fun c1 h => ?_)
  · refine ev_s i142_8 (p := 10) (zib_121 _ _ _ _ _) ?_
    refine ev_goto i142_10 (t := 15) (by decide) ?_
    exact kM_givenBy_J15 N d hd x1 x2 x3 x4 121 σ w _ h
  · refine ev_s i142_13 (p := 15) (zib_115 _ _ _ _ _) ?_
    exact kM_givenBy_J15 N d hd x1 x2 x3 x4 115 σ w _ h
/-! fM_doesNow -/
def fM_doesNow (N : Nat) (x1 : Int32) (σ : zS) : Option (Int32 × zS) := (fM_yieldsOf N x1 σ).bind fun r2 => (fM_its x1 5 σ).bind fun r4 => zb2 (fM_givenBy N 0 r2 r4 ((σ 30 0 0) - (σ 30 0 0) / 8 * 8) σ) fun r7 s6 => some (r7, s6)
set_option maxHeartbeats 4000000 in
theorem kM_doesNow (N : Nat) (x1 : Int32) (σ : zS) (w : Int32 × zS) (h : fM_doesNow N x1 σ = some w) (d : Nat) (hd : 3 ≤ d) : zEv d 143 0 [some (zR 8 0), some (zI x1)] [] σ (some (zI w.1), w.2) := by
  unfold fM_doesNow at h
  refine ev_s i143_0 (p := 1) rfl ?_
  refine ev_s i143_1 (p := 2) (zic_0 _ _ _ _ _) ?_
  refine ev_s i143_2 (p := 3) rfl ?_
  refine ev_s i143_3 (p := 4) rfl ?_
  obtain ⟨r2, hr1, h⟩ := bd_some h
  refine ev_callV i143_4 zc8_130 zm139 zo139 (as' := [zI x1]) (rest := [zI 0, zR 8 0]) rfl rfl (Nat.le_of_ble_eq_true rfl) (Nat.le_of_ble_eq_true rfl) (Nat.le_of_ble_eq_true rfl) (by omega) (l0 := [some (zR 8 0), some (zI x1), none, none]) rfl (p := 7) rfl (kM_yieldsOf N x1 σ r2 hr1 (d - 1) (by omega)) ?_
  change zEv d 143 7 [some (zR 8 0), some (zI x1)] [zI r2, zI 0, zR 8 0] σ _
  refine ev_s i143_7 (p := 8) rfl ?_
  refine ev_s i143_8 (p := 9) rfl ?_
  refine ev_s i143_9 (p := 10) (zic_5 _ _ _ _ _) ?_
  obtain ⟨r4, hr3, h⟩ := bd_some h
  refine ev_callV i143_10 zc8_54 zm118 zo118 (as' := [zI x1, zI 5]) (rest := [zI r2, zI 0, zR 8 0]) rfl rfl (Nat.le_of_ble_eq_true rfl) (Nat.le_of_ble_eq_true rfl) (Nat.le_of_ble_eq_true rfl) (by omega) (l0 := [some (zR 8 0), some (zI x1), some (zI 5)]) rfl (p := 13) rfl (kM_its x1 5 σ r4 hr3 (d - 1) (by omega)) ?_
  change zEv d 143 13 [some (zR 8 0), some (zI x1)] [zI r4, zI r2, zI 0, zR 8 0] σ _
  refine ev_s i143_13 (p := 14) rfl ?_
  refine ev_getf i143_14 zf8_7 (u := zR 30 0) rfl (p := 17) rfl ?_
  refine ev_s i143_17 (p := 18) (zic_0 _ _ _ _ _) ?_
  refine ev_ialdK i143_18 rfl (n := 394) rfl (by decide) (p := 19) rfl ?_
  change zEv d 143 19 [some (zR 8 0), some (zI x1)] [zI (σ 30 0 0), zI r4, zI r2, zI 0, zR 8 0] σ _
  refine ev_s i143_19 (p := 21) (zib_8 _ _ _ _ _) ?_
  refine ev_iremK i143_21 (p := 22) rfl (by decide) ?_
  obtain ⟨r7, s6, hr5, h⟩ := b2_some h
  refine ev_callV i143_22 zc8_133 zm142 zo142 (as' := [zI 0, zI r2, zI r4, zI ((σ 30 0 0) - (σ 30 0 0) / 8 * 8)]) (rest := []) rfl rfl (Nat.le_of_ble_eq_true rfl) (Nat.le_of_ble_eq_true rfl) (Nat.le_of_ble_eq_true rfl) (by omega) (l0 := [some (zR 8 0), some (zI 0), some (zI r2), some (zI r4), some (zI ((σ 30 0 0) - (σ 30 0 0) / 8 * 8)), none]) rfl (p := 25) rfl (kM_givenBy N 0 r2 r4 ((σ 30 0 0) - (σ 30 0 0) / 8 * 8) σ (r7, s6) hr5 (d - 1) (by omega)) ?_
  change zEv d 143 25 [some (zR 8 0), some (zI x1)] [zI r7] s6 _
  obtain rfl := Option.some.inj h
  exact ev_iret i143_25 zr143
/-! fM_stepsOf -/
def fM_stepsOf (x1 : Int32) (σ : zS) : Option (Int32) := (fM_its x1 1 σ).bind fun r2 => zlt (2 + ((σ 30 0 0) - (σ 30 0 0) / 2 * 2)) fun v3 => (fM_its x1 0 σ).bind fun r5 => (if r5 = 1 then some (v3) else (if r5 = 2 then some (1) else (if r5 = 3 then some (r2 / 5) else (if r5 = 4 then some (v3 + r2) else (if r5 = 5 then some (4) else (if r5 = 6 then some (1) else some (2)))))))
set_option maxHeartbeats 4000000 in
theorem kM_stepsOf (x1 : Int32) (σ : zS) (w : Int32) (h : fM_stepsOf x1 σ = some w) (d : Nat) (hd : 1 ≤ d) : zEv d 140 0 [some (zR 8 0), some (zI x1), none, none] [] σ (some (zI w), σ) := by
  unfold fM_stepsOf at h
  refine ev_s i140_0 (p := 1) rfl ?_
  refine ev_s i140_1 (p := 2) rfl ?_
  refine ev_s i140_2 (p := 3) (zic_1 _ _ _ _ _) ?_
  obtain ⟨r2, hr1, h⟩ := bd_some h
  refine ev_callV i140_3 zc8_54 zm118 zo118 (as' := [zI x1, zI 1]) (rest := []) rfl rfl (Nat.le_of_ble_eq_true rfl) (Nat.le_of_ble_eq_true rfl) (Nat.le_of_ble_eq_true rfl) (by omega) (l0 := [some (zR 8 0), some (zI x1), some (zI 1)]) rfl (p := 6) rfl (kM_its x1 1 σ r2 hr1 (d - 1) (by omega)) ?_
  change zEv d 140 6 [some (zR 8 0), some (zI x1), none, none] [zI r2] σ _
  refine ev_s i140_6 (p := 7) (l := [some (zR 8 0), some (zI x1), some (zI r2), none]) rfl ?_
  refine ev_s i140_7 (p := 8) (zic_2 _ _ _ _ _) ?_
  refine ev_s i140_8 (p := 9) rfl ?_
  refine ev_getf i140_9 zf8_7 (u := zR 30 0) rfl (p := 12) rfl ?_
  refine ev_s i140_12 (p := 13) (zic_0 _ _ _ _ _) ?_
  refine ev_ialdK i140_13 rfl (n := 394) rfl (by decide) (p := 14) rfl ?_
  change zEv d 140 14 [some (zR 8 0), some (zI x1), some (zI r2), none] [zI (σ 30 0 0), zI 2] σ _
  refine ev_s i140_14 (p := 15) (zic_2 _ _ _ _ _) ?_
  refine ev_iremK i140_15 (p := 16) rfl (by decide) ?_
  refine ev_s i140_16 (p := 17) (t := [zI (2 + ((σ 30 0 0) - (σ 30 0 0) / 2 * 2))]) rfl ?_
  refine ev_let h (fun v3 ev3 h => ?_)
  refine ev_s i140_17 (p := 18) (l := [some (zR 8 0), some (zI x1), some (zI r2), some (zI v3)]) rfl ?_
  refine ev_s i140_18 (p := 19) rfl ?_
  refine ev_s i140_19 (p := 20) rfl ?_
  refine ev_s i140_20 (p := 21) (zic_0 _ _ _ _ _) ?_
  obtain ⟨r5, hr4, h⟩ := bd_some h
  refine ev_callV i140_21 zc8_54 zm118 zo118 (as' := [zI x1, zI 0]) (rest := []) rfl rfl (Nat.le_of_ble_eq_true rfl) (Nat.le_of_ble_eq_true rfl) (Nat.le_of_ble_eq_true rfl) (by omega) (l0 := [some (zR 8 0), some (zI x1), some (zI 0)]) rfl (p := 24) rfl (kM_its x1 0 σ r5 hr4 (d - 1) (by omega)) ?_
  change zEv d 140 24 [some (zR 8 0), some (zI x1), some (zI r2), some (zI v3)] [zI r5] σ _
  refine ev_sel h (fun c6 h => ?_) (fun c6 h => ?_)
  · refine ev_tsw i140_24 (by decide) (t := 64) (by rw [c6]; decide) ?_
    refine ev_s i140_64 (p := 65) rfl ?_
    obtain rfl := Option.some.inj h
    exact ev_iret i140_65 zr140
  refine ev_sel h (fun c7 h => ?_) (fun c7 h => ?_)
  · refine ev_tsw i140_24 (by decide) (t := 66) (by rw [c7]; decide) ?_
    refine ev_s i140_66 (p := 67) (zic_1 _ _ _ _ _) ?_
    obtain rfl := Option.some.inj h
    exact ev_iret i140_67 zr140
  refine ev_sel h (fun c8 h => ?_) (fun c8 h => ?_)
  · refine ev_tsw i140_24 (by decide) (t := 68) (by rw [c8]; decide) ?_
    refine ev_s i140_68 (p := 69) rfl ?_
    refine ev_s i140_69 (p := 70) (zic_5 _ _ _ _ _) ?_
    refine ev_idivK i140_70 (p := 71) rfl (by decide) ?_
    obtain rfl := Option.some.inj h
    exact ev_iret i140_71 zr140
  refine ev_sel h (fun c9 h => ?_) (fun c9 h => ?_)
  · refine ev_tsw i140_24 (by decide) (t := 72) (by rw [c9]; decide) ?_
    refine ev_s i140_72 (p := 73) rfl ?_
    refine ev_s i140_73 (p := 74) rfl ?_
    refine ev_s i140_74 (p := 75) (t := [zI (v3 + r2)]) rfl ?_
    obtain rfl := Option.some.inj h
    exact ev_iret i140_75 zr140
  refine ev_sel h (fun c10 h => ?_) (fun c10 h => ?_)
  · refine ev_tsw i140_24 (by decide) (t := 76) (by rw [c10]; decide) ?_
    refine ev_s i140_76 (p := 77) (zic_4 _ _ _ _ _) ?_
    obtain rfl := Option.some.inj h
    exact ev_iret i140_77 zr140
  refine ev_sel h (fun c11 h => ?_) (fun c11 h => ?_)
  · refine ev_tsw i140_24 (by decide) (t := 78) (by rw [c11]; decide) ?_
    refine ev_s i140_78 (p := 79) (zic_1 _ _ _ _ _) ?_
    obtain rfl := Option.some.inj h
    exact ev_iret i140_79 zr140
  refine ev_tsw i140_24 (by decide) (t := 80) (by show (24 : Int) + zsw r5 (1) [40, 42, 44, 48, 52, 54] (56) = 80; rw [zsw_st c6 (by decide), zsw_st c7 (by decide), zsw_st c8 (by decide), zsw_st c9 (by decide), zsw_st c10 (by decide), zsw_st c11 (by decide)]; rfl) ?_
  refine ev_s i140_80 (p := 81) (zic_2 _ _ _ _ _) ?_
  obtain rfl := Option.some.inj h
  exact ev_iret i140_81 zr140
/-! fM_goesNow -/
def fM_goesNow (N : Nat) (x1 : Int32) (σ : zS) : Option (Int32 × zS) := (fM_stepsOf x1 σ).bind fun r2 => (fM_its x1 4 σ).bind fun r4 => zb2 (fM_givenBy N 1 r2 r4 ((σ 30 0 0) - (σ 30 0 0) / 8 * 8) σ) fun r7 s6 => some (r7, s6)
set_option maxHeartbeats 4000000 in
theorem kM_goesNow (N : Nat) (x1 : Int32) (σ : zS) (w : Int32 × zS) (h : fM_goesNow N x1 σ = some w) (d : Nat) (hd : 3 ≤ d) : zEv d 144 0 [some (zR 8 0), some (zI x1)] [] σ (some (zI w.1), w.2) := by
  unfold fM_goesNow at h
  refine ev_s i144_0 (p := 1) rfl ?_
  refine ev_s i144_1 (p := 2) (zic_1 _ _ _ _ _) ?_
  refine ev_s i144_2 (p := 3) rfl ?_
  refine ev_s i144_3 (p := 4) rfl ?_
  obtain ⟨r2, hr1, h⟩ := bd_some h
  refine ev_callV i144_4 zc8_137 zm140 zo140 (as' := [zI x1]) (rest := [zI 1, zR 8 0]) rfl rfl (Nat.le_of_ble_eq_true rfl) (Nat.le_of_ble_eq_true rfl) (Nat.le_of_ble_eq_true rfl) (by omega) (l0 := [some (zR 8 0), some (zI x1), none, none]) rfl (p := 7) rfl (kM_stepsOf x1 σ r2 hr1 (d - 1) (by omega)) ?_
  change zEv d 144 7 [some (zR 8 0), some (zI x1)] [zI r2, zI 1, zR 8 0] σ _
  refine ev_s i144_7 (p := 8) rfl ?_
  refine ev_s i144_8 (p := 9) rfl ?_
  refine ev_s i144_9 (p := 10) (zic_4 _ _ _ _ _) ?_
  obtain ⟨r4, hr3, h⟩ := bd_some h
  refine ev_callV i144_10 zc8_54 zm118 zo118 (as' := [zI x1, zI 4]) (rest := [zI r2, zI 1, zR 8 0]) rfl rfl (Nat.le_of_ble_eq_true rfl) (Nat.le_of_ble_eq_true rfl) (Nat.le_of_ble_eq_true rfl) (by omega) (l0 := [some (zR 8 0), some (zI x1), some (zI 4)]) rfl (p := 13) rfl (kM_its x1 4 σ r4 hr3 (d - 1) (by omega)) ?_
  change zEv d 144 13 [some (zR 8 0), some (zI x1)] [zI r4, zI r2, zI 1, zR 8 0] σ _
  refine ev_s i144_13 (p := 14) rfl ?_
  refine ev_getf i144_14 zf8_7 (u := zR 30 0) rfl (p := 17) rfl ?_
  refine ev_s i144_17 (p := 18) (zic_0 _ _ _ _ _) ?_
  refine ev_ialdK i144_18 rfl (n := 394) rfl (by decide) (p := 19) rfl ?_
  change zEv d 144 19 [some (zR 8 0), some (zI x1)] [zI (σ 30 0 0), zI r4, zI r2, zI 1, zR 8 0] σ _
  refine ev_s i144_19 (p := 21) (zib_8 _ _ _ _ _) ?_
  refine ev_iremK i144_21 (p := 22) rfl (by decide) ?_
  obtain ⟨r7, s6, hr5, h⟩ := b2_some h
  refine ev_callV i144_22 zc8_133 zm142 zo142 (as' := [zI 1, zI r2, zI r4, zI ((σ 30 0 0) - (σ 30 0 0) / 8 * 8)]) (rest := []) rfl rfl (Nat.le_of_ble_eq_true rfl) (Nat.le_of_ble_eq_true rfl) (Nat.le_of_ble_eq_true rfl) (by omega) (l0 := [some (zR 8 0), some (zI 1), some (zI r2), some (zI r4), some (zI ((σ 30 0 0) - (σ 30 0 0) / 8 * 8)), none]) rfl (p := 25) rfl (kM_givenBy N 1 r2 r4 ((σ 30 0 0) - (σ 30 0 0) / 8 * 8) σ (r7, s6) hr5 (d - 1) (by omega)) ?_
  change zEv d 144 25 [some (zR 8 0), some (zI x1)] [zI r7] s6 _
  obtain rfl := Option.some.inj h
  exact ev_iret i144_25 zr144
/-! fM_oneIs -/
def fM_oneIs_J18 (N : Nat) (σ : zS) : Option (Int32 × zS) := zb2 (fM_error 1 σ) fun r22 s21 => some (r22, s21)
set_option maxHeartbeats 4000000 in
theorem kM_oneIs_J18 (N : Nat) (d : Nat) (hd : 4 ≤ d)  : ∀ (σ : zS) (w : Int32 × zS) (z1 : Option zA) (z2 : Option zA), fM_oneIs_J18 N σ = some w → zEv d 160 18 [some (zR 8 0), z1, z2] [] σ (some (zI w.1), w.2) := by
  intro σ w z1 z2 h
  unfold fM_oneIs_J18 at h
  refine ev_s i160_18 (p := 19) rfl ?_
  refine ev_s i160_19 (p := 20) (zic_1 _ _ _ _ _) ?_
  obtain ⟨r22, s21, hr20, h⟩ := b2_some h
  refine ev_callV i160_20 zc8_58 zm110 zo110 (as' := [zI 1]) (rest := []) rfl rfl (Nat.le_of_ble_eq_true rfl) (Nat.le_of_ble_eq_true rfl) (Nat.le_of_ble_eq_true rfl) (by omega) (l0 := [some (zR 8 0), some (zI 1)]) rfl (p := 23) rfl (kM_error 1 σ (r22, s21) hr20 (d - 1) (by omega)) ?_
  change zEv d 160 23 [some (zR 8 0), z1, z2] [zI r22] s21 _
  obtain rfl := Option.some.inj h
  exact ev_iret i160_23 zr160
def fM_oneIs (N : Nat) (x1 : Int32) (x2 : Int32) (σ : zS) : Option (Int32 × zS) := (fM_isOne x1 σ).bind fun r2 => (if r2 = 0 then fM_oneIs_J18 N σ else (fM_in x2 0 8).bind fun r5 => (if r5 = 0 then fM_oneIs_J18 N σ else (if x2 = 6 then (fM_apartOf x1 σ).bind fun r9 => some (r9, σ) else (if x2 = 7 then zb2 (fM_doesNow N x1 σ) fun r13 s12 => some (r13, s12) else (if x2 = 8 then zb2 (fM_goesNow N x1 σ) fun r17 s16 => some (r17, s16) else (fM_its x1 x2 σ).bind fun r19 => some (r19, σ))))))
set_option maxHeartbeats 4000000 in
theorem kM_oneIs (N : Nat) (x1 : Int32) (x2 : Int32) (σ : zS) (w : Int32 × zS) (h : fM_oneIs N x1 x2 σ = some w) (d : Nat) (hd : 4 ≤ d) : zEv d 160 0 [some (zR 8 0), some (zI x1), some (zI x2)] [] σ (some (zI w.1), w.2) := by
  unfold fM_oneIs at h
  refine ev_s i160_0 (p := 1) rfl ?_
  refine ev_s i160_1 (p := 2) rfl ?_
  obtain ⟨r2, hr1, h⟩ := bd_some h
  refine ev_callV i160_2 zc8_194 zm116 zo116 (as' := [zI x1]) (rest := []) rfl rfl (Nat.le_of_ble_eq_true rfl) (Nat.le_of_ble_eq_true rfl) (Nat.le_of_ble_eq_true rfl) (by omega) (l0 := [some (zR 8 0), some (zI x1)]) rfl (p := 5) rfl (kM_isOne x1 σ r2 hr1 (d - 1) (by omega)) ?_
  change zEv d 160 5 [some (zR 8 0), some (zI x1), some (zI x2)] [zI r2] σ _
  refine ev_ifeq i160_5 (t := 18) (by decide) (p := 8) rfl h (fun c3 h => ?_) (fun c3 h => ?_)
  · exact kM_oneIs_J18 N d hd σ w _ _ h
  · refine ev_s i160_8 (p := 9) rfl ?_
    refine ev_s i160_9 (p := 10) (zic_0 _ _ _ _ _) ?_
    refine ev_s i160_10 (p := 12) (zib_8 _ _ _ _ _) ?_
    obtain ⟨r5, hr4, h⟩ := bd_some h
    refine ev_callS i160_12 zn8_50 zc8_50 zm111 (as := [zI x2, zI 0, zI 8]) (rest := []) rfl rfl (Nat.le_of_ble_eq_true rfl) (Nat.le_of_ble_eq_true rfl) (Nat.le_of_ble_eq_true rfl) (by omega) (l0 := [some (zI x2), some (zI 0), some (zI 8)]) rfl (p := 15) rfl (kM_in x2 0 8 σ r5 hr4 (d - 1) (by omega)) ?_
    change zEv d 160 15 [some (zR 8 0), some (zI x1), some (zI x2)] [zI r5] σ _
    refine ev_ifne i160_15 (t := 24) (by decide) (p := 18) rfl h (fun c6 h => ?_) (fun c6 h => ?_)
    · exact kM_oneIs_J18 N d hd σ w _ _ h
    · refine ev_s i160_24 (p := 25) rfl ?_
      refine ev_s i160_25 (p := 27) (zib_6 _ _ _ _ _) ?_
      refine ev_cmpne i160_27 (t := 38) (by decide) (p := 30) rfl h (fun c7 h => ?_) (fun c7 h => ?_)
      · refine ev_s i160_30 (p := 31) rfl ?_
        refine ev_s i160_31 (p := 32) rfl ?_
        obtain ⟨r9, hr8, h⟩ := bd_some h
        refine ev_callV i160_32 zc8_146 zm146 zo146 (as' := [zI x1]) (rest := []) rfl rfl (Nat.le_of_ble_eq_true rfl) (Nat.le_of_ble_eq_true rfl) (Nat.le_of_ble_eq_true rfl) (by omega) (l0 := [some (zR 8 0), some (zI x1)]) rfl (p := 35) rfl (kM_apartOf x1 σ r9 hr8 (d - 1) (by omega)) ?_
        change zEv d 160 35 [some (zR 8 0), some (zI x1), some (zI x2)] [zI r9] σ _
        refine ev_goto i160_35 (t := 72) (by decide) ?_
        obtain rfl := Option.some.inj h
        exact ev_iret i160_72 zr160
      · refine ev_s i160_38 (p := 39) rfl ?_
        refine ev_s i160_39 (p := 41) (zib_7 _ _ _ _ _) ?_
        refine ev_cmpne i160_41 (t := 52) (by decide) (p := 44) rfl h (fun c10 h => ?_) (fun c10 h => ?_)
        · refine ev_s i160_44 (p := 45) rfl ?_
          refine ev_s i160_45 (p := 46) rfl ?_
          obtain ⟨r13, s12, hr11, h⟩ := b2_some h
          refine ev_callV i160_46 zc8_166 zm143 zo143 (as' := [zI x1]) (rest := []) rfl rfl (Nat.le_of_ble_eq_true rfl) (Nat.le_of_ble_eq_true rfl) (Nat.le_of_ble_eq_true rfl) (by omega) (l0 := [some (zR 8 0), some (zI x1)]) rfl (p := 49) rfl (kM_doesNow N x1 σ (r13, s12) hr11 (d - 1) (by omega)) ?_
          change zEv d 160 49 [some (zR 8 0), some (zI x1), some (zI x2)] [zI r13] s12 _
          refine ev_goto i160_49 (t := 72) (by decide) ?_
          obtain rfl := Option.some.inj h
          exact ev_iret i160_72 zr160
        · refine ev_s i160_52 (p := 53) rfl ?_
          refine ev_s i160_53 (p := 55) (zib_8 _ _ _ _ _) ?_
          refine ev_cmpne i160_55 (t := 66) (by decide) (p := 58) rfl h (fun c14 h => ?_) (fun c14 h => ?_)
          · refine ev_s i160_58 (p := 59) rfl ?_
            refine ev_s i160_59 (p := 60) rfl ?_
            obtain ⟨r17, s16, hr15, h⟩ := b2_some h
            refine ev_callV i160_60 zc8_181 zm144 zo144 (as' := [zI x1]) (rest := []) rfl rfl (Nat.le_of_ble_eq_true rfl) (Nat.le_of_ble_eq_true rfl) (Nat.le_of_ble_eq_true rfl) (by omega) (l0 := [some (zR 8 0), some (zI x1)]) rfl (p := 63) rfl (kM_goesNow N x1 σ (r17, s16) hr15 (d - 1) (by omega)) ?_
            change zEv d 160 63 [some (zR 8 0), some (zI x1), some (zI x2)] [zI r17] s16 _
            refine ev_goto i160_63 (t := 72) (by decide) ?_
            obtain rfl := Option.some.inj h
            exact ev_iret i160_72 zr160
          · refine ev_s i160_66 (p := 67) rfl ?_
            refine ev_s i160_67 (p := 68) rfl ?_
            refine ev_s i160_68 (p := 69) rfl ?_
            obtain ⟨r19, hr18, h⟩ := bd_some h
            refine ev_callV i160_69 zc8_54 zm118 zo118 (as' := [zI x1, zI x2]) (rest := []) rfl rfl (Nat.le_of_ble_eq_true rfl) (Nat.le_of_ble_eq_true rfl) (Nat.le_of_ble_eq_true rfl) (by omega) (l0 := [some (zR 8 0), some (zI x1), some (zI x2)]) rfl (p := 72) rfl (kM_its x1 x2 σ r19 hr18 (d - 1) (by omega)) ?_
            change zEv d 160 72 [some (zR 8 0), some (zI x1), some (zI x2)] [zI r19] σ _
            obtain rfl := Option.some.inj h
            exact ev_iret i160_72 zr160
/-! fA_become -/
def fA_become_J17 (σ : zS) : Option (Int32 × zS) := zb2 (fA_refuse 1 σ) fun r15 s14 => some (r15, s14)
set_option maxHeartbeats 4000000 in
theorem kA_become_J17  (d : Nat) (hd : 1 ≤ d)  : ∀ (σ : zS) (w : Int32 × zS) (z1 : Option zA) (z2 : Option zA) (hz2 : znl z2 = true) (z3 : Option zA), fA_become_J17 σ = some w → zEv d 63 17 [some (zR 7 0), z1, z2, z3] [] σ (some (zI w.1), w.2) := by
  intro σ w z1 z2 hz2 z3 h
  unfold fA_become_J17 at h
  refine ev_s i63_17 (p := 18) rfl ?_
  refine ev_s i63_18 (p := 19) (zic_1 _ _ _ _ _) ?_
  obtain ⟨r15, s14, hr13, h⟩ := b2_some h
  refine ev_callV i63_19 zc7_72 zm102 zo102 (as' := [zI 1]) (rest := []) rfl rfl (Nat.le_of_ble_eq_true rfl) (Nat.le_of_ble_eq_true rfl) (Nat.le_of_ble_eq_true rfl) (by omega) (l0 := [some (zR 7 0), some (zI 1)]) rfl (p := 22) rfl (kA_refuse 1 σ (r15, s14) hr13 (d - 1) (by omega)) ?_
  change zEv d 63 22 [some (zR 7 0), z1, z2, z3] [zI r15] s14 _
  obtain rfl := Option.some.inj h
  exact ev_iret i63_22 zr63
def fA_become (x1 : Int32) (x2 : Int32) (σ : zS) : Option (Int32 × zS) := (fA_isThere x1 σ).bind fun r2 => (if r2 = 0 then fA_become_J17 σ else (fA_within x2 69).bind fun r5 => (if r5 = 0 then fA_become_J17 σ else zgd (zin x1 8) (zlt (σ 14 0 x1.toNatClampNeg) fun v8 => zgd (zin x1 8) (zlt (zup σ 14 0 x1.toNatClampNeg (x2 / 10)) fun s9 => zgd (zin x1 8) (zlt (zup s9 15 0 x1.toNatClampNeg (x2 - x2 / 10 * 10)) fun s11 => some (v8, s11))))))
set_option maxHeartbeats 4000000 in
theorem kA_become (x1 : Int32) (x2 : Int32) (σ : zS) (w : Int32 × zS) (h : fA_become x1 x2 σ = some w) (d : Nat) (hd : 1 ≤ d) : zEv d 63 0 [some (zR 7 0), some (zI x1), some (zI x2), none] [] σ (some (zI w.1), w.2) := by
  unfold fA_become at h
  refine ev_s i63_0 (p := 1) rfl ?_
  refine ev_s i63_1 (p := 2) rfl ?_
  obtain ⟨r2, hr1, h⟩ := bd_some h
  refine ev_callV i63_2 zc7_68 zm104 zo104 (as' := [zI x1]) (rest := []) rfl rfl (Nat.le_of_ble_eq_true rfl) (Nat.le_of_ble_eq_true rfl) (Nat.le_of_ble_eq_true rfl) (by omega) (l0 := [some (zR 7 0), some (zI x1)]) rfl (p := 5) rfl (kA_isThere x1 σ r2 hr1 (d - 1) (by omega)) ?_
  change zEv d 63 5 [some (zR 7 0), some (zI x1), some (zI x2), none] [zI r2] σ _
  refine ev_ifeq i63_5 (t := 17) (by decide) (p := 8) rfl h (fun c3 h => ?_) (fun c3 h => ?_)
  · exact kA_become_J17 d hd σ w _ _ rfl _ h
  · refine ev_s i63_8 (p := 9) rfl ?_
    refine ev_s i63_9 (p := 11) (zib_69 _ _ _ _ _) ?_
    obtain ⟨r5, hr4, h⟩ := bd_some h
    refine ev_callS i63_11 zn7_64 zc7_64 zm103 (as := [zI x2, zI 69]) (rest := []) rfl rfl (Nat.le_of_ble_eq_true rfl) (Nat.le_of_ble_eq_true rfl) (Nat.le_of_ble_eq_true rfl) (by omega) (l0 := [some (zI x2), some (zI 69)]) rfl (p := 14) rfl (kA_within x2 69 σ r5 hr4 (d - 1) (by omega)) ?_
    change zEv d 63 14 [some (zR 7 0), some (zI x1), some (zI x2), none] [zI r5] σ _
    refine ev_ifne i63_14 (t := 23) (by decide) (p := 17) rfl h (fun c6 h => ?_) (fun c6 h => ?_)
    · exact kA_become_J17 d hd σ w _ _ rfl _ h
    · refine ev_s i63_23 (p := 24) rfl ?_
      refine ev_getf i63_24 zf7_47 (u := zR 2 0) rfl (p := 27) rfl ?_
      refine ev_getf i63_27 zf7_84 (u := zR 14 0) rfl (p := 30) rfl ?_
      refine ev_s i63_30 (p := 31) rfl ?_
      refine ev_iald i63_31 rfl (n := 8) rfl (p := 32) rfl h (fun g7 h => ?_)
      refine ev_let h (fun v8 ev8 h => ?_)
      refine ev_s i63_32 (p := 33) (l := [some (zR 7 0), some (zI x1), some (zI x2), some (zI v8)]) rfl ?_
      refine ev_s i63_33 (p := 34) rfl ?_
      refine ev_getf i63_34 zf7_47 (u := zR 2 0) rfl (p := 37) rfl ?_
      refine ev_getf i63_37 zf7_84 (u := zR 14 0) rfl (p := 40) rfl ?_
      refine ev_s i63_40 (p := 41) rfl ?_
      refine ev_s i63_41 (p := 42) rfl ?_
      refine ev_s i63_42 (p := 44) (zib_10 _ _ _ _ _) ?_
      refine ev_idivK i63_44 (p := 45) rfl (by decide) ?_
      refine ev_iast i63_45 rfl (n := 8) rfl (p := 46) rfl h (fun g10 h => ?_)
      refine ev_lets h (fun s9 es9 h => ?_)
      refine ev_s i63_46 (p := 47) rfl ?_
      refine ev_getf i63_47 zf7_47 (u := zR 2 0) rfl (p := 50) rfl ?_
      refine ev_getf i63_50 zf7_87 (u := zR 15 0) rfl (p := 53) rfl ?_
      refine ev_s i63_53 (p := 54) rfl ?_
      refine ev_s i63_54 (p := 55) rfl ?_
      refine ev_s i63_55 (p := 57) (zib_10 _ _ _ _ _) ?_
      refine ev_iremK i63_57 (p := 58) rfl (by decide) ?_
      refine ev_iast i63_58 rfl (n := 8) rfl (p := 59) rfl h (fun g12 h => ?_)
      refine ev_lets h (fun s11 es11 h => ?_)
      refine ev_s i63_59 (p := 60) rfl ?_
      obtain rfl := Option.some.inj h
      exact ev_iret i63_60 zr63
/-! fM_become -/
def fM_become_J15 (σ : zS) : Option (Int32 × zS) := zb2 (fM_error 1 σ) fun r15 s14 => some (r15, s14)
set_option maxHeartbeats 4000000 in
theorem kM_become_J15  (d : Nat) (hd : 2 ≤ d)  : ∀ (σ : zS) (w : Int32 × zS) (z1 : Option zA) (z2 : Option zA) (hz2 : znl z2 = true) (z3 : Option zA), fM_become_J15 σ = some w → zEv d 161 15 [some (zR 8 0), z1, z2, z3] [] σ (some (zI w.1), w.2) := by
  intro σ w z1 z2 hz2 z3 h
  unfold fM_become_J15 at h
  refine ev_s i161_15 (p := 16) rfl ?_
  refine ev_s i161_16 (p := 17) (zic_1 _ _ _ _ _) ?_
  obtain ⟨r15, s14, hr13, h⟩ := b2_some h
  refine ev_callV i161_17 zc8_58 zm110 zo110 (as' := [zI 1]) (rest := []) rfl rfl (Nat.le_of_ble_eq_true rfl) (Nat.le_of_ble_eq_true rfl) (Nat.le_of_ble_eq_true rfl) (by omega) (l0 := [some (zR 8 0), some (zI 1)]) rfl (p := 20) rfl (kM_error 1 σ (r15, s14) hr13 (d - 1) (by omega)) ?_
  change zEv d 161 20 [some (zR 8 0), z1, z2, z3] [zI r15] s14 _
  obtain rfl := Option.some.inj h
  exact ev_iret i161_20 zr161
def fM_become (x1 : Int32) (x2 : Int32) (σ : zS) : Option (Int32 × zS) := (fM_isOne x1 σ).bind fun r2 => (if r2 = 0 then fM_become_J15 σ else (fM_isKm x2).bind fun r5 => (if r5 = 0 then fM_become_J15 σ else (fM_its x1 0 σ).bind fun r8 => (fM_lays1 x1 0 (x2 / 10) σ).bind fun s10 => (fM_lays1 x1 1 (x2 - x2 / 10 * 10) s10).bind fun s12 => some (r8, s12)))
set_option maxHeartbeats 4000000 in
theorem kM_become (x1 : Int32) (x2 : Int32) (σ : zS) (w : Int32 × zS) (h : fM_become x1 x2 σ = some w) (d : Nat) (hd : 2 ≤ d) : zEv d 161 0 [some (zR 8 0), some (zI x1), some (zI x2), none] [] σ (some (zI w.1), w.2) := by
  unfold fM_become at h
  refine ev_s i161_0 (p := 1) rfl ?_
  refine ev_s i161_1 (p := 2) rfl ?_
  obtain ⟨r2, hr1, h⟩ := bd_some h
  refine ev_callV i161_2 zc8_194 zm116 zo116 (as' := [zI x1]) (rest := []) rfl rfl (Nat.le_of_ble_eq_true rfl) (Nat.le_of_ble_eq_true rfl) (Nat.le_of_ble_eq_true rfl) (by omega) (l0 := [some (zR 8 0), some (zI x1)]) rfl (p := 5) rfl (kM_isOne x1 σ r2 hr1 (d - 1) (by omega)) ?_
  change zEv d 161 5 [some (zR 8 0), some (zI x1), some (zI x2), none] [zI r2] σ _
  refine ev_ifeq i161_5 (t := 15) (by decide) (p := 8) rfl h (fun c3 h => ?_) (fun c3 h => ?_)
  · exact kM_become_J15 d hd σ w _ _ rfl _ h
  · refine ev_s i161_8 (p := 9) rfl ?_
    obtain ⟨r5, hr4, h⟩ := bd_some h
    refine ev_callS i161_9 zn8_191 zc8_191 zm158 (as := [zI x2]) (rest := []) rfl rfl (Nat.le_of_ble_eq_true rfl) (Nat.le_of_ble_eq_true rfl) (Nat.le_of_ble_eq_true rfl) (by omega) (l0 := [some (zI x2)]) rfl (p := 12) rfl (kM_isKm x2 σ r5 hr4 (d - 1) (by omega)) ?_
    change zEv d 161 12 [some (zR 8 0), some (zI x1), some (zI x2), none] [zI r5] σ _
    refine ev_ifne i161_12 (t := 21) (by decide) (p := 15) rfl h (fun c6 h => ?_) (fun c6 h => ?_)
    · exact kM_become_J15 d hd σ w _ _ rfl _ h
    · refine ev_s i161_21 (p := 22) rfl ?_
      refine ev_s i161_22 (p := 23) rfl ?_
      refine ev_s i161_23 (p := 24) (zic_0 _ _ _ _ _) ?_
      obtain ⟨r8, hr7, h⟩ := bd_some h
      refine ev_callV i161_24 zc8_54 zm118 zo118 (as' := [zI x1, zI 0]) (rest := []) rfl rfl (Nat.le_of_ble_eq_true rfl) (Nat.le_of_ble_eq_true rfl) (Nat.le_of_ble_eq_true rfl) (by omega) (l0 := [some (zR 8 0), some (zI x1), some (zI 0)]) rfl (p := 27) rfl (kM_its x1 0 σ r8 hr7 (d - 1) (by omega)) ?_
      change zEv d 161 27 [some (zR 8 0), some (zI x1), some (zI x2), none] [zI r8] σ _
      refine ev_s i161_27 (p := 28) (l := [some (zR 8 0), some (zI x1), some (zI x2), some (zI r8)]) rfl ?_
      refine ev_s i161_28 (p := 29) rfl ?_
      refine ev_s i161_29 (p := 30) rfl ?_
      refine ev_s i161_30 (p := 31) (zic_0 _ _ _ _ _) ?_
      refine ev_s i161_31 (p := 32) rfl ?_
      refine ev_s i161_32 (p := 34) (zib_10 _ _ _ _ _) ?_
      refine ev_idivK i161_34 (p := 35) rfl (by decide) ?_
      obtain ⟨s10, hr9, h⟩ := bd_some h
      refine ev_callV i161_35 zc8_149 zm119 zo119 (as' := [zI x1, zI 0, zI (x2 / 10)]) (rest := []) rfl rfl (Nat.le_of_ble_eq_true rfl) (Nat.le_of_ble_eq_true rfl) (Nat.le_of_ble_eq_true rfl) (by omega) (l0 := [some (zR 8 0), some (zI x1), some (zI 0), some (zI (x2 / 10))]) rfl (p := 38) rfl (kM_lays1 x1 0 (x2 / 10) σ s10 hr9 (d - 1) (by omega)) ?_
      change zEv d 161 38 [some (zR 8 0), some (zI x1), some (zI x2), some (zI r8)] [] s10 _
      refine ev_s i161_38 (p := 39) rfl ?_
      refine ev_s i161_39 (p := 40) rfl ?_
      refine ev_s i161_40 (p := 41) (zic_1 _ _ _ _ _) ?_
      refine ev_s i161_41 (p := 42) rfl ?_
      refine ev_s i161_42 (p := 44) (zib_10 _ _ _ _ _) ?_
      refine ev_iremK i161_44 (p := 45) rfl (by decide) ?_
      obtain ⟨s12, hr11, h⟩ := bd_some h
      refine ev_callV i161_45 zc8_149 zm119 zo119 (as' := [zI x1, zI 1, zI (x2 - x2 / 10 * 10)]) (rest := []) rfl rfl (Nat.le_of_ble_eq_true rfl) (Nat.le_of_ble_eq_true rfl) (Nat.le_of_ble_eq_true rfl) (by omega) (l0 := [some (zR 8 0), some (zI x1), some (zI 1), some (zI (x2 - x2 / 10 * 10))]) rfl (p := 48) rfl (kM_lays1 x1 1 (x2 - x2 / 10 * 10) s10 s12 hr11 (d - 1) (by omega)) ?_
      change zEv d 161 48 [some (zR 8 0), some (zI x1), some (zI x2), some (zI r8)] [] s12 _
      refine ev_s i161_48 (p := 49) rfl ?_
      obtain rfl := Option.some.inj h
      exact ev_iret i161_49 zr161
/-! fV_isUnder -/
def fV_isUnder_L4 (N : Nat) : Nat → Int32 → Int32 → Int32 → zS → Option (Int32)
  | 0, _, _, _, _ => none
  | n + 1, y1, y2, y3, σ => (if 6 < y3 then some (0) else (if y2 < 0 then some (0) else (if y2 = y1 then some (1) else zgd (zin y2 7) (zlt (σ 52 0 y2.toNatClampNeg) fun v5 => fV_isUnder_L4 N n y1 v5 (y3 + 1) σ))))
set_option maxHeartbeats 4000000 in
theorem kV_isUnder_L4 (N : Nat) (d : Nat) (hd : 0 ≤ d)  : ∀ n : Nat, ∀ (y1 : Int32) (y2 : Int32) (y3 : Int32) (σ : zS) (w : Int32) (z0 : Option zA), fV_isUnder_L4 N n y1 y2 y3 σ = some w → zEv d 55 4 [z0, some (zI y1), some (zI y2), some (zI y3)] [] σ (some (zI w), σ) := by
  intro n
  induction n with
  | zero =>
    intro y1 y2 y3 σ w z0 h
    cases h
  | succ n ih =>
    intro y1 y2 y3 σ w z0 h
    rw [fV_isUnder_L4] at h
    refine ev_s i55_4 (p := 5) rfl ?_
    refine ev_s i55_5 (p := 7) (zib_6 _ _ _ _ _) ?_
    refine ev_cmpgt i55_7 (t := 33) (by decide) (p := 10) rfl h (fun c1 h => ?_) (fun c1 h => ?_)
    · refine ev_s i55_33 (p := 34) (zic_0 _ _ _ _ _) ?_
      obtain rfl := Option.some.inj h
      exact ev_zret i55_34 zr55 (by decide)
    · refine ev_s i55_10 (p := 11) rfl ?_
      refine ev_iflt i55_11 (t := 33) (by decide) (p := 14) rfl h (fun c2 h => ?_) (fun c2 h => ?_)
      · refine ev_s i55_33 (p := 34) (zic_0 _ _ _ _ _) ?_
        obtain rfl := Option.some.inj h
        exact ev_zret i55_34 zr55 (by decide)
      · refine ev_s i55_14 (p := 15) rfl ?_
        refine ev_s i55_15 (p := 16) rfl ?_
        refine ev_cmpne i55_16 (t := 21) (by decide) (p := 19) rfl h (fun c3 h => ?_) (fun c3 h => ?_)
        · refine ev_s i55_19 (p := 20) (zic_1 _ _ _ _ _) ?_
          obtain rfl := Option.some.inj h
          exact ev_zret i55_20 zr55 (by decide)
        · refine ev_gets i55_21 zg6_15 (p := 24) rfl ?_
          refine ev_s i55_24 (p := 25) rfl ?_
          refine ev_iald i55_25 rfl (n := 7) rfl (p := 26) rfl h (fun g4 h => ?_)
          refine ev_let h (fun v5 ev5 h => ?_)
          refine ev_s i55_26 (p := 27) (l := [z0, some (zI y1), some (zI v5), some (zI y3)]) rfl ?_
          refine ev_iinc i55_27 zii_1 rfl (l := [z0, some (zI y1), some (zI v5), some (zI (y3 + 1))]) rfl (p := 30) rfl ?_
          refine ev_goto i55_30 (t := 4) (by decide) ?_
          exact ih y1 v5 (y3 + 1) σ w _ h
def fV_isUnder (N : Nat) (x0 : Int32) (x1 : Int32) (σ : zS) : Option (Int32) := fV_isUnder_L4 N N x1 x0 0 σ
set_option maxHeartbeats 4000000 in
theorem kV_isUnder (N : Nat) (x0 : Int32) (x1 : Int32) (σ : zS) (w : Int32) (h : fV_isUnder N x0 x1 σ = some w) (d : Nat) (hd : 0 ≤ d) : zEv d 55 0 [some (zI x0), some (zI x1), none, none] [] σ (some (zI w), σ) := by
  unfold fV_isUnder at h
  refine ev_s i55_0 (p := 1) rfl ?_
  refine ev_s i55_1 (p := 2) (l := [some (zI x0), some (zI x1), some (zI x0), none]) rfl ?_
  refine ev_s i55_2 (p := 3) (zic_0 _ _ _ _ _) ?_
  refine ev_s i55_3 (p := 4) (l := [some (zI x0), some (zI x1), some (zI x0), some (zI 0)]) rfl ?_
  exact kV_isUnder_L4 N d hd N x1 x0 0 σ w _ h
