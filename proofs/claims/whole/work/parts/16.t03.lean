/-! fR_cross -/
def fR_cross_J107 (b : Nat) (y3 : Int32) (u0 : Int32) (σ : zS) : Option (Int32) := (if y3 = 0 then (if u0 = 0 then some (0) else some (1)) else some (1))
set_option maxHeartbeats 4000000 in
theorem kR_cross_J107 (b : Nat) (d : Nat) (hd : 3 ≤ d)  : ∀ (y3 : Int32) (u0 : Int32) (σ : zS) (w : Int32) (z0 : Option zA) (z1 : Option zA) (z2 : Option zA) (hz2 : znl z2 = true) (z4 : Option zA), fR_cross_J107 b y3 u0 σ = some w → zEv d 29 107 [z0, z1, z2, some (zI y3), z4] [zI u0] σ (some (zI w), σ) := by
  intro y3 u0 σ w z0 z1 z2 hz2 z4 h
  unfold fR_cross_J107 at h
  refine ev_s i29_107 (p := 109) (l := [z0, z1, z2, some (zI y3), some (zI u0)]) rfl ?_
  refine ev_s i29_109 (p := 110) rfl ?_
  refine ev_ifne i29_110 (t := 118) (by decide) (p := 113) rfl h (fun c37 h => ?_) (fun c37 h => ?_)
  · refine ev_s i29_113 (p := 115) rfl ?_
    refine ev_ifeq i29_115 (t := 122) (by decide) (p := 118) rfl h (fun c38 h => ?_) (fun c38 h => ?_)
    · refine ev_s i29_122 (p := 123) (zic_0 _ _ _ _ _) ?_
      obtain rfl := Option.some.inj h
      exact ev_zret i29_123 zr29 (by decide)
    · refine ev_s i29_118 (p := 119) (zic_1 _ _ _ _ _) ?_
      refine ev_goto i29_119 (t := 123) (by decide) ?_
      obtain rfl := Option.some.inj h
      exact ev_zret i29_123 zr29 (by decide)
  · refine ev_s i29_118 (p := 119) (zic_1 _ _ _ _ _) ?_
    refine ev_goto i29_119 (t := 123) (by decide) ?_
    obtain rfl := Option.some.inj h
    exact ev_zret i29_123 zr29 (by decide)
def fR_cross_J106 (b : Nat) (y3 : Int32) (σ : zS) : Option (Int32) := fR_cross_J107 b y3 0 σ
set_option maxHeartbeats 4000000 in
theorem kR_cross_J106 (b : Nat) (d : Nat) (hd : 3 ≤ d)  : ∀ (y3 : Int32) (σ : zS) (w : Int32) (z0 : Option zA) (z1 : Option zA) (z2 : Option zA) (hz2 : znl z2 = true) (z4 : Option zA), fR_cross_J106 b y3 σ = some w → zEv d 29 106 [z0, z1, z2, some (zI y3), z4] [] σ (some (zI w), σ) := by
  intro y3 σ w z0 z1 z2 hz2 z4 h
  unfold fR_cross_J106 at h
  refine ev_s i29_106 (p := 107) (zic_0 _ _ _ _ _) ?_
  exact kR_cross_J107 b d hd y3 0 σ w _ _ _ hz2 _ h
def fR_cross_J62 (b : Nat) (y1 : Int32) (y2 : Int32) (u0 : Int32) (σ : zS) : Option (Int32) := (fR_low b y2 σ).bind fun r23 => (fR_low b y1 σ).bind fun r25 => (if r25 ≤ r23 then fR_cross_J106 b u0 σ else (fR_low b y1 σ).bind fun r28 => (fR_high b y2 σ).bind fun r30 => (if r30 ≤ r28 then fR_cross_J106 b u0 σ else (fR_high b y2 σ).bind fun r33 => (fR_high b y1 σ).bind fun r35 => (if r35 ≤ r33 then fR_cross_J106 b u0 σ else fR_cross_J107 b u0 1 σ)))
set_option maxHeartbeats 4000000 in
theorem kR_cross_J62 (b : Nat) (d : Nat) (hd : 3 ≤ d)  : ∀ (y1 : Int32) (y2 : Int32) (u0 : Int32) (σ : zS) (w : Int32) (z3 : Option zA) (hz3 : znl z3 = true) (z4 : Option zA), fR_cross_J62 b y1 y2 u0 σ = some w → zEv d 29 62 [some (zR 2 b), some (zI y1), some (zI y2), z3, z4] [zI u0] σ (some (zI w), σ) := by
  intro y1 y2 u0 σ w z3 hz3 z4 h
  unfold fR_cross_J62 at h
  refine ev_s i29_62 (p := 63) (l := [some (zR 2 b), some (zI y1), some (zI y2), some (zI u0), z4]) rfl ?_
  refine ev_s i29_63 (p := 64) rfl ?_
  refine ev_s i29_64 (p := 65) rfl ?_
  obtain ⟨r23, hr22, h⟩ := bd_some h
  refine ev_callV i29_65 zc2_79 zm26 zo26 (as' := [zI y2]) (rest := []) rfl rfl (Nat.le_of_ble_eq_true rfl) (Nat.le_of_ble_eq_true rfl) (Nat.le_of_ble_eq_true rfl) (by omega) (l0 := [some (zR 2 b), some (zI y2), none]) rfl (p := 68) rfl (kR_low b y2 σ r23 hr22 (d - 1) (by omega)) ?_
  change zEv d 29 68 [some (zR 2 b), some (zI y1), some (zI y2), some (zI u0), z4] [zI r23] σ _
  refine ev_s i29_68 (p := 69) rfl ?_
  refine ev_s i29_69 (p := 70) rfl ?_
  obtain ⟨r25, hr24, h⟩ := bd_some h
  refine ev_callV i29_70 zc2_79 zm26 zo26 (as' := [zI y1]) (rest := [zI r23]) rfl rfl (Nat.le_of_ble_eq_true rfl) (Nat.le_of_ble_eq_true rfl) (Nat.le_of_ble_eq_true rfl) (by omega) (l0 := [some (zR 2 b), some (zI y1), none]) rfl (p := 73) rfl (kR_low b y1 σ r25 hr24 (d - 1) (by omega)) ?_
  change zEv d 29 73 [some (zR 2 b), some (zI y1), some (zI y2), some (zI u0), z4] [zI r25, zI r23] σ _
  refine ev_cmpge i29_73 (t := 106) (by decide) (p := 76) rfl h (fun c26 h => ?_) (fun c26 h => ?_)
  · exact kR_cross_J106 b d hd u0 σ w _ _ _ rfl _ h
  · refine ev_s i29_76 (p := 77) rfl ?_
    refine ev_s i29_77 (p := 78) rfl ?_
    obtain ⟨r28, hr27, h⟩ := bd_some h
    refine ev_callV i29_78 zc2_79 zm26 zo26 (as' := [zI y1]) (rest := []) rfl rfl (Nat.le_of_ble_eq_true rfl) (Nat.le_of_ble_eq_true rfl) (Nat.le_of_ble_eq_true rfl) (by omega) (l0 := [some (zR 2 b), some (zI y1), none]) rfl (p := 81) rfl (kR_low b y1 σ r28 hr27 (d - 1) (by omega)) ?_
    change zEv d 29 81 [some (zR 2 b), some (zI y1), some (zI y2), some (zI u0), z4] [zI r28] σ _
    refine ev_s i29_81 (p := 82) rfl ?_
    refine ev_s i29_82 (p := 83) rfl ?_
    obtain ⟨r30, hr29, h⟩ := bd_some h
    refine ev_callV i29_83 zc2_82 zm27 zo27 (as' := [zI y2]) (rest := [zI r28]) rfl rfl (Nat.le_of_ble_eq_true rfl) (Nat.le_of_ble_eq_true rfl) (Nat.le_of_ble_eq_true rfl) (by omega) (l0 := [some (zR 2 b), some (zI y2)]) rfl (p := 86) rfl (kR_high b y2 σ r30 hr29 (d - 1) (by omega)) ?_
    change zEv d 29 86 [some (zR 2 b), some (zI y1), some (zI y2), some (zI u0), z4] [zI r30, zI r28] σ _
    refine ev_cmpge i29_86 (t := 106) (by decide) (p := 89) rfl h (fun c31 h => ?_) (fun c31 h => ?_)
    · exact kR_cross_J106 b d hd u0 σ w _ _ _ rfl _ h
    · refine ev_s i29_89 (p := 90) rfl ?_
      refine ev_s i29_90 (p := 91) rfl ?_
      obtain ⟨r33, hr32, h⟩ := bd_some h
      refine ev_callV i29_91 zc2_82 zm27 zo27 (as' := [zI y2]) (rest := []) rfl rfl (Nat.le_of_ble_eq_true rfl) (Nat.le_of_ble_eq_true rfl) (Nat.le_of_ble_eq_true rfl) (by omega) (l0 := [some (zR 2 b), some (zI y2)]) rfl (p := 94) rfl (kR_high b y2 σ r33 hr32 (d - 1) (by omega)) ?_
      change zEv d 29 94 [some (zR 2 b), some (zI y1), some (zI y2), some (zI u0), z4] [zI r33] σ _
      refine ev_s i29_94 (p := 95) rfl ?_
      refine ev_s i29_95 (p := 96) rfl ?_
      obtain ⟨r35, hr34, h⟩ := bd_some h
      refine ev_callV i29_96 zc2_82 zm27 zo27 (as' := [zI y1]) (rest := [zI r33]) rfl rfl (Nat.le_of_ble_eq_true rfl) (Nat.le_of_ble_eq_true rfl) (Nat.le_of_ble_eq_true rfl) (by omega) (l0 := [some (zR 2 b), some (zI y1)]) rfl (p := 99) rfl (kR_high b y1 σ r35 hr34 (d - 1) (by omega)) ?_
      change zEv d 29 99 [some (zR 2 b), some (zI y1), some (zI y2), some (zI u0), z4] [zI r35, zI r33] σ _
      refine ev_cmpge i29_99 (t := 106) (by decide) (p := 102) rfl h (fun c36 h => ?_) (fun c36 h => ?_)
      · exact kR_cross_J106 b d hd u0 σ w _ _ _ rfl _ h
      · refine ev_s i29_102 (p := 103) (zic_1 _ _ _ _ _) ?_
        refine ev_goto i29_103 (t := 107) (by decide) ?_
        exact kR_cross_J107 b d hd u0 1 σ w _ _ _ rfl _ h
def fR_cross_J61 (b : Nat) (y1 : Int32) (y2 : Int32) (σ : zS) : Option (Int32) := fR_cross_J62 b y1 y2 0 σ
set_option maxHeartbeats 4000000 in
theorem kR_cross_J61 (b : Nat) (d : Nat) (hd : 3 ≤ d)  : ∀ (y1 : Int32) (y2 : Int32) (σ : zS) (w : Int32) (z3 : Option zA) (hz3 : znl z3 = true) (z4 : Option zA), fR_cross_J61 b y1 y2 σ = some w → zEv d 29 61 [some (zR 2 b), some (zI y1), some (zI y2), z3, z4] [] σ (some (zI w), σ) := by
  intro y1 y2 σ w z3 hz3 z4 h
  unfold fR_cross_J61 at h
  refine ev_s i29_61 (p := 62) (zic_0 _ _ _ _ _) ?_
  exact kR_cross_J62 b d hd y1 y2 0 σ w _ hz3 _ h
def fR_cross (b : Nat) (x1 : Int32) (x2 : Int32) (σ : zS) : Option (Int32) := (fR_isTied b x1 σ).bind fun r2 => (if r2 = 0 then some (0) else (fR_isTied b x2 σ).bind fun r5 => (if r5 = 0 then some (0) else (fR_low b x1 σ).bind fun r8 => (fR_low b x2 σ).bind fun r10 => (if r10 ≤ r8 then fR_cross_J61 b x1 x2 σ else (fR_low b x2 σ).bind fun r13 => (fR_high b x1 σ).bind fun r15 => (if r15 ≤ r13 then fR_cross_J61 b x1 x2 σ else (fR_high b x1 σ).bind fun r18 => (fR_high b x2 σ).bind fun r20 => (if r20 ≤ r18 then fR_cross_J61 b x1 x2 σ else fR_cross_J62 b x1 x2 1 σ)))))
set_option maxHeartbeats 4000000 in
theorem kR_cross (b : Nat) (x1 : Int32) (x2 : Int32) (σ : zS) (w : Int32) (h : fR_cross b x1 x2 σ = some w) (d : Nat) (hd : 3 ≤ d) : zEv d 29 0 [some (zR 2 b), some (zI x1), some (zI x2), none, none] [] σ (some (zI w), σ) := by
  unfold fR_cross at h
  refine ev_s i29_0 (p := 1) rfl ?_
  refine ev_s i29_1 (p := 2) rfl ?_
  obtain ⟨r2, hr1, h⟩ := bd_some h
  refine ev_callV i29_2 zc2_66 zm19 zo19 (as' := [zI x1]) (rest := []) rfl rfl (Nat.le_of_ble_eq_true rfl) (Nat.le_of_ble_eq_true rfl) (Nat.le_of_ble_eq_true rfl) (by omega) (l0 := [some (zR 2 b), some (zI x1)]) rfl (p := 5) rfl (kR_isTied b x1 σ r2 hr1 (d - 1) (by omega)) ?_
  change zEv d 29 5 [some (zR 2 b), some (zI x1), some (zI x2), none, none] [zI r2] σ _
  refine ev_ifeq i29_5 (t := 16) (by decide) (p := 8) rfl h (fun c3 h => ?_) (fun c3 h => ?_)
  · refine ev_s i29_16 (p := 17) (zic_0 _ _ _ _ _) ?_
    obtain rfl := Option.some.inj h
    exact ev_zret i29_17 zr29 (by decide)
  · refine ev_s i29_8 (p := 9) rfl ?_
    refine ev_s i29_9 (p := 10) rfl ?_
    obtain ⟨r5, hr4, h⟩ := bd_some h
    refine ev_callV i29_10 zc2_66 zm19 zo19 (as' := [zI x2]) (rest := []) rfl rfl (Nat.le_of_ble_eq_true rfl) (Nat.le_of_ble_eq_true rfl) (Nat.le_of_ble_eq_true rfl) (by omega) (l0 := [some (zR 2 b), some (zI x2)]) rfl (p := 13) rfl (kR_isTied b x2 σ r5 hr4 (d - 1) (by omega)) ?_
    change zEv d 29 13 [some (zR 2 b), some (zI x1), some (zI x2), none, none] [zI r5] σ _
    refine ev_ifne i29_13 (t := 18) (by decide) (p := 16) rfl h (fun c6 h => ?_) (fun c6 h => ?_)
    · refine ev_s i29_16 (p := 17) (zic_0 _ _ _ _ _) ?_
      obtain rfl := Option.some.inj h
      exact ev_zret i29_17 zr29 (by decide)
    · refine ev_s i29_18 (p := 19) rfl ?_
      refine ev_s i29_19 (p := 20) rfl ?_
      obtain ⟨r8, hr7, h⟩ := bd_some h
      refine ev_callV i29_20 zc2_79 zm26 zo26 (as' := [zI x1]) (rest := []) rfl rfl (Nat.le_of_ble_eq_true rfl) (Nat.le_of_ble_eq_true rfl) (Nat.le_of_ble_eq_true rfl) (by omega) (l0 := [some (zR 2 b), some (zI x1), none]) rfl (p := 23) rfl (kR_low b x1 σ r8 hr7 (d - 1) (by omega)) ?_
      change zEv d 29 23 [some (zR 2 b), some (zI x1), some (zI x2), none, none] [zI r8] σ _
      refine ev_s i29_23 (p := 24) rfl ?_
      refine ev_s i29_24 (p := 25) rfl ?_
      obtain ⟨r10, hr9, h⟩ := bd_some h
      refine ev_callV i29_25 zc2_79 zm26 zo26 (as' := [zI x2]) (rest := [zI r8]) rfl rfl (Nat.le_of_ble_eq_true rfl) (Nat.le_of_ble_eq_true rfl) (Nat.le_of_ble_eq_true rfl) (by omega) (l0 := [some (zR 2 b), some (zI x2), none]) rfl (p := 28) rfl (kR_low b x2 σ r10 hr9 (d - 1) (by omega)) ?_
      change zEv d 29 28 [some (zR 2 b), some (zI x1), some (zI x2), none, none] [zI r10, zI r8] σ _
      refine ev_cmpge i29_28 (t := 61) (by decide) (p := 31) rfl h (fun c11 h => ?_) (fun c11 h => ?_)
      · exact kR_cross_J61 b d hd x1 x2 σ w _ rfl _ h
      · refine ev_s i29_31 (p := 32) rfl ?_
        refine ev_s i29_32 (p := 33) rfl ?_
        obtain ⟨r13, hr12, h⟩ := bd_some h
        refine ev_callV i29_33 zc2_79 zm26 zo26 (as' := [zI x2]) (rest := []) rfl rfl (Nat.le_of_ble_eq_true rfl) (Nat.le_of_ble_eq_true rfl) (Nat.le_of_ble_eq_true rfl) (by omega) (l0 := [some (zR 2 b), some (zI x2), none]) rfl (p := 36) rfl (kR_low b x2 σ r13 hr12 (d - 1) (by omega)) ?_
        change zEv d 29 36 [some (zR 2 b), some (zI x1), some (zI x2), none, none] [zI r13] σ _
        refine ev_s i29_36 (p := 37) rfl ?_
        refine ev_s i29_37 (p := 38) rfl ?_
        obtain ⟨r15, hr14, h⟩ := bd_some h
        refine ev_callV i29_38 zc2_82 zm27 zo27 (as' := [zI x1]) (rest := [zI r13]) rfl rfl (Nat.le_of_ble_eq_true rfl) (Nat.le_of_ble_eq_true rfl) (Nat.le_of_ble_eq_true rfl) (by omega) (l0 := [some (zR 2 b), some (zI x1)]) rfl (p := 41) rfl (kR_high b x1 σ r15 hr14 (d - 1) (by omega)) ?_
        change zEv d 29 41 [some (zR 2 b), some (zI x1), some (zI x2), none, none] [zI r15, zI r13] σ _
        refine ev_cmpge i29_41 (t := 61) (by decide) (p := 44) rfl h (fun c16 h => ?_) (fun c16 h => ?_)
        · exact kR_cross_J61 b d hd x1 x2 σ w _ rfl _ h
        · refine ev_s i29_44 (p := 45) rfl ?_
          refine ev_s i29_45 (p := 46) rfl ?_
          obtain ⟨r18, hr17, h⟩ := bd_some h
          refine ev_callV i29_46 zc2_82 zm27 zo27 (as' := [zI x1]) (rest := []) rfl rfl (Nat.le_of_ble_eq_true rfl) (Nat.le_of_ble_eq_true rfl) (Nat.le_of_ble_eq_true rfl) (by omega) (l0 := [some (zR 2 b), some (zI x1)]) rfl (p := 49) rfl (kR_high b x1 σ r18 hr17 (d - 1) (by omega)) ?_
          change zEv d 29 49 [some (zR 2 b), some (zI x1), some (zI x2), none, none] [zI r18] σ _
          refine ev_s i29_49 (p := 50) rfl ?_
          refine ev_s i29_50 (p := 51) rfl ?_
          obtain ⟨r20, hr19, h⟩ := bd_some h
          refine ev_callV i29_51 zc2_82 zm27 zo27 (as' := [zI x2]) (rest := [zI r18]) rfl rfl (Nat.le_of_ble_eq_true rfl) (Nat.le_of_ble_eq_true rfl) (Nat.le_of_ble_eq_true rfl) (by omega) (l0 := [some (zR 2 b), some (zI x2)]) rfl (p := 54) rfl (kR_high b x2 σ r20 hr19 (d - 1) (by omega)) ?_
          change zEv d 29 54 [some (zR 2 b), some (zI x1), some (zI x2), none, none] [zI r20, zI r18] σ _
          refine ev_cmpge i29_54 (t := 61) (by decide) (p := 57) rfl h (fun c21 h => ?_) (fun c21 h => ?_)
          · exact kR_cross_J61 b d hd x1 x2 σ w _ rfl _ h
          · refine ev_s i29_57 (p := 58) (zic_1 _ _ _ _ _) ?_
            refine ev_goto i29_58 (t := 62) (by decide) ?_
            exact kR_cross_J62 b d hd x1 x2 1 σ w _ rfl _ h
/-! fA_crossings -/
def fA_crossings_L17 (N : Nat) (K4 : Int32 → Int32 → zS → Option (Int32)) : Nat → Int32 → Int32 → Int32 → zS → Option (Int32)
  | 0, _, _, _, _ => none
  | n + 1, y1, y2, y3, σ => (if y2 ≤ y3 then K4 y1 (y2 + 1) σ else (fR_cross 0 y2 y3 σ).bind fun r4 => (if r4 = 0 then fA_crossings_L17 N K4 n y1 y2 (y3 + 1) σ else fA_crossings_L17 N K4 n (y1 + 1) y2 (y3 + 1) σ))
set_option maxHeartbeats 4000000 in
theorem kA_crossings_L17 (N : Nat) (d : Nat) (hd : 4 ≤ d) (K4 : Int32 → Int32 → zS → Option (Int32)) (hK4 : ∀ (y1 : Int32) (y2 : Int32) (σ : zS) (w : Int32) (z3 : Option zA), K4 y1 y2 σ = some w → zEv d 81 4 [some (zR 7 0), some (zI y1), some (zI y2), z3] [] σ (some (zI w), σ)) : ∀ n : Nat, ∀ (y1 : Int32) (y2 : Int32) (y3 : Int32) (σ : zS) (w : Int32), fA_crossings_L17 N K4 n y1 y2 y3 σ = some w → zEv d 81 17 [some (zR 7 0), some (zI y1), some (zI y2), some (zI y3)] [] σ (some (zI w), σ) := by
  intro n
  induction n with
  | zero =>
    intro y1 y2 y3 σ w h
    cases h
  | succ n ih =>
    intro y1 y2 y3 σ w h
    rw [fA_crossings_L17] at h
    refine ev_s i81_17 (p := 18) rfl ?_
    refine ev_s i81_18 (p := 19) rfl ?_
    refine ev_cmpge i81_19 (t := 43) (by decide) (p := 22) rfl h (fun c2 h => ?_) (fun c2 h => ?_)
    · refine ev_iinc i81_43 zii_1 rfl (l := [some (zR 7 0), some (zI y1), some (zI (y2 + 1)), some (zI y3)]) rfl (p := 46) rfl ?_
      refine ev_goto i81_46 (t := 4) (by decide) ?_
      exact hK4 y1 (y2 + 1) σ w _ h
    · refine ev_s i81_22 (p := 23) rfl ?_
      refine ev_getf i81_23 zf7_47 (u := zR 2 0) rfl (p := 26) rfl ?_
      refine ev_s i81_26 (p := 27) rfl ?_
      refine ev_s i81_27 (p := 28) rfl ?_
      obtain ⟨r4, hr3, h⟩ := bd_some h
      refine ev_callV i81_28 zc7_191 zm29 zo29 (as' := [zI y2, zI y3]) (rest := []) rfl rfl (Nat.le_of_ble_eq_true rfl) (Nat.le_of_ble_eq_true rfl) (Nat.le_of_ble_eq_true rfl) (by omega) (l0 := [some (zR 2 0), some (zI y2), some (zI y3), none, none]) rfl (p := 31) rfl (kR_cross 0 y2 y3 σ r4 hr3 (d - 1) (by omega)) ?_
      change zEv d 81 31 [some (zR 7 0), some (zI y1), some (zI y2), some (zI y3)] [zI r4] σ _
      refine ev_ifeq i81_31 (t := 37) (by decide) (p := 34) rfl h (fun c5 h => ?_) (fun c5 h => ?_)
      · refine ev_iinc i81_37 zii_1 rfl (l := [some (zR 7 0), some (zI y1), some (zI y2), some (zI (y3 + 1))]) rfl (p := 40) rfl ?_
        refine ev_goto i81_40 (t := 17) (by decide) ?_
        exact ih y1 y2 (y3 + 1) σ w h
      · refine ev_iinc i81_34 zii_1 rfl (l := [some (zR 7 0), some (zI (y1 + 1)), some (zI y2), some (zI y3)]) rfl (p := 37) rfl ?_
        refine ev_iinc i81_37 zii_1 rfl (l := [some (zR 7 0), some (zI (y1 + 1)), some (zI y2), some (zI (y3 + 1))]) rfl (p := 40) rfl ?_
        refine ev_goto i81_40 (t := 17) (by decide) ?_
        exact ih (y1 + 1) y2 (y3 + 1) σ w h
def fA_crossings_L4 (N : Nat) : Nat → Int32 → Int32 → zS → Option (Int32)
  | 0, _, _, _ => none
  | n + 1, y1, y2, σ => (if (σ 2 0 9) ≤ y2 then some (y1) else fA_crossings_L17 N (fun y1 y2 σ => fA_crossings_L4 N n y1 y2 σ) N y1 y2 0 σ)
set_option maxHeartbeats 4000000 in
theorem kA_crossings_L4 (N : Nat) (d : Nat) (hd : 4 ≤ d)  : ∀ n : Nat, ∀ (y1 : Int32) (y2 : Int32) (σ : zS) (w : Int32) (z3 : Option zA), fA_crossings_L4 N n y1 y2 σ = some w → zEv d 81 4 [some (zR 7 0), some (zI y1), some (zI y2), z3] [] σ (some (zI w), σ) := by
  intro n
  induction n with
  | zero =>
    intro y1 y2 σ w z3 h
    cases h
  | succ n ih =>
    intro y1 y2 σ w z3 h
    rw [fA_crossings_L4] at h
    refine ev_s i81_4 (p := 5) rfl ?_
    refine ev_s i81_5 (p := 6) rfl ?_
    refine ev_getf i81_6 zf7_47 (u := zR 2 0) rfl (p := 9) rfl ?_
    refine ev_getf i81_9 zf7_76 (u := zI (σ 2 0 9)) rfl (p := 12) rfl ?_
    refine ev_cmpge i81_12 (t := 49) (by decide) (p := 15) rfl h (fun c1 h => ?_) (fun c1 h => ?_)
    · refine ev_s i81_49 (p := 50) rfl ?_
      obtain rfl := Option.some.inj h
      exact ev_iret i81_50 zr81
    · refine ev_s i81_15 (p := 16) (zic_0 _ _ _ _ _) ?_
      refine ev_s i81_16 (p := 17) (l := [some (zR 7 0), some (zI y1), some (zI y2), some (zI 0)]) rfl ?_
      exact kA_crossings_L17 N d hd (fun y1 y2 σ => fA_crossings_L4 N n y1 y2 σ) ih N y1 y2 0 σ w h
def fA_crossings (N : Nat) (σ : zS) : Option (Int32) := fA_crossings_L4 N N 0 0 σ
set_option maxHeartbeats 4000000 in
theorem kA_crossings (N : Nat) (σ : zS) (w : Int32) (h : fA_crossings N σ = some w) (d : Nat) (hd : 4 ≤ d) : zEv d 81 0 [some (zR 7 0), none, none, none] [] σ (some (zI w), σ) := by
  unfold fA_crossings at h
  refine ev_s i81_0 (p := 1) (zic_0 _ _ _ _ _) ?_
  refine ev_s i81_1 (p := 2) (l := [some (zR 7 0), some (zI 0), none, none]) rfl ?_
  refine ev_s i81_2 (p := 3) (zic_0 _ _ _ _ _) ?_
  refine ev_s i81_3 (p := 4) (l := [some (zR 7 0), some (zI 0), some (zI 0), none]) rfl ?_
  exact kA_crossings_L4 N d hd N 0 0 σ w _ h
/-! fM_doCross -/
def fM_doCross (x1 : Int32) (x2 : Int32) (σ : zS) : Option (Int32) := (fM_lowEnd x1 σ).bind fun r2 => (fM_lowEnd x2 σ).bind fun r4 => (if r4 ≤ r2 then some (0) else (fM_lowEnd x2 σ).bind fun r7 => (fM_highEnd x1 σ).bind fun r9 => (if r9 ≤ r7 then some (0) else (fM_highEnd x1 σ).bind fun r12 => (fM_highEnd x2 σ).bind fun r14 => (if r14 ≤ r12 then some (0) else some (1))))
set_option maxHeartbeats 4000000 in
theorem kM_doCross (x1 : Int32) (x2 : Int32) (σ : zS) (w : Int32) (h : fM_doCross x1 x2 σ = some w) (d : Nat) (hd : 4 ≤ d) : zEv d 184 0 [some (zR 8 0), some (zI x1), some (zI x2)] [] σ (some (zI w), σ) := by
  unfold fM_doCross at h
  refine ev_s i184_0 (p := 1) rfl ?_
  refine ev_s i184_1 (p := 2) rfl ?_
  obtain ⟨r2, hr1, h⟩ := bd_some h
  refine ev_callV i184_2 zc8_219 zm178 zo178 (as' := [zI x1]) (rest := []) rfl rfl (Nat.le_of_ble_eq_true rfl) (Nat.le_of_ble_eq_true rfl) (Nat.le_of_ble_eq_true rfl) (by omega) (l0 := [some (zR 8 0), some (zI x1), none, none]) rfl (p := 5) rfl (kM_lowEnd x1 σ r2 hr1 (d - 1) (by omega)) ?_
  change zEv d 184 5 [some (zR 8 0), some (zI x1), some (zI x2)] [zI r2] σ _
  refine ev_s i184_5 (p := 6) rfl ?_
  refine ev_s i184_6 (p := 7) rfl ?_
  obtain ⟨r4, hr3, h⟩ := bd_some h
  refine ev_callV i184_7 zc8_219 zm178 zo178 (as' := [zI x2]) (rest := [zI r2]) rfl rfl (Nat.le_of_ble_eq_true rfl) (Nat.le_of_ble_eq_true rfl) (Nat.le_of_ble_eq_true rfl) (by omega) (l0 := [some (zR 8 0), some (zI x2), none, none]) rfl (p := 10) rfl (kM_lowEnd x2 σ r4 hr3 (d - 1) (by omega)) ?_
  change zEv d 184 10 [some (zR 8 0), some (zI x1), some (zI x2)] [zI r4, zI r2] σ _
  refine ev_cmpge i184_10 (t := 43) (by decide) (p := 13) rfl h (fun c5 h => ?_) (fun c5 h => ?_)
  · refine ev_s i184_43 (p := 44) (zic_0 _ _ _ _ _) ?_
    obtain rfl := Option.some.inj h
    exact ev_zret i184_44 zr184 (by decide)
  · refine ev_s i184_13 (p := 14) rfl ?_
    refine ev_s i184_14 (p := 15) rfl ?_
    obtain ⟨r7, hr6, h⟩ := bd_some h
    refine ev_callV i184_15 zc8_219 zm178 zo178 (as' := [zI x2]) (rest := []) rfl rfl (Nat.le_of_ble_eq_true rfl) (Nat.le_of_ble_eq_true rfl) (Nat.le_of_ble_eq_true rfl) (by omega) (l0 := [some (zR 8 0), some (zI x2), none, none]) rfl (p := 18) rfl (kM_lowEnd x2 σ r7 hr6 (d - 1) (by omega)) ?_
    change zEv d 184 18 [some (zR 8 0), some (zI x1), some (zI x2)] [zI r7] σ _
    refine ev_s i184_18 (p := 19) rfl ?_
    refine ev_s i184_19 (p := 20) rfl ?_
    obtain ⟨r9, hr8, h⟩ := bd_some h
    refine ev_callV i184_20 zc8_222 zm179 zo179 (as' := [zI x1]) (rest := [zI r7]) rfl rfl (Nat.le_of_ble_eq_true rfl) (Nat.le_of_ble_eq_true rfl) (Nat.le_of_ble_eq_true rfl) (by omega) (l0 := [some (zR 8 0), some (zI x1)]) rfl (p := 23) rfl (kM_highEnd x1 σ r9 hr8 (d - 1) (by omega)) ?_
    change zEv d 184 23 [some (zR 8 0), some (zI x1), some (zI x2)] [zI r9, zI r7] σ _
    refine ev_cmpge i184_23 (t := 43) (by decide) (p := 26) rfl h (fun c10 h => ?_) (fun c10 h => ?_)
    · refine ev_s i184_43 (p := 44) (zic_0 _ _ _ _ _) ?_
      obtain rfl := Option.some.inj h
      exact ev_zret i184_44 zr184 (by decide)
    · refine ev_s i184_26 (p := 27) rfl ?_
      refine ev_s i184_27 (p := 28) rfl ?_
      obtain ⟨r12, hr11, h⟩ := bd_some h
      refine ev_callV i184_28 zc8_222 zm179 zo179 (as' := [zI x1]) (rest := []) rfl rfl (Nat.le_of_ble_eq_true rfl) (Nat.le_of_ble_eq_true rfl) (Nat.le_of_ble_eq_true rfl) (by omega) (l0 := [some (zR 8 0), some (zI x1)]) rfl (p := 31) rfl (kM_highEnd x1 σ r12 hr11 (d - 1) (by omega)) ?_
      change zEv d 184 31 [some (zR 8 0), some (zI x1), some (zI x2)] [zI r12] σ _
      refine ev_s i184_31 (p := 32) rfl ?_
      refine ev_s i184_32 (p := 33) rfl ?_
      obtain ⟨r14, hr13, h⟩ := bd_some h
      refine ev_callV i184_33 zc8_222 zm179 zo179 (as' := [zI x2]) (rest := [zI r12]) rfl rfl (Nat.le_of_ble_eq_true rfl) (Nat.le_of_ble_eq_true rfl) (Nat.le_of_ble_eq_true rfl) (by omega) (l0 := [some (zR 8 0), some (zI x2)]) rfl (p := 36) rfl (kM_highEnd x2 σ r14 hr13 (d - 1) (by omega)) ?_
      change zEv d 184 36 [some (zR 8 0), some (zI x1), some (zI x2)] [zI r14, zI r12] σ _
      refine ev_cmpge i184_36 (t := 43) (by decide) (p := 39) rfl h (fun c15 h => ?_) (fun c15 h => ?_)
      · refine ev_s i184_43 (p := 44) (zic_0 _ _ _ _ _) ?_
        obtain rfl := Option.some.inj h
        exact ev_zret i184_44 zr184 (by decide)
      · refine ev_s i184_39 (p := 40) (zic_1 _ _ _ _ _) ?_
        refine ev_goto i184_40 (t := 44) (by decide) ?_
        obtain rfl := Option.some.inj h
        exact ev_zret i184_44 zr184 (by decide)
/-! fM_crossings -/
def fM_crossings_J56 (N : Nat) (K4 : Int32 → Int32 → zS → Option (Int32)) (K16 : Int32 → Int32 → Int32 → zS → Option (Int32)) (y2 : Int32) (y3 : Int32) (u0 : Int32) (σ : zS) : Option (Int32) := zlt (u0 + 0) fun v13 => K16 v13 y2 (y3 + 1) σ
set_option maxHeartbeats 4000000 in
theorem kM_crossings_J56 (N : Nat) (d : Nat) (hd : 5 ≤ d) (K4 : Int32 → Int32 → zS → Option (Int32)) (hK4 : ∀ (y1 : Int32) (y2 : Int32) (σ : zS) (w : Int32) (z3 : Option zA), K4 y1 y2 σ = some w → zEv d 185 4 [some (zR 8 0), some (zI y1), some (zI y2), z3] [] σ (some (zI w), σ)) (K16 : Int32 → Int32 → Int32 → zS → Option (Int32)) (hK16 : ∀ (y1 : Int32) (y2 : Int32) (y3 : Int32) (σ : zS) (w : Int32), K16 y1 y2 y3 σ = some w → zEv d 185 16 [some (zR 8 0), some (zI y1), some (zI y2), some (zI y3)] [] σ (some (zI w), σ)) : ∀ (y2 : Int32) (y3 : Int32) (u0 : Int32) (σ : zS) (w : Int32) (z1 : Option zA) (hz1 : znl z1 = true), fM_crossings_J56 N K4 K16 y2 y3 u0 σ = some w → zEv d 185 56 [some (zR 8 0), z1, some (zI y2), some (zI y3)] [zI u0] σ (some (zI w), σ) := by
  intro y2 y3 u0 σ w z1 hz1 h
  unfold fM_crossings_J56 at h
  refine ev_s i185_56 (p := 57) (zic_0 _ _ _ _ _) ?_
  refine ev_s i185_57 (p := 58) (t := [zI (u0 + 0)]) rfl ?_
  refine ev_let h (fun v13 ev13 h => ?_)
  refine ev_s i185_58 (p := 59) (l := [some (zR 8 0), some (zI v13), some (zI y2), some (zI y3)]) rfl ?_
  refine ev_iinc i185_59 zii_1 rfl (l := [some (zR 8 0), some (zI v13), some (zI y2), some (zI (y3 + 1))]) rfl (p := 62) rfl ?_
  refine ev_goto i185_62 (t := 16) (by decide) ?_
  exact hK16 v13 y2 (y3 + 1) σ w h
def fM_crossings_L16 (N : Nat) (K4 : Int32 → Int32 → zS → Option (Int32)) : Nat → Int32 → Int32 → Int32 → zS → Option (Int32)
  | 0, _, _, _, _ => none
  | n + 1, y1, y2, y3, σ => (if (σ 30 0 4) ≤ y3 then K4 y1 (y2 + 1) σ else (fM_isTied y2 σ).bind fun r4 => (if r4 = 0 then fM_crossings_J56 N K4 (fun y1 y2 y3 σ => fM_crossings_L16 N K4 n y1 y2 y3 σ) y2 y3 y1 σ else (fM_isTied y3 σ).bind fun r7 => (if r7 = 0 then fM_crossings_J56 N K4 (fun y1 y2 y3 σ => fM_crossings_L16 N K4 n y1 y2 y3 σ) y2 y3 y1 σ else (fM_doCross y2 y3 σ).bind fun r10 => (if r10 = 0 then fM_crossings_J56 N K4 (fun y1 y2 y3 σ => fM_crossings_L16 N K4 n y1 y2 y3 σ) y2 y3 y1 σ else zlt (y1 + 1) fun v12 => fM_crossings_L16 N K4 n v12 y2 (y3 + 1) σ))))
set_option maxHeartbeats 4000000 in
theorem kM_crossings_L16 (N : Nat) (d : Nat) (hd : 5 ≤ d) (K4 : Int32 → Int32 → zS → Option (Int32)) (hK4 : ∀ (y1 : Int32) (y2 : Int32) (σ : zS) (w : Int32) (z3 : Option zA), K4 y1 y2 σ = some w → zEv d 185 4 [some (zR 8 0), some (zI y1), some (zI y2), z3] [] σ (some (zI w), σ)) : ∀ n : Nat, ∀ (y1 : Int32) (y2 : Int32) (y3 : Int32) (σ : zS) (w : Int32), fM_crossings_L16 N K4 n y1 y2 y3 σ = some w → zEv d 185 16 [some (zR 8 0), some (zI y1), some (zI y2), some (zI y3)] [] σ (some (zI w), σ) := by
  intro n
  induction n with
  | zero =>
    intro y1 y2 y3 σ w h
    cases h
  | succ n ih =>
    intro y1 y2 y3 σ w h
    rw [fM_crossings_L16] at h
    refine ev_s i185_16 (p := 17) rfl ?_
    refine ev_s i185_17 (p := 18) rfl ?_
    refine ev_getf i185_18 zf8_7 (u := zR 30 0) rfl (p := 21) rfl ?_
    refine ev_s i185_21 (p := 22) (zic_4 _ _ _ _ _) ?_
    refine ev_ialdK i185_22 rfl (n := 394) rfl (by decide) (p := 23) rfl ?_
    change zEv d 185 23 [some (zR 8 0), some (zI y1), some (zI y2), some (zI y3)] [zI (σ 30 0 4), zI y3] σ _
    refine ev_cmpge i185_23 (t := 65) (by decide) (p := 26) rfl h (fun c2 h => ?_) (fun c2 h => ?_)
    · refine ev_iinc i185_65 zii_1 rfl (l := [some (zR 8 0), some (zI y1), some (zI (y2 + 1)), some (zI y3)]) rfl (p := 68) rfl ?_
      refine ev_goto i185_68 (t := 4) (by decide) ?_
      exact hK4 y1 (y2 + 1) σ w _ h
    · refine ev_s i185_26 (p := 27) rfl ?_
      refine ev_s i185_27 (p := 28) rfl ?_
      refine ev_s i185_28 (p := 29) rfl ?_
      obtain ⟨r4, hr3, h⟩ := bd_some h
      refine ev_callV i185_29 zc8_140 zm121 zo121 (as' := [zI y2]) (rest := [zI y1]) rfl rfl (Nat.le_of_ble_eq_true rfl) (Nat.le_of_ble_eq_true rfl) (Nat.le_of_ble_eq_true rfl) (by omega) (l0 := [some (zR 8 0), some (zI y2)]) rfl (p := 32) rfl (kM_isTied y2 σ r4 hr3 (d - 1) (by omega)) ?_
      change zEv d 185 32 [some (zR 8 0), some (zI y1), some (zI y2), some (zI y3)] [zI r4, zI y1] σ _
      refine ev_ifeq i185_32 (t := 56) (by decide) (p := 35) rfl h (fun c5 h => ?_) (fun c5 h => ?_)
      · exact kM_crossings_J56 N d hd K4 hK4 (fun y1 y2 y3 σ => fM_crossings_L16 N K4 n y1 y2 y3 σ) ih y2 y3 y1 σ w _ rfl h
      · refine ev_s i185_35 (p := 36) rfl ?_
        refine ev_s i185_36 (p := 37) rfl ?_
        obtain ⟨r7, hr6, h⟩ := bd_some h
        refine ev_callV i185_37 zc8_140 zm121 zo121 (as' := [zI y3]) (rest := [zI y1]) rfl rfl (Nat.le_of_ble_eq_true rfl) (Nat.le_of_ble_eq_true rfl) (Nat.le_of_ble_eq_true rfl) (by omega) (l0 := [some (zR 8 0), some (zI y3)]) rfl (p := 40) rfl (kM_isTied y3 σ r7 hr6 (d - 1) (by omega)) ?_
        change zEv d 185 40 [some (zR 8 0), some (zI y1), some (zI y2), some (zI y3)] [zI r7, zI y1] σ _
        refine ev_ifeq i185_40 (t := 56) (by decide) (p := 43) rfl h (fun c8 h => ?_) (fun c8 h => ?_)
        · exact kM_crossings_J56 N d hd K4 hK4 (fun y1 y2 y3 σ => fM_crossings_L16 N K4 n y1 y2 y3 σ) ih y2 y3 y1 σ w _ rfl h
        · refine ev_s i185_43 (p := 44) rfl ?_
          refine ev_s i185_44 (p := 45) rfl ?_
          refine ev_s i185_45 (p := 46) rfl ?_
          obtain ⟨r10, hr9, h⟩ := bd_some h
          refine ev_callV i185_46 zc8_231 zm184 zo184 (as' := [zI y2, zI y3]) (rest := [zI y1]) rfl rfl (Nat.le_of_ble_eq_true rfl) (Nat.le_of_ble_eq_true rfl) (Nat.le_of_ble_eq_true rfl) (by omega) (l0 := [some (zR 8 0), some (zI y2), some (zI y3)]) rfl (p := 49) rfl (kM_doCross y2 y3 σ r10 hr9 (d - 1) (by omega)) ?_
          change zEv d 185 49 [some (zR 8 0), some (zI y1), some (zI y2), some (zI y3)] [zI r10, zI y1] σ _
          refine ev_ifeq i185_49 (t := 56) (by decide) (p := 52) rfl h (fun c11 h => ?_) (fun c11 h => ?_)
          · exact kM_crossings_J56 N d hd K4 hK4 (fun y1 y2 y3 σ => fM_crossings_L16 N K4 n y1 y2 y3 σ) ih y2 y3 y1 σ w _ rfl h
          · refine ev_s i185_52 (p := 53) (zic_1 _ _ _ _ _) ?_
            refine ev_goto i185_53 (t := 57) (by decide) ?_
            refine ev_s i185_57 (p := 58) (t := [zI (y1 + 1)]) rfl ?_
            refine ev_let h (fun v12 ev12 h => ?_)
            refine ev_s i185_58 (p := 59) (l := [some (zR 8 0), some (zI v12), some (zI y2), some (zI y3)]) rfl ?_
            refine ev_iinc i185_59 zii_1 rfl (l := [some (zR 8 0), some (zI v12), some (zI y2), some (zI (y3 + 1))]) rfl (p := 62) rfl ?_
            refine ev_goto i185_62 (t := 16) (by decide) ?_
            exact ih v12 y2 (y3 + 1) σ w h
def fM_crossings_L4 (N : Nat) : Nat → Int32 → Int32 → zS → Option (Int32)
  | 0, _, _, _ => none
  | n + 1, y1, y2, σ => (if (σ 30 0 4) ≤ y2 then some (y1) else fM_crossings_L16 N (fun y1 y2 σ => fM_crossings_L4 N n y1 y2 σ) N y1 y2 0 σ)
set_option maxHeartbeats 4000000 in
theorem kM_crossings_L4 (N : Nat) (d : Nat) (hd : 5 ≤ d)  : ∀ n : Nat, ∀ (y1 : Int32) (y2 : Int32) (σ : zS) (w : Int32) (z3 : Option zA), fM_crossings_L4 N n y1 y2 σ = some w → zEv d 185 4 [some (zR 8 0), some (zI y1), some (zI y2), z3] [] σ (some (zI w), σ) := by
  intro n
  induction n with
  | zero =>
    intro y1 y2 σ w z3 h
    cases h
  | succ n ih =>
    intro y1 y2 σ w z3 h
    rw [fM_crossings_L4] at h
    refine ev_s i185_4 (p := 5) rfl ?_
    refine ev_s i185_5 (p := 6) rfl ?_
    refine ev_getf i185_6 zf8_7 (u := zR 30 0) rfl (p := 9) rfl ?_
    refine ev_s i185_9 (p := 10) (zic_4 _ _ _ _ _) ?_
    refine ev_ialdK i185_10 rfl (n := 394) rfl (by decide) (p := 11) rfl ?_
    change zEv d 185 11 [some (zR 8 0), some (zI y1), some (zI y2), z3] [zI (σ 30 0 4), zI y2] σ _
    refine ev_cmpge i185_11 (t := 71) (by decide) (p := 14) rfl h (fun c1 h => ?_) (fun c1 h => ?_)
    · refine ev_s i185_71 (p := 72) rfl ?_
      obtain rfl := Option.some.inj h
      exact ev_iret i185_72 zr185
    · refine ev_s i185_14 (p := 15) (zic_0 _ _ _ _ _) ?_
      refine ev_s i185_15 (p := 16) (l := [some (zR 8 0), some (zI y1), some (zI y2), some (zI 0)]) rfl ?_
      exact kM_crossings_L16 N d hd (fun y1 y2 σ => fM_crossings_L4 N n y1 y2 σ) ih N y1 y2 0 σ w h
def fM_crossings (N : Nat) (σ : zS) : Option (Int32) := fM_crossings_L4 N N 0 0 σ
set_option maxHeartbeats 4000000 in
theorem kM_crossings (N : Nat) (σ : zS) (w : Int32) (h : fM_crossings N σ = some w) (d : Nat) (hd : 5 ≤ d) : zEv d 185 0 [some (zR 8 0), none, none, none] [] σ (some (zI w), σ) := by
  unfold fM_crossings at h
  refine ev_s i185_0 (p := 1) (zic_0 _ _ _ _ _) ?_
  refine ev_s i185_1 (p := 2) (l := [some (zR 8 0), some (zI 0), none, none]) rfl ?_
  refine ev_s i185_2 (p := 3) (zic_0 _ _ _ _ _) ?_
  refine ev_s i185_3 (p := 4) (l := [some (zR 8 0), some (zI 0), some (zI 0), none]) rfl ?_
  exact kM_crossings_L4 N d hd N 0 0 σ w _ h
/-! fR_copy -/
def fR_copy (b : Nat) (p1 : Nat) (σ : zS) : Option (zS) := zgd (¬ (0 : Int32) < 0 ∧ ¬ (0 : Int32) < 0 ∧ ¬ (8 : Int32) < 0 ∧ (0 : Int32).toNatClampNeg + (8 : Int32).toNatClampNeg ≤ 8 ∧ (0 : Int32).toNatClampNeg + (8 : Int32).toNatClampNeg ≤ 8) (zlt (zcp σ 14 p1 14 b (0 : Int32).toNatClampNeg (0 : Int32).toNatClampNeg (8 : Int32).toNatClampNeg) fun s1 => zgd (¬ (0 : Int32) < 0 ∧ ¬ (0 : Int32) < 0 ∧ ¬ (8 : Int32) < 0 ∧ (0 : Int32).toNatClampNeg + (8 : Int32).toNatClampNeg ≤ 8 ∧ (0 : Int32).toNatClampNeg + (8 : Int32).toNatClampNeg ≤ 8) (zlt (zcp s1 15 p1 15 b (0 : Int32).toNatClampNeg (0 : Int32).toNatClampNeg (8 : Int32).toNatClampNeg) fun s2 => zgd (¬ (0 : Int32) < 0 ∧ ¬ (0 : Int32) < 0 ∧ ¬ (8 : Int32) < 0 ∧ (0 : Int32).toNatClampNeg + (8 : Int32).toNatClampNeg ≤ 8 ∧ (0 : Int32).toNatClampNeg + (8 : Int32).toNatClampNeg ≤ 8) (zlt (zcp s2 16 p1 16 b (0 : Int32).toNatClampNeg (0 : Int32).toNatClampNeg (8 : Int32).toNatClampNeg) fun s3 => zgd (¬ (0 : Int32) < 0 ∧ ¬ (0 : Int32) < 0 ∧ ¬ (8 : Int32) < 0 ∧ (0 : Int32).toNatClampNeg + (8 : Int32).toNatClampNeg ≤ 8 ∧ (0 : Int32).toNatClampNeg + (8 : Int32).toNatClampNeg ≤ 8) (zlt (zcp s3 17 p1 17 b (0 : Int32).toNatClampNeg (0 : Int32).toNatClampNeg (8 : Int32).toNatClampNeg) fun s4 => zgd (¬ (0 : Int32) < 0 ∧ ¬ (0 : Int32) < 0 ∧ ¬ (8 : Int32) < 0 ∧ (0 : Int32).toNatClampNeg + (8 : Int32).toNatClampNeg ≤ 8 ∧ (0 : Int32).toNatClampNeg + (8 : Int32).toNatClampNeg ≤ 8) (zlt (zcp s4 18 p1 18 b (0 : Int32).toNatClampNeg (0 : Int32).toNatClampNeg (8 : Int32).toNatClampNeg) fun s5 => zgd (¬ (0 : Int32) < 0 ∧ ¬ (0 : Int32) < 0 ∧ ¬ (8 : Int32) < 0 ∧ (0 : Int32).toNatClampNeg + (8 : Int32).toNatClampNeg ≤ 8 ∧ (0 : Int32).toNatClampNeg + (8 : Int32).toNatClampNeg ≤ 8) (zlt (zcp s5 19 p1 19 b (0 : Int32).toNatClampNeg (0 : Int32).toNatClampNeg (8 : Int32).toNatClampNeg) fun s6 => zgd (¬ (0 : Int32) < 0 ∧ ¬ (0 : Int32) < 0 ∧ ¬ (6 : Int32) < 0 ∧ (0 : Int32).toNatClampNeg + (6 : Int32).toNatClampNeg ≤ 6 ∧ (0 : Int32).toNatClampNeg + (6 : Int32).toNatClampNeg ≤ 6) (zlt (zcp s6 20 p1 20 b (0 : Int32).toNatClampNeg (0 : Int32).toNatClampNeg (6 : Int32).toNatClampNeg) fun s7 => zlt (zup s7 2 b 9 (s7 2 p1 9)) fun s8 => zlt (zup s8 2 b 10 (s8 2 p1 10)) fun s9 => zlt (zup s9 2 b 11 (s9 2 p1 11)) fun s10 => zlt (zup s10 2 b 12 (s10 2 p1 12)) fun s11 => some s11)))))))
set_option maxHeartbeats 4000000 in
theorem kR_copy (b : Nat) (p1 : Nat) (σ : zS) (w : zS) (h : fR_copy b p1 σ = some w) (d : Nat) (hd : 0 ≤ d) : zEv d 17 0 [some (zR 2 b), some (zR 2 p1)] [] σ (none, w) := by
  unfold fR_copy at h
  refine ev_s i17_0 (p := 1) rfl ?_
  refine ev_getf i17_1 zf2_9 (u := zR 14 p1) rfl (p := 4) rfl ?_
  refine ev_s i17_4 (p := 5) (zic_0 _ _ _ _ _) ?_
  refine ev_s i17_5 (p := 6) rfl ?_
  refine ev_getf i17_6 zf2_9 (u := zR 14 b) rfl (p := 9) rfl ?_
  refine ev_s i17_9 (p := 10) (zic_0 _ _ _ _ _) ?_
  refine ev_s i17_10 (p := 12) (zib_8 _ _ _ _ _) ?_
  refine ev_copy i17_12 za2_47 rfl rfl (n1 := 8) (n2 := 8) rfl rfl (Nat.le_of_ble_eq_true rfl) (p := 15) rfl h (fun h => ?_)
  refine ev_lets h (fun s1 es1 h => ?_)
  refine ev_s i17_15 (p := 16) rfl ?_
  refine ev_getf i17_16 zf2_15 (u := zR 15 p1) rfl (p := 19) rfl ?_
  refine ev_s i17_19 (p := 20) (zic_0 _ _ _ _ _) ?_
  refine ev_s i17_20 (p := 21) rfl ?_
  refine ev_getf i17_21 zf2_15 (u := zR 15 b) rfl (p := 24) rfl ?_
  refine ev_s i17_24 (p := 25) (zic_0 _ _ _ _ _) ?_
  refine ev_s i17_25 (p := 27) (zib_8 _ _ _ _ _) ?_
  refine ev_copy i17_27 za2_47 rfl rfl (n1 := 8) (n2 := 8) rfl rfl (Nat.le_of_ble_eq_true rfl) (p := 30) rfl h (fun h => ?_)
  refine ev_lets h (fun s2 es2 h => ?_)
  refine ev_s i17_30 (p := 31) rfl ?_
  refine ev_getf i17_31 zf2_18 (u := zR 16 p1) rfl (p := 34) rfl ?_
  refine ev_s i17_34 (p := 35) (zic_0 _ _ _ _ _) ?_
  refine ev_s i17_35 (p := 36) rfl ?_
  refine ev_getf i17_36 zf2_18 (u := zR 16 b) rfl (p := 39) rfl ?_
  refine ev_s i17_39 (p := 40) (zic_0 _ _ _ _ _) ?_
  refine ev_s i17_40 (p := 42) (zib_8 _ _ _ _ _) ?_
  refine ev_copy i17_42 za2_47 rfl rfl (n1 := 8) (n2 := 8) rfl rfl (Nat.le_of_ble_eq_true rfl) (p := 45) rfl h (fun h => ?_)
  refine ev_lets h (fun s3 es3 h => ?_)
  refine ev_s i17_45 (p := 46) rfl ?_
  refine ev_getf i17_46 zf2_21 (u := zR 17 p1) rfl (p := 49) rfl ?_
  refine ev_s i17_49 (p := 50) (zic_0 _ _ _ _ _) ?_
  refine ev_s i17_50 (p := 51) rfl ?_
  refine ev_getf i17_51 zf2_21 (u := zR 17 b) rfl (p := 54) rfl ?_
  refine ev_s i17_54 (p := 55) (zic_0 _ _ _ _ _) ?_
  refine ev_s i17_55 (p := 57) (zib_8 _ _ _ _ _) ?_
  refine ev_copy i17_57 za2_47 rfl rfl (n1 := 8) (n2 := 8) rfl rfl (Nat.le_of_ble_eq_true rfl) (p := 60) rfl h (fun h => ?_)
  refine ev_lets h (fun s4 es4 h => ?_)
  refine ev_s i17_60 (p := 61) rfl ?_
  refine ev_getf i17_61 zf2_24 (u := zR 18 p1) rfl (p := 64) rfl ?_
  refine ev_s i17_64 (p := 65) (zic_0 _ _ _ _ _) ?_
  refine ev_s i17_65 (p := 66) rfl ?_
  refine ev_getf i17_66 zf2_24 (u := zR 18 b) rfl (p := 69) rfl ?_
  refine ev_s i17_69 (p := 70) (zic_0 _ _ _ _ _) ?_
  refine ev_s i17_70 (p := 72) (zib_8 _ _ _ _ _) ?_
  refine ev_copy i17_72 za2_47 rfl rfl (n1 := 8) (n2 := 8) rfl rfl (Nat.le_of_ble_eq_true rfl) (p := 75) rfl h (fun h => ?_)
  refine ev_lets h (fun s5 es5 h => ?_)
  refine ev_s i17_75 (p := 76) rfl ?_
  refine ev_getf i17_76 zf2_27 (u := zR 19 p1) rfl (p := 79) rfl ?_
  refine ev_s i17_79 (p := 80) (zic_0 _ _ _ _ _) ?_
  refine ev_s i17_80 (p := 81) rfl ?_
  refine ev_getf i17_81 zf2_27 (u := zR 19 b) rfl (p := 84) rfl ?_
  refine ev_s i17_84 (p := 85) (zic_0 _ _ _ _ _) ?_
  refine ev_s i17_85 (p := 87) (zib_8 _ _ _ _ _) ?_
  refine ev_copy i17_87 za2_47 rfl rfl (n1 := 8) (n2 := 8) rfl rfl (Nat.le_of_ble_eq_true rfl) (p := 90) rfl h (fun h => ?_)
  refine ev_lets h (fun s6 es6 h => ?_)
  refine ev_s i17_90 (p := 91) rfl ?_
  refine ev_getf i17_91 zf2_30 (u := zR 20 p1) rfl (p := 94) rfl ?_
  refine ev_s i17_94 (p := 95) (zic_0 _ _ _ _ _) ?_
  refine ev_s i17_95 (p := 96) rfl ?_
  refine ev_getf i17_96 zf2_30 (u := zR 20 b) rfl (p := 99) rfl ?_
  refine ev_s i17_99 (p := 100) (zic_0 _ _ _ _ _) ?_
  refine ev_s i17_100 (p := 102) (zib_6 _ _ _ _ _) ?_
  refine ev_copy i17_102 za2_47 rfl rfl (n1 := 6) (n2 := 6) rfl rfl (Nat.le_of_ble_eq_true rfl) (p := 105) rfl h (fun h => ?_)
  refine ev_lets h (fun s7 es7 h => ?_)
  refine ev_s i17_105 (p := 106) rfl ?_
  refine ev_s i17_106 (p := 107) rfl ?_
  refine ev_getf i17_107 zf2_53 (u := zI (s7 2 p1 9)) rfl (p := 110) rfl ?_
  refine ev_putf i17_110 zf2_53 rfl rfl rfl (p := 113) rfl ?_
  refine ev_lets h (fun s8 es8 h => ?_)
  refine ev_s i17_113 (p := 114) rfl ?_
  refine ev_s i17_114 (p := 115) rfl ?_
  refine ev_getf i17_115 zf2_56 (u := zI (s8 2 p1 10)) rfl (p := 118) rfl ?_
  refine ev_putf i17_118 zf2_56 rfl rfl rfl (p := 121) rfl ?_
  refine ev_lets h (fun s9 es9 h => ?_)
  refine ev_s i17_121 (p := 122) rfl ?_
  refine ev_s i17_122 (p := 123) rfl ?_
  refine ev_getf i17_123 zf2_59 (u := zI (s9 2 p1 11)) rfl (p := 126) rfl ?_
  refine ev_putf i17_126 zf2_59 rfl rfl rfl (p := 129) rfl ?_
  refine ev_lets h (fun s10 es10 h => ?_)
  refine ev_s i17_129 (p := 130) rfl ?_
  refine ev_s i17_130 (p := 131) rfl ?_
  refine ev_getf i17_131 zf2_33 (u := zI (s10 2 p1 12)) rfl (p := 134) rfl ?_
  refine ev_putf i17_134 zf2_33 rfl rfl rfl (p := 137) rfl ?_
  refine ev_lets h (fun s11 es11 h => ?_)
  obtain rfl := Option.some.inj h
  exact ev_vret i17_137 zr17
/-! fA_then -/
def fA_then_J17 (N : Nat) (σ : zS) : Option (Int32 × zS) := zb2 (fA_refuse 1 σ) fun r14 s13 => some (r14, s13)
set_option maxHeartbeats 4000000 in
theorem kA_then_J17 (N : Nat) (d : Nat) (hd : 6 ≤ d)  : ∀ (σ : zS) (w : Int32 × zS) (z1 : Option zA) (z2 : Option zA), fA_then_J17 N σ = some w → zEv d 82 17 [some (zR 7 0), z1, z2] [] σ (some (zI w.1), w.2) := by
  intro σ w z1 z2 h
  unfold fA_then_J17 at h
  refine ev_s i82_17 (p := 18) rfl ?_
  refine ev_s i82_18 (p := 19) (zic_1 _ _ _ _ _) ?_
  obtain ⟨r14, s13, hr12, h⟩ := b2_some h
  refine ev_callV i82_19 zc7_72 zm102 zo102 (as' := [zI 1]) (rest := []) rfl rfl (Nat.le_of_ble_eq_true rfl) (Nat.le_of_ble_eq_true rfl) (Nat.le_of_ble_eq_true rfl) (by omega) (l0 := [some (zR 7 0), some (zI 1)]) rfl (p := 22) rfl (kA_refuse 1 σ (r14, s13) hr12 (d - 1) (by omega)) ?_
  change zEv d 82 22 [some (zR 7 0), z1, z2] [zI r14] s13 _
  obtain rfl := Option.some.inj h
  exact ev_iret i82_22 zr82
def fA_then (N : Nat) (x1 : Int32) (x2 : Int32) (σ : zS) : Option (Int32 × zS) := (fA_isThere x1 σ).bind fun r2 => (if r2 = 0 then fA_then_J17 N σ else (fA_within x2 60).bind fun r5 => (if r5 = 0 then fA_then_J17 N σ else (fR_copy 2 0 σ).bind fun s8 => (fR_pass N 2 x2 s8).bind fun s10 => zgd (zin x1 8) (some (s10 17 2 x1.toNatClampNeg, s10))))
set_option maxHeartbeats 4000000 in
theorem kA_then (N : Nat) (x1 : Int32) (x2 : Int32) (σ : zS) (w : Int32 × zS) (h : fA_then N x1 x2 σ = some w) (d : Nat) (hd : 6 ≤ d) : zEv d 82 0 [some (zR 7 0), some (zI x1), some (zI x2)] [] σ (some (zI w.1), w.2) := by
  unfold fA_then at h
  refine ev_s i82_0 (p := 1) rfl ?_
  refine ev_s i82_1 (p := 2) rfl ?_
  obtain ⟨r2, hr1, h⟩ := bd_some h
  refine ev_callV i82_2 zc7_68 zm104 zo104 (as' := [zI x1]) (rest := []) rfl rfl (Nat.le_of_ble_eq_true rfl) (Nat.le_of_ble_eq_true rfl) (Nat.le_of_ble_eq_true rfl) (by omega) (l0 := [some (zR 7 0), some (zI x1)]) rfl (p := 5) rfl (kA_isThere x1 σ r2 hr1 (d - 1) (by omega)) ?_
  change zEv d 82 5 [some (zR 7 0), some (zI x1), some (zI x2)] [zI r2] σ _
  refine ev_ifeq i82_5 (t := 17) (by decide) (p := 8) rfl h (fun c3 h => ?_) (fun c3 h => ?_)
  · exact kA_then_J17 N d hd σ w _ _ h
  · refine ev_s i82_8 (p := 9) rfl ?_
    refine ev_s i82_9 (p := 11) (zib_60 _ _ _ _ _) ?_
    obtain ⟨r5, hr4, h⟩ := bd_some h
    refine ev_callS i82_11 zn7_64 zc7_64 zm103 (as := [zI x2, zI 60]) (rest := []) rfl rfl (Nat.le_of_ble_eq_true rfl) (Nat.le_of_ble_eq_true rfl) (Nat.le_of_ble_eq_true rfl) (by omega) (l0 := [some (zI x2), some (zI 60)]) rfl (p := 14) rfl (kA_within x2 60 σ r5 hr4 (d - 1) (by omega)) ?_
    change zEv d 82 14 [some (zR 7 0), some (zI x1), some (zI x2)] [zI r5] σ _
    refine ev_ifne i82_14 (t := 23) (by decide) (p := 17) rfl h (fun c6 h => ?_) (fun c6 h => ?_)
    · exact kA_then_J17 N d hd σ w _ _ h
    · refine ev_s i82_23 (p := 24) rfl ?_
      refine ev_getf i82_24 zf7_60 (u := zR 2 2) rfl (p := 27) rfl ?_
      refine ev_s i82_27 (p := 28) rfl ?_
      refine ev_getf i82_28 zf7_47 (u := zR 2 0) rfl (p := 31) rfl ?_
      obtain ⟨s8, hr7, h⟩ := bd_some h
      refine ev_callV i82_31 zc7_194 zm17 zo17 (as' := [zR 2 0]) (rest := []) rfl rfl (Nat.le_of_ble_eq_true rfl) (Nat.le_of_ble_eq_true rfl) (Nat.le_of_ble_eq_true rfl) (by omega) (l0 := [some (zR 2 2), some (zR 2 0)]) rfl (p := 34) rfl (kR_copy 2 0 σ s8 hr7 (d - 1) (by omega)) ?_
      change zEv d 82 34 [some (zR 7 0), some (zI x1), some (zI x2)] [] s8 _
      refine ev_s i82_34 (p := 35) rfl ?_
      refine ev_getf i82_35 zf7_60 (u := zR 2 2) rfl (p := 38) rfl ?_
      refine ev_s i82_38 (p := 39) rfl ?_
      obtain ⟨s10, hr9, h⟩ := bd_some h
      refine ev_callV i82_39 zc7_161 zm35 zo35 (as' := [zI x2]) (rest := []) rfl rfl (Nat.le_of_ble_eq_true rfl) (Nat.le_of_ble_eq_true rfl) (Nat.le_of_ble_eq_true rfl) (by omega) (l0 := [some (zR 2 2), some (zI x2), none]) rfl (p := 42) rfl (kR_pass N 2 x2 s8 s10 hr9 (d - 1) (by omega)) ?_
      change zEv d 82 42 [some (zR 7 0), some (zI x1), some (zI x2)] [] s10 _
      refine ev_s i82_42 (p := 43) rfl ?_
      refine ev_getf i82_43 zf7_60 (u := zR 2 2) rfl (p := 46) rfl ?_
      refine ev_getf i82_46 zf7_93 (u := zR 17 2) rfl (p := 49) rfl ?_
      refine ev_s i82_49 (p := 50) rfl ?_
      refine ev_iald i82_50 rfl (n := 8) rfl (p := 51) rfl h (fun g11 h => ?_)
      obtain rfl := Option.some.inj h
      exact ev_iret i82_51 zr82
/-! fM_saves -/
def fM_saves_L2 (N : Nat) : Nat → Int32 → zS → Option (zS)
  | 0, _, _ => none
  | n + 1, y1, σ => (if 60 ≤ y1 then some σ else zgd (zin y1 394) (zgd (zin y1 60) (zlt (zup σ 32 0 y1.toNatClampNeg (σ 30 0 y1.toNatClampNeg)) fun s3 => fM_saves_L2 N n (y1 + 1) s3)))
set_option maxHeartbeats 4000000 in
theorem kM_saves_L2 (N : Nat) (d : Nat) (hd : 0 ≤ d)  : ∀ n : Nat, ∀ (y1 : Int32) (σ : zS) (w : zS), fM_saves_L2 N n y1 σ = some w → zEv d 114 2 [some (zR 8 0), some (zI y1)] [] σ (none, w) := by
  intro n
  induction n with
  | zero =>
    intro y1 σ w h
    cases h
  | succ n ih =>
    intro y1 σ w h
    rw [fM_saves_L2] at h
    refine ev_s i114_2 (p := 3) rfl ?_
    refine ev_s i114_3 (p := 5) (zib_60 _ _ _ _ _) ?_
    refine ev_cmpge i114_5 (t := 26) (by decide) (p := 8) rfl h (fun c1 h => ?_) (fun c1 h => ?_)
    · obtain rfl := Option.some.inj h
      exact ev_vret i114_26 zr114
    · refine ev_s i114_8 (p := 9) rfl ?_
      refine ev_getf i114_9 zf8_16 (u := zR 32 0) rfl (p := 12) rfl ?_
      refine ev_s i114_12 (p := 13) rfl ?_
      refine ev_s i114_13 (p := 14) rfl ?_
      refine ev_getf i114_14 zf8_7 (u := zR 30 0) rfl (p := 17) rfl ?_
      refine ev_s i114_17 (p := 18) rfl ?_
      refine ev_iald i114_18 rfl (n := 394) rfl (p := 19) rfl h (fun g2 h => ?_)
      refine ev_iast i114_19 rfl (n := 60) rfl (p := 20) rfl h (fun g4 h => ?_)
      refine ev_lets h (fun s3 es3 h => ?_)
      refine ev_iinc i114_20 zii_1 rfl (l := [some (zR 8 0), some (zI (y1 + 1))]) rfl (p := 23) rfl ?_
      refine ev_goto i114_23 (t := 2) (by decide) ?_
      exact ih (y1 + 1) s3 w h
def fM_saves (N : Nat) (σ : zS) : Option (zS) := fM_saves_L2 N N 0 σ
set_option maxHeartbeats 4000000 in
theorem kM_saves (N : Nat) (σ : zS) (w : zS) (h : fM_saves N σ = some w) (d : Nat) (hd : 0 ≤ d) : zEv d 114 0 [some (zR 8 0), none] [] σ (none, w) := by
  unfold fM_saves at h
  refine ev_s i114_0 (p := 1) (zic_0 _ _ _ _ _) ?_
  refine ev_s i114_1 (p := 2) (l := [some (zR 8 0), some (zI 0)]) rfl ?_
  exact kM_saves_L2 N d hd N 0 σ w h
/-! fM_putsBack -/
def fM_putsBack_L2 (N : Nat) : Nat → Int32 → zS → Option (zS)
  | 0, _, _ => none
  | n + 1, y1, σ => (if 60 ≤ y1 then some σ else zgd (zin y1 60) (zgd (zin y1 394) (zlt (zup σ 30 0 y1.toNatClampNeg (σ 32 0 y1.toNatClampNeg)) fun s3 => fM_putsBack_L2 N n (y1 + 1) s3)))
set_option maxHeartbeats 4000000 in
theorem kM_putsBack_L2 (N : Nat) (d : Nat) (hd : 0 ≤ d)  : ∀ n : Nat, ∀ (y1 : Int32) (σ : zS) (w : zS), fM_putsBack_L2 N n y1 σ = some w → zEv d 115 2 [some (zR 8 0), some (zI y1)] [] σ (none, w) := by
  intro n
  induction n with
  | zero =>
    intro y1 σ w h
    cases h
  | succ n ih =>
    intro y1 σ w h
    rw [fM_putsBack_L2] at h
    refine ev_s i115_2 (p := 3) rfl ?_
    refine ev_s i115_3 (p := 5) (zib_60 _ _ _ _ _) ?_
    refine ev_cmpge i115_5 (t := 26) (by decide) (p := 8) rfl h (fun c1 h => ?_) (fun c1 h => ?_)
    · obtain rfl := Option.some.inj h
      exact ev_vret i115_26 zr115
    · refine ev_s i115_8 (p := 9) rfl ?_
      refine ev_getf i115_9 zf8_7 (u := zR 30 0) rfl (p := 12) rfl ?_
      refine ev_s i115_12 (p := 13) rfl ?_
      refine ev_s i115_13 (p := 14) rfl ?_
      refine ev_getf i115_14 zf8_16 (u := zR 32 0) rfl (p := 17) rfl ?_
      refine ev_s i115_17 (p := 18) rfl ?_
      refine ev_iald i115_18 rfl (n := 60) rfl (p := 19) rfl h (fun g2 h => ?_)
      refine ev_iast i115_19 rfl (n := 394) rfl (p := 20) rfl h (fun g4 h => ?_)
      refine ev_lets h (fun s3 es3 h => ?_)
      refine ev_iinc i115_20 zii_1 rfl (l := [some (zR 8 0), some (zI (y1 + 1))]) rfl (p := 23) rfl ?_
      refine ev_goto i115_23 (t := 2) (by decide) ?_
      exact ih (y1 + 1) s3 w h
def fM_putsBack (N : Nat) (σ : zS) : Option (zS) := fM_putsBack_L2 N N 0 σ
set_option maxHeartbeats 4000000 in
theorem kM_putsBack (N : Nat) (σ : zS) (w : zS) (h : fM_putsBack N σ = some w) (d : Nat) (hd : 0 ≤ d) : zEv d 115 0 [some (zR 8 0), none] [] σ (none, w) := by
  unfold fM_putsBack at h
  refine ev_s i115_0 (p := 1) (zic_0 _ _ _ _ _) ?_
  refine ev_s i115_1 (p := 2) (l := [some (zR 8 0), some (zI 0)]) rfl ?_
  exact kM_putsBack_L2 N d hd N 0 σ w h
/-! fM_then -/
def fM_then_J18 (N : Nat) (σ : zS) : Option (Int32 × zS) := zb2 (fM_error 1 σ) fun r17 s16 => some (r17, s16)
set_option maxHeartbeats 4000000 in
theorem kM_then_J18 (N : Nat) (d : Nat) (hd : 8 ≤ d)  : ∀ (σ : zS) (w : Int32 × zS) (z1 : Option zA) (z2 : Option zA) (hz2 : znl z2 = true) (z3 : Option zA), fM_then_J18 N σ = some w → zEv d 186 18 [some (zR 8 0), z1, z2, z3] [] σ (some (zI w.1), w.2) := by
  intro σ w z1 z2 hz2 z3 h
  unfold fM_then_J18 at h
  refine ev_s i186_18 (p := 19) rfl ?_
  refine ev_s i186_19 (p := 20) (zic_1 _ _ _ _ _) ?_
  obtain ⟨r17, s16, hr15, h⟩ := b2_some h
  refine ev_callV i186_20 zc8_58 zm110 zo110 (as' := [zI 1]) (rest := []) rfl rfl (Nat.le_of_ble_eq_true rfl) (Nat.le_of_ble_eq_true rfl) (Nat.le_of_ble_eq_true rfl) (by omega) (l0 := [some (zR 8 0), some (zI 1)]) rfl (p := 23) rfl (kM_error 1 σ (r17, s16) hr15 (d - 1) (by omega)) ?_
  change zEv d 186 23 [some (zR 8 0), z1, z2, z3] [zI r17] s16 _
  obtain rfl := Option.some.inj h
  exact ev_iret i186_23 zr186
def fM_then (N : Nat) (x1 : Int32) (x2 : Int32) (σ : zS) : Option (Int32 × zS) := (fM_isOne x1 σ).bind fun r2 => (if r2 = 0 then fM_then_J18 N σ else (fM_in x2 0 60).bind fun r5 => (if r5 = 0 then fM_then_J18 N σ else (fM_saves N σ).bind fun s8 => (fM_goesOn N x2 s8).bind fun s10 => (fM_its x1 3 s10).bind fun r12 => (fM_putsBack N s10).bind fun s14 => some (r12, s14)))
set_option maxHeartbeats 4000000 in
theorem kM_then (N : Nat) (x1 : Int32) (x2 : Int32) (σ : zS) (w : Int32 × zS) (h : fM_then N x1 x2 σ = some w) (d : Nat) (hd : 8 ≤ d) : zEv d 186 0 [some (zR 8 0), some (zI x1), some (zI x2), none] [] σ (some (zI w.1), w.2) := by
  unfold fM_then at h
  refine ev_s i186_0 (p := 1) rfl ?_
  refine ev_s i186_1 (p := 2) rfl ?_
  obtain ⟨r2, hr1, h⟩ := bd_some h
  refine ev_callV i186_2 zc8_194 zm116 zo116 (as' := [zI x1]) (rest := []) rfl rfl (Nat.le_of_ble_eq_true rfl) (Nat.le_of_ble_eq_true rfl) (Nat.le_of_ble_eq_true rfl) (by omega) (l0 := [some (zR 8 0), some (zI x1)]) rfl (p := 5) rfl (kM_isOne x1 σ r2 hr1 (d - 1) (by omega)) ?_
  change zEv d 186 5 [some (zR 8 0), some (zI x1), some (zI x2), none] [zI r2] σ _
  refine ev_ifeq i186_5 (t := 18) (by decide) (p := 8) rfl h (fun c3 h => ?_) (fun c3 h => ?_)
  · exact kM_then_J18 N d hd σ w _ _ rfl _ h
  · refine ev_s i186_8 (p := 9) rfl ?_
    refine ev_s i186_9 (p := 10) (zic_0 _ _ _ _ _) ?_
    refine ev_s i186_10 (p := 12) (zib_60 _ _ _ _ _) ?_
    obtain ⟨r5, hr4, h⟩ := bd_some h
    refine ev_callS i186_12 zn8_50 zc8_50 zm111 (as := [zI x2, zI 0, zI 60]) (rest := []) rfl rfl (Nat.le_of_ble_eq_true rfl) (Nat.le_of_ble_eq_true rfl) (Nat.le_of_ble_eq_true rfl) (by omega) (l0 := [some (zI x2), some (zI 0), some (zI 60)]) rfl (p := 15) rfl (kM_in x2 0 60 σ r5 hr4 (d - 1) (by omega)) ?_
    change zEv d 186 15 [some (zR 8 0), some (zI x1), some (zI x2), none] [zI r5] σ _
    refine ev_ifne i186_15 (t := 24) (by decide) (p := 18) rfl h (fun c6 h => ?_) (fun c6 h => ?_)
    · exact kM_then_J18 N d hd σ w _ _ rfl _ h
    · refine ev_s i186_24 (p := 25) rfl ?_
      obtain ⟨s8, hr7, h⟩ := bd_some h
      refine ev_callV i186_25 zc8_234 zm114 zo114 (as' := []) (rest := []) rfl rfl (Nat.le_of_ble_eq_true rfl) (Nat.le_of_ble_eq_true rfl) (Nat.le_of_ble_eq_true rfl) (by omega) (l0 := [some (zR 8 0), none]) rfl (p := 28) rfl (kM_saves N σ s8 hr7 (d - 1) (by omega)) ?_
      change zEv d 186 28 [some (zR 8 0), some (zI x1), some (zI x2), none] [] s8 _
      refine ev_s i186_28 (p := 29) rfl ?_
      refine ev_s i186_29 (p := 30) rfl ?_
      obtain ⟨s10, hr9, h⟩ := bd_some h
      refine ev_callV i186_30 zc8_206 zm155 zo155 (as' := [zI x2]) (rest := []) rfl rfl (Nat.le_of_ble_eq_true rfl) (Nat.le_of_ble_eq_true rfl) (Nat.le_of_ble_eq_true rfl) (by omega) (l0 := [some (zR 8 0), some (zI x2), none]) rfl (p := 33) rfl (kM_goesOn N x2 s8 s10 hr9 (d - 1) (by omega)) ?_
      change zEv d 186 33 [some (zR 8 0), some (zI x1), some (zI x2), none] [] s10 _
      refine ev_s i186_33 (p := 34) rfl ?_
      refine ev_s i186_34 (p := 35) rfl ?_
      refine ev_s i186_35 (p := 36) (zic_3 _ _ _ _ _) ?_
      obtain ⟨r12, hr11, h⟩ := bd_some h
      refine ev_callV i186_36 zc8_54 zm118 zo118 (as' := [zI x1, zI 3]) (rest := []) rfl rfl (Nat.le_of_ble_eq_true rfl) (Nat.le_of_ble_eq_true rfl) (Nat.le_of_ble_eq_true rfl) (by omega) (l0 := [some (zR 8 0), some (zI x1), some (zI 3)]) rfl (p := 39) rfl (kM_its x1 3 s10 r12 hr11 (d - 1) (by omega)) ?_
      change zEv d 186 39 [some (zR 8 0), some (zI x1), some (zI x2), none] [zI r12] s10 _
      refine ev_s i186_39 (p := 40) (l := [some (zR 8 0), some (zI x1), some (zI x2), some (zI r12)]) rfl ?_
      refine ev_s i186_40 (p := 41) rfl ?_
      obtain ⟨s14, hr13, h⟩ := bd_some h
      refine ev_callV i186_41 zc8_237 zm115 zo115 (as' := []) (rest := []) rfl rfl (Nat.le_of_ble_eq_true rfl) (Nat.le_of_ble_eq_true rfl) (Nat.le_of_ble_eq_true rfl) (by omega) (l0 := [some (zR 8 0), none]) rfl (p := 44) rfl (kM_putsBack N s10 s14 hr13 (d - 1) (by omega)) ?_
      change zEv d 186 44 [some (zR 8 0), some (zI x1), some (zI x2), some (zI r12)] [] s14 _
      refine ev_s i186_44 (p := 45) rfl ?_
      obtain rfl := Option.some.inj h
      exact ev_iret i186_45 zr186
/-! fR_tied -/
def fR_tied_L4 (N : Nat) (b : Nat) : Nat → Int32 → Int32 → zS → Option (Int32)
  | 0, _, _, _ => none
  | n + 1, y1, y2, σ => (if (σ 2 b 9) ≤ y2 then some (y1) else (fR_isTied b y2 σ).bind fun r3 => (if r3 = 0 then fR_tied_L4 N b n y1 (y2 + 1) σ else zlt (y1 ||| (1 <<< (y2 &&& 31))) fun v5 => fR_tied_L4 N b n v5 (y2 + 1) σ))
set_option maxHeartbeats 4000000 in
theorem kR_tied_L4 (N : Nat) (b : Nat) (d : Nat) (hd : 1 ≤ d)  : ∀ n : Nat, ∀ (y1 : Int32) (y2 : Int32) (σ : zS) (w : Int32), fR_tied_L4 N b n y1 y2 σ = some w → zEv d 20 4 [some (zR 2 b), some (zI y1), some (zI y2)] [] σ (some (zI w), σ) := by
  intro n
  induction n with
  | zero =>
    intro y1 y2 σ w h
    cases h
  | succ n ih =>
    intro y1 y2 σ w h
    rw [fR_tied_L4] at h
    refine ev_s i20_4 (p := 5) rfl ?_
    refine ev_s i20_5 (p := 6) rfl ?_
    refine ev_getf i20_6 zf2_53 (u := zI (σ 2 b 9)) rfl (p := 9) rfl ?_
    refine ev_cmpge i20_9 (t := 32) (by decide) (p := 12) rfl h (fun c1 h => ?_) (fun c1 h => ?_)
    · refine ev_s i20_32 (p := 33) rfl ?_
      obtain rfl := Option.some.inj h
      exact ev_iret i20_33 zr20
    · refine ev_s i20_12 (p := 13) rfl ?_
      refine ev_s i20_13 (p := 14) rfl ?_
      obtain ⟨r3, hr2, h⟩ := bd_some h
      refine ev_callV i20_14 zc2_66 zm19 zo19 (as' := [zI y2]) (rest := []) rfl rfl (Nat.le_of_ble_eq_true rfl) (Nat.le_of_ble_eq_true rfl) (Nat.le_of_ble_eq_true rfl) (by omega) (l0 := [some (zR 2 b), some (zI y2)]) rfl (p := 17) rfl (kR_isTied b y2 σ r3 hr2 (d - 1) (by omega)) ?_
      change zEv d 20 17 [some (zR 2 b), some (zI y1), some (zI y2)] [zI r3] σ _
      refine ev_ifeq i20_17 (t := 26) (by decide) (p := 20) rfl h (fun c4 h => ?_) (fun c4 h => ?_)
      · refine ev_iinc i20_26 zii_1 rfl (l := [some (zR 2 b), some (zI y1), some (zI (y2 + 1))]) rfl (p := 29) rfl ?_
        refine ev_goto i20_29 (t := 4) (by decide) ?_
        exact ih y1 (y2 + 1) σ w h
      · refine ev_s i20_20 (p := 21) rfl ?_
        refine ev_s i20_21 (p := 22) (zic_1 _ _ _ _ _) ?_
        refine ev_s i20_22 (p := 23) rfl ?_
        refine ev_s i20_23 (p := 24) (t := [zI (1 <<< (y2 &&& 31)), zI y1]) rfl ?_
        refine ev_s i20_24 (p := 25) (t := [zI (y1 ||| (1 <<< (y2 &&& 31)))]) rfl ?_
        refine ev_let h (fun v5 ev5 h => ?_)
        refine ev_s i20_25 (p := 26) (l := [some (zR 2 b), some (zI v5), some (zI y2)]) rfl ?_
        refine ev_iinc i20_26 zii_1 rfl (l := [some (zR 2 b), some (zI v5), some (zI (y2 + 1))]) rfl (p := 29) rfl ?_
        refine ev_goto i20_29 (t := 4) (by decide) ?_
        exact ih v5 (y2 + 1) σ w h
def fR_tied (N : Nat) (b : Nat) (σ : zS) : Option (Int32) := fR_tied_L4 N b N 0 0 σ
set_option maxHeartbeats 4000000 in
theorem kR_tied (N : Nat) (b : Nat) (σ : zS) (w : Int32) (h : fR_tied N b σ = some w) (d : Nat) (hd : 1 ≤ d) : zEv d 20 0 [some (zR 2 b), none, none] [] σ (some (zI w), σ) := by
  unfold fR_tied at h
  refine ev_s i20_0 (p := 1) (zic_0 _ _ _ _ _) ?_
  refine ev_s i20_1 (p := 2) (l := [some (zR 2 b), some (zI 0), none]) rfl ?_
  refine ev_s i20_2 (p := 3) (zic_0 _ _ _ _ _) ?_
  refine ev_s i20_3 (p := 4) (l := [some (zR 2 b), some (zI 0), some (zI 0)]) rfl ?_
  exact kR_tied_L4 N b d hd N 0 0 σ w h
/-! fA_strings -/
def fA_strings (N : Nat) (x1 : Int32) (σ : zS) : Option (Int32 × zS) := (fA_within x1 60).bind fun r2 => (if r2 = 0 then zb2 (fA_refuse 1 σ) fun r6 s5 => some (r6, s5) else (fR_copy 2 0 σ).bind fun s8 => (fR_pass N 2 x1 s8).bind fun s10 => (fR_tied N 2 s10).bind fun r12 => some (r12, s10))
set_option maxHeartbeats 4000000 in
theorem kA_strings (N : Nat) (x1 : Int32) (σ : zS) (w : Int32 × zS) (h : fA_strings N x1 σ = some w) (d : Nat) (hd : 6 ≤ d) : zEv d 83 0 [some (zR 7 0), some (zI x1)] [] σ (some (zI w.1), w.2) := by
  unfold fA_strings at h
  refine ev_s i83_0 (p := 1) rfl ?_
  refine ev_s i83_1 (p := 3) (zib_60 _ _ _ _ _) ?_
  obtain ⟨r2, hr1, h⟩ := bd_some h
  refine ev_callS i83_3 zn7_64 zc7_64 zm103 (as := [zI x1, zI 60]) (rest := []) rfl rfl (Nat.le_of_ble_eq_true rfl) (Nat.le_of_ble_eq_true rfl) (Nat.le_of_ble_eq_true rfl) (by omega) (l0 := [some (zI x1), some (zI 60)]) rfl (p := 6) rfl (kA_within x1 60 σ r2 hr1 (d - 1) (by omega)) ?_
  change zEv d 83 6 [some (zR 7 0), some (zI x1)] [zI r2] σ _
  refine ev_ifne i83_6 (t := 15) (by decide) (p := 9) rfl h (fun c3 h => ?_) (fun c3 h => ?_)
  · refine ev_s i83_9 (p := 10) rfl ?_
    refine ev_s i83_10 (p := 11) (zic_1 _ _ _ _ _) ?_
    obtain ⟨r6, s5, hr4, h⟩ := b2_some h
    refine ev_callV i83_11 zc7_72 zm102 zo102 (as' := [zI 1]) (rest := []) rfl rfl (Nat.le_of_ble_eq_true rfl) (Nat.le_of_ble_eq_true rfl) (Nat.le_of_ble_eq_true rfl) (by omega) (l0 := [some (zR 7 0), some (zI 1)]) rfl (p := 14) rfl (kA_refuse 1 σ (r6, s5) hr4 (d - 1) (by omega)) ?_
    change zEv d 83 14 [some (zR 7 0), some (zI x1)] [zI r6] s5 _
    obtain rfl := Option.some.inj h
    exact ev_iret i83_14 zr83
  · refine ev_s i83_15 (p := 16) rfl ?_
    refine ev_getf i83_16 zf7_60 (u := zR 2 2) rfl (p := 19) rfl ?_
    refine ev_s i83_19 (p := 20) rfl ?_
    refine ev_getf i83_20 zf7_47 (u := zR 2 0) rfl (p := 23) rfl ?_
    obtain ⟨s8, hr7, h⟩ := bd_some h
    refine ev_callV i83_23 zc7_194 zm17 zo17 (as' := [zR 2 0]) (rest := []) rfl rfl (Nat.le_of_ble_eq_true rfl) (Nat.le_of_ble_eq_true rfl) (Nat.le_of_ble_eq_true rfl) (by omega) (l0 := [some (zR 2 2), some (zR 2 0)]) rfl (p := 26) rfl (kR_copy 2 0 σ s8 hr7 (d - 1) (by omega)) ?_
    change zEv d 83 26 [some (zR 7 0), some (zI x1)] [] s8 _
    refine ev_s i83_26 (p := 27) rfl ?_
    refine ev_getf i83_27 zf7_60 (u := zR 2 2) rfl (p := 30) rfl ?_
    refine ev_s i83_30 (p := 31) rfl ?_
    obtain ⟨s10, hr9, h⟩ := bd_some h
    refine ev_callV i83_31 zc7_161 zm35 zo35 (as' := [zI x1]) (rest := []) rfl rfl (Nat.le_of_ble_eq_true rfl) (Nat.le_of_ble_eq_true rfl) (Nat.le_of_ble_eq_true rfl) (by omega) (l0 := [some (zR 2 2), some (zI x1), none]) rfl (p := 34) rfl (kR_pass N 2 x1 s8 s10 hr9 (d - 1) (by omega)) ?_
    change zEv d 83 34 [some (zR 7 0), some (zI x1)] [] s10 _
    refine ev_s i83_34 (p := 35) rfl ?_
    refine ev_getf i83_35 zf7_60 (u := zR 2 2) rfl (p := 38) rfl ?_
    obtain ⟨r12, hr11, h⟩ := bd_some h
    refine ev_callV i83_38 zc7_198 zm20 zo20 (as' := []) (rest := []) rfl rfl (Nat.le_of_ble_eq_true rfl) (Nat.le_of_ble_eq_true rfl) (Nat.le_of_ble_eq_true rfl) (by omega) (l0 := [some (zR 2 2), none, none]) rfl (p := 41) rfl (kR_tied N 2 s10 r12 hr11 (d - 1) (by omega)) ?_
    change zEv d 83 41 [some (zR 7 0), some (zI x1)] [zI r12] s10 _
    obtain rfl := Option.some.inj h
    exact ev_iret i83_41 zr83
/-! fM_tiedNow -/
def fM_tiedNow_L4 (N : Nat) : Nat → Int32 → Int32 → zS → Option (Int32)
  | 0, _, _, _ => none
  | n + 1, y1, y2, σ => (if (σ 30 0 4) ≤ y2 then some (y1) else (fM_isTied y2 σ).bind fun r3 => (if r3 = 0 then zlt (y1 ||| 0) fun v5 => fM_tiedNow_L4 N n v5 (y2 + 1) σ else zlt (y1 ||| (1 <<< (y2 &&& 31))) fun v6 => fM_tiedNow_L4 N n v6 (y2 + 1) σ))
set_option maxHeartbeats 4000000 in
theorem kM_tiedNow_L4 (N : Nat) (d : Nat) (hd : 2 ≤ d)  : ∀ n : Nat, ∀ (y1 : Int32) (y2 : Int32) (σ : zS) (w : Int32), fM_tiedNow_L4 N n y1 y2 σ = some w → zEv d 156 4 [some (zR 8 0), some (zI y1), some (zI y2)] [] σ (some (zI w), σ) := by
  intro n
  induction n with
  | zero =>
    intro y1 y2 σ w h
    cases h
  | succ n ih =>
    intro y1 y2 σ w h
    rw [fM_tiedNow_L4] at h
    refine ev_s i156_4 (p := 5) rfl ?_
    refine ev_s i156_5 (p := 6) rfl ?_
    refine ev_getf i156_6 zf8_7 (u := zR 30 0) rfl (p := 9) rfl ?_
    refine ev_s i156_9 (p := 10) (zic_4 _ _ _ _ _) ?_
    refine ev_ialdK i156_10 rfl (n := 394) rfl (by decide) (p := 11) rfl ?_
    change zEv d 156 11 [some (zR 8 0), some (zI y1), some (zI y2)] [zI (σ 30 0 4), zI y2] σ _
    refine ev_cmpge i156_11 (t := 38) (by decide) (p := 14) rfl h (fun c1 h => ?_) (fun c1 h => ?_)
    · refine ev_s i156_38 (p := 39) rfl ?_
      obtain rfl := Option.some.inj h
      exact ev_iret i156_39 zr156
    · refine ev_s i156_14 (p := 15) rfl ?_
      refine ev_s i156_15 (p := 16) rfl ?_
      refine ev_s i156_16 (p := 17) rfl ?_
      obtain ⟨r3, hr2, h⟩ := bd_some h
      refine ev_callV i156_17 zc8_140 zm121 zo121 (as' := [zI y2]) (rest := [zI y1]) rfl rfl (Nat.le_of_ble_eq_true rfl) (Nat.le_of_ble_eq_true rfl) (Nat.le_of_ble_eq_true rfl) (by omega) (l0 := [some (zR 8 0), some (zI y2)]) rfl (p := 20) rfl (kM_isTied y2 σ r3 hr2 (d - 1) (by omega)) ?_
      change zEv d 156 20 [some (zR 8 0), some (zI y1), some (zI y2)] [zI r3, zI y1] σ _
      refine ev_ifeq i156_20 (t := 29) (by decide) (p := 23) rfl h (fun c4 h => ?_) (fun c4 h => ?_)
      · refine ev_s i156_29 (p := 30) (zic_0 _ _ _ _ _) ?_
        refine ev_s i156_30 (p := 31) (t := [zI (y1 ||| 0)]) rfl ?_
        refine ev_let h (fun v5 ev5 h => ?_)
        refine ev_s i156_31 (p := 32) (l := [some (zR 8 0), some (zI v5), some (zI y2)]) rfl ?_
        refine ev_iinc i156_32 zii_1 rfl (l := [some (zR 8 0), some (zI v5), some (zI (y2 + 1))]) rfl (p := 35) rfl ?_
        refine ev_goto i156_35 (t := 4) (by decide) ?_
        exact ih v5 (y2 + 1) σ w h
      · refine ev_s i156_23 (p := 24) (zic_1 _ _ _ _ _) ?_
        refine ev_s i156_24 (p := 25) rfl ?_
        refine ev_s i156_25 (p := 26) (t := [zI (1 <<< (y2 &&& 31)), zI y1]) rfl ?_
        refine ev_goto i156_26 (t := 30) (by decide) ?_
        refine ev_s i156_30 (p := 31) (t := [zI (y1 ||| (1 <<< (y2 &&& 31)))]) rfl ?_
        refine ev_let h (fun v6 ev6 h => ?_)
        refine ev_s i156_31 (p := 32) (l := [some (zR 8 0), some (zI v6), some (zI y2)]) rfl ?_
        refine ev_iinc i156_32 zii_1 rfl (l := [some (zR 8 0), some (zI v6), some (zI (y2 + 1))]) rfl (p := 35) rfl ?_
        refine ev_goto i156_35 (t := 4) (by decide) ?_
        exact ih v6 (y2 + 1) σ w h
def fM_tiedNow (N : Nat) (σ : zS) : Option (Int32) := fM_tiedNow_L4 N N 0 0 σ
set_option maxHeartbeats 4000000 in
theorem kM_tiedNow (N : Nat) (σ : zS) (w : Int32) (h : fM_tiedNow N σ = some w) (d : Nat) (hd : 2 ≤ d) : zEv d 156 0 [some (zR 8 0), none, none] [] σ (some (zI w), σ) := by
  unfold fM_tiedNow at h
  refine ev_s i156_0 (p := 1) (zic_0 _ _ _ _ _) ?_
  refine ev_s i156_1 (p := 2) (l := [some (zR 8 0), some (zI 0), none]) rfl ?_
  refine ev_s i156_2 (p := 3) (zic_0 _ _ _ _ _) ?_
  refine ev_s i156_3 (p := 4) (l := [some (zR 8 0), some (zI 0), some (zI 0)]) rfl ?_
  exact kM_tiedNow_L4 N d hd N 0 0 σ w h
/-! fM_strings -/
def fM_strings (N : Nat) (x1 : Int32) (σ : zS) : Option (Int32 × zS) := (fM_in x1 0 60).bind fun r2 => (if r2 = 0 then zb2 (fM_error 1 σ) fun r6 s5 => some (r6, s5) else (fM_saves N σ).bind fun s8 => (fM_goesOn N x1 s8).bind fun s10 => (fM_tiedNow N s10).bind fun r12 => (fM_putsBack N s10).bind fun s14 => some (r12, s14))
set_option maxHeartbeats 4000000 in
theorem kM_strings (N : Nat) (x1 : Int32) (σ : zS) (w : Int32 × zS) (h : fM_strings N x1 σ = some w) (d : Nat) (hd : 8 ≤ d) : zEv d 187 0 [some (zR 8 0), some (zI x1), none] [] σ (some (zI w.1), w.2) := by
  unfold fM_strings at h
  refine ev_s i187_0 (p := 1) rfl ?_
  refine ev_s i187_1 (p := 2) (zic_0 _ _ _ _ _) ?_
  refine ev_s i187_2 (p := 4) (zib_60 _ _ _ _ _) ?_
  obtain ⟨r2, hr1, h⟩ := bd_some h
  refine ev_callS i187_4 zn8_50 zc8_50 zm111 (as := [zI x1, zI 0, zI 60]) (rest := []) rfl rfl (Nat.le_of_ble_eq_true rfl) (Nat.le_of_ble_eq_true rfl) (Nat.le_of_ble_eq_true rfl) (by omega) (l0 := [some (zI x1), some (zI 0), some (zI 60)]) rfl (p := 7) rfl (kM_in x1 0 60 σ r2 hr1 (d - 1) (by omega)) ?_
  change zEv d 187 7 [some (zR 8 0), some (zI x1), none] [zI r2] σ _
  refine ev_ifne i187_7 (t := 16) (by decide) (p := 10) rfl h (fun c3 h => ?_) (fun c3 h => ?_)
  · refine ev_s i187_10 (p := 11) rfl ?_
    refine ev_s i187_11 (p := 12) (zic_1 _ _ _ _ _) ?_
    obtain ⟨r6, s5, hr4, h⟩ := b2_some h
    refine ev_callV i187_12 zc8_58 zm110 zo110 (as' := [zI 1]) (rest := []) rfl rfl (Nat.le_of_ble_eq_true rfl) (Nat.le_of_ble_eq_true rfl) (Nat.le_of_ble_eq_true rfl) (by omega) (l0 := [some (zR 8 0), some (zI 1)]) rfl (p := 15) rfl (kM_error 1 σ (r6, s5) hr4 (d - 1) (by omega)) ?_
    change zEv d 187 15 [some (zR 8 0), some (zI x1), none] [zI r6] s5 _
    obtain rfl := Option.some.inj h
    exact ev_iret i187_15 zr187
  · refine ev_s i187_16 (p := 17) rfl ?_
    obtain ⟨s8, hr7, h⟩ := bd_some h
    refine ev_callV i187_17 zc8_234 zm114 zo114 (as' := []) (rest := []) rfl rfl (Nat.le_of_ble_eq_true rfl) (Nat.le_of_ble_eq_true rfl) (Nat.le_of_ble_eq_true rfl) (by omega) (l0 := [some (zR 8 0), none]) rfl (p := 20) rfl (kM_saves N σ s8 hr7 (d - 1) (by omega)) ?_
    change zEv d 187 20 [some (zR 8 0), some (zI x1), none] [] s8 _
    refine ev_s i187_20 (p := 21) rfl ?_
    refine ev_s i187_21 (p := 22) rfl ?_
    obtain ⟨s10, hr9, h⟩ := bd_some h
    refine ev_callV i187_22 zc8_206 zm155 zo155 (as' := [zI x1]) (rest := []) rfl rfl (Nat.le_of_ble_eq_true rfl) (Nat.le_of_ble_eq_true rfl) (Nat.le_of_ble_eq_true rfl) (by omega) (l0 := [some (zR 8 0), some (zI x1), none]) rfl (p := 25) rfl (kM_goesOn N x1 s8 s10 hr9 (d - 1) (by omega)) ?_
    change zEv d 187 25 [some (zR 8 0), some (zI x1), none] [] s10 _
    refine ev_s i187_25 (p := 26) rfl ?_
    obtain ⟨r12, hr11, h⟩ := bd_some h
    refine ev_callV i187_26 zc8_240 zm156 zo156 (as' := []) (rest := []) rfl rfl (Nat.le_of_ble_eq_true rfl) (Nat.le_of_ble_eq_true rfl) (Nat.le_of_ble_eq_true rfl) (by omega) (l0 := [some (zR 8 0), none, none]) rfl (p := 29) rfl (kM_tiedNow N s10 r12 hr11 (d - 1) (by omega)) ?_
    change zEv d 187 29 [some (zR 8 0), some (zI x1), none] [zI r12] s10 _
    refine ev_s i187_29 (p := 30) (l := [some (zR 8 0), some (zI x1), some (zI r12)]) rfl ?_
    refine ev_s i187_30 (p := 31) rfl ?_
    obtain ⟨s14, hr13, h⟩ := bd_some h
    refine ev_callV i187_31 zc8_237 zm115 zo115 (as' := []) (rest := []) rfl rfl (Nat.le_of_ble_eq_true rfl) (Nat.le_of_ble_eq_true rfl) (Nat.le_of_ble_eq_true rfl) (by omega) (l0 := [some (zR 8 0), none]) rfl (p := 34) rfl (kM_putsBack N s10 s14 hr13 (d - 1) (by omega)) ?_
    change zEv d 187 34 [some (zR 8 0), some (zI x1), some (zI r12)] [] s14 _
    refine ev_s i187_34 (p := 35) rfl ?_
    obtain rfl := Option.some.inj h
    exact ev_iret i187_35 zr187
/-! fA_soonest -/
def fA_soonest_L36 (N : Nat) : Nat → Int32 → Int32 → Int32 → zS → Option (Int32 × zS)
  | 0, _, _, _, _ => none
  | n + 1, y1, y2, y3, σ => (if 60 < y3 then zb2 (fA_refuse 2 σ) fun r15 s14 => some (r15, s14) else zgd (zin y1 8) ((if (σ 17 2 y1.toNatClampNeg) = y2 then some (y3, σ) else (fR_passDay N 2 σ).bind fun s19 => fA_soonest_L36 N n y1 y2 (y3 + 1) s19)))
set_option maxHeartbeats 4000000 in
theorem kA_soonest_L36 (N : Nat) (d : Nat) (hd : 5 ≤ d)  : ∀ n : Nat, ∀ (y1 : Int32) (y2 : Int32) (y3 : Int32) (σ : zS) (w : Int32 × zS), fA_soonest_L36 N n y1 y2 y3 σ = some w → zEv d 84 36 [some (zR 7 0), some (zI y1), some (zI y2), some (zI y3)] [] σ (some (zI w.1), w.2) := by
  intro n
  induction n with
  | zero =>
    intro y1 y2 y3 σ w h
    cases h
  | succ n ih =>
    intro y1 y2 y3 σ w h
    rw [fA_soonest_L36] at h
    refine ev_s i84_36 (p := 37) rfl ?_
    refine ev_s i84_37 (p := 39) (zib_60 _ _ _ _ _) ?_
    refine ev_cmpgt i84_39 (t := 70) (by decide) (p := 42) rfl h (fun c12 h => ?_) (fun c12 h => ?_)
    · refine ev_s i84_70 (p := 71) rfl ?_
      refine ev_s i84_71 (p := 72) (zic_2 _ _ _ _ _) ?_
      obtain ⟨r15, s14, hr13, h⟩ := b2_some h
      refine ev_callV i84_72 zc7_72 zm102 zo102 (as' := [zI 2]) (rest := []) rfl rfl (Nat.le_of_ble_eq_true rfl) (Nat.le_of_ble_eq_true rfl) (Nat.le_of_ble_eq_true rfl) (by omega) (l0 := [some (zR 7 0), some (zI 2)]) rfl (p := 75) rfl (kA_refuse 2 σ (r15, s14) hr13 (d - 1) (by omega)) ?_
      change zEv d 84 75 [some (zR 7 0), some (zI y1), some (zI y2), some (zI y3)] [zI r15] s14 _
      obtain rfl := Option.some.inj h
      exact ev_iret i84_75 zr84
    · refine ev_s i84_42 (p := 43) rfl ?_
      refine ev_getf i84_43 zf7_60 (u := zR 2 2) rfl (p := 46) rfl ?_
      refine ev_getf i84_46 zf7_93 (u := zR 17 2) rfl (p := 49) rfl ?_
      refine ev_s i84_49 (p := 50) rfl ?_
      refine ev_iald i84_50 rfl (n := 8) rfl (p := 51) rfl h (fun g16 h => ?_)
      refine ev_s i84_51 (p := 52) rfl ?_
      refine ev_cmpne i84_52 (t := 57) (by decide) (p := 55) rfl h (fun c17 h => ?_) (fun c17 h => ?_)
      · refine ev_s i84_55 (p := 56) rfl ?_
        obtain rfl := Option.some.inj h
        exact ev_iret i84_56 zr84
      · refine ev_s i84_57 (p := 58) rfl ?_
        refine ev_getf i84_58 zf7_60 (u := zR 2 2) rfl (p := 61) rfl ?_
        obtain ⟨s19, hr18, h⟩ := bd_some h
        refine ev_callV i84_61 zc7_170 zm36 zo36 (as' := []) (rest := []) rfl rfl (Nat.le_of_ble_eq_true rfl) (Nat.le_of_ble_eq_true rfl) (Nat.le_of_ble_eq_true rfl) (by omega) (l0 := [some (zR 2 2), none, none, none, none, none]) rfl (p := 64) rfl (kR_passDay N 2 σ s19 hr18 (d - 1) (by omega)) ?_
        change zEv d 84 64 [some (zR 7 0), some (zI y1), some (zI y2), some (zI y3)] [] s19 _
        refine ev_iinc i84_64 zii_1 rfl (l := [some (zR 7 0), some (zI y1), some (zI y2), some (zI (y3 + 1))]) rfl (p := 67) rfl ?_
        refine ev_goto i84_67 (t := 36) (by decide) ?_
        exact ih y1 y2 (y3 + 1) s19 w h
def fA_soonest_J17 (N : Nat) (σ : zS) : Option (Int32 × zS) := zb2 (fA_refuse 1 σ) fun r11 s10 => some (r11, s10)
set_option maxHeartbeats 4000000 in
theorem kA_soonest_J17 (N : Nat) (d : Nat) (hd : 5 ≤ d)  : ∀ (σ : zS) (w : Int32 × zS) (z1 : Option zA) (z2 : Option zA) (hz2 : znl z2 = true) (z3 : Option zA), fA_soonest_J17 N σ = some w → zEv d 84 17 [some (zR 7 0), z1, z2, z3] [] σ (some (zI w.1), w.2) := by
  intro σ w z1 z2 hz2 z3 h
  unfold fA_soonest_J17 at h
  refine ev_s i84_17 (p := 18) rfl ?_
  refine ev_s i84_18 (p := 19) (zic_1 _ _ _ _ _) ?_
  obtain ⟨r11, s10, hr9, h⟩ := b2_some h
  refine ev_callV i84_19 zc7_72 zm102 zo102 (as' := [zI 1]) (rest := []) rfl rfl (Nat.le_of_ble_eq_true rfl) (Nat.le_of_ble_eq_true rfl) (Nat.le_of_ble_eq_true rfl) (by omega) (l0 := [some (zR 7 0), some (zI 1)]) rfl (p := 22) rfl (kA_refuse 1 σ (r11, s10) hr9 (d - 1) (by omega)) ?_
  change zEv d 84 22 [some (zR 7 0), z1, z2, z3] [zI r11] s10 _
  obtain rfl := Option.some.inj h
  exact ev_iret i84_22 zr84
def fA_soonest (N : Nat) (x1 : Int32) (x2 : Int32) (σ : zS) : Option (Int32 × zS) := (fA_isThere x1 σ).bind fun r2 => (if r2 = 0 then fA_soonest_J17 N σ else (fA_within x2 63).bind fun r5 => (if r5 = 0 then fA_soonest_J17 N σ else (fR_copy 2 0 σ).bind fun s8 => fA_soonest_L36 N N x1 x2 0 s8))
set_option maxHeartbeats 4000000 in
theorem kA_soonest (N : Nat) (x1 : Int32) (x2 : Int32) (σ : zS) (w : Int32 × zS) (h : fA_soonest N x1 x2 σ = some w) (d : Nat) (hd : 5 ≤ d) : zEv d 84 0 [some (zR 7 0), some (zI x1), some (zI x2), none] [] σ (some (zI w.1), w.2) := by
  unfold fA_soonest at h
  refine ev_s i84_0 (p := 1) rfl ?_
  refine ev_s i84_1 (p := 2) rfl ?_
  obtain ⟨r2, hr1, h⟩ := bd_some h
  refine ev_callV i84_2 zc7_68 zm104 zo104 (as' := [zI x1]) (rest := []) rfl rfl (Nat.le_of_ble_eq_true rfl) (Nat.le_of_ble_eq_true rfl) (Nat.le_of_ble_eq_true rfl) (by omega) (l0 := [some (zR 7 0), some (zI x1)]) rfl (p := 5) rfl (kA_isThere x1 σ r2 hr1 (d - 1) (by omega)) ?_
  change zEv d 84 5 [some (zR 7 0), some (zI x1), some (zI x2), none] [zI r2] σ _
  refine ev_ifeq i84_5 (t := 17) (by decide) (p := 8) rfl h (fun c3 h => ?_) (fun c3 h => ?_)
  · exact kA_soonest_J17 N d hd σ w _ _ rfl _ h
  · refine ev_s i84_8 (p := 9) rfl ?_
    refine ev_s i84_9 (p := 11) (zib_63 _ _ _ _ _) ?_
    obtain ⟨r5, hr4, h⟩ := bd_some h
    refine ev_callS i84_11 zn7_64 zc7_64 zm103 (as := [zI x2, zI 63]) (rest := []) rfl rfl (Nat.le_of_ble_eq_true rfl) (Nat.le_of_ble_eq_true rfl) (Nat.le_of_ble_eq_true rfl) (by omega) (l0 := [some (zI x2), some (zI 63)]) rfl (p := 14) rfl (kA_within x2 63 σ r5 hr4 (d - 1) (by omega)) ?_
    change zEv d 84 14 [some (zR 7 0), some (zI x1), some (zI x2), none] [zI r5] σ _
    refine ev_ifne i84_14 (t := 23) (by decide) (p := 17) rfl h (fun c6 h => ?_) (fun c6 h => ?_)
    · exact kA_soonest_J17 N d hd σ w _ _ rfl _ h
    · refine ev_s i84_23 (p := 24) rfl ?_
      refine ev_getf i84_24 zf7_60 (u := zR 2 2) rfl (p := 27) rfl ?_
      refine ev_s i84_27 (p := 28) rfl ?_
      refine ev_getf i84_28 zf7_47 (u := zR 2 0) rfl (p := 31) rfl ?_
      obtain ⟨s8, hr7, h⟩ := bd_some h
      refine ev_callV i84_31 zc7_194 zm17 zo17 (as' := [zR 2 0]) (rest := []) rfl rfl (Nat.le_of_ble_eq_true rfl) (Nat.le_of_ble_eq_true rfl) (Nat.le_of_ble_eq_true rfl) (by omega) (l0 := [some (zR 2 2), some (zR 2 0)]) rfl (p := 34) rfl (kR_copy 2 0 σ s8 hr7 (d - 1) (by omega)) ?_
      change zEv d 84 34 [some (zR 7 0), some (zI x1), some (zI x2), none] [] s8 _
      refine ev_s i84_34 (p := 35) (zic_0 _ _ _ _ _) ?_
      refine ev_s i84_35 (p := 36) (l := [some (zR 7 0), some (zI x1), some (zI x2), some (zI 0)]) rfl ?_
      exact kA_soonest_L36 N d hd N x1 x2 0 s8 w h
/-! fM_soonest -/
def fM_soonest_J53 (N : Nat) (y3 : Int32) (σ : zS) : Option (Int32 × zS) := (fM_putsBack N σ).bind fun s19 => (if y3 ≤ 60 then some (y3, s19) else zb2 (fM_error 2 s19) fun r23 s22 => some (r23, s22))
set_option maxHeartbeats 4000000 in
theorem kM_soonest_J53 (N : Nat) (d : Nat) (hd : 7 ≤ d)  : ∀ (y3 : Int32) (σ : zS) (w : Int32 × zS) (z1 : Option zA) (z2 : Option zA) (hz2 : znl z2 = true), fM_soonest_J53 N y3 σ = some w → zEv d 188 53 [some (zR 8 0), z1, z2, some (zI y3)] [] σ (some (zI w.1), w.2) := by
  intro y3 σ w z1 z2 hz2 h
  unfold fM_soonest_J53 at h
  refine ev_s i188_53 (p := 54) rfl ?_
  obtain ⟨s19, hr18, h⟩ := bd_some h
  refine ev_callV i188_54 zc8_237 zm115 zo115 (as' := []) (rest := []) rfl rfl (Nat.le_of_ble_eq_true rfl) (Nat.le_of_ble_eq_true rfl) (Nat.le_of_ble_eq_true rfl) (by omega) (l0 := [some (zR 8 0), none]) rfl (p := 57) rfl (kM_putsBack N σ s19 hr18 (d - 1) (by omega)) ?_
  change zEv d 188 57 [some (zR 8 0), z1, z2, some (zI y3)] [] s19 _
  refine ev_s i188_57 (p := 58) rfl ?_
  refine ev_s i188_58 (p := 60) (zib_60 _ _ _ _ _) ?_
  refine ev_cmple i188_60 (t := 71) (by decide) (p := 63) rfl h (fun c20 h => ?_) (fun c20 h => ?_)
  · refine ev_s i188_71 (p := 72) rfl ?_
    obtain rfl := Option.some.inj h
    exact ev_iret i188_72 zr188
  · refine ev_s i188_63 (p := 64) rfl ?_
    refine ev_s i188_64 (p := 65) (zic_2 _ _ _ _ _) ?_
    obtain ⟨r23, s22, hr21, h⟩ := b2_some h
    refine ev_callV i188_65 zc8_58 zm110 zo110 (as' := [zI 2]) (rest := []) rfl rfl (Nat.le_of_ble_eq_true rfl) (Nat.le_of_ble_eq_true rfl) (Nat.le_of_ble_eq_true rfl) (by omega) (l0 := [some (zR 8 0), some (zI 2)]) rfl (p := 68) rfl (kM_error 2 s19 (r23, s22) hr21 (d - 1) (by omega)) ?_
    change zEv d 188 68 [some (zR 8 0), z1, z2, some (zI y3)] [zI r23] s22 _
    refine ev_goto i188_68 (t := 72) (by decide) ?_
    obtain rfl := Option.some.inj h
    exact ev_iret i188_72 zr188
def fM_soonest_L27 (N : Nat) : Nat → Int32 → Int32 → Int32 → zS → Option (Int32 × zS)
  | 0, _, _, _, _ => none
  | n + 1, y1, y2, y3, σ => (if 60 < y3 then fM_soonest_J53 N y3 σ else (fM_its y1 3 σ).bind fun r14 => (if r14 = y2 then fM_soonest_J53 N y3 σ else (fM_day1 N σ).bind fun s17 => fM_soonest_L27 N n y1 y2 (y3 + 1) s17))
set_option maxHeartbeats 4000000 in
theorem kM_soonest_L27 (N : Nat) (d : Nat) (hd : 7 ≤ d)  : ∀ n : Nat, ∀ (y1 : Int32) (y2 : Int32) (y3 : Int32) (σ : zS) (w : Int32 × zS), fM_soonest_L27 N n y1 y2 y3 σ = some w → zEv d 188 27 [some (zR 8 0), some (zI y1), some (zI y2), some (zI y3)] [] σ (some (zI w.1), w.2) := by
  intro n
  induction n with
  | zero =>
    intro y1 y2 y3 σ w h
    cases h
  | succ n ih =>
    intro y1 y2 y3 σ w h
    rw [fM_soonest_L27] at h
    refine ev_s i188_27 (p := 28) rfl ?_
    refine ev_s i188_28 (p := 30) (zib_60 _ _ _ _ _) ?_
    refine ev_cmpgt i188_30 (t := 53) (by decide) (p := 33) rfl h (fun c12 h => ?_) (fun c12 h => ?_)
    · exact kM_soonest_J53 N d hd y3 σ w _ _ rfl h
    · refine ev_s i188_33 (p := 34) rfl ?_
      refine ev_s i188_34 (p := 35) rfl ?_
      refine ev_s i188_35 (p := 36) (zic_3 _ _ _ _ _) ?_
      obtain ⟨r14, hr13, h⟩ := bd_some h
      refine ev_callV i188_36 zc8_54 zm118 zo118 (as' := [zI y1, zI 3]) (rest := []) rfl rfl (Nat.le_of_ble_eq_true rfl) (Nat.le_of_ble_eq_true rfl) (Nat.le_of_ble_eq_true rfl) (by omega) (l0 := [some (zR 8 0), some (zI y1), some (zI 3)]) rfl (p := 39) rfl (kM_its y1 3 σ r14 hr13 (d - 1) (by omega)) ?_
      change zEv d 188 39 [some (zR 8 0), some (zI y1), some (zI y2), some (zI y3)] [zI r14] σ _
      refine ev_s i188_39 (p := 40) rfl ?_
      refine ev_cmpeq i188_40 (t := 53) (by decide) (p := 43) rfl h (fun c15 h => ?_) (fun c15 h => ?_)
      · exact kM_soonest_J53 N d hd y3 σ w _ _ rfl h
      · refine ev_s i188_43 (p := 44) rfl ?_
        obtain ⟨s17, hr16, h⟩ := bd_some h
        refine ev_callV i188_44 zc8_188 zm154 zo154 (as' := []) (rest := []) rfl rfl (Nat.le_of_ble_eq_true rfl) (Nat.le_of_ble_eq_true rfl) (Nat.le_of_ble_eq_true rfl) (by omega) (l0 := [some (zR 8 0), none, none, none, none, none]) rfl (p := 47) rfl (kM_day1 N σ s17 hr16 (d - 1) (by omega)) ?_
        change zEv d 188 47 [some (zR 8 0), some (zI y1), some (zI y2), some (zI y3)] [] s17 _
        refine ev_iinc i188_47 zii_1 rfl (l := [some (zR 8 0), some (zI y1), some (zI y2), some (zI (y3 + 1))]) rfl (p := 50) rfl ?_
        refine ev_goto i188_50 (t := 27) (by decide) ?_
        exact ih y1 y2 (y3 + 1) s17 w h
def fM_soonest_J15 (N : Nat) (σ : zS) : Option (Int32 × zS) := zb2 (fM_error 1 σ) fun r11 s10 => some (r11, s10)
set_option maxHeartbeats 4000000 in
theorem kM_soonest_J15 (N : Nat) (d : Nat) (hd : 7 ≤ d)  : ∀ (σ : zS) (w : Int32 × zS) (z1 : Option zA) (z2 : Option zA) (hz2 : znl z2 = true) (z3 : Option zA), fM_soonest_J15 N σ = some w → zEv d 188 15 [some (zR 8 0), z1, z2, z3] [] σ (some (zI w.1), w.2) := by
  intro σ w z1 z2 hz2 z3 h
  unfold fM_soonest_J15 at h
  refine ev_s i188_15 (p := 16) rfl ?_
  refine ev_s i188_16 (p := 17) (zic_1 _ _ _ _ _) ?_
  obtain ⟨r11, s10, hr9, h⟩ := b2_some h
  refine ev_callV i188_17 zc8_58 zm110 zo110 (as' := [zI 1]) (rest := []) rfl rfl (Nat.le_of_ble_eq_true rfl) (Nat.le_of_ble_eq_true rfl) (Nat.le_of_ble_eq_true rfl) (by omega) (l0 := [some (zR 8 0), some (zI 1)]) rfl (p := 20) rfl (kM_error 1 σ (r11, s10) hr9 (d - 1) (by omega)) ?_
  change zEv d 188 20 [some (zR 8 0), z1, z2, z3] [zI r11] s10 _
  obtain rfl := Option.some.inj h
  exact ev_iret i188_20 zr188
def fM_soonest (N : Nat) (x1 : Int32) (x2 : Int32) (σ : zS) : Option (Int32 × zS) := (fM_isOne x1 σ).bind fun r2 => (if r2 = 0 then fM_soonest_J15 N σ else (fM_isCell x2).bind fun r5 => (if r5 = 0 then fM_soonest_J15 N σ else (fM_saves N σ).bind fun s8 => fM_soonest_L27 N N x1 x2 0 s8))
set_option maxHeartbeats 4000000 in
theorem kM_soonest (N : Nat) (x1 : Int32) (x2 : Int32) (σ : zS) (w : Int32 × zS) (h : fM_soonest N x1 x2 σ = some w) (d : Nat) (hd : 7 ≤ d) : zEv d 188 0 [some (zR 8 0), some (zI x1), some (zI x2), none] [] σ (some (zI w.1), w.2) := by
  unfold fM_soonest at h
  refine ev_s i188_0 (p := 1) rfl ?_
  refine ev_s i188_1 (p := 2) rfl ?_
  obtain ⟨r2, hr1, h⟩ := bd_some h
  refine ev_callV i188_2 zc8_194 zm116 zo116 (as' := [zI x1]) (rest := []) rfl rfl (Nat.le_of_ble_eq_true rfl) (Nat.le_of_ble_eq_true rfl) (Nat.le_of_ble_eq_true rfl) (by omega) (l0 := [some (zR 8 0), some (zI x1)]) rfl (p := 5) rfl (kM_isOne x1 σ r2 hr1 (d - 1) (by omega)) ?_
  change zEv d 188 5 [some (zR 8 0), some (zI x1), some (zI x2), none] [zI r2] σ _
  refine ev_ifeq i188_5 (t := 15) (by decide) (p := 8) rfl h (fun c3 h => ?_) (fun c3 h => ?_)
  · exact kM_soonest_J15 N d hd σ w _ _ rfl _ h
  · refine ev_s i188_8 (p := 9) rfl ?_
    obtain ⟨r5, hr4, h⟩ := bd_some h
    refine ev_callS i188_9 zn8_172 zc8_172 zm117 (as := [zI x2]) (rest := []) rfl rfl (Nat.le_of_ble_eq_true rfl) (Nat.le_of_ble_eq_true rfl) (Nat.le_of_ble_eq_true rfl) (by omega) (l0 := [some (zI x2)]) rfl (p := 12) rfl (kM_isCell x2 σ r5 hr4 (d - 1) (by omega)) ?_
    change zEv d 188 12 [some (zR 8 0), some (zI x1), some (zI x2), none] [zI r5] σ _
    refine ev_ifne i188_12 (t := 21) (by decide) (p := 15) rfl h (fun c6 h => ?_) (fun c6 h => ?_)
    · exact kM_soonest_J15 N d hd σ w _ _ rfl _ h
    · refine ev_s i188_21 (p := 22) rfl ?_
      obtain ⟨s8, hr7, h⟩ := bd_some h
      refine ev_callV i188_22 zc8_234 zm114 zo114 (as' := []) (rest := []) rfl rfl (Nat.le_of_ble_eq_true rfl) (Nat.le_of_ble_eq_true rfl) (Nat.le_of_ble_eq_true rfl) (by omega) (l0 := [some (zR 8 0), none]) rfl (p := 25) rfl (kM_saves N σ s8 hr7 (d - 1) (by omega)) ?_
      change zEv d 188 25 [some (zR 8 0), some (zI x1), some (zI x2), none] [] s8 _
      refine ev_s i188_25 (p := 26) (zic_0 _ _ _ _ _) ?_
      refine ev_s i188_26 (p := 27) (l := [some (zR 8 0), some (zI x1), some (zI x2), some (zI 0)]) rfl ?_
      exact kM_soonest_L27 N d hd N x1 x2 0 s8 w h
/-! fA_staysTied -/
def fA_staysTied_J54 (N : Nat) (y1 : Int32) (σ : zS) : Option (Int32 × zS) := (fR_isTied 2 y1 σ).bind fun r12 => zgd (r12 = 0 ∨ r12 = 1) (some (r12, σ))
set_option maxHeartbeats 4000000 in
theorem kA_staysTied_J54 (N : Nat) (d : Nat) (hd : 5 ≤ d)  : ∀ (y1 : Int32) (σ : zS) (w : Int32 × zS) (z2 : Option zA) (z3 : Option zA) (hz3 : znl z3 = true) (z4 : Option zA), fA_staysTied_J54 N y1 σ = some w → zEv d 107 54 [some (zR 7 0), some (zI y1), z2, z3, z4] [] σ (some (zI w.1), w.2) := by
  intro y1 σ w z2 z3 hz3 z4 h
  unfold fA_staysTied_J54 at h
  refine ev_s i107_54 (p := 55) rfl ?_
  refine ev_getf i107_55 zf7_60 (u := zR 2 2) rfl (p := 58) rfl ?_
  refine ev_s i107_58 (p := 59) rfl ?_
  obtain ⟨r12, hr11, h⟩ := bd_some h
  refine ev_callV i107_59 zc7_114 zm19 zo19 (as' := [zI y1]) (rest := []) rfl rfl (Nat.le_of_ble_eq_true rfl) (Nat.le_of_ble_eq_true rfl) (Nat.le_of_ble_eq_true rfl) (by omega) (l0 := [some (zR 2 2), some (zI y1)]) rfl (p := 62) rfl (kR_isTied 2 y1 σ r12 hr11 (d - 1) (by omega)) ?_
  change zEv d 107 62 [some (zR 7 0), some (zI y1), z2, z3, z4] [zI r12] σ _
  obtain ⟨g13, h⟩ := zgd_some h
  obtain rfl := Option.some.inj h
  exact ev_zret i107_62 zr107 g13
def fA_staysTied_L24 (N : Nat) : Nat → Int32 → Int32 → Int32 → zS → Option (Int32 × zS)
  | 0, _, _, _, _ => none
  | n + 1, y1, y3, y4, σ => (if y3 ≤ y4 then fA_staysTied_J54 N y1 σ else (fR_isTied 2 y1 σ).bind fun r7 => (if r7 = 0 then fA_staysTied_J54 N y1 σ else (fR_passDay N 2 σ).bind fun s10 => fA_staysTied_L24 N n y1 y3 (y4 + 1) s10))
set_option maxHeartbeats 4000000 in
theorem kA_staysTied_L24 (N : Nat) (d : Nat) (hd : 5 ≤ d)  : ∀ n : Nat, ∀ (y1 : Int32) (y3 : Int32) (y4 : Int32) (σ : zS) (w : Int32 × zS) (z2 : Option zA), fA_staysTied_L24 N n y1 y3 y4 σ = some w → zEv d 107 24 [some (zR 7 0), some (zI y1), z2, some (zI y3), some (zI y4)] [] σ (some (zI w.1), w.2) := by
  intro n
  induction n with
  | zero =>
    intro y1 y3 y4 σ w z2 h
    cases h
  | succ n ih =>
    intro y1 y3 y4 σ w z2 h
    rw [fA_staysTied_L24] at h
    refine ev_s i107_24 (p := 26) rfl ?_
    refine ev_s i107_26 (p := 27) rfl ?_
    refine ev_cmpge i107_27 (t := 54) (by decide) (p := 30) rfl h (fun c5 h => ?_) (fun c5 h => ?_)
    · exact kA_staysTied_J54 N d hd y1 σ w _ _ rfl _ h
    · refine ev_s i107_30 (p := 31) rfl ?_
      refine ev_getf i107_31 zf7_60 (u := zR 2 2) rfl (p := 34) rfl ?_
      refine ev_s i107_34 (p := 35) rfl ?_
      obtain ⟨r7, hr6, h⟩ := bd_some h
      refine ev_callV i107_35 zc7_114 zm19 zo19 (as' := [zI y1]) (rest := []) rfl rfl (Nat.le_of_ble_eq_true rfl) (Nat.le_of_ble_eq_true rfl) (Nat.le_of_ble_eq_true rfl) (by omega) (l0 := [some (zR 2 2), some (zI y1)]) rfl (p := 38) rfl (kR_isTied 2 y1 σ r7 hr6 (d - 1) (by omega)) ?_
      change zEv d 107 38 [some (zR 7 0), some (zI y1), z2, some (zI y3), some (zI y4)] [zI r7] σ _
      refine ev_ifeq i107_38 (t := 54) (by decide) (p := 41) rfl h (fun c8 h => ?_) (fun c8 h => ?_)
      · exact kA_staysTied_J54 N d hd y1 σ w _ _ rfl _ h
      · refine ev_s i107_41 (p := 42) rfl ?_
        refine ev_getf i107_42 zf7_60 (u := zR 2 2) rfl (p := 45) rfl ?_
        obtain ⟨s10, hr9, h⟩ := bd_some h
        refine ev_callV i107_45 zc7_170 zm36 zo36 (as' := []) (rest := []) rfl rfl (Nat.le_of_ble_eq_true rfl) (Nat.le_of_ble_eq_true rfl) (Nat.le_of_ble_eq_true rfl) (by omega) (l0 := [some (zR 2 2), none, none, none, none, none]) rfl (p := 48) rfl (kR_passDay N 2 σ s10 hr9 (d - 1) (by omega)) ?_
        change zEv d 107 48 [some (zR 7 0), some (zI y1), z2, some (zI y3), some (zI y4)] [] s10 _
        refine ev_iinc i107_48 zii_1 rfl (l := [some (zR 7 0), some (zI y1), z2, some (zI y3), some (zI (y4 + 1))]) rfl (p := 51) rfl ?_
        refine ev_goto i107_51 (t := 24) (by decide) ?_
        exact ih y1 y3 (y4 + 1) s10 w _ h
def fA_staysTied (N : Nat) (x1 : Int32) (x2 : Int32) (x3 : Int32) (σ : zS) : Option (Int32 × zS) := (fR_copy 2 0 σ).bind fun s2 => zgd (zin x1 8) (zlt (zup s2 19 2 x1.toNatClampNeg x2) fun s3 => fA_staysTied_L24 N N x1 x3 0 s3)
set_option maxHeartbeats 4000000 in
theorem kA_staysTied (N : Nat) (x1 : Int32) (x2 : Int32) (x3 : Int32) (σ : zS) (w : Int32 × zS) (h : fA_staysTied N x1 x2 x3 σ = some w) (d : Nat) (hd : 5 ≤ d) : zEv d 107 0 [some (zR 7 0), some (zI x1), some (zI x2), some (zI x3), none] [] σ (some (zI w.1), w.2) := by
  unfold fA_staysTied at h
  refine ev_s i107_0 (p := 1) rfl ?_
  refine ev_getf i107_1 zf7_60 (u := zR 2 2) rfl (p := 4) rfl ?_
  refine ev_s i107_4 (p := 5) rfl ?_
  refine ev_getf i107_5 zf7_47 (u := zR 2 0) rfl (p := 8) rfl ?_
  obtain ⟨s2, hr1, h⟩ := bd_some h
  refine ev_callV i107_8 zc7_194 zm17 zo17 (as' := [zR 2 0]) (rest := []) rfl rfl (Nat.le_of_ble_eq_true rfl) (Nat.le_of_ble_eq_true rfl) (Nat.le_of_ble_eq_true rfl) (by omega) (l0 := [some (zR 2 2), some (zR 2 0)]) rfl (p := 11) rfl (kR_copy 2 0 σ s2 hr1 (d - 1) (by omega)) ?_
  change zEv d 107 11 [some (zR 7 0), some (zI x1), some (zI x2), some (zI x3), none] [] s2 _
  refine ev_s i107_11 (p := 12) rfl ?_
  refine ev_getf i107_12 zf7_60 (u := zR 2 2) rfl (p := 15) rfl ?_
  refine ev_getf i107_15 zf7_99 (u := zR 19 2) rfl (p := 18) rfl ?_
  refine ev_s i107_18 (p := 19) rfl ?_
  refine ev_s i107_19 (p := 20) rfl ?_
  refine ev_iast i107_20 rfl (n := 8) rfl (p := 21) rfl h (fun g4 h => ?_)
  refine ev_lets h (fun s3 es3 h => ?_)
  refine ev_s i107_21 (p := 22) (zic_0 _ _ _ _ _) ?_
  refine ev_s i107_22 (p := 24) (l := [some (zR 7 0), some (zI x1), some (zI x2), some (zI x3), some (zI 0)]) rfl ?_
  exact kA_staysTied_L24 N d hd N x1 x3 0 s3 w _ h
/-! fA_spareFor -/
def fA_spareFor_L42 (N : Nat) : Nat → Int32 → Int32 → Int32 → zS → Option (Int32 × zS)
  | 0, _, _, _, _ => none
  | n + 1, y1, y2, y3, σ => (if 99 < y3 then zb2 (fA_refuse 2 σ) fun r19 s18 => some (r19, s18) else zb2 (fA_staysTied N y1 y3 y2 σ) fun r22 s21 => (if r22 = 0 then fA_spareFor_L42 N n y1 y2 (y3 + 1) s21 else some (y3, s21)))
set_option maxHeartbeats 4000000 in
theorem kA_spareFor_L42 (N : Nat) (d : Nat) (hd : 6 ≤ d)  : ∀ n : Nat, ∀ (y1 : Int32) (y2 : Int32) (y3 : Int32) (σ : zS) (w : Int32 × zS), fA_spareFor_L42 N n y1 y2 y3 σ = some w → zEv d 85 42 [some (zR 7 0), some (zI y1), some (zI y2), some (zI y3)] [] σ (some (zI w.1), w.2) := by
  intro n
  induction n with
  | zero =>
    intro y1 y2 y3 σ w h
    cases h
  | succ n ih =>
    intro y1 y2 y3 σ w h
    rw [fA_spareFor_L42] at h
    refine ev_s i85_42 (p := 43) rfl ?_
    refine ev_s i85_43 (p := 45) (zib_99 _ _ _ _ _) ?_
    refine ev_cmpgt i85_45 (t := 66) (by decide) (p := 48) rfl h (fun c16 h => ?_) (fun c16 h => ?_)
    · refine ev_s i85_66 (p := 67) rfl ?_
      refine ev_s i85_67 (p := 68) (zic_2 _ _ _ _ _) ?_
      obtain ⟨r19, s18, hr17, h⟩ := b2_some h
      refine ev_callV i85_68 zc7_72 zm102 zo102 (as' := [zI 2]) (rest := []) rfl rfl (Nat.le_of_ble_eq_true rfl) (Nat.le_of_ble_eq_true rfl) (Nat.le_of_ble_eq_true rfl) (by omega) (l0 := [some (zR 7 0), some (zI 2)]) rfl (p := 71) rfl (kA_refuse 2 σ (r19, s18) hr17 (d - 1) (by omega)) ?_
      change zEv d 85 71 [some (zR 7 0), some (zI y1), some (zI y2), some (zI y3)] [zI r19] s18 _
      obtain rfl := Option.some.inj h
      exact ev_iret i85_71 zr85
    · refine ev_s i85_48 (p := 49) rfl ?_
      refine ev_s i85_49 (p := 50) rfl ?_
      refine ev_s i85_50 (p := 51) rfl ?_
      refine ev_s i85_51 (p := 52) rfl ?_
      obtain ⟨r22, s21, hr20, h⟩ := b2_some h
      refine ev_callV i85_52 zc7_202 zm107 zo107 (as' := [zI y1, zI y3, zI y2]) (rest := []) rfl rfl (Nat.le_of_ble_eq_true rfl) (Nat.le_of_ble_eq_true rfl) (Nat.le_of_ble_eq_true rfl) (by omega) (l0 := [some (zR 7 0), some (zI y1), some (zI y3), some (zI y2), none]) rfl (p := 55) rfl (kA_staysTied N y1 y3 y2 σ (r22, s21) hr20 (d - 1) (by omega)) ?_
      change zEv d 85 55 [some (zR 7 0), some (zI y1), some (zI y2), some (zI y3)] [zI r22] s21 _
      refine ev_ifeq i85_55 (t := 60) (by decide) (p := 58) rfl h (fun c23 h => ?_) (fun c23 h => ?_)
      · refine ev_iinc i85_60 zii_1 rfl (l := [some (zR 7 0), some (zI y1), some (zI y2), some (zI (y3 + 1))]) rfl (p := 63) rfl ?_
        refine ev_goto i85_63 (t := 42) (by decide) ?_
        exact ih y1 y2 (y3 + 1) s21 w h
      · refine ev_s i85_58 (p := 59) rfl ?_
        obtain rfl := Option.some.inj h
        exact ev_iret i85_59 zr85
def fA_spareFor_J17 (N : Nat) (σ : zS) : Option (Int32 × zS) := zb2 (fA_refuse 1 σ) fun r15 s14 => some (r15, s14)
set_option maxHeartbeats 4000000 in
theorem kA_spareFor_J17 (N : Nat) (d : Nat) (hd : 6 ≤ d)  : ∀ (σ : zS) (w : Int32 × zS) (z1 : Option zA) (z2 : Option zA) (hz2 : znl z2 = true) (z3 : Option zA), fA_spareFor_J17 N σ = some w → zEv d 85 17 [some (zR 7 0), z1, z2, z3] [] σ (some (zI w.1), w.2) := by
  intro σ w z1 z2 hz2 z3 h
  unfold fA_spareFor_J17 at h
  refine ev_s i85_17 (p := 18) rfl ?_
  refine ev_s i85_18 (p := 19) (zic_1 _ _ _ _ _) ?_
  obtain ⟨r15, s14, hr13, h⟩ := b2_some h
  refine ev_callV i85_19 zc7_72 zm102 zo102 (as' := [zI 1]) (rest := []) rfl rfl (Nat.le_of_ble_eq_true rfl) (Nat.le_of_ble_eq_true rfl) (Nat.le_of_ble_eq_true rfl) (by omega) (l0 := [some (zR 7 0), some (zI 1)]) rfl (p := 22) rfl (kA_refuse 1 σ (r15, s14) hr13 (d - 1) (by omega)) ?_
  change zEv d 85 22 [some (zR 7 0), z1, z2, z3] [zI r15] s14 _
  obtain rfl := Option.some.inj h
  exact ev_iret i85_22 zr85
def fA_spareFor (N : Nat) (x1 : Int32) (x2 : Int32) (σ : zS) : Option (Int32 × zS) := (fA_isThere x1 σ).bind fun r2 => (if r2 = 0 then fA_spareFor_J17 N σ else (fA_within x2 40).bind fun r5 => (if r5 = 0 then fA_spareFor_J17 N σ else (fR_isTied 0 x1 σ).bind fun r8 => (if r8 = 0 then zb2 (fA_refuse 3 σ) fun r12 s11 => some (r12, s11) else fA_spareFor_L42 N N x1 x2 0 σ)))
set_option maxHeartbeats 4000000 in
theorem kA_spareFor (N : Nat) (x1 : Int32) (x2 : Int32) (σ : zS) (w : Int32 × zS) (h : fA_spareFor N x1 x2 σ = some w) (d : Nat) (hd : 6 ≤ d) : zEv d 85 0 [some (zR 7 0), some (zI x1), some (zI x2), none] [] σ (some (zI w.1), w.2) := by
  unfold fA_spareFor at h
  refine ev_s i85_0 (p := 1) rfl ?_
  refine ev_s i85_1 (p := 2) rfl ?_
  obtain ⟨r2, hr1, h⟩ := bd_some h
  refine ev_callV i85_2 zc7_68 zm104 zo104 (as' := [zI x1]) (rest := []) rfl rfl (Nat.le_of_ble_eq_true rfl) (Nat.le_of_ble_eq_true rfl) (Nat.le_of_ble_eq_true rfl) (by omega) (l0 := [some (zR 7 0), some (zI x1)]) rfl (p := 5) rfl (kA_isThere x1 σ r2 hr1 (d - 1) (by omega)) ?_
  change zEv d 85 5 [some (zR 7 0), some (zI x1), some (zI x2), none] [zI r2] σ _
  refine ev_ifeq i85_5 (t := 17) (by decide) (p := 8) rfl h (fun c3 h => ?_) (fun c3 h => ?_)
  · exact kA_spareFor_J17 N d hd σ w _ _ rfl _ h
  · refine ev_s i85_8 (p := 9) rfl ?_
    refine ev_s i85_9 (p := 11) (zib_40 _ _ _ _ _) ?_
    obtain ⟨r5, hr4, h⟩ := bd_some h
    refine ev_callS i85_11 zn7_64 zc7_64 zm103 (as := [zI x2, zI 40]) (rest := []) rfl rfl (Nat.le_of_ble_eq_true rfl) (Nat.le_of_ble_eq_true rfl) (Nat.le_of_ble_eq_true rfl) (by omega) (l0 := [some (zI x2), some (zI 40)]) rfl (p := 14) rfl (kA_within x2 40 σ r5 hr4 (d - 1) (by omega)) ?_
    change zEv d 85 14 [some (zR 7 0), some (zI x1), some (zI x2), none] [zI r5] σ _
    refine ev_ifne i85_14 (t := 23) (by decide) (p := 17) rfl h (fun c6 h => ?_) (fun c6 h => ?_)
    · exact kA_spareFor_J17 N d hd σ w _ _ rfl _ h
    · refine ev_s i85_23 (p := 24) rfl ?_
      refine ev_getf i85_24 zf7_47 (u := zR 2 0) rfl (p := 27) rfl ?_
      refine ev_s i85_27 (p := 28) rfl ?_
      obtain ⟨r8, hr7, h⟩ := bd_some h
      refine ev_callV i85_28 zc7_114 zm19 zo19 (as' := [zI x1]) (rest := []) rfl rfl (Nat.le_of_ble_eq_true rfl) (Nat.le_of_ble_eq_true rfl) (Nat.le_of_ble_eq_true rfl) (by omega) (l0 := [some (zR 2 0), some (zI x1)]) rfl (p := 31) rfl (kR_isTied 0 x1 σ r8 hr7 (d - 1) (by omega)) ?_
      change zEv d 85 31 [some (zR 7 0), some (zI x1), some (zI x2), none] [zI r8] σ _
      refine ev_ifne i85_31 (t := 40) (by decide) (p := 34) rfl h (fun c9 h => ?_) (fun c9 h => ?_)
      · refine ev_s i85_34 (p := 35) rfl ?_
        refine ev_s i85_35 (p := 36) (zic_3 _ _ _ _ _) ?_
        obtain ⟨r12, s11, hr10, h⟩ := b2_some h
        refine ev_callV i85_36 zc7_72 zm102 zo102 (as' := [zI 3]) (rest := []) rfl rfl (Nat.le_of_ble_eq_true rfl) (Nat.le_of_ble_eq_true rfl) (Nat.le_of_ble_eq_true rfl) (by omega) (l0 := [some (zR 7 0), some (zI 3)]) rfl (p := 39) rfl (kA_refuse 3 σ (r12, s11) hr10 (d - 1) (by omega)) ?_
        change zEv d 85 39 [some (zR 7 0), some (zI x1), some (zI x2), none] [zI r12] s11 _
        obtain rfl := Option.some.inj h
        exact ev_iret i85_39 zr85
      · refine ev_s i85_40 (p := 41) (zic_0 _ _ _ _ _) ?_
        refine ev_s i85_41 (p := 42) (l := [some (zR 7 0), some (zI x1), some (zI x2), some (zI 0)]) rfl ?_
        exact kA_spareFor_L42 N d hd N x1 x2 0 σ w h
/-! fM_holdsWith -/
def fM_holdsWith (N : Nat) (x1 : Int32) (x2 : Int32) (x3 : Int32) (σ : zS) : Option (Int32 × zS) := (fM_lays1 x1 5 x2 σ).bind fun s2 => (fM_goesOn N x3 s2).bind fun s4 => (fM_isTied x1 s4).bind fun r6 => (fM_putsBack N s4).bind fun s8 => zgd (r6 = 0 ∨ r6 = 1) (some (r6, s8))
set_option maxHeartbeats 4000000 in
theorem kM_holdsWith (N : Nat) (x1 : Int32) (x2 : Int32) (x3 : Int32) (σ : zS) (w : Int32 × zS) (h : fM_holdsWith N x1 x2 x3 σ = some w) (d : Nat) (hd : 8 ≤ d) : zEv d 189 0 [some (zR 8 0), some (zI x1), some (zI x2), some (zI x3), none] [] σ (some (zI w.1), w.2) := by
  unfold fM_holdsWith at h
  refine ev_s i189_0 (p := 1) rfl ?_
  refine ev_s i189_1 (p := 2) rfl ?_
  refine ev_s i189_2 (p := 3) (zic_5 _ _ _ _ _) ?_
  refine ev_s i189_3 (p := 4) rfl ?_
  obtain ⟨s2, hr1, h⟩ := bd_some h
  refine ev_callV i189_4 zc8_149 zm119 zo119 (as' := [zI x1, zI 5, zI x2]) (rest := []) rfl rfl (Nat.le_of_ble_eq_true rfl) (Nat.le_of_ble_eq_true rfl) (Nat.le_of_ble_eq_true rfl) (by omega) (l0 := [some (zR 8 0), some (zI x1), some (zI 5), some (zI x2)]) rfl (p := 7) rfl (kM_lays1 x1 5 x2 σ s2 hr1 (d - 1) (by omega)) ?_
  change zEv d 189 7 [some (zR 8 0), some (zI x1), some (zI x2), some (zI x3), none] [] s2 _
  refine ev_s i189_7 (p := 8) rfl ?_
  refine ev_s i189_8 (p := 9) rfl ?_
  obtain ⟨s4, hr3, h⟩ := bd_some h
  refine ev_callV i189_9 zc8_206 zm155 zo155 (as' := [zI x3]) (rest := []) rfl rfl (Nat.le_of_ble_eq_true rfl) (Nat.le_of_ble_eq_true rfl) (Nat.le_of_ble_eq_true rfl) (by omega) (l0 := [some (zR 8 0), some (zI x3), none]) rfl (p := 12) rfl (kM_goesOn N x3 s2 s4 hr3 (d - 1) (by omega)) ?_
  change zEv d 189 12 [some (zR 8 0), some (zI x1), some (zI x2), some (zI x3), none] [] s4 _
  refine ev_s i189_12 (p := 13) rfl ?_
  refine ev_s i189_13 (p := 14) rfl ?_
  obtain ⟨r6, hr5, h⟩ := bd_some h
  refine ev_callV i189_14 zc8_140 zm121 zo121 (as' := [zI x1]) (rest := []) rfl rfl (Nat.le_of_ble_eq_true rfl) (Nat.le_of_ble_eq_true rfl) (Nat.le_of_ble_eq_true rfl) (by omega) (l0 := [some (zR 8 0), some (zI x1)]) rfl (p := 17) rfl (kM_isTied x1 s4 r6 hr5 (d - 1) (by omega)) ?_
  change zEv d 189 17 [some (zR 8 0), some (zI x1), some (zI x2), some (zI x3), none] [zI r6] s4 _
  refine ev_s i189_17 (p := 19) (l := [some (zR 8 0), some (zI x1), some (zI x2), some (zI x3), some (zI r6)]) rfl ?_
  refine ev_s i189_19 (p := 20) rfl ?_
  obtain ⟨s8, hr7, h⟩ := bd_some h
  refine ev_callV i189_20 zc8_237 zm115 zo115 (as' := []) (rest := []) rfl rfl (Nat.le_of_ble_eq_true rfl) (Nat.le_of_ble_eq_true rfl) (Nat.le_of_ble_eq_true rfl) (by omega) (l0 := [some (zR 8 0), none]) rfl (p := 23) rfl (kM_putsBack N s4 s8 hr7 (d - 1) (by omega)) ?_
  change zEv d 189 23 [some (zR 8 0), some (zI x1), some (zI x2), some (zI x3), some (zI r6)] [] s8 _
  refine ev_s i189_23 (p := 25) rfl ?_
  obtain ⟨g9, h⟩ := zgd_some h
  obtain rfl := Option.some.inj h
  exact ev_zret i189_25 zr189 g9
/-! fM_spareFor -/
def fM_spareFor_L44 (N : Nat) : Nat → Int32 → Int32 → Int32 → zS → Option (Int32 × zS)
  | 0, _, _, _, _ => none
  | n + 1, y1, y2, y3, σ => (if 99 < y3 then zb2 (fM_error 2 σ) fun r21 s20 => some (r21, s20) else zb2 (fM_holdsWith N y1 y3 y2 σ) fun r24 s23 => (if r24 = 0 then fM_spareFor_L44 N n y1 y2 (y3 + 1) s23 else some (y3, s23)))
set_option maxHeartbeats 4000000 in
theorem kM_spareFor_L44 (N : Nat) (d : Nat) (hd : 9 ≤ d)  : ∀ n : Nat, ∀ (y1 : Int32) (y2 : Int32) (y3 : Int32) (σ : zS) (w : Int32 × zS), fM_spareFor_L44 N n y1 y2 y3 σ = some w → zEv d 190 44 [some (zR 8 0), some (zI y1), some (zI y2), some (zI y3)] [] σ (some (zI w.1), w.2) := by
  intro n
  induction n with
  | zero =>
    intro y1 y2 y3 σ w h
    cases h
  | succ n ih =>
    intro y1 y2 y3 σ w h
    rw [fM_spareFor_L44] at h
    refine ev_s i190_44 (p := 45) rfl ?_
    refine ev_s i190_45 (p := 47) (zib_99 _ _ _ _ _) ?_
    refine ev_cmpgt i190_47 (t := 68) (by decide) (p := 50) rfl h (fun c18 h => ?_) (fun c18 h => ?_)
    · refine ev_s i190_68 (p := 69) rfl ?_
      refine ev_s i190_69 (p := 70) (zic_2 _ _ _ _ _) ?_
      obtain ⟨r21, s20, hr19, h⟩ := b2_some h
      refine ev_callV i190_70 zc8_58 zm110 zo110 (as' := [zI 2]) (rest := []) rfl rfl (Nat.le_of_ble_eq_true rfl) (Nat.le_of_ble_eq_true rfl) (Nat.le_of_ble_eq_true rfl) (by omega) (l0 := [some (zR 8 0), some (zI 2)]) rfl (p := 73) rfl (kM_error 2 σ (r21, s20) hr19 (d - 1) (by omega)) ?_
      change zEv d 190 73 [some (zR 8 0), some (zI y1), some (zI y2), some (zI y3)] [zI r21] s20 _
      obtain rfl := Option.some.inj h
      exact ev_iret i190_73 zr190
    · refine ev_s i190_50 (p := 51) rfl ?_
      refine ev_s i190_51 (p := 52) rfl ?_
      refine ev_s i190_52 (p := 53) rfl ?_
      refine ev_s i190_53 (p := 54) rfl ?_
      obtain ⟨r24, s23, hr22, h⟩ := b2_some h
      refine ev_callV i190_54 zc8_243 zm189 zo189 (as' := [zI y1, zI y3, zI y2]) (rest := []) rfl rfl (Nat.le_of_ble_eq_true rfl) (Nat.le_of_ble_eq_true rfl) (Nat.le_of_ble_eq_true rfl) (by omega) (l0 := [some (zR 8 0), some (zI y1), some (zI y3), some (zI y2), none]) rfl (p := 57) rfl (kM_holdsWith N y1 y3 y2 σ (r24, s23) hr22 (d - 1) (by omega)) ?_
      change zEv d 190 57 [some (zR 8 0), some (zI y1), some (zI y2), some (zI y3)] [zI r24] s23 _
      refine ev_ifeq i190_57 (t := 62) (by decide) (p := 60) rfl h (fun c25 h => ?_) (fun c25 h => ?_)
      · refine ev_iinc i190_62 zii_1 rfl (l := [some (zR 8 0), some (zI y1), some (zI y2), some (zI (y3 + 1))]) rfl (p := 65) rfl ?_
        refine ev_goto i190_65 (t := 44) (by decide) ?_
        exact ih y1 y2 (y3 + 1) s23 w h
      · refine ev_s i190_60 (p := 61) rfl ?_
        obtain rfl := Option.some.inj h
        exact ev_iret i190_61 zr190
def fM_spareFor_J18 (N : Nat) (σ : zS) : Option (Int32 × zS) := zb2 (fM_error 1 σ) fun r17 s16 => some (r17, s16)
set_option maxHeartbeats 4000000 in
theorem kM_spareFor_J18 (N : Nat) (d : Nat) (hd : 9 ≤ d)  : ∀ (σ : zS) (w : Int32 × zS) (z1 : Option zA) (z2 : Option zA) (hz2 : znl z2 = true) (z3 : Option zA), fM_spareFor_J18 N σ = some w → zEv d 190 18 [some (zR 8 0), z1, z2, z3] [] σ (some (zI w.1), w.2) := by
  intro σ w z1 z2 hz2 z3 h
  unfold fM_spareFor_J18 at h
  refine ev_s i190_18 (p := 19) rfl ?_
  refine ev_s i190_19 (p := 20) (zic_1 _ _ _ _ _) ?_
  obtain ⟨r17, s16, hr15, h⟩ := b2_some h
  refine ev_callV i190_20 zc8_58 zm110 zo110 (as' := [zI 1]) (rest := []) rfl rfl (Nat.le_of_ble_eq_true rfl) (Nat.le_of_ble_eq_true rfl) (Nat.le_of_ble_eq_true rfl) (by omega) (l0 := [some (zR 8 0), some (zI 1)]) rfl (p := 23) rfl (kM_error 1 σ (r17, s16) hr15 (d - 1) (by omega)) ?_
  change zEv d 190 23 [some (zR 8 0), z1, z2, z3] [zI r17] s16 _
  obtain rfl := Option.some.inj h
  exact ev_iret i190_23 zr190
def fM_spareFor (N : Nat) (x1 : Int32) (x2 : Int32) (σ : zS) : Option (Int32 × zS) := (fM_isOne x1 σ).bind fun r2 => (if r2 = 0 then fM_spareFor_J18 N σ else (fM_in x2 0 40).bind fun r5 => (if r5 = 0 then fM_spareFor_J18 N σ else (fM_isTied x1 σ).bind fun r8 => (if r8 = 0 then zb2 (fM_error 3 σ) fun r12 s11 => some (r12, s11) else (fM_saves N σ).bind fun s14 => fM_spareFor_L44 N N x1 x2 0 s14)))
set_option maxHeartbeats 4000000 in
theorem kM_spareFor (N : Nat) (x1 : Int32) (x2 : Int32) (σ : zS) (w : Int32 × zS) (h : fM_spareFor N x1 x2 σ = some w) (d : Nat) (hd : 9 ≤ d) : zEv d 190 0 [some (zR 8 0), some (zI x1), some (zI x2), none] [] σ (some (zI w.1), w.2) := by
  unfold fM_spareFor at h
  refine ev_s i190_0 (p := 1) rfl ?_
  refine ev_s i190_1 (p := 2) rfl ?_
  obtain ⟨r2, hr1, h⟩ := bd_some h
  refine ev_callV i190_2 zc8_194 zm116 zo116 (as' := [zI x1]) (rest := []) rfl rfl (Nat.le_of_ble_eq_true rfl) (Nat.le_of_ble_eq_true rfl) (Nat.le_of_ble_eq_true rfl) (by omega) (l0 := [some (zR 8 0), some (zI x1)]) rfl (p := 5) rfl (kM_isOne x1 σ r2 hr1 (d - 1) (by omega)) ?_
  change zEv d 190 5 [some (zR 8 0), some (zI x1), some (zI x2), none] [zI r2] σ _
  refine ev_ifeq i190_5 (t := 18) (by decide) (p := 8) rfl h (fun c3 h => ?_) (fun c3 h => ?_)
  · exact kM_spareFor_J18 N d hd σ w _ _ rfl _ h
  · refine ev_s i190_8 (p := 9) rfl ?_
    refine ev_s i190_9 (p := 10) (zic_0 _ _ _ _ _) ?_
    refine ev_s i190_10 (p := 12) (zib_40 _ _ _ _ _) ?_
    obtain ⟨r5, hr4, h⟩ := bd_some h
    refine ev_callS i190_12 zn8_50 zc8_50 zm111 (as := [zI x2, zI 0, zI 40]) (rest := []) rfl rfl (Nat.le_of_ble_eq_true rfl) (Nat.le_of_ble_eq_true rfl) (Nat.le_of_ble_eq_true rfl) (by omega) (l0 := [some (zI x2), some (zI 0), some (zI 40)]) rfl (p := 15) rfl (kM_in x2 0 40 σ r5 hr4 (d - 1) (by omega)) ?_
    change zEv d 190 15 [some (zR 8 0), some (zI x1), some (zI x2), none] [zI r5] σ _
    refine ev_ifne i190_15 (t := 24) (by decide) (p := 18) rfl h (fun c6 h => ?_) (fun c6 h => ?_)
    · exact kM_spareFor_J18 N d hd σ w _ _ rfl _ h
    · refine ev_s i190_24 (p := 25) rfl ?_
      refine ev_s i190_25 (p := 26) rfl ?_
      obtain ⟨r8, hr7, h⟩ := bd_some h
      refine ev_callV i190_26 zc8_140 zm121 zo121 (as' := [zI x1]) (rest := []) rfl rfl (Nat.le_of_ble_eq_true rfl) (Nat.le_of_ble_eq_true rfl) (Nat.le_of_ble_eq_true rfl) (by omega) (l0 := [some (zR 8 0), some (zI x1)]) rfl (p := 29) rfl (kM_isTied x1 σ r8 hr7 (d - 1) (by omega)) ?_
      change zEv d 190 29 [some (zR 8 0), some (zI x1), some (zI x2), none] [zI r8] σ _
      refine ev_ifne i190_29 (t := 38) (by decide) (p := 32) rfl h (fun c9 h => ?_) (fun c9 h => ?_)
      · refine ev_s i190_32 (p := 33) rfl ?_
        refine ev_s i190_33 (p := 34) (zic_3 _ _ _ _ _) ?_
        obtain ⟨r12, s11, hr10, h⟩ := b2_some h
        refine ev_callV i190_34 zc8_58 zm110 zo110 (as' := [zI 3]) (rest := []) rfl rfl (Nat.le_of_ble_eq_true rfl) (Nat.le_of_ble_eq_true rfl) (Nat.le_of_ble_eq_true rfl) (by omega) (l0 := [some (zR 8 0), some (zI 3)]) rfl (p := 37) rfl (kM_error 3 σ (r12, s11) hr10 (d - 1) (by omega)) ?_
        change zEv d 190 37 [some (zR 8 0), some (zI x1), some (zI x2), none] [zI r12] s11 _
        obtain rfl := Option.some.inj h
        exact ev_iret i190_37 zr190
      · refine ev_s i190_38 (p := 39) rfl ?_
        obtain ⟨s14, hr13, h⟩ := bd_some h
        refine ev_callV i190_39 zc8_234 zm114 zo114 (as' := []) (rest := []) rfl rfl (Nat.le_of_ble_eq_true rfl) (Nat.le_of_ble_eq_true rfl) (Nat.le_of_ble_eq_true rfl) (by omega) (l0 := [some (zR 8 0), none]) rfl (p := 42) rfl (kM_saves N σ s14 hr13 (d - 1) (by omega)) ?_
        change zEv d 190 42 [some (zR 8 0), some (zI x1), some (zI x2), none] [] s14 _
        refine ev_s i190_42 (p := 43) (zic_0 _ _ _ _ _) ?_
        refine ev_s i190_43 (p := 44) (l := [some (zR 8 0), some (zI x1), some (zI x2), some (zI 0)]) rfl ?_
        exact kM_spareFor_L44 N d hd N x1 x2 0 s14 w h
/-! fA_cellWithout -/
def fA_cellWithout_L53 (N : Nat) : Nat → Int32 → Int32 → Int32 → zS → Option (Int32 × zS)
  | 0, _, _, _, _ => none
  | n + 1, y2, y3, y4, σ => (if y3 ≤ y4 then zgd (zin y2 8) (some (σ 17 2 y2.toNatClampNeg, σ)) else (fR_passDay N 2 σ).bind fun s10 => fA_cellWithout_L53 N n y2 y3 (y4 + 1) s10)
set_option maxHeartbeats 4000000 in
theorem kA_cellWithout_L53 (N : Nat) (d : Nat) (hd : 5 ≤ d)  : ∀ n : Nat, ∀ (y2 : Int32) (y3 : Int32) (y4 : Int32) (σ : zS) (w : Int32 × zS) (z1 : Option zA), fA_cellWithout_L53 N n y2 y3 y4 σ = some w → zEv d 108 53 [some (zR 7 0), z1, some (zI y2), some (zI y3), some (zI y4)] [] σ (some (zI w.1), w.2) := by
  intro n
  induction n with
  | zero =>
    intro y2 y3 y4 σ w z1 h
    cases h
  | succ n ih =>
    intro y2 y3 y4 σ w z1 h
    rw [fA_cellWithout_L53] at h
    refine ev_s i108_53 (p := 55) rfl ?_
    refine ev_s i108_55 (p := 56) rfl ?_
    refine ev_cmpge i108_56 (t := 72) (by decide) (p := 59) rfl h (fun c7 h => ?_) (fun c7 h => ?_)
    · refine ev_s i108_72 (p := 73) rfl ?_
      refine ev_getf i108_73 zf7_60 (u := zR 2 2) rfl (p := 76) rfl ?_
      refine ev_getf i108_76 zf7_93 (u := zR 17 2) rfl (p := 79) rfl ?_
      refine ev_s i108_79 (p := 80) rfl ?_
      refine ev_iald i108_80 rfl (n := 8) rfl (p := 81) rfl h (fun g8 h => ?_)
      obtain rfl := Option.some.inj h
      exact ev_iret i108_81 zr108
    · refine ev_s i108_59 (p := 60) rfl ?_
      refine ev_getf i108_60 zf7_60 (u := zR 2 2) rfl (p := 63) rfl ?_
      obtain ⟨s10, hr9, h⟩ := bd_some h
      refine ev_callV i108_63 zc7_170 zm36 zo36 (as' := []) (rest := []) rfl rfl (Nat.le_of_ble_eq_true rfl) (Nat.le_of_ble_eq_true rfl) (Nat.le_of_ble_eq_true rfl) (by omega) (l0 := [some (zR 2 2), none, none, none, none, none]) rfl (p := 66) rfl (kR_passDay N 2 σ s10 hr9 (d - 1) (by omega)) ?_
      change zEv d 108 66 [some (zR 7 0), z1, some (zI y2), some (zI y3), some (zI y4)] [] s10 _
      refine ev_iinc i108_66 zii_1 rfl (l := [some (zR 7 0), z1, some (zI y2), some (zI y3), some (zI (y4 + 1))]) rfl (p := 69) rfl ?_
      refine ev_goto i108_69 (t := 53) (by decide) ?_
      exact ih y2 y3 (y4 + 1) s10 w _ h
def fA_cellWithout_L14 (N : Nat) : Nat → Int32 → Int32 → Int32 → Int32 → zS → Option (Int32 × zS)
  | 0, _, _, _, _, _ => none
  | n + 1, y1, y2, y3, y4, σ => (if (σ 2 2 9) ≤ y4 then fA_cellWithout_L53 N N y2 y3 0 σ else (if ((y1 >>> (y4 &&& 31)) &&& 1) = 0 then fA_cellWithout_L14 N n y1 y2 y3 (y4 + 1) σ else (fR_untie 2 y4 σ).bind fun s6 => fA_cellWithout_L14 N n y1 y2 y3 (y4 + 1) s6))
set_option maxHeartbeats 4000000 in
theorem kA_cellWithout_L14 (N : Nat) (d : Nat) (hd : 5 ≤ d)  : ∀ n : Nat, ∀ (y1 : Int32) (y2 : Int32) (y3 : Int32) (y4 : Int32) (σ : zS) (w : Int32 × zS), fA_cellWithout_L14 N n y1 y2 y3 y4 σ = some w → zEv d 108 14 [some (zR 7 0), some (zI y1), some (zI y2), some (zI y3), some (zI y4)] [] σ (some (zI w.1), w.2) := by
  intro n
  induction n with
  | zero =>
    intro y1 y2 y3 y4 σ w h
    cases h
  | succ n ih =>
    intro y1 y2 y3 y4 σ w h
    rw [fA_cellWithout_L14] at h
    refine ev_s i108_14 (p := 16) rfl ?_
    refine ev_s i108_16 (p := 17) rfl ?_
    refine ev_getf i108_17 zf7_60 (u := zR 2 2) rfl (p := 20) rfl ?_
    refine ev_getf i108_20 zf7_76 (u := zI (σ 2 2 9)) rfl (p := 23) rfl ?_
    refine ev_cmpge i108_23 (t := 50) (by decide) (p := 26) rfl h (fun c3 h => ?_) (fun c3 h => ?_)
    · refine ev_s i108_50 (p := 51) (zic_0 _ _ _ _ _) ?_
      refine ev_s i108_51 (p := 53) (l := [some (zR 7 0), some (zI y1), some (zI y2), some (zI y3), some (zI 0)]) rfl ?_
      exact kA_cellWithout_L53 N d hd N y2 y3 0 σ w _ h
    · refine ev_s i108_26 (p := 27) rfl ?_
      refine ev_s i108_27 (p := 29) rfl ?_
      refine ev_s i108_29 (p := 30) (t := [zI (y1 >>> (y4 &&& 31))]) rfl ?_
      refine ev_s i108_30 (p := 31) (zic_1 _ _ _ _ _) ?_
      refine ev_s i108_31 (p := 32) (t := [zI ((y1 >>> (y4 &&& 31)) &&& 1)]) rfl ?_
      refine ev_ifeq i108_32 (t := 44) (by decide) (p := 35) rfl h (fun c4 h => ?_) (fun c4 h => ?_)
      · refine ev_iinc i108_44 zii_1 rfl (l := [some (zR 7 0), some (zI y1), some (zI y2), some (zI y3), some (zI (y4 + 1))]) rfl (p := 47) rfl ?_
        refine ev_goto i108_47 (t := 14) (by decide) ?_
        exact ih y1 y2 y3 (y4 + 1) σ w h
      · refine ev_s i108_35 (p := 36) rfl ?_
        refine ev_getf i108_36 zf7_60 (u := zR 2 2) rfl (p := 39) rfl ?_
        refine ev_s i108_39 (p := 41) rfl ?_
        obtain ⟨s6, hr5, h⟩ := bd_some h
        refine ev_callV i108_41 zc7_117 zm21 zo21 (as' := [zI y4]) (rest := []) rfl rfl (Nat.le_of_ble_eq_true rfl) (Nat.le_of_ble_eq_true rfl) (Nat.le_of_ble_eq_true rfl) (by omega) (l0 := [some (zR 2 2), some (zI y4)]) rfl (p := 44) rfl (kR_untie 2 y4 σ s6 hr5 (d - 1) (by omega)) ?_
        change zEv d 108 44 [some (zR 7 0), some (zI y1), some (zI y2), some (zI y3), some (zI y4)] [] s6 _
        refine ev_iinc i108_44 zii_1 rfl (l := [some (zR 7 0), some (zI y1), some (zI y2), some (zI y3), some (zI (y4 + 1))]) rfl (p := 47) rfl ?_
        refine ev_goto i108_47 (t := 14) (by decide) ?_
        exact ih y1 y2 y3 (y4 + 1) s6 w h
def fA_cellWithout (N : Nat) (x1 : Int32) (x2 : Int32) (x3 : Int32) (σ : zS) : Option (Int32 × zS) := (fR_copy 2 0 σ).bind fun s2 => fA_cellWithout_L14 N N x1 x2 x3 0 s2
set_option maxHeartbeats 4000000 in
theorem kA_cellWithout (N : Nat) (x1 : Int32) (x2 : Int32) (x3 : Int32) (σ : zS) (w : Int32 × zS) (h : fA_cellWithout N x1 x2 x3 σ = some w) (d : Nat) (hd : 5 ≤ d) : zEv d 108 0 [some (zR 7 0), some (zI x1), some (zI x2), some (zI x3), none] [] σ (some (zI w.1), w.2) := by
  unfold fA_cellWithout at h
  refine ev_s i108_0 (p := 1) rfl ?_
  refine ev_getf i108_1 zf7_60 (u := zR 2 2) rfl (p := 4) rfl ?_
  refine ev_s i108_4 (p := 5) rfl ?_
  refine ev_getf i108_5 zf7_47 (u := zR 2 0) rfl (p := 8) rfl ?_
  obtain ⟨s2, hr1, h⟩ := bd_some h
  refine ev_callV i108_8 zc7_194 zm17 zo17 (as' := [zR 2 0]) (rest := []) rfl rfl (Nat.le_of_ble_eq_true rfl) (Nat.le_of_ble_eq_true rfl) (Nat.le_of_ble_eq_true rfl) (by omega) (l0 := [some (zR 2 2), some (zR 2 0)]) rfl (p := 11) rfl (kR_copy 2 0 σ s2 hr1 (d - 1) (by omega)) ?_
  change zEv d 108 11 [some (zR 7 0), some (zI x1), some (zI x2), some (zI x3), none] [] s2 _
  refine ev_s i108_11 (p := 12) (zic_0 _ _ _ _ _) ?_
  refine ev_s i108_12 (p := 14) (l := [some (zR 7 0), some (zI x1), some (zI x2), some (zI x3), some (zI 0)]) rfl ?_
  exact kA_cellWithout_L14 N d hd N x1 x2 x3 0 s2 w h
/-! fA_freeFor -/
def fA_freeFor_J76 (N : Nat) (K34 : Int32 → Int32 → Int32 → Int32 → zS → Option (Int32 × zS)) (K46 : Int32 → Int32 → Int32 → Int32 → Int32 → zS → Option (Int32 × zS)) (y1 : Int32) (y2 : Int32) (y3 : Int32) (y4 : Int32) (y5 : Int32) (u0 : Int32) (σ : zS) : Option (Int32 × zS) := (if u0 = 0 then K46 y1 y2 y3 y4 (y5 + 1) σ else zb2 (fA_cellWithout N y5 y1 y2 σ) fun r26 s25 => zgd (zin y1 8) ((if r26 = (s25 17 0 y1.toNatClampNeg) then some (y5, s25) else K46 y1 y2 y3 y4 (y5 + 1) s25)))
set_option maxHeartbeats 4000000 in
theorem kA_freeFor_J76 (N : Nat) (d : Nat) (hd : 6 ≤ d) (K34 : Int32 → Int32 → Int32 → Int32 → zS → Option (Int32 × zS)) (hK34 : ∀ (y1 : Int32) (y2 : Int32) (y3 : Int32) (y4 : Int32) (σ : zS) (w : Int32 × zS) (z5 : Option zA) (hz5 : znl z5 = true) (z6 : Option zA), K34 y1 y2 y3 y4 σ = some w → zEv d 86 34 [some (zR 7 0), some (zI y1), some (zI y2), some (zI y3), some (zI y4), z5, z6] [] σ (some (zI w.1), w.2)) (K46 : Int32 → Int32 → Int32 → Int32 → Int32 → zS → Option (Int32 × zS)) (hK46 : ∀ (y1 : Int32) (y2 : Int32) (y3 : Int32) (y4 : Int32) (y5 : Int32) (σ : zS) (w : Int32 × zS) (z6 : Option zA), K46 y1 y2 y3 y4 y5 σ = some w → zEv d 86 46 [some (zR 7 0), some (zI y1), some (zI y2), some (zI y3), some (zI y4), some (zI y5), z6] [] σ (some (zI w.1), w.2)) : ∀ (y1 : Int32) (y2 : Int32) (y3 : Int32) (y4 : Int32) (y5 : Int32) (u0 : Int32) (σ : zS) (w : Int32 × zS) (z6 : Option zA), fA_freeFor_J76 N K34 K46 y1 y2 y3 y4 y5 u0 σ = some w → zEv d 86 76 [some (zR 7 0), some (zI y1), some (zI y2), some (zI y3), some (zI y4), some (zI y5), z6] [zI u0] σ (some (zI w.1), w.2) := by
  intro y1 y2 y3 y4 y5 u0 σ w z6 h
  unfold fA_freeFor_J76 at h
  refine ev_s i86_76 (p := 78) (l := [some (zR 7 0), some (zI y1), some (zI y2), some (zI y3), some (zI y4), some (zI y5), some (zI u0)]) rfl ?_
  refine ev_s i86_78 (p := 80) rfl ?_
  refine ev_ifeq i86_80 (t := 106) (by decide) (p := 83) rfl h (fun c23 h => ?_) (fun c23 h => ?_)
  · refine ev_iinc i86_106 zii_1 rfl (l := [some (zR 7 0), some (zI y1), some (zI y2), some (zI y3), some (zI y4), some (zI (y5 + 1)), some (zI u0)]) rfl (p := 109) rfl ?_
    refine ev_goto i86_109 (t := 46) (by decide) ?_
    exact hK46 y1 y2 y3 y4 (y5 + 1) σ w _ h
  · refine ev_s i86_83 (p := 84) rfl ?_
    refine ev_s i86_84 (p := 86) rfl ?_
    refine ev_s i86_86 (p := 87) rfl ?_
    refine ev_s i86_87 (p := 88) rfl ?_
    obtain ⟨r26, s25, hr24, h⟩ := b2_some h
    refine ev_callV i86_88 zc7_206 zm108 zo108 (as' := [zI y5, zI y1, zI y2]) (rest := []) rfl rfl (Nat.le_of_ble_eq_true rfl) (Nat.le_of_ble_eq_true rfl) (Nat.le_of_ble_eq_true rfl) (by omega) (l0 := [some (zR 7 0), some (zI y5), some (zI y1), some (zI y2), none]) rfl (p := 91) rfl (kA_cellWithout N y5 y1 y2 σ (r26, s25) hr24 (d - 1) (by omega)) ?_
    change zEv d 86 91 [some (zR 7 0), some (zI y1), some (zI y2), some (zI y3), some (zI y4), some (zI y5), some (zI u0)] [zI r26] s25 _
    refine ev_s i86_91 (p := 92) rfl ?_
    refine ev_getf i86_92 zf7_47 (u := zR 2 0) rfl (p := 95) rfl ?_
    refine ev_getf i86_95 zf7_93 (u := zR 17 0) rfl (p := 98) rfl ?_
    refine ev_s i86_98 (p := 99) rfl ?_
    refine ev_iald i86_99 rfl (n := 8) rfl (p := 100) rfl h (fun g27 h => ?_)
    refine ev_cmpne i86_100 (t := 106) (by decide) (p := 103) rfl h (fun c28 h => ?_) (fun c28 h => ?_)
    · refine ev_s i86_103 (p := 105) rfl ?_
      obtain rfl := Option.some.inj h
      exact ev_iret i86_105 zr86
    · refine ev_iinc i86_106 zii_1 rfl (l := [some (zR 7 0), some (zI y1), some (zI y2), some (zI y3), some (zI y4), some (zI (y5 + 1)), some (zI u0)]) rfl (p := 109) rfl ?_
      refine ev_goto i86_109 (t := 46) (by decide) ?_
      exact hK46 y1 y2 y3 y4 (y5 + 1) s25 w _ h
def fA_freeFor_J75 (N : Nat) (K34 : Int32 → Int32 → Int32 → Int32 → zS → Option (Int32 × zS)) (K46 : Int32 → Int32 → Int32 → Int32 → Int32 → zS → Option (Int32 × zS)) (y1 : Int32) (y2 : Int32) (y3 : Int32) (y4 : Int32) (y5 : Int32) (σ : zS) : Option (Int32 × zS) := fA_freeFor_J76 N K34 K46 y1 y2 y3 y4 y5 0 σ
set_option maxHeartbeats 4000000 in
theorem kA_freeFor_J75 (N : Nat) (d : Nat) (hd : 6 ≤ d) (K34 : Int32 → Int32 → Int32 → Int32 → zS → Option (Int32 × zS)) (hK34 : ∀ (y1 : Int32) (y2 : Int32) (y3 : Int32) (y4 : Int32) (σ : zS) (w : Int32 × zS) (z5 : Option zA) (hz5 : znl z5 = true) (z6 : Option zA), K34 y1 y2 y3 y4 σ = some w → zEv d 86 34 [some (zR 7 0), some (zI y1), some (zI y2), some (zI y3), some (zI y4), z5, z6] [] σ (some (zI w.1), w.2)) (K46 : Int32 → Int32 → Int32 → Int32 → Int32 → zS → Option (Int32 × zS)) (hK46 : ∀ (y1 : Int32) (y2 : Int32) (y3 : Int32) (y4 : Int32) (y5 : Int32) (σ : zS) (w : Int32 × zS) (z6 : Option zA), K46 y1 y2 y3 y4 y5 σ = some w → zEv d 86 46 [some (zR 7 0), some (zI y1), some (zI y2), some (zI y3), some (zI y4), some (zI y5), z6] [] σ (some (zI w.1), w.2)) : ∀ (y1 : Int32) (y2 : Int32) (y3 : Int32) (y4 : Int32) (y5 : Int32) (σ : zS) (w : Int32 × zS) (z6 : Option zA), fA_freeFor_J75 N K34 K46 y1 y2 y3 y4 y5 σ = some w → zEv d 86 75 [some (zR 7 0), some (zI y1), some (zI y2), some (zI y3), some (zI y4), some (zI y5), z6] [] σ (some (zI w.1), w.2) := by
  intro y1 y2 y3 y4 y5 σ w z6 h
  unfold fA_freeFor_J75 at h
  refine ev_s i86_75 (p := 76) (zic_0 _ _ _ _ _) ?_
  exact kA_freeFor_J76 N d hd K34 hK34 K46 hK46 y1 y2 y3 y4 y5 0 σ w _ h
def fA_freeFor_L46 (N : Nat) (K34 : Int32 → Int32 → Int32 → Int32 → zS → Option (Int32 × zS)) : Nat → Int32 → Int32 → Int32 → Int32 → Int32 → zS → Option (Int32 × zS)
  | 0, _, _, _, _, _, _ => none
  | n + 1, y1, y2, y3, y4, y5, σ => (if y3 < y5 then K34 y1 y2 y3 (y4 + 1) σ else (if (y5 &&& (y3 ^^^ (-1))) = 0 then (fJ_bitCount y5).bind fun r21 => (if r21 = y4 then fA_freeFor_J76 N K34 (fun y1 y2 y3 y4 y5 σ => fA_freeFor_L46 N K34 n y1 y2 y3 y4 y5 σ) y1 y2 y3 y4 y5 1 σ else fA_freeFor_J75 N K34 (fun y1 y2 y3 y4 y5 σ => fA_freeFor_L46 N K34 n y1 y2 y3 y4 y5 σ) y1 y2 y3 y4 y5 σ) else fA_freeFor_J75 N K34 (fun y1 y2 y3 y4 y5 σ => fA_freeFor_L46 N K34 n y1 y2 y3 y4 y5 σ) y1 y2 y3 y4 y5 σ))
set_option maxHeartbeats 4000000 in
theorem kA_freeFor_L46 (N : Nat) (d : Nat) (hd : 6 ≤ d) (K34 : Int32 → Int32 → Int32 → Int32 → zS → Option (Int32 × zS)) (hK34 : ∀ (y1 : Int32) (y2 : Int32) (y3 : Int32) (y4 : Int32) (σ : zS) (w : Int32 × zS) (z5 : Option zA) (hz5 : znl z5 = true) (z6 : Option zA), K34 y1 y2 y3 y4 σ = some w → zEv d 86 34 [some (zR 7 0), some (zI y1), some (zI y2), some (zI y3), some (zI y4), z5, z6] [] σ (some (zI w.1), w.2)) : ∀ n : Nat, ∀ (y1 : Int32) (y2 : Int32) (y3 : Int32) (y4 : Int32) (y5 : Int32) (σ : zS) (w : Int32 × zS) (z6 : Option zA), fA_freeFor_L46 N K34 n y1 y2 y3 y4 y5 σ = some w → zEv d 86 46 [some (zR 7 0), some (zI y1), some (zI y2), some (zI y3), some (zI y4), some (zI y5), z6] [] σ (some (zI w.1), w.2) := by
  intro n
  induction n with
  | zero =>
    intro y1 y2 y3 y4 y5 σ w z6 h
    cases h
  | succ n ih =>
    intro y1 y2 y3 y4 y5 σ w z6 h
    rw [fA_freeFor_L46] at h
    refine ev_s i86_46 (p := 48) rfl ?_
    refine ev_s i86_48 (p := 49) rfl ?_
    refine ev_cmpgt i86_49 (t := 112) (by decide) (p := 52) rfl h (fun c18 h => ?_) (fun c18 h => ?_)
    · refine ev_iinc i86_112 zii_1 rfl (l := [some (zR 7 0), some (zI y1), some (zI y2), some (zI y3), some (zI (y4 + 1)), some (zI y5), z6]) rfl (p := 115) rfl ?_
      refine ev_goto i86_115 (t := 34) (by decide) ?_
      exact hK34 y1 y2 y3 (y4 + 1) σ w _ rfl _ h
    · refine ev_s i86_52 (p := 54) rfl ?_
      refine ev_s i86_54 (p := 55) rfl ?_
      refine ev_s i86_55 (p := 56) (zic_m1 _ _ _ _ _) ?_
      refine ev_s i86_56 (p := 57) (t := [zI (y3 ^^^ (-1)), zI y5]) rfl ?_
      refine ev_s i86_57 (p := 58) (t := [zI (y5 &&& (y3 ^^^ (-1)))]) rfl ?_
      refine ev_ifne i86_58 (t := 75) (by decide) (p := 61) rfl h (fun c19 h => ?_) (fun c19 h => ?_)
      · refine ev_s i86_61 (p := 63) rfl ?_
        obtain ⟨r21, hr20, h⟩ := bd_some h
        refine ev_callS i86_63 zn7_186 zc7_186 zm219 (as := [zI y5]) (rest := []) rfl rfl (Nat.le_of_ble_eq_true rfl) (Nat.le_of_ble_eq_true rfl) (Nat.le_of_ble_eq_true rfl) (by omega) (l0 := [some (zI y5)]) rfl (p := 66) rfl (kJ_bitCount y5 σ r21 hr20 (d - 1) (by omega)) ?_
        change zEv d 86 66 [some (zR 7 0), some (zI y1), some (zI y2), some (zI y3), some (zI y4), some (zI y5), z6] [zI r21] σ _
        refine ev_s i86_66 (p := 68) rfl ?_
        refine ev_cmpne i86_68 (t := 75) (by decide) (p := 71) rfl h (fun c22 h => ?_) (fun c22 h => ?_)
        · refine ev_s i86_71 (p := 72) (zic_1 _ _ _ _ _) ?_
          refine ev_goto i86_72 (t := 76) (by decide) ?_
          exact kA_freeFor_J76 N d hd K34 hK34 (fun y1 y2 y3 y4 y5 σ => fA_freeFor_L46 N K34 n y1 y2 y3 y4 y5 σ) ih y1 y2 y3 y4 y5 1 σ w _ h
        · exact kA_freeFor_J75 N d hd K34 hK34 (fun y1 y2 y3 y4 y5 σ => fA_freeFor_L46 N K34 n y1 y2 y3 y4 y5 σ) ih y1 y2 y3 y4 y5 σ w _ h
      · exact kA_freeFor_J75 N d hd K34 hK34 (fun y1 y2 y3 y4 y5 σ => fA_freeFor_L46 N K34 n y1 y2 y3 y4 y5 σ) ih y1 y2 y3 y4 y5 σ w _ h
def fA_freeFor_L34 (N : Nat) : Nat → Int32 → Int32 → Int32 → Int32 → zS → Option (Int32 × zS)
  | 0, _, _, _, _, _ => none
  | n + 1, y1, y2, y3, y4, σ => (fJ_bitCount y3).bind fun r13 => (if r13 < y4 then zb2 (fA_refuse 2 σ) fun r17 s16 => some (r17, s16) else fA_freeFor_L46 N (fun y1 y2 y3 y4 σ => fA_freeFor_L34 N n y1 y2 y3 y4 σ) N y1 y2 y3 y4 0 σ)
set_option maxHeartbeats 4000000 in
theorem kA_freeFor_L34 (N : Nat) (d : Nat) (hd : 6 ≤ d)  : ∀ n : Nat, ∀ (y1 : Int32) (y2 : Int32) (y3 : Int32) (y4 : Int32) (σ : zS) (w : Int32 × zS) (z5 : Option zA) (hz5 : znl z5 = true) (z6 : Option zA), fA_freeFor_L34 N n y1 y2 y3 y4 σ = some w → zEv d 86 34 [some (zR 7 0), some (zI y1), some (zI y2), some (zI y3), some (zI y4), z5, z6] [] σ (some (zI w.1), w.2) := by
  intro n
  induction n with
  | zero =>
    intro y1 y2 y3 y4 σ w z5 hz5 z6 h
    cases h
  | succ n ih =>
    intro y1 y2 y3 y4 σ w z5 hz5 z6 h
    rw [fA_freeFor_L34] at h
    refine ev_s i86_34 (p := 36) rfl ?_
    refine ev_s i86_36 (p := 37) rfl ?_
    obtain ⟨r13, hr12, h⟩ := bd_some h
    refine ev_callS i86_37 zn7_186 zc7_186 zm219 (as := [zI y3]) (rest := [zI y4]) rfl rfl (Nat.le_of_ble_eq_true rfl) (Nat.le_of_ble_eq_true rfl) (Nat.le_of_ble_eq_true rfl) (by omega) (l0 := [some (zI y3)]) rfl (p := 40) rfl (kJ_bitCount y3 σ r13 hr12 (d - 1) (by omega)) ?_
    change zEv d 86 40 [some (zR 7 0), some (zI y1), some (zI y2), some (zI y3), some (zI y4), z5, z6] [zI r13, zI y4] σ _
    refine ev_cmpgt i86_40 (t := 118) (by decide) (p := 43) rfl h (fun c14 h => ?_) (fun c14 h => ?_)
    · refine ev_s i86_118 (p := 119) rfl ?_
      refine ev_s i86_119 (p := 120) (zic_2 _ _ _ _ _) ?_
      obtain ⟨r17, s16, hr15, h⟩ := b2_some h
      refine ev_callV i86_120 zc7_72 zm102 zo102 (as' := [zI 2]) (rest := []) rfl rfl (Nat.le_of_ble_eq_true rfl) (Nat.le_of_ble_eq_true rfl) (Nat.le_of_ble_eq_true rfl) (by omega) (l0 := [some (zR 7 0), some (zI 2)]) rfl (p := 123) rfl (kA_refuse 2 σ (r17, s16) hr15 (d - 1) (by omega)) ?_
      change zEv d 86 123 [some (zR 7 0), some (zI y1), some (zI y2), some (zI y3), some (zI y4), z5, z6] [zI r17] s16 _
      obtain rfl := Option.some.inj h
      exact ev_iret i86_123 zr86
    · refine ev_s i86_43 (p := 44) (zic_0 _ _ _ _ _) ?_
      refine ev_s i86_44 (p := 46) (l := [some (zR 7 0), some (zI y1), some (zI y2), some (zI y3), some (zI y4), some (zI 0), z6]) rfl ?_
      exact kA_freeFor_L46 N d hd (fun y1 y2 y3 y4 σ => fA_freeFor_L34 N n y1 y2 y3 y4 σ) ih N y1 y2 y3 y4 0 σ w _ h
def fA_freeFor_J17 (N : Nat) (σ : zS) : Option (Int32 × zS) := zb2 (fA_refuse 1 σ) fun r11 s10 => some (r11, s10)
set_option maxHeartbeats 4000000 in
theorem kA_freeFor_J17 (N : Nat) (d : Nat) (hd : 6 ≤ d)  : ∀ (σ : zS) (w : Int32 × zS) (z1 : Option zA) (z2 : Option zA) (hz2 : znl z2 = true) (z3 : Option zA) (hz3 : znl z3 = true) (z4 : Option zA) (hz4 : znl z4 = true) (z5 : Option zA) (hz5 : znl z5 = true) (z6 : Option zA), fA_freeFor_J17 N σ = some w → zEv d 86 17 [some (zR 7 0), z1, z2, z3, z4, z5, z6] [] σ (some (zI w.1), w.2) := by
  intro σ w z1 z2 hz2 z3 hz3 z4 hz4 z5 hz5 z6 h
  unfold fA_freeFor_J17 at h
  refine ev_s i86_17 (p := 18) rfl ?_
  refine ev_s i86_18 (p := 19) (zic_1 _ _ _ _ _) ?_
  obtain ⟨r11, s10, hr9, h⟩ := b2_some h
  refine ev_callV i86_19 zc7_72 zm102 zo102 (as' := [zI 1]) (rest := []) rfl rfl (Nat.le_of_ble_eq_true rfl) (Nat.le_of_ble_eq_true rfl) (Nat.le_of_ble_eq_true rfl) (by omega) (l0 := [some (zR 7 0), some (zI 1)]) rfl (p := 22) rfl (kA_refuse 1 σ (r11, s10) hr9 (d - 1) (by omega)) ?_
  change zEv d 86 22 [some (zR 7 0), z1, z2, z3, z4, z5, z6] [zI r11] s10 _
  obtain rfl := Option.some.inj h
  exact ev_iret i86_22 zr86
def fA_freeFor (N : Nat) (x1 : Int32) (x2 : Int32) (σ : zS) : Option (Int32 × zS) := (fA_isThere x1 σ).bind fun r2 => (if r2 = 0 then fA_freeFor_J17 N σ else (fA_within x2 40).bind fun r5 => (if r5 = 0 then fA_freeFor_J17 N σ else (fR_tied N 0 σ).bind fun r8 => fA_freeFor_L34 N N x1 x2 r8 0 σ))
set_option maxHeartbeats 4000000 in
theorem kA_freeFor (N : Nat) (x1 : Int32) (x2 : Int32) (σ : zS) (w : Int32 × zS) (h : fA_freeFor N x1 x2 σ = some w) (d : Nat) (hd : 6 ≤ d) : zEv d 86 0 [some (zR 7 0), some (zI x1), some (zI x2), none, none, none, none] [] σ (some (zI w.1), w.2) := by
  unfold fA_freeFor at h
  refine ev_s i86_0 (p := 1) rfl ?_
  refine ev_s i86_1 (p := 2) rfl ?_
  obtain ⟨r2, hr1, h⟩ := bd_some h
  refine ev_callV i86_2 zc7_68 zm104 zo104 (as' := [zI x1]) (rest := []) rfl rfl (Nat.le_of_ble_eq_true rfl) (Nat.le_of_ble_eq_true rfl) (Nat.le_of_ble_eq_true rfl) (by omega) (l0 := [some (zR 7 0), some (zI x1)]) rfl (p := 5) rfl (kA_isThere x1 σ r2 hr1 (d - 1) (by omega)) ?_
  change zEv d 86 5 [some (zR 7 0), some (zI x1), some (zI x2), none, none, none, none] [zI r2] σ _
  refine ev_ifeq i86_5 (t := 17) (by decide) (p := 8) rfl h (fun c3 h => ?_) (fun c3 h => ?_)
  · exact kA_freeFor_J17 N d hd σ w _ _ rfl _ rfl _ rfl _ rfl _ h
  · refine ev_s i86_8 (p := 9) rfl ?_
    refine ev_s i86_9 (p := 11) (zib_40 _ _ _ _ _) ?_
    obtain ⟨r5, hr4, h⟩ := bd_some h
    refine ev_callS i86_11 zn7_64 zc7_64 zm103 (as := [zI x2, zI 40]) (rest := []) rfl rfl (Nat.le_of_ble_eq_true rfl) (Nat.le_of_ble_eq_true rfl) (Nat.le_of_ble_eq_true rfl) (by omega) (l0 := [some (zI x2), some (zI 40)]) rfl (p := 14) rfl (kA_within x2 40 σ r5 hr4 (d - 1) (by omega)) ?_
    change zEv d 86 14 [some (zR 7 0), some (zI x1), some (zI x2), none, none, none, none] [zI r5] σ _
    refine ev_ifne i86_14 (t := 23) (by decide) (p := 17) rfl h (fun c6 h => ?_) (fun c6 h => ?_)
    · exact kA_freeFor_J17 N d hd σ w _ _ rfl _ rfl _ rfl _ rfl _ h
    · refine ev_s i86_23 (p := 24) rfl ?_
      refine ev_getf i86_24 zf7_47 (u := zR 2 0) rfl (p := 27) rfl ?_
      obtain ⟨r8, hr7, h⟩ := bd_some h
      refine ev_callV i86_27 zc7_198 zm20 zo20 (as' := []) (rest := []) rfl rfl (Nat.le_of_ble_eq_true rfl) (Nat.le_of_ble_eq_true rfl) (Nat.le_of_ble_eq_true rfl) (by omega) (l0 := [some (zR 2 0), none, none]) rfl (p := 30) rfl (kR_tied N 0 σ r8 hr7 (d - 1) (by omega)) ?_
      change zEv d 86 30 [some (zR 7 0), some (zI x1), some (zI x2), none, none, none, none] [zI r8] σ _
      refine ev_s i86_30 (p := 31) (l := [some (zR 7 0), some (zI x1), some (zI x2), some (zI r8), none, none, none]) rfl ?_
      refine ev_s i86_31 (p := 32) (zic_0 _ _ _ _ _) ?_
      refine ev_s i86_32 (p := 34) (l := [some (zR 7 0), some (zI x1), some (zI x2), some (zI r8), some (zI 0), none, none]) rfl ?_
      exact kA_freeFor_L34 N d hd N x1 x2 r8 0 σ w _ rfl _ h
/-! fM_staysWithout -/
def fM_staysWithout_J65 (N : Nat) (u0 : Int32) (σ : zS) : Option (Int32 × zS) := (fM_putsBack N σ).bind fun s13 => zgd (u0 = 0 ∨ u0 = 1) (some (u0, s13))
set_option maxHeartbeats 4000000 in
theorem kM_staysWithout_J65 (N : Nat) (d : Nat) (hd : 8 ≤ d)  : ∀ (u0 : Int32) (σ : zS) (w : Int32 × zS) (z1 : Option zA) (z2 : Option zA) (z3 : Option zA) (hz3 : znl z3 = true) (z4 : Option zA) (hz4 : znl z4 = true) (z5 : Option zA), fM_staysWithout_J65 N u0 σ = some w → zEv d 191 65 [some (zR 8 0), z1, z2, z3, z4, z5] [zI u0] σ (some (zI w.1), w.2) := by
  intro u0 σ w z1 z2 z3 hz3 z4 hz4 z5 h
  unfold fM_staysWithout_J65 at h
  refine ev_s i191_65 (p := 67) (l := [some (zR 8 0), z1, z2, z3, z4, some (zI u0)]) (t := []) (s := σ) (by rcases z4 with _ | _ | _ | _ <;> first | rfl | cases hz4) ?_
  refine ev_s i191_67 (p := 68) rfl ?_
  obtain ⟨s13, hr12, h⟩ := bd_some h
  refine ev_callV i191_68 zc8_237 zm115 zo115 (as' := []) (rest := []) rfl rfl (Nat.le_of_ble_eq_true rfl) (Nat.le_of_ble_eq_true rfl) (Nat.le_of_ble_eq_true rfl) (by omega) (l0 := [some (zR 8 0), none]) rfl (p := 71) rfl (kM_putsBack N σ s13 hr12 (d - 1) (by omega)) ?_
  change zEv d 191 71 [some (zR 8 0), z1, z2, z3, z4, some (zI u0)] [] s13 _
  refine ev_s i191_71 (p := 73) rfl ?_
  obtain ⟨g14, h⟩ := zgd_some h
  obtain rfl := Option.some.inj h
  exact ev_zret i191_73 zr191 g14
def fM_staysWithout_L11 (N : Nat) : Nat → Int32 → Int32 → Int32 → Int32 → Int32 → zS → Option (Int32 × zS)
  | 0, _, _, _, _, _, _ => none
  | n + 1, y1, y2, y3, y4, y5, σ => (if (σ 30 0 4) ≤ y5 then (fM_goesOn N y3 σ).bind fun s5 => (fM_its y1 3 s5).bind fun r7 => (if r7 = y4 then fM_staysWithout_J65 N 1 s5 else fM_staysWithout_J65 N 0 s5) else (if ((y2 >>> (y5 &&& 31)) &&& 1) = 1 then (fM_unties y5 σ).bind fun s11 => fM_staysWithout_L11 N n y1 y2 y3 y4 (y5 + 1) s11 else fM_staysWithout_L11 N n y1 y2 y3 y4 (y5 + 1) σ))
set_option maxHeartbeats 4000000 in
theorem kM_staysWithout_L11 (N : Nat) (d : Nat) (hd : 8 ≤ d)  : ∀ n : Nat, ∀ (y1 : Int32) (y2 : Int32) (y3 : Int32) (y4 : Int32) (y5 : Int32) (σ : zS) (w : Int32 × zS), fM_staysWithout_L11 N n y1 y2 y3 y4 y5 σ = some w → zEv d 191 11 [some (zR 8 0), some (zI y1), some (zI y2), some (zI y3), some (zI y4), some (zI y5)] [] σ (some (zI w.1), w.2) := by
  intro n
  induction n with
  | zero =>
    intro y1 y2 y3 y4 y5 σ w h
    cases h
  | succ n ih =>
    intro y1 y2 y3 y4 y5 σ w h
    rw [fM_staysWithout_L11] at h
    refine ev_s i191_11 (p := 13) rfl ?_
    refine ev_s i191_13 (p := 14) rfl ?_
    refine ev_getf i191_14 zf8_7 (u := zR 30 0) rfl (p := 17) rfl ?_
    refine ev_s i191_17 (p := 18) (zic_4 _ _ _ _ _) ?_
    refine ev_ialdK i191_18 rfl (n := 394) rfl (by decide) (p := 19) rfl ?_
    change zEv d 191 19 [some (zR 8 0), some (zI y1), some (zI y2), some (zI y3), some (zI y4), some (zI y5)] [zI (σ 30 0 4), zI y5] σ _
    refine ev_cmpge i191_19 (t := 44) (by decide) (p := 22) rfl h (fun c3 h => ?_) (fun c3 h => ?_)
    · refine ev_s i191_44 (p := 45) rfl ?_
      refine ev_s i191_45 (p := 46) rfl ?_
      obtain ⟨s5, hr4, h⟩ := bd_some h
      refine ev_callV i191_46 zc8_206 zm155 zo155 (as' := [zI y3]) (rest := []) rfl rfl (Nat.le_of_ble_eq_true rfl) (Nat.le_of_ble_eq_true rfl) (Nat.le_of_ble_eq_true rfl) (by omega) (l0 := [some (zR 8 0), some (zI y3), none]) rfl (p := 49) rfl (kM_goesOn N y3 σ s5 hr4 (d - 1) (by omega)) ?_
      change zEv d 191 49 [some (zR 8 0), some (zI y1), some (zI y2), some (zI y3), some (zI y4), some (zI y5)] [] s5 _
      refine ev_s i191_49 (p := 50) rfl ?_
      refine ev_s i191_50 (p := 51) rfl ?_
      refine ev_s i191_51 (p := 52) (zic_3 _ _ _ _ _) ?_
      obtain ⟨r7, hr6, h⟩ := bd_some h
      refine ev_callV i191_52 zc8_54 zm118 zo118 (as' := [zI y1, zI 3]) (rest := []) rfl rfl (Nat.le_of_ble_eq_true rfl) (Nat.le_of_ble_eq_true rfl) (Nat.le_of_ble_eq_true rfl) (by omega) (l0 := [some (zR 8 0), some (zI y1), some (zI 3)]) rfl (p := 55) rfl (kM_its y1 3 s5 r7 hr6 (d - 1) (by omega)) ?_
      change zEv d 191 55 [some (zR 8 0), some (zI y1), some (zI y2), some (zI y3), some (zI y4), some (zI y5)] [zI r7] s5 _
      refine ev_s i191_55 (p := 57) rfl ?_
      refine ev_cmpne i191_57 (t := 64) (by decide) (p := 60) rfl h (fun c8 h => ?_) (fun c8 h => ?_)
      · refine ev_s i191_60 (p := 61) (zic_1 _ _ _ _ _) ?_
        refine ev_goto i191_61 (t := 65) (by decide) ?_
        exact kM_staysWithout_J65 N d hd 1 s5 w _ _ _ rfl _ rfl _ h
      · refine ev_s i191_64 (p := 65) (zic_0 _ _ _ _ _) ?_
        exact kM_staysWithout_J65 N d hd 0 s5 w _ _ _ rfl _ rfl _ h
    · refine ev_s i191_22 (p := 23) rfl ?_
      refine ev_s i191_23 (p := 25) rfl ?_
      refine ev_s i191_25 (p := 26) (t := [zI (y2 >>> (y5 &&& 31))]) rfl ?_
      refine ev_s i191_26 (p := 27) (zic_1 _ _ _ _ _) ?_
      refine ev_s i191_27 (p := 28) (t := [zI ((y2 >>> (y5 &&& 31)) &&& 1)]) rfl ?_
      refine ev_s i191_28 (p := 29) (zic_1 _ _ _ _ _) ?_
      refine ev_cmpne i191_29 (t := 38) (by decide) (p := 32) rfl h (fun c9 h => ?_) (fun c9 h => ?_)
      · refine ev_s i191_32 (p := 33) rfl ?_
        refine ev_s i191_33 (p := 35) rfl ?_
        obtain ⟨s11, hr10, h⟩ := bd_some h
        refine ev_callV i191_35 zc8_153 zm148 zo148 (as' := [zI y5]) (rest := []) rfl rfl (Nat.le_of_ble_eq_true rfl) (Nat.le_of_ble_eq_true rfl) (Nat.le_of_ble_eq_true rfl) (by omega) (l0 := [some (zR 8 0), some (zI y5)]) rfl (p := 38) rfl (kM_unties y5 σ s11 hr10 (d - 1) (by omega)) ?_
        change zEv d 191 38 [some (zR 8 0), some (zI y1), some (zI y2), some (zI y3), some (zI y4), some (zI y5)] [] s11 _
        refine ev_iinc i191_38 zii_1 rfl (l := [some (zR 8 0), some (zI y1), some (zI y2), some (zI y3), some (zI y4), some (zI (y5 + 1))]) rfl (p := 41) rfl ?_
        refine ev_goto i191_41 (t := 11) (by decide) ?_
        exact ih y1 y2 y3 y4 (y5 + 1) s11 w h
      · refine ev_iinc i191_38 zii_1 rfl (l := [some (zR 8 0), some (zI y1), some (zI y2), some (zI y3), some (zI y4), some (zI (y5 + 1))]) rfl (p := 41) rfl ?_
        refine ev_goto i191_41 (t := 11) (by decide) ?_
        exact ih y1 y2 y3 y4 (y5 + 1) σ w h
def fM_staysWithout (N : Nat) (x1 : Int32) (x2 : Int32) (x3 : Int32) (σ : zS) : Option (Int32 × zS) := (fM_its x1 3 σ).bind fun r2 => fM_staysWithout_L11 N N x1 x2 x3 r2 0 σ
set_option maxHeartbeats 4000000 in
theorem kM_staysWithout (N : Nat) (x1 : Int32) (x2 : Int32) (x3 : Int32) (σ : zS) (w : Int32 × zS) (h : fM_staysWithout N x1 x2 x3 σ = some w) (d : Nat) (hd : 8 ≤ d) : zEv d 191 0 [some (zR 8 0), some (zI x1), some (zI x2), some (zI x3), none, none] [] σ (some (zI w.1), w.2) := by
  unfold fM_staysWithout at h
  refine ev_s i191_0 (p := 1) rfl ?_
  refine ev_s i191_1 (p := 2) rfl ?_
  refine ev_s i191_2 (p := 3) (zic_3 _ _ _ _ _) ?_
  obtain ⟨r2, hr1, h⟩ := bd_some h
  refine ev_callV i191_3 zc8_54 zm118 zo118 (as' := [zI x1, zI 3]) (rest := []) rfl rfl (Nat.le_of_ble_eq_true rfl) (Nat.le_of_ble_eq_true rfl) (Nat.le_of_ble_eq_true rfl) (by omega) (l0 := [some (zR 8 0), some (zI x1), some (zI 3)]) rfl (p := 6) rfl (kM_its x1 3 σ r2 hr1 (d - 1) (by omega)) ?_
  change zEv d 191 6 [some (zR 8 0), some (zI x1), some (zI x2), some (zI x3), none, none] [zI r2] σ _
  refine ev_s i191_6 (p := 8) (l := [some (zR 8 0), some (zI x1), some (zI x2), some (zI x3), some (zI r2), none]) rfl ?_
  refine ev_s i191_8 (p := 9) (zic_0 _ _ _ _ _) ?_
  refine ev_s i191_9 (p := 11) (l := [some (zR 8 0), some (zI x1), some (zI x2), some (zI x3), some (zI r2), some (zI 0)]) rfl ?_
  exact kM_staysWithout_L11 N d hd N x1 x2 x3 r2 0 σ w h
/-! fM_freeFor -/
def fM_freeFor_J100 (N : Nat) (K39 : Int32 → Int32 → Int32 → Int32 → Int32 → zS → Option (Int32 × zS)) (y1 : Int32) (y2 : Int32) (y3 : Int32) (y4 : Int32) (y5 : Int32) (σ : zS) : Option (Int32 × zS) := K39 y1 y2 y3 y4 (y5 + 1) σ
set_option maxHeartbeats 4000000 in
theorem kM_freeFor_J100 (N : Nat) (d : Nat) (hd : 9 ≤ d) (K39 : Int32 → Int32 → Int32 → Int32 → Int32 → zS → Option (Int32 × zS)) (hK39 : ∀ (y1 : Int32) (y2 : Int32) (y3 : Int32) (y4 : Int32) (y5 : Int32) (σ : zS) (w : Int32 × zS) (z6 : Option zA), K39 y1 y2 y3 y4 y5 σ = some w → zEv d 192 39 [some (zR 8 0), some (zI y1), some (zI y2), some (zI y3), some (zI y4), some (zI y5), z6] [] σ (some (zI w.1), w.2)) : ∀ (y1 : Int32) (y2 : Int32) (y3 : Int32) (y4 : Int32) (y5 : Int32) (σ : zS) (w : Int32 × zS) (z6 : Option zA), fM_freeFor_J100 N K39 y1 y2 y3 y4 y5 σ = some w → zEv d 192 100 [some (zR 8 0), some (zI y1), some (zI y2), some (zI y3), some (zI y4), some (zI y5), z6] [] σ (some (zI w.1), w.2) := by
  intro y1 y2 y3 y4 y5 σ w z6 h
  unfold fM_freeFor_J100 at h
  refine ev_s i192_100 (p := 102) rfl ?_
  refine ev_s i192_102 (p := 104) (l := [some (zR 8 0), some (zI y1), some (zI y2), some (zI y3), some (zI y4), some (zI y5), z6]) rfl ?_
  refine ev_iinc i192_104 zii_1 rfl (l := [some (zR 8 0), some (zI y1), some (zI y2), some (zI y3), some (zI y4), some (zI (y5 + 1)), z6]) rfl (p := 107) rfl ?_
  refine ev_goto i192_107 (t := 39) (by decide) ?_
  exact hK39 y1 y2 y3 y4 (y5 + 1) σ w _ h
def fM_freeFor_J77 (N : Nat) (K39 : Int32 → Int32 → Int32 → Int32 → Int32 → zS → Option (Int32 × zS)) (y1 : Int32) (y2 : Int32) (y3 : Int32) (y4 : Int32) (y5 : Int32) (u0 : Int32) (σ : zS) : Option (Int32 × zS) := (if u0 = 0 then fM_freeFor_J100 N K39 y1 y2 y3 y4 y5 σ else zb2 (fM_staysWithout N y1 y5 y2 σ) fun r29 s28 => (if r29 = 0 then fM_freeFor_J100 N K39 y1 y2 y3 y4 y5 s28 else K39 y1 y2 y3 y5 (y5 + 1) s28))
set_option maxHeartbeats 4000000 in
theorem kM_freeFor_J77 (N : Nat) (d : Nat) (hd : 9 ≤ d) (K39 : Int32 → Int32 → Int32 → Int32 → Int32 → zS → Option (Int32 × zS)) (hK39 : ∀ (y1 : Int32) (y2 : Int32) (y3 : Int32) (y4 : Int32) (y5 : Int32) (σ : zS) (w : Int32 × zS) (z6 : Option zA), K39 y1 y2 y3 y4 y5 σ = some w → zEv d 192 39 [some (zR 8 0), some (zI y1), some (zI y2), some (zI y3), some (zI y4), some (zI y5), z6] [] σ (some (zI w.1), w.2)) : ∀ (y1 : Int32) (y2 : Int32) (y3 : Int32) (y4 : Int32) (y5 : Int32) (u0 : Int32) (σ : zS) (w : Int32 × zS) (z6 : Option zA), fM_freeFor_J77 N K39 y1 y2 y3 y4 y5 u0 σ = some w → zEv d 192 77 [some (zR 8 0), some (zI y1), some (zI y2), some (zI y3), some (zI y4), some (zI y5), z6] [zI u0] σ (some (zI w.1), w.2) := by
  intro y1 y2 y3 y4 y5 u0 σ w z6 h
  unfold fM_freeFor_J77 at h
  refine ev_s i192_77 (p := 79) (l := [some (zR 8 0), some (zI y1), some (zI y2), some (zI y3), some (zI y4), some (zI y5), some (zI u0)]) rfl ?_
  refine ev_s i192_79 (p := 81) rfl ?_
  refine ev_ifeq i192_81 (t := 100) (by decide) (p := 84) rfl h (fun c26 h => ?_) (fun c26 h => ?_)
  · exact kM_freeFor_J100 N d hd K39 hK39 y1 y2 y3 y4 y5 σ w _ h
  · refine ev_s i192_84 (p := 85) rfl ?_
    refine ev_s i192_85 (p := 86) rfl ?_
    refine ev_s i192_86 (p := 88) rfl ?_
    refine ev_s i192_88 (p := 89) rfl ?_
    obtain ⟨r29, s28, hr27, h⟩ := b2_some h
    refine ev_callV i192_89 zc8_246 zm191 zo191 (as' := [zI y1, zI y5, zI y2]) (rest := []) rfl rfl (Nat.le_of_ble_eq_true rfl) (Nat.le_of_ble_eq_true rfl) (Nat.le_of_ble_eq_true rfl) (by omega) (l0 := [some (zR 8 0), some (zI y1), some (zI y5), some (zI y2), none, none]) rfl (p := 92) rfl (kM_staysWithout N y1 y5 y2 σ (r29, s28) hr27 (d - 1) (by omega)) ?_
    change zEv d 192 92 [some (zR 8 0), some (zI y1), some (zI y2), some (zI y3), some (zI y4), some (zI y5), some (zI u0)] [zI r29] s28 _
    refine ev_ifeq i192_92 (t := 100) (by decide) (p := 95) rfl h (fun c30 h => ?_) (fun c30 h => ?_)
    · exact kM_freeFor_J100 N d hd K39 hK39 y1 y2 y3 y4 y5 s28 w _ h
    · refine ev_s i192_95 (p := 97) rfl ?_
      refine ev_goto i192_97 (t := 102) (by decide) ?_
      refine ev_s i192_102 (p := 104) (l := [some (zR 8 0), some (zI y1), some (zI y2), some (zI y3), some (zI y5), some (zI y5), some (zI u0)]) rfl ?_
      refine ev_iinc i192_104 zii_1 rfl (l := [some (zR 8 0), some (zI y1), some (zI y2), some (zI y3), some (zI y5), some (zI (y5 + 1)), some (zI u0)]) rfl (p := 107) rfl ?_
      refine ev_goto i192_107 (t := 39) (by decide) ?_
      exact hK39 y1 y2 y3 y5 (y5 + 1) s28 w _ h
def fM_freeFor_J76 (N : Nat) (K39 : Int32 → Int32 → Int32 → Int32 → Int32 → zS → Option (Int32 × zS)) (y1 : Int32) (y2 : Int32) (y3 : Int32) (y4 : Int32) (y5 : Int32) (σ : zS) : Option (Int32 × zS) := fM_freeFor_J77 N K39 y1 y2 y3 y4 y5 0 σ
set_option maxHeartbeats 4000000 in
theorem kM_freeFor_J76 (N : Nat) (d : Nat) (hd : 9 ≤ d) (K39 : Int32 → Int32 → Int32 → Int32 → Int32 → zS → Option (Int32 × zS)) (hK39 : ∀ (y1 : Int32) (y2 : Int32) (y3 : Int32) (y4 : Int32) (y5 : Int32) (σ : zS) (w : Int32 × zS) (z6 : Option zA), K39 y1 y2 y3 y4 y5 σ = some w → zEv d 192 39 [some (zR 8 0), some (zI y1), some (zI y2), some (zI y3), some (zI y4), some (zI y5), z6] [] σ (some (zI w.1), w.2)) : ∀ (y1 : Int32) (y2 : Int32) (y3 : Int32) (y4 : Int32) (y5 : Int32) (σ : zS) (w : Int32 × zS) (z6 : Option zA), fM_freeFor_J76 N K39 y1 y2 y3 y4 y5 σ = some w → zEv d 192 76 [some (zR 8 0), some (zI y1), some (zI y2), some (zI y3), some (zI y4), some (zI y5), z6] [] σ (some (zI w.1), w.2) := by
  intro y1 y2 y3 y4 y5 σ w z6 h
  unfold fM_freeFor_J76 at h
  refine ev_s i192_76 (p := 77) (zic_0 _ _ _ _ _) ?_
  exact kM_freeFor_J77 N d hd K39 hK39 y1 y2 y3 y4 y5 0 σ w _ h
def fM_freeFor_J72 (N : Nat) (K39 : Int32 → Int32 → Int32 → Int32 → Int32 → zS → Option (Int32 × zS)) (y1 : Int32) (y2 : Int32) (y3 : Int32) (y4 : Int32) (y5 : Int32) (σ : zS) : Option (Int32 × zS) := fM_freeFor_J77 N K39 y1 y2 y3 y4 y5 1 σ
set_option maxHeartbeats 4000000 in
theorem kM_freeFor_J72 (N : Nat) (d : Nat) (hd : 9 ≤ d) (K39 : Int32 → Int32 → Int32 → Int32 → Int32 → zS → Option (Int32 × zS)) (hK39 : ∀ (y1 : Int32) (y2 : Int32) (y3 : Int32) (y4 : Int32) (y5 : Int32) (σ : zS) (w : Int32 × zS) (z6 : Option zA), K39 y1 y2 y3 y4 y5 σ = some w → zEv d 192 39 [some (zR 8 0), some (zI y1), some (zI y2), some (zI y3), some (zI y4), some (zI y5), z6] [] σ (some (zI w.1), w.2)) : ∀ (y1 : Int32) (y2 : Int32) (y3 : Int32) (y4 : Int32) (y5 : Int32) (σ : zS) (w : Int32 × zS) (z6 : Option zA), fM_freeFor_J72 N K39 y1 y2 y3 y4 y5 σ = some w → zEv d 192 72 [some (zR 8 0), some (zI y1), some (zI y2), some (zI y3), some (zI y4), some (zI y5), z6] [] σ (some (zI w.1), w.2) := by
  intro y1 y2 y3 y4 y5 σ w z6 h
  unfold fM_freeFor_J72 at h
  refine ev_s i192_72 (p := 73) (zic_1 _ _ _ _ _) ?_
  refine ev_goto i192_73 (t := 77) (by decide) ?_
  exact kM_freeFor_J77 N d hd K39 hK39 y1 y2 y3 y4 y5 1 σ w _ h
def fM_freeFor_L39 (N : Nat) : Nat → Int32 → Int32 → Int32 → Int32 → Int32 → zS → Option (Int32 × zS)
  | 0, _, _, _, _, _, _ => none
  | n + 1, y1, y2, y3, y4, y5, σ => (if y3 < y5 then (if 0 ≤ y4 then some (y4, σ) else zb2 (fM_error 2 σ) fun r18 s17 => some (r18, s17)) else (if (y5 &&& (y3 ^^^ (-1))) = 0 then (if y4 < 0 then fM_freeFor_J72 N (fun y1 y2 y3 y4 y5 σ => fM_freeFor_L39 N n y1 y2 y3 y4 y5 σ) y1 y2 y3 y4 y5 σ else (fM_ones N y5).bind fun r22 => (fM_ones N y4).bind fun r24 => (if r24 ≤ r22 then fM_freeFor_J76 N (fun y1 y2 y3 y4 y5 σ => fM_freeFor_L39 N n y1 y2 y3 y4 y5 σ) y1 y2 y3 y4 y5 σ else fM_freeFor_J72 N (fun y1 y2 y3 y4 y5 σ => fM_freeFor_L39 N n y1 y2 y3 y4 y5 σ) y1 y2 y3 y4 y5 σ)) else fM_freeFor_J76 N (fun y1 y2 y3 y4 y5 σ => fM_freeFor_L39 N n y1 y2 y3 y4 y5 σ) y1 y2 y3 y4 y5 σ))
set_option maxHeartbeats 4000000 in
theorem kM_freeFor_L39 (N : Nat) (d : Nat) (hd : 9 ≤ d)  : ∀ n : Nat, ∀ (y1 : Int32) (y2 : Int32) (y3 : Int32) (y4 : Int32) (y5 : Int32) (σ : zS) (w : Int32 × zS) (z6 : Option zA), fM_freeFor_L39 N n y1 y2 y3 y4 y5 σ = some w → zEv d 192 39 [some (zR 8 0), some (zI y1), some (zI y2), some (zI y3), some (zI y4), some (zI y5), z6] [] σ (some (zI w.1), w.2) := by
  intro n
  induction n with
  | zero =>
    intro y1 y2 y3 y4 y5 σ w z6 h
    cases h
  | succ n ih =>
    intro y1 y2 y3 y4 y5 σ w z6 h
    rw [fM_freeFor_L39] at h
    refine ev_s i192_39 (p := 41) rfl ?_
    refine ev_s i192_41 (p := 42) rfl ?_
    refine ev_cmpgt i192_42 (t := 110) (by decide) (p := 45) rfl h (fun c14 h => ?_) (fun c14 h => ?_)
    · refine ev_s i192_110 (p := 112) rfl ?_
      refine ev_ifge i192_112 (t := 123) (by decide) (p := 115) rfl h (fun c15 h => ?_) (fun c15 h => ?_)
      · refine ev_s i192_123 (p := 125) rfl ?_
        obtain rfl := Option.some.inj h
        exact ev_iret i192_125 zr192
      · refine ev_s i192_115 (p := 116) rfl ?_
        refine ev_s i192_116 (p := 117) (zic_2 _ _ _ _ _) ?_
        obtain ⟨r18, s17, hr16, h⟩ := b2_some h
        refine ev_callV i192_117 zc8_58 zm110 zo110 (as' := [zI 2]) (rest := []) rfl rfl (Nat.le_of_ble_eq_true rfl) (Nat.le_of_ble_eq_true rfl) (Nat.le_of_ble_eq_true rfl) (by omega) (l0 := [some (zR 8 0), some (zI 2)]) rfl (p := 120) rfl (kM_error 2 σ (r18, s17) hr16 (d - 1) (by omega)) ?_
        change zEv d 192 120 [some (zR 8 0), some (zI y1), some (zI y2), some (zI y3), some (zI y4), some (zI y5), z6] [zI r18] s17 _
        refine ev_goto i192_120 (t := 125) (by decide) ?_
        obtain rfl := Option.some.inj h
        exact ev_iret i192_125 zr192
    · refine ev_s i192_45 (p := 47) rfl ?_
      refine ev_s i192_47 (p := 48) rfl ?_
      refine ev_s i192_48 (p := 49) (zic_m1 _ _ _ _ _) ?_
      refine ev_s i192_49 (p := 50) (t := [zI (y3 ^^^ (-1)), zI y5]) rfl ?_
      refine ev_s i192_50 (p := 51) (t := [zI (y5 &&& (y3 ^^^ (-1)))]) rfl ?_
      refine ev_ifne i192_51 (t := 76) (by decide) (p := 54) rfl h (fun c19 h => ?_) (fun c19 h => ?_)
      · refine ev_s i192_54 (p := 56) rfl ?_
        refine ev_iflt i192_56 (t := 72) (by decide) (p := 59) rfl h (fun c20 h => ?_) (fun c20 h => ?_)
        · exact kM_freeFor_J72 N d hd (fun y1 y2 y3 y4 y5 σ => fM_freeFor_L39 N n y1 y2 y3 y4 y5 σ) ih y1 y2 y3 y4 y5 σ w _ h
        · refine ev_s i192_59 (p := 61) rfl ?_
          obtain ⟨r22, hr21, h⟩ := bd_some h
          refine ev_callS i192_61 zn8_228 zc8_228 zm181 (as := [zI y5]) (rest := []) rfl rfl (Nat.le_of_ble_eq_true rfl) (Nat.le_of_ble_eq_true rfl) (Nat.le_of_ble_eq_true rfl) (by omega) (l0 := [some (zI y5), none, none]) rfl (p := 64) rfl (kM_ones N y5 σ r22 hr21 (d - 1) (by omega)) ?_
          change zEv d 192 64 [some (zR 8 0), some (zI y1), some (zI y2), some (zI y3), some (zI y4), some (zI y5), z6] [zI r22] σ _
          refine ev_s i192_64 (p := 66) rfl ?_
          obtain ⟨r24, hr23, h⟩ := bd_some h
          refine ev_callS i192_66 zn8_228 zc8_228 zm181 (as := [zI y4]) (rest := [zI r22]) rfl rfl (Nat.le_of_ble_eq_true rfl) (Nat.le_of_ble_eq_true rfl) (Nat.le_of_ble_eq_true rfl) (by omega) (l0 := [some (zI y4), none, none]) rfl (p := 69) rfl (kM_ones N y4 σ r24 hr23 (d - 1) (by omega)) ?_
          change zEv d 192 69 [some (zR 8 0), some (zI y1), some (zI y2), some (zI y3), some (zI y4), some (zI y5), z6] [zI r24, zI r22] σ _
          refine ev_cmpge i192_69 (t := 76) (by decide) (p := 72) rfl h (fun c25 h => ?_) (fun c25 h => ?_)
          · exact kM_freeFor_J76 N d hd (fun y1 y2 y3 y4 y5 σ => fM_freeFor_L39 N n y1 y2 y3 y4 y5 σ) ih y1 y2 y3 y4 y5 σ w _ h
          · exact kM_freeFor_J72 N d hd (fun y1 y2 y3 y4 y5 σ => fM_freeFor_L39 N n y1 y2 y3 y4 y5 σ) ih y1 y2 y3 y4 y5 σ w _ h
      · exact kM_freeFor_J76 N d hd (fun y1 y2 y3 y4 y5 σ => fM_freeFor_L39 N n y1 y2 y3 y4 y5 σ) ih y1 y2 y3 y4 y5 σ w _ h
def fM_freeFor_J18 (N : Nat) (σ : zS) : Option (Int32 × zS) := zb2 (fM_error 1 σ) fun r13 s12 => some (r13, s12)
set_option maxHeartbeats 4000000 in
theorem kM_freeFor_J18 (N : Nat) (d : Nat) (hd : 9 ≤ d)  : ∀ (σ : zS) (w : Int32 × zS) (z1 : Option zA) (z2 : Option zA) (hz2 : znl z2 = true) (z3 : Option zA) (hz3 : znl z3 = true) (z4 : Option zA) (hz4 : znl z4 = true) (z5 : Option zA) (hz5 : znl z5 = true) (z6 : Option zA), fM_freeFor_J18 N σ = some w → zEv d 192 18 [some (zR 8 0), z1, z2, z3, z4, z5, z6] [] σ (some (zI w.1), w.2) := by
  intro σ w z1 z2 hz2 z3 hz3 z4 hz4 z5 hz5 z6 h
  unfold fM_freeFor_J18 at h
  refine ev_s i192_18 (p := 19) rfl ?_
  refine ev_s i192_19 (p := 20) (zic_1 _ _ _ _ _) ?_
  obtain ⟨r13, s12, hr11, h⟩ := b2_some h
  refine ev_callV i192_20 zc8_58 zm110 zo110 (as' := [zI 1]) (rest := []) rfl rfl (Nat.le_of_ble_eq_true rfl) (Nat.le_of_ble_eq_true rfl) (Nat.le_of_ble_eq_true rfl) (by omega) (l0 := [some (zR 8 0), some (zI 1)]) rfl (p := 23) rfl (kM_error 1 σ (r13, s12) hr11 (d - 1) (by omega)) ?_
  change zEv d 192 23 [some (zR 8 0), z1, z2, z3, z4, z5, z6] [zI r13] s12 _
  obtain rfl := Option.some.inj h
  exact ev_iret i192_23 zr192
def fM_freeFor (N : Nat) (x1 : Int32) (x2 : Int32) (σ : zS) : Option (Int32 × zS) := (fM_isOne x1 σ).bind fun r2 => (if r2 = 0 then fM_freeFor_J18 N σ else (fM_in x2 0 40).bind fun r5 => (if r5 = 0 then fM_freeFor_J18 N σ else (fM_saves N σ).bind fun s8 => (fM_tiedNow N s8).bind fun r10 => fM_freeFor_L39 N N x1 x2 r10 (-1) 0 s8))
set_option maxHeartbeats 4000000 in
theorem kM_freeFor (N : Nat) (x1 : Int32) (x2 : Int32) (σ : zS) (w : Int32 × zS) (h : fM_freeFor N x1 x2 σ = some w) (d : Nat) (hd : 9 ≤ d) : zEv d 192 0 [some (zR 8 0), some (zI x1), some (zI x2), none, none, none, none] [] σ (some (zI w.1), w.2) := by
  unfold fM_freeFor at h
  refine ev_s i192_0 (p := 1) rfl ?_
  refine ev_s i192_1 (p := 2) rfl ?_
  obtain ⟨r2, hr1, h⟩ := bd_some h
  refine ev_callV i192_2 zc8_194 zm116 zo116 (as' := [zI x1]) (rest := []) rfl rfl (Nat.le_of_ble_eq_true rfl) (Nat.le_of_ble_eq_true rfl) (Nat.le_of_ble_eq_true rfl) (by omega) (l0 := [some (zR 8 0), some (zI x1)]) rfl (p := 5) rfl (kM_isOne x1 σ r2 hr1 (d - 1) (by omega)) ?_
  change zEv d 192 5 [some (zR 8 0), some (zI x1), some (zI x2), none, none, none, none] [zI r2] σ _
  refine ev_ifeq i192_5 (t := 18) (by decide) (p := 8) rfl h (fun c3 h => ?_) (fun c3 h => ?_)
  · exact kM_freeFor_J18 N d hd σ w _ _ rfl _ rfl _ rfl _ rfl _ h
  · refine ev_s i192_8 (p := 9) rfl ?_
    refine ev_s i192_9 (p := 10) (zic_0 _ _ _ _ _) ?_
    refine ev_s i192_10 (p := 12) (zib_40 _ _ _ _ _) ?_
    obtain ⟨r5, hr4, h⟩ := bd_some h
    refine ev_callS i192_12 zn8_50 zc8_50 zm111 (as := [zI x2, zI 0, zI 40]) (rest := []) rfl rfl (Nat.le_of_ble_eq_true rfl) (Nat.le_of_ble_eq_true rfl) (Nat.le_of_ble_eq_true rfl) (by omega) (l0 := [some (zI x2), some (zI 0), some (zI 40)]) rfl (p := 15) rfl (kM_in x2 0 40 σ r5 hr4 (d - 1) (by omega)) ?_
    change zEv d 192 15 [some (zR 8 0), some (zI x1), some (zI x2), none, none, none, none] [zI r5] σ _
    refine ev_ifne i192_15 (t := 24) (by decide) (p := 18) rfl h (fun c6 h => ?_) (fun c6 h => ?_)
    · exact kM_freeFor_J18 N d hd σ w _ _ rfl _ rfl _ rfl _ rfl _ h
    · refine ev_s i192_24 (p := 25) rfl ?_
      obtain ⟨s8, hr7, h⟩ := bd_some h
      refine ev_callV i192_25 zc8_234 zm114 zo114 (as' := []) (rest := []) rfl rfl (Nat.le_of_ble_eq_true rfl) (Nat.le_of_ble_eq_true rfl) (Nat.le_of_ble_eq_true rfl) (by omega) (l0 := [some (zR 8 0), none]) rfl (p := 28) rfl (kM_saves N σ s8 hr7 (d - 1) (by omega)) ?_
      change zEv d 192 28 [some (zR 8 0), some (zI x1), some (zI x2), none, none, none, none] [] s8 _
      refine ev_s i192_28 (p := 29) rfl ?_
      obtain ⟨r10, hr9, h⟩ := bd_some h
      refine ev_callV i192_29 zc8_240 zm156 zo156 (as' := []) (rest := []) rfl rfl (Nat.le_of_ble_eq_true rfl) (Nat.le_of_ble_eq_true rfl) (Nat.le_of_ble_eq_true rfl) (by omega) (l0 := [some (zR 8 0), none, none]) rfl (p := 32) rfl (kM_tiedNow N s8 r10 hr9 (d - 1) (by omega)) ?_
      change zEv d 192 32 [some (zR 8 0), some (zI x1), some (zI x2), none, none, none, none] [zI r10] s8 _
      refine ev_s i192_32 (p := 33) (l := [some (zR 8 0), some (zI x1), some (zI x2), some (zI r10), none, none, none]) rfl ?_
      refine ev_s i192_33 (p := 34) (zic_m1 _ _ _ _ _) ?_
      refine ev_s i192_34 (p := 36) (l := [some (zR 8 0), some (zI x1), some (zI x2), some (zI r10), some (zI (-1)), none, none]) rfl ?_
      refine ev_s i192_36 (p := 37) (zic_0 _ _ _ _ _) ?_
      refine ev_s i192_37 (p := 39) (l := [some (zR 8 0), some (zI x1), some (zI x2), some (zI r10), some (zI (-1)), some (zI 0), none]) rfl ?_
      exact kM_freeFor_L39 N d hd N x1 x2 r10 (-1) 0 s8 w _ h
/-! fA_odds -/
def fA_odds_L88 (N : Nat) : Nat → Int32 → Int32 → Int32 → Int32 → zS → Option (Int32 × zS)
  | 0, _, _, _, _, _ => none
  | n + 1, y3, y4, y5, y6, σ => (if 5 ≤ y6 then (if y3 = 0 then some (y4, σ) else some (y5, σ)) else (if (y4 - y4 / 2 * 2) = 0 then (if (y5 - y5 / 2 * 2) = 0 then zlt (y4 / 2) fun v28 => zlt (y5 / 2) fun v29 => fA_odds_L88 N n y3 v28 v29 (y6 + 1) σ else fA_odds_L88 N n y3 y4 y5 (y6 + 1) σ) else fA_odds_L88 N n y3 y4 y5 (y6 + 1) σ))
set_option maxHeartbeats 4000000 in
theorem kA_odds_L88 (N : Nat) (d : Nat) (hd : 6 ≤ d)  : ∀ n : Nat, ∀ (y3 : Int32) (y4 : Int32) (y5 : Int32) (y6 : Int32) (σ : zS) (w : Int32 × zS) (z0 : Option zA) (z1 : Option zA) (z2 : Option zA), fA_odds_L88 N n y3 y4 y5 y6 σ = some w → zEv d 87 88 [z0, z1, z2, some (zI y3), some (zI y4), some (zI y5), some (zI y6)] [] σ (some (zI w.1), w.2) := by
  intro n
  induction n with
  | zero =>
    intro y3 y4 y5 y6 σ w z0 z1 z2 h
    cases h
  | succ n ih =>
    intro y3 y4 y5 y6 σ w z0 z1 z2 h
    rw [fA_odds_L88] at h
    refine ev_s i87_88 (p := 90) rfl ?_
    refine ev_s i87_90 (p := 91) (zic_5 _ _ _ _ _) ?_
    refine ev_cmpge i87_91 (t := 126) (by decide) (p := 94) rfl h (fun c24 h => ?_) (fun c24 h => ?_)
    · refine ev_s i87_126 (p := 127) rfl ?_
      refine ev_ifne i87_127 (t := 135) (by decide) (p := 130) rfl h (fun c25 h => ?_) (fun c25 h => ?_)
      · refine ev_s i87_130 (p := 132) rfl ?_
        refine ev_goto i87_132 (t := 137) (by decide) ?_
        obtain rfl := Option.some.inj h
        exact ev_iret i87_137 zr87
      · refine ev_s i87_135 (p := 137) rfl ?_
        obtain rfl := Option.some.inj h
        exact ev_iret i87_137 zr87
    · refine ev_s i87_94 (p := 96) rfl ?_
      refine ev_s i87_96 (p := 97) (zic_2 _ _ _ _ _) ?_
      refine ev_iremK i87_97 (p := 98) rfl (by decide) ?_
      refine ev_ifne i87_98 (t := 120) (by decide) (p := 101) rfl h (fun c26 h => ?_) (fun c26 h => ?_)
      · refine ev_s i87_101 (p := 103) rfl ?_
        refine ev_s i87_103 (p := 104) (zic_2 _ _ _ _ _) ?_
        refine ev_iremK i87_104 (p := 105) rfl (by decide) ?_
        refine ev_ifne i87_105 (t := 120) (by decide) (p := 108) rfl h (fun c27 h => ?_) (fun c27 h => ?_)
        · refine ev_s i87_108 (p := 110) rfl ?_
          refine ev_s i87_110 (p := 111) (zic_2 _ _ _ _ _) ?_
          refine ev_idivK i87_111 (p := 112) rfl (by decide) ?_
          refine ev_let h (fun v28 ev28 h => ?_)
          refine ev_s i87_112 (p := 114) (l := [z0, z1, z2, some (zI y3), some (zI v28), some (zI y5), some (zI y6)]) rfl ?_
          refine ev_s i87_114 (p := 116) rfl ?_
          refine ev_s i87_116 (p := 117) (zic_2 _ _ _ _ _) ?_
          refine ev_idivK i87_117 (p := 118) rfl (by decide) ?_
          refine ev_let h (fun v29 ev29 h => ?_)
          refine ev_s i87_118 (p := 120) (l := [z0, z1, z2, some (zI y3), some (zI v28), some (zI v29), some (zI y6)]) rfl ?_
          refine ev_iinc i87_120 zii_1 rfl (l := [z0, z1, z2, some (zI y3), some (zI v28), some (zI v29), some (zI (y6 + 1))]) rfl (p := 123) rfl ?_
          refine ev_goto i87_123 (t := 88) (by decide) ?_
          exact ih y3 v28 v29 (y6 + 1) σ w _ _ _ h
        · refine ev_iinc i87_120 zii_1 rfl (l := [z0, z1, z2, some (zI y3), some (zI y4), some (zI y5), some (zI (y6 + 1))]) rfl (p := 123) rfl ?_
          refine ev_goto i87_123 (t := 88) (by decide) ?_
          exact ih y3 y4 y5 (y6 + 1) σ w _ _ _ h
      · refine ev_iinc i87_120 zii_1 rfl (l := [z0, z1, z2, some (zI y3), some (zI y4), some (zI y5), some (zI (y6 + 1))]) rfl (p := 123) rfl ?_
        refine ev_goto i87_123 (t := 88) (by decide) ?_
        exact ih y3 y4 y5 (y6 + 1) σ w _ _ _ h
def fA_odds_L54 (N : Nat) : Nat → Int32 → Int32 → Int32 → Int32 → Int32 → zS → Option (Int32 × zS)
  | 0, _, _, _, _, _, _ => none
  | n + 1, y1, y2, y3, y4, y5, σ => (if 32 ≤ y5 then fA_odds_L88 N N y3 y4 32 0 σ else zb2 (fA_staysTied N y1 y5 y2 σ) fun r22 s21 => (if r22 = 0 then fA_odds_L54 N n y1 y2 y3 y4 (y5 + 1) s21 else fA_odds_L54 N n y1 y2 y3 (y4 + 1) (y5 + 1) s21))
set_option maxHeartbeats 4000000 in
theorem kA_odds_L54 (N : Nat) (d : Nat) (hd : 6 ≤ d)  : ∀ n : Nat, ∀ (y1 : Int32) (y2 : Int32) (y3 : Int32) (y4 : Int32) (y5 : Int32) (σ : zS) (w : Int32 × zS) (z6 : Option zA), fA_odds_L54 N n y1 y2 y3 y4 y5 σ = some w → zEv d 87 54 [some (zR 7 0), some (zI y1), some (zI y2), some (zI y3), some (zI y4), some (zI y5), z6] [] σ (some (zI w.1), w.2) := by
  intro n
  induction n with
  | zero =>
    intro y1 y2 y3 y4 y5 σ w z6 h
    cases h
  | succ n ih =>
    intro y1 y2 y3 y4 y5 σ w z6 h
    rw [fA_odds_L54] at h
    refine ev_s i87_54 (p := 56) rfl ?_
    refine ev_s i87_56 (p := 58) (zib_32 _ _ _ _ _) ?_
    refine ev_cmpge i87_58 (t := 81) (by decide) (p := 61) rfl h (fun c19 h => ?_) (fun c19 h => ?_)
    · refine ev_s i87_81 (p := 83) (zib_32 _ _ _ _ _) ?_
      refine ev_s i87_83 (p := 85) (l := [some (zR 7 0), some (zI y1), some (zI y2), some (zI y3), some (zI y4), some (zI 32), z6]) rfl ?_
      refine ev_s i87_85 (p := 86) (zic_0 _ _ _ _ _) ?_
      refine ev_s i87_86 (p := 88) (l := [some (zR 7 0), some (zI y1), some (zI y2), some (zI y3), some (zI y4), some (zI 32), some (zI 0)]) rfl ?_
      exact kA_odds_L88 N d hd N y3 y4 32 0 σ w _ _ _ h
    · refine ev_s i87_61 (p := 62) rfl ?_
      refine ev_s i87_62 (p := 63) rfl ?_
      refine ev_s i87_63 (p := 65) rfl ?_
      refine ev_s i87_65 (p := 66) rfl ?_
      obtain ⟨r22, s21, hr20, h⟩ := b2_some h
      refine ev_callV i87_66 zc7_202 zm107 zo107 (as' := [zI y1, zI y5, zI y2]) (rest := []) rfl rfl (Nat.le_of_ble_eq_true rfl) (Nat.le_of_ble_eq_true rfl) (Nat.le_of_ble_eq_true rfl) (by omega) (l0 := [some (zR 7 0), some (zI y1), some (zI y5), some (zI y2), none]) rfl (p := 69) rfl (kA_staysTied N y1 y5 y2 σ (r22, s21) hr20 (d - 1) (by omega)) ?_
      change zEv d 87 69 [some (zR 7 0), some (zI y1), some (zI y2), some (zI y3), some (zI y4), some (zI y5), z6] [zI r22] s21 _
      refine ev_ifeq i87_69 (t := 75) (by decide) (p := 72) rfl h (fun c23 h => ?_) (fun c23 h => ?_)
      · refine ev_iinc i87_75 zii_1 rfl (l := [some (zR 7 0), some (zI y1), some (zI y2), some (zI y3), some (zI y4), some (zI (y5 + 1)), z6]) rfl (p := 78) rfl ?_
        refine ev_goto i87_78 (t := 54) (by decide) ?_
        exact ih y1 y2 y3 y4 (y5 + 1) s21 w _ h
      · refine ev_iinc i87_72 zii_1 rfl (l := [some (zR 7 0), some (zI y1), some (zI y2), some (zI y3), some (zI (y4 + 1)), some (zI y5), z6]) rfl (p := 75) rfl ?_
        refine ev_iinc i87_75 zii_1 rfl (l := [some (zR 7 0), some (zI y1), some (zI y2), some (zI y3), some (zI (y4 + 1)), some (zI (y5 + 1)), z6]) rfl (p := 78) rfl ?_
        refine ev_goto i87_78 (t := 54) (by decide) ?_
        exact ih y1 y2 y3 (y4 + 1) (y5 + 1) s21 w _ h
def fA_odds_J25 (N : Nat) (σ : zS) : Option (Int32 × zS) := zb2 (fA_refuse 1 σ) fun r18 s17 => some (r18, s17)
set_option maxHeartbeats 4000000 in
theorem kA_odds_J25 (N : Nat) (d : Nat) (hd : 6 ≤ d)  : ∀ (σ : zS) (w : Int32 × zS) (z1 : Option zA) (z2 : Option zA) (z3 : Option zA) (hz3 : znl z3 = true) (z4 : Option zA) (hz4 : znl z4 = true) (z5 : Option zA) (hz5 : znl z5 = true) (z6 : Option zA), fA_odds_J25 N σ = some w → zEv d 87 25 [some (zR 7 0), z1, z2, z3, z4, z5, z6] [] σ (some (zI w.1), w.2) := by
  intro σ w z1 z2 z3 hz3 z4 hz4 z5 hz5 z6 h
  unfold fA_odds_J25 at h
  refine ev_s i87_25 (p := 26) rfl ?_
  refine ev_s i87_26 (p := 27) (zic_1 _ _ _ _ _) ?_
  obtain ⟨r18, s17, hr16, h⟩ := b2_some h
  refine ev_callV i87_27 zc7_72 zm102 zo102 (as' := [zI 1]) (rest := []) rfl rfl (Nat.le_of_ble_eq_true rfl) (Nat.le_of_ble_eq_true rfl) (Nat.le_of_ble_eq_true rfl) (by omega) (l0 := [some (zR 7 0), some (zI 1)]) rfl (p := 30) rfl (kA_refuse 1 σ (r18, s17) hr16 (d - 1) (by omega)) ?_
  change zEv d 87 30 [some (zR 7 0), z1, z2, z3, z4, z5, z6] [zI r18] s17 _
  obtain rfl := Option.some.inj h
  exact ev_iret i87_30 zr87
def fA_odds (N : Nat) (x1 : Int32) (x2 : Int32) (x3 : Int32) (σ : zS) : Option (Int32 × zS) := (fA_isThere x1 σ).bind fun r2 => (if r2 = 0 then fA_odds_J25 N σ else (fA_within x2 40).bind fun r5 => (if r5 = 0 then fA_odds_J25 N σ else (fA_within x3 1).bind fun r8 => (if r8 = 0 then fA_odds_J25 N σ else (fR_isTied 0 x1 σ).bind fun r11 => (if r11 = 0 then zb2 (fA_refuse 3 σ) fun r15 s14 => some (r15, s14) else fA_odds_L54 N N x1 x2 x3 0 0 σ))))
set_option maxHeartbeats 4000000 in
theorem kA_odds (N : Nat) (x1 : Int32) (x2 : Int32) (x3 : Int32) (σ : zS) (w : Int32 × zS) (h : fA_odds N x1 x2 x3 σ = some w) (d : Nat) (hd : 6 ≤ d) : zEv d 87 0 [some (zR 7 0), some (zI x1), some (zI x2), some (zI x3), none, none, none] [] σ (some (zI w.1), w.2) := by
  unfold fA_odds at h
  refine ev_s i87_0 (p := 1) rfl ?_
  refine ev_s i87_1 (p := 2) rfl ?_
  obtain ⟨r2, hr1, h⟩ := bd_some h
  refine ev_callV i87_2 zc7_68 zm104 zo104 (as' := [zI x1]) (rest := []) rfl rfl (Nat.le_of_ble_eq_true rfl) (Nat.le_of_ble_eq_true rfl) (Nat.le_of_ble_eq_true rfl) (by omega) (l0 := [some (zR 7 0), some (zI x1)]) rfl (p := 5) rfl (kA_isThere x1 σ r2 hr1 (d - 1) (by omega)) ?_
  change zEv d 87 5 [some (zR 7 0), some (zI x1), some (zI x2), some (zI x3), none, none, none] [zI r2] σ _
  refine ev_ifeq i87_5 (t := 25) (by decide) (p := 8) rfl h (fun c3 h => ?_) (fun c3 h => ?_)
  · exact kA_odds_J25 N d hd σ w _ _ _ rfl _ rfl _ rfl _ h
  · refine ev_s i87_8 (p := 9) rfl ?_
    refine ev_s i87_9 (p := 11) (zib_40 _ _ _ _ _) ?_
    obtain ⟨r5, hr4, h⟩ := bd_some h
    refine ev_callS i87_11 zn7_64 zc7_64 zm103 (as := [zI x2, zI 40]) (rest := []) rfl rfl (Nat.le_of_ble_eq_true rfl) (Nat.le_of_ble_eq_true rfl) (Nat.le_of_ble_eq_true rfl) (by omega) (l0 := [some (zI x2), some (zI 40)]) rfl (p := 14) rfl (kA_within x2 40 σ r5 hr4 (d - 1) (by omega)) ?_
    change zEv d 87 14 [some (zR 7 0), some (zI x1), some (zI x2), some (zI x3), none, none, none] [zI r5] σ _
    refine ev_ifeq i87_14 (t := 25) (by decide) (p := 17) rfl h (fun c6 h => ?_) (fun c6 h => ?_)
    · exact kA_odds_J25 N d hd σ w _ _ _ rfl _ rfl _ rfl _ h
    · refine ev_s i87_17 (p := 18) rfl ?_
      refine ev_s i87_18 (p := 19) (zic_1 _ _ _ _ _) ?_
      obtain ⟨r8, hr7, h⟩ := bd_some h
      refine ev_callS i87_19 zn7_64 zc7_64 zm103 (as := [zI x3, zI 1]) (rest := []) rfl rfl (Nat.le_of_ble_eq_true rfl) (Nat.le_of_ble_eq_true rfl) (Nat.le_of_ble_eq_true rfl) (by omega) (l0 := [some (zI x3), some (zI 1)]) rfl (p := 22) rfl (kA_within x3 1 σ r8 hr7 (d - 1) (by omega)) ?_
      change zEv d 87 22 [some (zR 7 0), some (zI x1), some (zI x2), some (zI x3), none, none, none] [zI r8] σ _
      refine ev_ifne i87_22 (t := 31) (by decide) (p := 25) rfl h (fun c9 h => ?_) (fun c9 h => ?_)
      · exact kA_odds_J25 N d hd σ w _ _ _ rfl _ rfl _ rfl _ h
      · refine ev_s i87_31 (p := 32) rfl ?_
        refine ev_getf i87_32 zf7_47 (u := zR 2 0) rfl (p := 35) rfl ?_
        refine ev_s i87_35 (p := 36) rfl ?_
        obtain ⟨r11, hr10, h⟩ := bd_some h
        refine ev_callV i87_36 zc7_114 zm19 zo19 (as' := [zI x1]) (rest := []) rfl rfl (Nat.le_of_ble_eq_true rfl) (Nat.le_of_ble_eq_true rfl) (Nat.le_of_ble_eq_true rfl) (by omega) (l0 := [some (zR 2 0), some (zI x1)]) rfl (p := 39) rfl (kR_isTied 0 x1 σ r11 hr10 (d - 1) (by omega)) ?_
        change zEv d 87 39 [some (zR 7 0), some (zI x1), some (zI x2), some (zI x3), none, none, none] [zI r11] σ _
        refine ev_ifne i87_39 (t := 48) (by decide) (p := 42) rfl h (fun c12 h => ?_) (fun c12 h => ?_)
        · refine ev_s i87_42 (p := 43) rfl ?_
          refine ev_s i87_43 (p := 44) (zic_3 _ _ _ _ _) ?_
          obtain ⟨r15, s14, hr13, h⟩ := b2_some h
          refine ev_callV i87_44 zc7_72 zm102 zo102 (as' := [zI 3]) (rest := []) rfl rfl (Nat.le_of_ble_eq_true rfl) (Nat.le_of_ble_eq_true rfl) (Nat.le_of_ble_eq_true rfl) (by omega) (l0 := [some (zR 7 0), some (zI 3)]) rfl (p := 47) rfl (kA_refuse 3 σ (r15, s14) hr13 (d - 1) (by omega)) ?_
          change zEv d 87 47 [some (zR 7 0), some (zI x1), some (zI x2), some (zI x3), none, none, none] [zI r15] s14 _
          obtain rfl := Option.some.inj h
          exact ev_iret i87_47 zr87
        · refine ev_s i87_48 (p := 49) (zic_0 _ _ _ _ _) ?_
          refine ev_s i87_49 (p := 51) (l := [some (zR 7 0), some (zI x1), some (zI x2), some (zI x3), some (zI 0), none, none]) rfl ?_
          refine ev_s i87_51 (p := 52) (zic_0 _ _ _ _ _) ?_
          refine ev_s i87_52 (p := 54) (l := [some (zR 7 0), some (zI x1), some (zI x2), some (zI x3), some (zI 0), some (zI 0), none]) rfl ?_
          exact kA_odds_L54 N d hd N x1 x2 x3 0 0 σ w _ h
/-! fM_common -/
def fM_common_L4 (N : Nat) : Nat → Int32 → Int32 → Option (Int32)
  | 0, _, _ => none
  | n + 1, y2, y3 => (if y3 = 0 then some (y2) else zgd (¬ y3 = 0) (zlt (y2 - y2 / y3 * y3) fun v3 => fM_common_L4 N n y3 v3))
set_option maxHeartbeats 4000000 in
theorem kM_common_L4 (N : Nat) (d : Nat) (hd : 0 ≤ d)  : ∀ n : Nat, ∀ (y2 : Int32) (y3 : Int32) (w : Int32) (σ : zS) (z0 : Option zA) (z1 : Option zA) (hz1 : znl z1 = true) (z4 : Option zA), fM_common_L4 N n y2 y3 = some w → zEv d 193 4 [z0, z1, some (zI y2), some (zI y3), z4] [] σ (some (zI w), σ) := by
  intro n
  induction n with
  | zero =>
    intro y2 y3 w σ z0 z1 hz1 z4 h
    cases h
  | succ n ih =>
    intro y2 y3 w σ z0 z1 hz1 z4 h
    rw [fM_common_L4] at h
    refine ev_s i193_4 (p := 5) rfl ?_
    refine ev_ifeq i193_5 (t := 21) (by decide) (p := 8) rfl h (fun c1 h => ?_) (fun c1 h => ?_)
    · refine ev_s i193_21 (p := 22) rfl ?_
      obtain rfl := Option.some.inj h
      exact ev_iret i193_22 zr193
    · refine ev_s i193_8 (p := 9) rfl ?_
      refine ev_s i193_9 (p := 10) rfl ?_
      refine ev_irem i193_10 (p := 11) rfl h (fun g2 h => ?_)
      refine ev_let h (fun v3 ev3 h => ?_)
      refine ev_s i193_11 (p := 13) (l := [z0, z1, some (zI y2), some (zI y3), some (zI v3)]) rfl ?_
      refine ev_s i193_13 (p := 14) rfl ?_
      refine ev_s i193_14 (p := 15) (l := [z0, z1, some (zI y3), some (zI y3), some (zI v3)]) (t := []) (s := σ) (by rcases z1 with _ | _ | _ | _ <;> first | rfl | cases hz1) ?_
      refine ev_s i193_15 (p := 17) rfl ?_
      refine ev_s i193_17 (p := 18) (l := [z0, z1, some (zI y3), some (zI v3), some (zI v3)]) rfl ?_
      refine ev_goto i193_18 (t := 4) (by decide) ?_
      exact ih y3 v3 w σ _ _ hz1 _ h
def fM_common (N : Nat) (x0 : Int32) (x1 : Int32) : Option (Int32) := fM_common_L4 N N x0 x1
set_option maxHeartbeats 4000000 in
theorem kM_common (N : Nat) (x0 : Int32) (x1 : Int32) (σ : zS) (w : Int32) (h : fM_common N x0 x1 = some w) (d : Nat) (hd : 0 ≤ d) : zEv d 193 0 [some (zI x0), some (zI x1), none, none, none] [] σ (some (zI w), σ) := by
  unfold fM_common at h
  refine ev_s i193_0 (p := 1) rfl ?_
  refine ev_s i193_1 (p := 2) (l := [some (zI x0), some (zI x1), some (zI x0), none, none]) rfl ?_
  refine ev_s i193_2 (p := 3) rfl ?_
  refine ev_s i193_3 (p := 4) (l := [some (zI x0), some (zI x1), some (zI x0), some (zI x1), none]) rfl ?_
  exact kM_common_L4 N d hd N x0 x1 w σ _ _ rfl _ h
/-! fM_odds -/
def fM_odds_J102 (N : Nat) (y4 : Int32) (u0 : Int32) (σ : zS) : Option (Int32 × zS) := (fM_common N y4 32).bind fun r30 => zgd (¬ r30 = 0) (some (u0 / r30, σ))
set_option maxHeartbeats 4000000 in
theorem kM_odds_J102 (N : Nat) (d : Nat) (hd : 9 ≤ d)  : ∀ (y4 : Int32) (u0 : Int32) (σ : zS) (w : Int32 × zS) (z0 : Option zA) (z1 : Option zA) (z2 : Option zA) (z3 : Option zA) (hz3 : znl z3 = true) (z5 : Option zA), fM_odds_J102 N y4 u0 σ = some w → zEv d 194 102 [z0, z1, z2, z3, some (zI y4), z5] [zI u0] σ (some (zI w.1), w.2) := by
  intro y4 u0 σ w z0 z1 z2 z3 hz3 z5 h
  unfold fM_odds_J102 at h
  refine ev_s i194_102 (p := 104) rfl ?_
  refine ev_s i194_104 (p := 106) (zib_32 _ _ _ _ _) ?_
  obtain ⟨r30, hr29, h⟩ := bd_some h
  refine ev_callS i194_106 zn8_249 zc8_249 zm193 (as := [zI y4, zI 32]) (rest := [zI u0]) rfl rfl (Nat.le_of_ble_eq_true rfl) (Nat.le_of_ble_eq_true rfl) (Nat.le_of_ble_eq_true rfl) (by omega) (l0 := [some (zI y4), some (zI 32), none, none, none]) rfl (p := 109) rfl (kM_common N y4 32 σ r30 hr29 (d - 1) (by omega)) ?_
  change zEv d 194 109 [z0, z1, z2, z3, some (zI y4), z5] [zI r30, zI u0] σ _
  refine ev_idiv i194_109 (p := 110) rfl h (fun g31 h => ?_)
  obtain rfl := Option.some.inj h
  exact ev_iret i194_110 zr194
def fM_odds_L57 (N : Nat) : Nat → Int32 → Int32 → Int32 → Int32 → Int32 → zS → Option (Int32 × zS)
  | 0, _, _, _, _, _, _ => none
  | n + 1, y1, y2, y3, y4, y5, σ => (if 32 ≤ y5 then (if y3 = 0 then fM_odds_J102 N y4 y4 σ else fM_odds_J102 N y4 32 σ) else zb2 (fM_holdsWith N y1 y5 y2 σ) fun r25 s24 => (if r25 = 0 then zlt (y4 + 0) fun v27 => fM_odds_L57 N n y1 y2 y3 v27 (y5 + 1) s24 else zlt (y4 + 1) fun v28 => fM_odds_L57 N n y1 y2 y3 v28 (y5 + 1) s24))
set_option maxHeartbeats 4000000 in
theorem kM_odds_L57 (N : Nat) (d : Nat) (hd : 9 ≤ d)  : ∀ n : Nat, ∀ (y1 : Int32) (y2 : Int32) (y3 : Int32) (y4 : Int32) (y5 : Int32) (σ : zS) (w : Int32 × zS), fM_odds_L57 N n y1 y2 y3 y4 y5 σ = some w → zEv d 194 57 [some (zR 8 0), some (zI y1), some (zI y2), some (zI y3), some (zI y4), some (zI y5)] [] σ (some (zI w.1), w.2) := by
  intro n
  induction n with
  | zero =>
    intro y1 y2 y3 y4 y5 σ w h
    cases h
  | succ n ih =>
    intro y1 y2 y3 y4 y5 σ w h
    rw [fM_odds_L57] at h
    refine ev_s i194_57 (p := 59) rfl ?_
    refine ev_s i194_59 (p := 61) (zib_32 _ _ _ _ _) ?_
    refine ev_cmpge i194_61 (t := 91) (by decide) (p := 64) rfl h (fun c21 h => ?_) (fun c21 h => ?_)
    · refine ev_s i194_91 (p := 92) rfl ?_
      refine ev_ifne i194_92 (t := 100) (by decide) (p := 95) rfl h (fun c22 h => ?_) (fun c22 h => ?_)
      · refine ev_s i194_95 (p := 97) rfl ?_
        refine ev_goto i194_97 (t := 102) (by decide) ?_
        exact kM_odds_J102 N d hd y4 y4 σ w _ _ _ _ rfl _ h
      · refine ev_s i194_100 (p := 102) (zib_32 _ _ _ _ _) ?_
        exact kM_odds_J102 N d hd y4 32 σ w _ _ _ _ rfl _ h
    · refine ev_s i194_64 (p := 66) rfl ?_
      refine ev_s i194_66 (p := 67) rfl ?_
      refine ev_s i194_67 (p := 68) rfl ?_
      refine ev_s i194_68 (p := 70) rfl ?_
      refine ev_s i194_70 (p := 71) rfl ?_
      obtain ⟨r25, s24, hr23, h⟩ := b2_some h
      refine ev_callV i194_71 zc8_243 zm189 zo189 (as' := [zI y1, zI y5, zI y2]) (rest := [zI y4]) rfl rfl (Nat.le_of_ble_eq_true rfl) (Nat.le_of_ble_eq_true rfl) (Nat.le_of_ble_eq_true rfl) (by omega) (l0 := [some (zR 8 0), some (zI y1), some (zI y5), some (zI y2), none]) rfl (p := 74) rfl (kM_holdsWith N y1 y5 y2 σ (r25, s24) hr23 (d - 1) (by omega)) ?_
      change zEv d 194 74 [some (zR 8 0), some (zI y1), some (zI y2), some (zI y3), some (zI y4), some (zI y5)] [zI r25, zI y4] s24 _
      refine ev_ifeq i194_74 (t := 81) (by decide) (p := 77) rfl h (fun c26 h => ?_) (fun c26 h => ?_)
      · refine ev_s i194_81 (p := 82) (zic_0 _ _ _ _ _) ?_
        refine ev_s i194_82 (p := 83) (t := [zI (y4 + 0)]) rfl ?_
        refine ev_let h (fun v27 ev27 h => ?_)
        refine ev_s i194_83 (p := 85) (l := [some (zR 8 0), some (zI y1), some (zI y2), some (zI y3), some (zI v27), some (zI y5)]) rfl ?_
        refine ev_iinc i194_85 zii_1 rfl (l := [some (zR 8 0), some (zI y1), some (zI y2), some (zI y3), some (zI v27), some (zI (y5 + 1))]) rfl (p := 88) rfl ?_
        refine ev_goto i194_88 (t := 57) (by decide) ?_
        exact ih y1 y2 y3 v27 (y5 + 1) s24 w h
      · refine ev_s i194_77 (p := 78) (zic_1 _ _ _ _ _) ?_
        refine ev_goto i194_78 (t := 82) (by decide) ?_
        refine ev_s i194_82 (p := 83) (t := [zI (y4 + 1)]) rfl ?_
        refine ev_let h (fun v28 ev28 h => ?_)
        refine ev_s i194_83 (p := 85) (l := [some (zR 8 0), some (zI y1), some (zI y2), some (zI y3), some (zI v28), some (zI y5)]) rfl ?_
        refine ev_iinc i194_85 zii_1 rfl (l := [some (zR 8 0), some (zI y1), some (zI y2), some (zI y3), some (zI v28), some (zI (y5 + 1))]) rfl (p := 88) rfl ?_
        refine ev_goto i194_88 (t := 57) (by decide) ?_
        exact ih y1 y2 y3 v28 (y5 + 1) s24 w h
def fM_odds_J27 (N : Nat) (σ : zS) : Option (Int32 × zS) := zb2 (fM_error 1 σ) fun r20 s19 => some (r20, s19)
set_option maxHeartbeats 4000000 in
theorem kM_odds_J27 (N : Nat) (d : Nat) (hd : 9 ≤ d)  : ∀ (σ : zS) (w : Int32 × zS) (z1 : Option zA) (z2 : Option zA) (z3 : Option zA) (hz3 : znl z3 = true) (z4 : Option zA) (hz4 : znl z4 = true) (z5 : Option zA), fM_odds_J27 N σ = some w → zEv d 194 27 [some (zR 8 0), z1, z2, z3, z4, z5] [] σ (some (zI w.1), w.2) := by
  intro σ w z1 z2 z3 hz3 z4 hz4 z5 h
  unfold fM_odds_J27 at h
  refine ev_s i194_27 (p := 28) rfl ?_
  refine ev_s i194_28 (p := 29) (zic_1 _ _ _ _ _) ?_
  obtain ⟨r20, s19, hr18, h⟩ := b2_some h
  refine ev_callV i194_29 zc8_58 zm110 zo110 (as' := [zI 1]) (rest := []) rfl rfl (Nat.le_of_ble_eq_true rfl) (Nat.le_of_ble_eq_true rfl) (Nat.le_of_ble_eq_true rfl) (by omega) (l0 := [some (zR 8 0), some (zI 1)]) rfl (p := 32) rfl (kM_error 1 σ (r20, s19) hr18 (d - 1) (by omega)) ?_
  change zEv d 194 32 [some (zR 8 0), z1, z2, z3, z4, z5] [zI r20] s19 _
  obtain rfl := Option.some.inj h
  exact ev_iret i194_32 zr194
def fM_odds (N : Nat) (x1 : Int32) (x2 : Int32) (x3 : Int32) (σ : zS) : Option (Int32 × zS) := (fM_isOne x1 σ).bind fun r2 => (if r2 = 0 then fM_odds_J27 N σ else (fM_in x2 0 40).bind fun r5 => (if r5 = 0 then fM_odds_J27 N σ else (fM_in x3 0 1).bind fun r8 => (if r8 = 0 then fM_odds_J27 N σ else (fM_isTied x1 σ).bind fun r11 => (if r11 = 0 then zb2 (fM_error 3 σ) fun r15 s14 => some (r15, s14) else (fM_saves N σ).bind fun s17 => fM_odds_L57 N N x1 x2 x3 0 0 s17))))
set_option maxHeartbeats 4000000 in
theorem kM_odds (N : Nat) (x1 : Int32) (x2 : Int32) (x3 : Int32) (σ : zS) (w : Int32 × zS) (h : fM_odds N x1 x2 x3 σ = some w) (d : Nat) (hd : 9 ≤ d) : zEv d 194 0 [some (zR 8 0), some (zI x1), some (zI x2), some (zI x3), none, none] [] σ (some (zI w.1), w.2) := by
  unfold fM_odds at h
  refine ev_s i194_0 (p := 1) rfl ?_
  refine ev_s i194_1 (p := 2) rfl ?_
  obtain ⟨r2, hr1, h⟩ := bd_some h
  refine ev_callV i194_2 zc8_194 zm116 zo116 (as' := [zI x1]) (rest := []) rfl rfl (Nat.le_of_ble_eq_true rfl) (Nat.le_of_ble_eq_true rfl) (Nat.le_of_ble_eq_true rfl) (by omega) (l0 := [some (zR 8 0), some (zI x1)]) rfl (p := 5) rfl (kM_isOne x1 σ r2 hr1 (d - 1) (by omega)) ?_
  change zEv d 194 5 [some (zR 8 0), some (zI x1), some (zI x2), some (zI x3), none, none] [zI r2] σ _
  refine ev_ifeq i194_5 (t := 27) (by decide) (p := 8) rfl h (fun c3 h => ?_) (fun c3 h => ?_)
  · exact kM_odds_J27 N d hd σ w _ _ _ rfl _ rfl _ h
  · refine ev_s i194_8 (p := 9) rfl ?_
    refine ev_s i194_9 (p := 10) (zic_0 _ _ _ _ _) ?_
    refine ev_s i194_10 (p := 12) (zib_40 _ _ _ _ _) ?_
    obtain ⟨r5, hr4, h⟩ := bd_some h
    refine ev_callS i194_12 zn8_50 zc8_50 zm111 (as := [zI x2, zI 0, zI 40]) (rest := []) rfl rfl (Nat.le_of_ble_eq_true rfl) (Nat.le_of_ble_eq_true rfl) (Nat.le_of_ble_eq_true rfl) (by omega) (l0 := [some (zI x2), some (zI 0), some (zI 40)]) rfl (p := 15) rfl (kM_in x2 0 40 σ r5 hr4 (d - 1) (by omega)) ?_
    change zEv d 194 15 [some (zR 8 0), some (zI x1), some (zI x2), some (zI x3), none, none] [zI r5] σ _
    refine ev_ifeq i194_15 (t := 27) (by decide) (p := 18) rfl h (fun c6 h => ?_) (fun c6 h => ?_)
    · exact kM_odds_J27 N d hd σ w _ _ _ rfl _ rfl _ h
    · refine ev_s i194_18 (p := 19) rfl ?_
      refine ev_s i194_19 (p := 20) (zic_0 _ _ _ _ _) ?_
      refine ev_s i194_20 (p := 21) (zic_1 _ _ _ _ _) ?_
      obtain ⟨r8, hr7, h⟩ := bd_some h
      refine ev_callS i194_21 zn8_50 zc8_50 zm111 (as := [zI x3, zI 0, zI 1]) (rest := []) rfl rfl (Nat.le_of_ble_eq_true rfl) (Nat.le_of_ble_eq_true rfl) (Nat.le_of_ble_eq_true rfl) (by omega) (l0 := [some (zI x3), some (zI 0), some (zI 1)]) rfl (p := 24) rfl (kM_in x3 0 1 σ r8 hr7 (d - 1) (by omega)) ?_
      change zEv d 194 24 [some (zR 8 0), some (zI x1), some (zI x2), some (zI x3), none, none] [zI r8] σ _
      refine ev_ifne i194_24 (t := 33) (by decide) (p := 27) rfl h (fun c9 h => ?_) (fun c9 h => ?_)
      · exact kM_odds_J27 N d hd σ w _ _ _ rfl _ rfl _ h
      · refine ev_s i194_33 (p := 34) rfl ?_
        refine ev_s i194_34 (p := 35) rfl ?_
        obtain ⟨r11, hr10, h⟩ := bd_some h
        refine ev_callV i194_35 zc8_140 zm121 zo121 (as' := [zI x1]) (rest := []) rfl rfl (Nat.le_of_ble_eq_true rfl) (Nat.le_of_ble_eq_true rfl) (Nat.le_of_ble_eq_true rfl) (by omega) (l0 := [some (zR 8 0), some (zI x1)]) rfl (p := 38) rfl (kM_isTied x1 σ r11 hr10 (d - 1) (by omega)) ?_
        change zEv d 194 38 [some (zR 8 0), some (zI x1), some (zI x2), some (zI x3), none, none] [zI r11] σ _
        refine ev_ifne i194_38 (t := 47) (by decide) (p := 41) rfl h (fun c12 h => ?_) (fun c12 h => ?_)
        · refine ev_s i194_41 (p := 42) rfl ?_
          refine ev_s i194_42 (p := 43) (zic_3 _ _ _ _ _) ?_
          obtain ⟨r15, s14, hr13, h⟩ := b2_some h
          refine ev_callV i194_43 zc8_58 zm110 zo110 (as' := [zI 3]) (rest := []) rfl rfl (Nat.le_of_ble_eq_true rfl) (Nat.le_of_ble_eq_true rfl) (Nat.le_of_ble_eq_true rfl) (by omega) (l0 := [some (zR 8 0), some (zI 3)]) rfl (p := 46) rfl (kM_error 3 σ (r15, s14) hr13 (d - 1) (by omega)) ?_
          change zEv d 194 46 [some (zR 8 0), some (zI x1), some (zI x2), some (zI x3), none, none] [zI r15] s14 _
          obtain rfl := Option.some.inj h
          exact ev_iret i194_46 zr194
        · refine ev_s i194_47 (p := 48) rfl ?_
          obtain ⟨s17, hr16, h⟩ := bd_some h
          refine ev_callV i194_48 zc8_234 zm114 zo114 (as' := []) (rest := []) rfl rfl (Nat.le_of_ble_eq_true rfl) (Nat.le_of_ble_eq_true rfl) (Nat.le_of_ble_eq_true rfl) (by omega) (l0 := [some (zR 8 0), none]) rfl (p := 51) rfl (kM_saves N σ s17 hr16 (d - 1) (by omega)) ?_
          change zEv d 194 51 [some (zR 8 0), some (zI x1), some (zI x2), some (zI x3), none, none] [] s17 _
          refine ev_s i194_51 (p := 52) (zic_0 _ _ _ _ _) ?_
          refine ev_s i194_52 (p := 54) (l := [some (zR 8 0), some (zI x1), some (zI x2), some (zI x3), some (zI 0), none]) rfl ?_
          refine ev_s i194_54 (p := 55) (zic_0 _ _ _ _ _) ?_
          refine ev_s i194_55 (p := 57) (l := [some (zR 8 0), some (zI x1), some (zI x2), some (zI x3), some (zI 0), some (zI 0)]) rfl ?_
          exact kM_odds_L57 N d hd N x1 x2 x3 0 0 s17 w h
/-! fA_isSheet -/
def fA_isSheet (x0 : Int32) : Option (Int32) := (if x0 < 0 then some (0) else (if 4 ≤ x0 then some (0) else some (1)))
set_option maxHeartbeats 4000000 in
theorem kA_isSheet (x0 : Int32) (σ : zS) (w : Int32) (h : fA_isSheet x0 = some w) (d : Nat) (hd : 0 ≤ d) : zEv d 105 0 [some (zI x0)] [] σ (some (zI w), σ) := by
  unfold fA_isSheet at h
  refine ev_s i105_0 (p := 1) rfl ?_
  refine ev_iflt i105_1 (t := 13) (by decide) (p := 4) rfl h (fun c1 h => ?_) (fun c1 h => ?_)
  · refine ev_s i105_13 (p := 14) (zic_0 _ _ _ _ _) ?_
    obtain rfl := Option.some.inj h
    exact ev_zret i105_14 zr105 (by decide)
  · refine ev_s i105_4 (p := 5) rfl ?_
    refine ev_s i105_5 (p := 6) (zic_4 _ _ _ _ _) ?_
    refine ev_cmpge i105_6 (t := 13) (by decide) (p := 9) rfl h (fun c2 h => ?_) (fun c2 h => ?_)
    · refine ev_s i105_13 (p := 14) (zic_0 _ _ _ _ _) ?_
      obtain rfl := Option.some.inj h
      exact ev_zret i105_14 zr105 (by decide)
    · refine ev_s i105_9 (p := 10) (zic_1 _ _ _ _ _) ?_
      refine ev_goto i105_10 (t := 14) (by decide) ?_
      obtain rfl := Option.some.inj h
      exact ev_zret i105_14 zr105 (by decide)
/-! fH_isMissing -/
def fH_isMissing (b : Nat) (σ : zS) : Option (Int32) := (if (σ 4 b 2) = 0 then some (1) else some (0))
set_option maxHeartbeats 4000000 in
theorem kH_isMissing (b : Nat) (σ : zS) (w : Int32) (h : fH_isMissing b σ = some w) (d : Nat) (hd : 0 ≤ d) : zEv d 50 0 [some (zR 4 b)] [] σ (some (zI w), σ) := by
  unfold fH_isMissing at h
  refine ev_s i50_0 (p := 1) rfl ?_
  refine ev_getf i50_1 zf4_15 (u := zI (σ 4 b 2)) rfl (p := 4) rfl ?_
  refine ev_ifne i50_4 (t := 11) (by decide) (p := 7) rfl h (fun c1 h => ?_) (fun c1 h => ?_)
  · refine ev_s i50_7 (p := 8) (zic_1 _ _ _ _ _) ?_
    refine ev_goto i50_8 (t := 12) (by decide) ?_
    obtain rfl := Option.some.inj h
    exact ev_zret i50_12 zr50 (by decide)
  · refine ev_s i50_11 (p := 12) (zic_0 _ _ _ _ _) ?_
    obtain rfl := Option.some.inj h
    exact ev_zret i50_12 zr50 (by decide)
/-! fA_wentSo -/
def fA_wentSo_L24 (N : Nat) (p1 : Nat) : Nat → Int32 → Int32 → zS → Option (Int32 × zS)
  | 0, _, _, _ => none
  | n + 1, y2, y4, σ => (if (σ 4 p1 1) ≤ y4 then some (1, σ) else zgd (zin y4 24) (zgd (zin y2 8) ((if (σ 23 p1 y4.toNatClampNeg) = (σ 17 2 y2.toNatClampNeg) then (fR_passDay N 2 σ).bind fun s10 => fA_wentSo_L24 N p1 n y2 (y4 + 1) s10 else some (0, σ)))))
set_option maxHeartbeats 4000000 in
theorem kA_wentSo_L24 (N : Nat) (p1 : Nat) (d : Nat) (hd : 5 ≤ d)  : ∀ n : Nat, ∀ (y2 : Int32) (y4 : Int32) (σ : zS) (w : Int32 × zS) (z3 : Option zA) (hz3 : znl z3 = true), fA_wentSo_L24 N p1 n y2 y4 σ = some w → zEv d 109 24 [some (zR 7 0), some (zR 4 p1), some (zI y2), z3, some (zI y4)] [] σ (some (zI w.1), w.2) := by
  intro n
  induction n with
  | zero =>
    intro y2 y4 σ w z3 hz3 h
    cases h
  | succ n ih =>
    intro y2 y4 σ w z3 hz3 h
    rw [fA_wentSo_L24] at h
    refine ev_s i109_24 (p := 26) rfl ?_
    refine ev_s i109_26 (p := 27) rfl ?_
    refine ev_getf i109_27 zf7_236 (u := zI (σ 4 p1 1)) rfl (p := 30) rfl ?_
    refine ev_cmpge i109_30 (t := 67) (by decide) (p := 33) rfl h (fun c5 h => ?_) (fun c5 h => ?_)
    · refine ev_s i109_67 (p := 68) (zic_1 _ _ _ _ _) ?_
      obtain rfl := Option.some.inj h
      exact ev_zret i109_68 zr109 (by decide)
    · refine ev_s i109_33 (p := 34) rfl ?_
      refine ev_getf i109_34 zf7_246 (u := zR 23 p1) rfl (p := 37) rfl ?_
      refine ev_s i109_37 (p := 39) rfl ?_
      refine ev_iald i109_39 rfl (n := 24) rfl (p := 40) rfl h (fun g6 h => ?_)
      refine ev_s i109_40 (p := 41) rfl ?_
      refine ev_getf i109_41 zf7_60 (u := zR 2 2) rfl (p := 44) rfl ?_
      refine ev_getf i109_44 zf7_93 (u := zR 17 2) rfl (p := 47) rfl ?_
      refine ev_s i109_47 (p := 48) rfl ?_
      refine ev_iald i109_48 rfl (n := 8) rfl (p := 49) rfl h (fun g7 h => ?_)
      refine ev_cmpeq i109_49 (t := 54) (by decide) (p := 52) rfl h (fun c8 h => ?_) (fun c8 h => ?_)
      · refine ev_s i109_54 (p := 55) rfl ?_
        refine ev_getf i109_55 zf7_60 (u := zR 2 2) rfl (p := 58) rfl ?_
        obtain ⟨s10, hr9, h⟩ := bd_some h
        refine ev_callV i109_58 zc7_170 zm36 zo36 (as' := []) (rest := []) rfl rfl (Nat.le_of_ble_eq_true rfl) (Nat.le_of_ble_eq_true rfl) (Nat.le_of_ble_eq_true rfl) (by omega) (l0 := [some (zR 2 2), none, none, none, none, none]) rfl (p := 61) rfl (kR_passDay N 2 σ s10 hr9 (d - 1) (by omega)) ?_
        change zEv d 109 61 [some (zR 7 0), some (zR 4 p1), some (zI y2), z3, some (zI y4)] [] s10 _
        refine ev_iinc i109_61 zii_1 rfl (l := [some (zR 7 0), some (zR 4 p1), some (zI y2), z3, some (zI (y4 + 1))]) (by rcases z3 with _ | _ | _ | _ <;> first | rfl | cases hz3) (p := 64) rfl ?_
        refine ev_goto i109_64 (t := 24) (by decide) ?_
        exact ih y2 (y4 + 1) s10 w _ hz3 h
      · refine ev_s i109_52 (p := 53) (zic_0 _ _ _ _ _) ?_
        obtain rfl := Option.some.inj h
        exact ev_zret i109_53 zr109 (by decide)
def fA_wentSo (N : Nat) (p1 : Nat) (x2 : Int32) (x3 : Int32) (σ : zS) : Option (Int32 × zS) := (fR_copy 2 0 σ).bind fun s2 => zgd (zin x2 8) (zlt (zup s2 14 2 x2.toNatClampNeg x3) fun s3 => fA_wentSo_L24 N p1 N x2 0 s3)
set_option maxHeartbeats 4000000 in
theorem kA_wentSo (N : Nat) (p1 : Nat) (x2 : Int32) (x3 : Int32) (σ : zS) (w : Int32 × zS) (h : fA_wentSo N p1 x2 x3 σ = some w) (d : Nat) (hd : 5 ≤ d) : zEv d 109 0 [some (zR 7 0), some (zR 4 p1), some (zI x2), some (zI x3), none] [] σ (some (zI w.1), w.2) := by
  unfold fA_wentSo at h
  refine ev_s i109_0 (p := 1) rfl ?_
  refine ev_getf i109_1 zf7_60 (u := zR 2 2) rfl (p := 4) rfl ?_
  refine ev_s i109_4 (p := 5) rfl ?_
  refine ev_getf i109_5 zf7_47 (u := zR 2 0) rfl (p := 8) rfl ?_
  obtain ⟨s2, hr1, h⟩ := bd_some h
  refine ev_callV i109_8 zc7_194 zm17 zo17 (as' := [zR 2 0]) (rest := []) rfl rfl (Nat.le_of_ble_eq_true rfl) (Nat.le_of_ble_eq_true rfl) (Nat.le_of_ble_eq_true rfl) (by omega) (l0 := [some (zR 2 2), some (zR 2 0)]) rfl (p := 11) rfl (kR_copy 2 0 σ s2 hr1 (d - 1) (by omega)) ?_
  change zEv d 109 11 [some (zR 7 0), some (zR 4 p1), some (zI x2), some (zI x3), none] [] s2 _
  refine ev_s i109_11 (p := 12) rfl ?_
  refine ev_getf i109_12 zf7_60 (u := zR 2 2) rfl (p := 15) rfl ?_
  refine ev_getf i109_15 zf7_84 (u := zR 14 2) rfl (p := 18) rfl ?_
  refine ev_s i109_18 (p := 19) rfl ?_
  refine ev_s i109_19 (p := 20) rfl ?_
  refine ev_iast i109_20 rfl (n := 8) rfl (p := 21) rfl h (fun g4 h => ?_)
  refine ev_lets h (fun s3 es3 h => ?_)
  refine ev_s i109_21 (p := 22) (zic_0 _ _ _ _ _) ?_
  refine ev_s i109_22 (p := 24) (l := [some (zR 7 0), some (zR 4 p1), some (zI x2), some (zI x3), some (zI 0)]) rfl ?_
  exact kA_wentSo_L24 N p1 d hd N x2 0 s3 w _ rfl h
/-! fA_fits -/
def fA_fits_L53 (N : Nat) : Nat → Int32 → Int32 → Int32 → Int32 → Int32 → zS → Option (Int32 × zS)
  | 0, _, _, _, _, _, _ => none
  | n + 1, y1, y2, y3, y4, y5, σ => (if 6 < y5 then (if y3 = 0 then some (y4, σ) else (fJ_bitCount y4).bind fun r23 => some (r23, σ)) else zgd (zin y1 4) (zb2 (fA_wentSo N y1.toNatClampNeg y2 y5 σ) fun r27 s26 => (if r27 = 0 then fA_fits_L53 N n y1 y2 y3 y4 (y5 + 1) s26 else zlt (y4 ||| (1 <<< (y5 &&& 31))) fun v29 => fA_fits_L53 N n y1 y2 y3 v29 (y5 + 1) s26)))
set_option maxHeartbeats 4000000 in
theorem kA_fits_L53 (N : Nat) (d : Nat) (hd : 6 ≤ d)  : ∀ n : Nat, ∀ (y1 : Int32) (y2 : Int32) (y3 : Int32) (y4 : Int32) (y5 : Int32) (σ : zS) (w : Int32 × zS), fA_fits_L53 N n y1 y2 y3 y4 y5 σ = some w → zEv d 88 53 [some (zR 7 0), some (zI y1), some (zI y2), some (zI y3), some (zI y4), some (zI y5)] [] σ (some (zI w.1), w.2) := by
  intro n
  induction n with
  | zero =>
    intro y1 y2 y3 y4 y5 σ w h
    cases h
  | succ n ih =>
    intro y1 y2 y3 y4 y5 σ w h
    rw [fA_fits_L53] at h
    refine ev_s i88_53 (p := 55) rfl ?_
    refine ev_s i88_55 (p := 57) (zib_6 _ _ _ _ _) ?_
    refine ev_cmpgt i88_57 (t := 91) (by decide) (p := 60) rfl h (fun c20 h => ?_) (fun c20 h => ?_)
    · refine ev_s i88_91 (p := 92) rfl ?_
      refine ev_ifne i88_92 (t := 100) (by decide) (p := 95) rfl h (fun c21 h => ?_) (fun c21 h => ?_)
      · refine ev_s i88_95 (p := 97) rfl ?_
        refine ev_goto i88_97 (t := 105) (by decide) ?_
        obtain rfl := Option.some.inj h
        exact ev_iret i88_105 zr88
      · refine ev_s i88_100 (p := 102) rfl ?_
        obtain ⟨r23, hr22, h⟩ := bd_some h
        refine ev_callS i88_102 zn7_186 zc7_186 zm219 (as := [zI y4]) (rest := []) rfl rfl (Nat.le_of_ble_eq_true rfl) (Nat.le_of_ble_eq_true rfl) (Nat.le_of_ble_eq_true rfl) (by omega) (l0 := [some (zI y4)]) rfl (p := 105) rfl (kJ_bitCount y4 σ r23 hr22 (d - 1) (by omega)) ?_
        change zEv d 88 105 [some (zR 7 0), some (zI y1), some (zI y2), some (zI y3), some (zI y4), some (zI y5)] [zI r23] σ _
        obtain rfl := Option.some.inj h
        exact ev_iret i88_105 zr88
    · refine ev_s i88_60 (p := 61) rfl ?_
      refine ev_s i88_61 (p := 62) rfl ?_
      refine ev_getf i88_62 zf7_35 (u := zR 25 0) rfl (p := 65) rfl ?_
      refine ev_s i88_65 (p := 66) rfl ?_
      refine ev_aald i88_66 (p := 67) rfl h (fun g24 h => ?_)
      refine ev_s i88_67 (p := 68) rfl ?_
      refine ev_s i88_68 (p := 70) rfl ?_
      obtain ⟨r27, s26, hr25, h⟩ := b2_some h
      refine ev_callV i88_70 zc7_216 zm109 zo109 (as' := [zR 4 y1.toNatClampNeg, zI y2, zI y5]) (rest := []) rfl rfl (Nat.le_of_ble_eq_true rfl) (Nat.le_of_ble_eq_true rfl) (Nat.le_of_ble_eq_true rfl) (by omega) (l0 := [some (zR 7 0), some (zR 4 y1.toNatClampNeg), some (zI y2), some (zI y5), none]) rfl (p := 73) rfl (kA_wentSo N y1.toNatClampNeg y2 y5 σ (r27, s26) hr25 (d - 1) (by omega)) ?_
      change zEv d 88 73 [some (zR 7 0), some (zI y1), some (zI y2), some (zI y3), some (zI y4), some (zI y5)] [zI r27] s26 _
      refine ev_ifeq i88_73 (t := 85) (by decide) (p := 76) rfl h (fun c28 h => ?_) (fun c28 h => ?_)
      · refine ev_iinc i88_85 zii_1 rfl (l := [some (zR 7 0), some (zI y1), some (zI y2), some (zI y3), some (zI y4), some (zI (y5 + 1))]) rfl (p := 88) rfl ?_
        refine ev_goto i88_88 (t := 53) (by decide) ?_
        exact ih y1 y2 y3 y4 (y5 + 1) s26 w h
      · refine ev_s i88_76 (p := 78) rfl ?_
        refine ev_s i88_78 (p := 79) (zic_1 _ _ _ _ _) ?_
        refine ev_s i88_79 (p := 81) rfl ?_
        refine ev_s i88_81 (p := 82) (t := [zI (1 <<< (y5 &&& 31)), zI y4]) rfl ?_
        refine ev_s i88_82 (p := 83) (t := [zI (y4 ||| (1 <<< (y5 &&& 31)))]) rfl ?_
        refine ev_let h (fun v29 ev29 h => ?_)
        refine ev_s i88_83 (p := 85) (l := [some (zR 7 0), some (zI y1), some (zI y2), some (zI y3), some (zI v29), some (zI y5)]) rfl ?_
        refine ev_iinc i88_85 zii_1 rfl (l := [some (zR 7 0), some (zI y1), some (zI y2), some (zI y3), some (zI v29), some (zI (y5 + 1))]) rfl (p := 88) rfl ?_
        refine ev_goto i88_88 (t := 53) (by decide) ?_
        exact ih y1 y2 y3 v29 (y5 + 1) s26 w h
def fA_fits_J23 (N : Nat) (σ : zS) : Option (Int32 × zS) := zb2 (fA_refuse 1 σ) fun r19 s18 => some (r19, s18)
set_option maxHeartbeats 4000000 in
theorem kA_fits_J23 (N : Nat) (d : Nat) (hd : 6 ≤ d)  : ∀ (σ : zS) (w : Int32 × zS) (z1 : Option zA) (z2 : Option zA) (z3 : Option zA) (hz3 : znl z3 = true) (z4 : Option zA) (hz4 : znl z4 = true) (z5 : Option zA), fA_fits_J23 N σ = some w → zEv d 88 23 [some (zR 7 0), z1, z2, z3, z4, z5] [] σ (some (zI w.1), w.2) := by
  intro σ w z1 z2 z3 hz3 z4 hz4 z5 h
  unfold fA_fits_J23 at h
  refine ev_s i88_23 (p := 24) rfl ?_
  refine ev_s i88_24 (p := 25) (zic_1 _ _ _ _ _) ?_
  obtain ⟨r19, s18, hr17, h⟩ := b2_some h
  refine ev_callV i88_25 zc7_72 zm102 zo102 (as' := [zI 1]) (rest := []) rfl rfl (Nat.le_of_ble_eq_true rfl) (Nat.le_of_ble_eq_true rfl) (Nat.le_of_ble_eq_true rfl) (by omega) (l0 := [some (zR 7 0), some (zI 1)]) rfl (p := 28) rfl (kA_refuse 1 σ (r19, s18) hr17 (d - 1) (by omega)) ?_
  change zEv d 88 28 [some (zR 7 0), z1, z2, z3, z4, z5] [zI r19] s18 _
  obtain rfl := Option.some.inj h
  exact ev_iret i88_28 zr88
def fA_fits (N : Nat) (x1 : Int32) (x2 : Int32) (x3 : Int32) (σ : zS) : Option (Int32 × zS) := (fA_isSheet x1).bind fun r2 => (if r2 = 0 then fA_fits_J23 N σ else (fA_isThere x2 σ).bind fun r5 => (if r5 = 0 then fA_fits_J23 N σ else (fA_within x3 1).bind fun r8 => (if r8 = 0 then fA_fits_J23 N σ else zgd (zin x1 4) ((fH_isMissing x1.toNatClampNeg σ).bind fun r12 => (if r12 = 0 then fA_fits_L53 N N x1 x2 x3 0 0 σ else zb2 (fA_refuse 2 σ) fun r16 s15 => some (r16, s15))))))
set_option maxHeartbeats 4000000 in
theorem kA_fits (N : Nat) (x1 : Int32) (x2 : Int32) (x3 : Int32) (σ : zS) (w : Int32 × zS) (h : fA_fits N x1 x2 x3 σ = some w) (d : Nat) (hd : 6 ≤ d) : zEv d 88 0 [some (zR 7 0), some (zI x1), some (zI x2), some (zI x3), none, none] [] σ (some (zI w.1), w.2) := by
  unfold fA_fits at h
  refine ev_s i88_0 (p := 1) rfl ?_
  obtain ⟨r2, hr1, h⟩ := bd_some h
  refine ev_callS i88_1 zn7_209 zc7_209 zm105 (as := [zI x1]) (rest := []) rfl rfl (Nat.le_of_ble_eq_true rfl) (Nat.le_of_ble_eq_true rfl) (Nat.le_of_ble_eq_true rfl) (by omega) (l0 := [some (zI x1)]) rfl (p := 4) rfl (kA_isSheet x1 σ r2 hr1 (d - 1) (by omega)) ?_
  change zEv d 88 4 [some (zR 7 0), some (zI x1), some (zI x2), some (zI x3), none, none] [zI r2] σ _
  refine ev_ifeq i88_4 (t := 23) (by decide) (p := 7) rfl h (fun c3 h => ?_) (fun c3 h => ?_)
  · exact kA_fits_J23 N d hd σ w _ _ _ rfl _ rfl _ h
  · refine ev_s i88_7 (p := 8) rfl ?_
    refine ev_s i88_8 (p := 9) rfl ?_
    obtain ⟨r5, hr4, h⟩ := bd_some h
    refine ev_callV i88_9 zc7_68 zm104 zo104 (as' := [zI x2]) (rest := []) rfl rfl (Nat.le_of_ble_eq_true rfl) (Nat.le_of_ble_eq_true rfl) (Nat.le_of_ble_eq_true rfl) (by omega) (l0 := [some (zR 7 0), some (zI x2)]) rfl (p := 12) rfl (kA_isThere x2 σ r5 hr4 (d - 1) (by omega)) ?_
    change zEv d 88 12 [some (zR 7 0), some (zI x1), some (zI x2), some (zI x3), none, none] [zI r5] σ _
    refine ev_ifeq i88_12 (t := 23) (by decide) (p := 15) rfl h (fun c6 h => ?_) (fun c6 h => ?_)
    · exact kA_fits_J23 N d hd σ w _ _ _ rfl _ rfl _ h
    · refine ev_s i88_15 (p := 16) rfl ?_
      refine ev_s i88_16 (p := 17) (zic_1 _ _ _ _ _) ?_
      obtain ⟨r8, hr7, h⟩ := bd_some h
      refine ev_callS i88_17 zn7_64 zc7_64 zm103 (as := [zI x3, zI 1]) (rest := []) rfl rfl (Nat.le_of_ble_eq_true rfl) (Nat.le_of_ble_eq_true rfl) (Nat.le_of_ble_eq_true rfl) (by omega) (l0 := [some (zI x3), some (zI 1)]) rfl (p := 20) rfl (kA_within x3 1 σ r8 hr7 (d - 1) (by omega)) ?_
      change zEv d 88 20 [some (zR 7 0), some (zI x1), some (zI x2), some (zI x3), none, none] [zI r8] σ _
      refine ev_ifne i88_20 (t := 29) (by decide) (p := 23) rfl h (fun c9 h => ?_) (fun c9 h => ?_)
      · exact kA_fits_J23 N d hd σ w _ _ _ rfl _ rfl _ h
      · refine ev_s i88_29 (p := 30) rfl ?_
        refine ev_getf i88_30 zf7_35 (u := zR 25 0) rfl (p := 33) rfl ?_
        refine ev_s i88_33 (p := 34) rfl ?_
        refine ev_aald i88_34 (p := 35) rfl h (fun g10 h => ?_)
        obtain ⟨r12, hr11, h⟩ := bd_some h
        refine ev_callV i88_35 zc7_212 zm50 zo50 (as' := []) (rest := []) rfl rfl (Nat.le_of_ble_eq_true rfl) (Nat.le_of_ble_eq_true rfl) (Nat.le_of_ble_eq_true rfl) (by omega) (l0 := [some (zR 4 x1.toNatClampNeg)]) rfl (p := 38) rfl (kH_isMissing x1.toNatClampNeg σ r12 hr11 (d - 1) (by omega)) ?_
        change zEv d 88 38 [some (zR 7 0), some (zI x1), some (zI x2), some (zI x3), none, none] [zI r12] σ _
        refine ev_ifeq i88_38 (t := 47) (by decide) (p := 41) rfl h (fun c13 h => ?_) (fun c13 h => ?_)
        · refine ev_s i88_47 (p := 48) (zic_0 _ _ _ _ _) ?_
          refine ev_s i88_48 (p := 50) (l := [some (zR 7 0), some (zI x1), some (zI x2), some (zI x3), some (zI 0), none]) rfl ?_
          refine ev_s i88_50 (p := 51) (zic_0 _ _ _ _ _) ?_
          refine ev_s i88_51 (p := 53) (l := [some (zR 7 0), some (zI x1), some (zI x2), some (zI x3), some (zI 0), some (zI 0)]) rfl ?_
          exact kA_fits_L53 N d hd N x1 x2 x3 0 0 σ w h
        · refine ev_s i88_41 (p := 42) rfl ?_
          refine ev_s i88_42 (p := 43) (zic_2 _ _ _ _ _) ?_
          obtain ⟨r16, s15, hr14, h⟩ := b2_some h
          refine ev_callV i88_43 zc7_72 zm102 zo102 (as' := [zI 2]) (rest := []) rfl rfl (Nat.le_of_ble_eq_true rfl) (Nat.le_of_ble_eq_true rfl) (Nat.le_of_ble_eq_true rfl) (by omega) (l0 := [some (zR 7 0), some (zI 2)]) rfl (p := 46) rfl (kA_refuse 2 σ (r16, s15) hr14 (d - 1) (by omega)) ?_
          change zEv d 88 46 [some (zR 7 0), some (zI x1), some (zI x2), some (zI x3), none, none] [zI r16] s15 _
          obtain rfl := Option.some.inj h
          exact ev_iret i88_46 zr88
/-! fM_isSheet -/
def fM_isSheet (x0 : Int32) : Option (Int32) := (fM_in x0 0 3).bind fun r2 => zgd (r2 = 0 ∨ r2 = 1) (some (r2))
set_option maxHeartbeats 4000000 in
theorem kM_isSheet (x0 : Int32) (σ : zS) (w : Int32) (h : fM_isSheet x0 = some w) (d : Nat) (hd : 1 ≤ d) : zEv d 206 0 [some (zI x0)] [] σ (some (zI w), σ) := by
  unfold fM_isSheet at h
  refine ev_s i206_0 (p := 1) rfl ?_
  refine ev_s i206_1 (p := 2) (zic_0 _ _ _ _ _) ?_
  refine ev_s i206_2 (p := 3) (zic_3 _ _ _ _ _) ?_
  obtain ⟨r2, hr1, h⟩ := bd_some h
  refine ev_callS i206_3 zn8_50 zc8_50 zm111 (as := [zI x0, zI 0, zI 3]) (rest := []) rfl rfl (Nat.le_of_ble_eq_true rfl) (Nat.le_of_ble_eq_true rfl) (Nat.le_of_ble_eq_true rfl) (by omega) (l0 := [some (zI x0), some (zI 0), some (zI 3)]) rfl (p := 6) rfl (kM_in x0 0 3 σ r2 hr1 (d - 1) (by omega)) ?_
  change zEv d 206 6 [some (zI x0)] [zI r2] σ _
  obtain ⟨g3, h⟩ := zgd_some h
  obtain rfl := Option.some.inj h
  exact ev_zret i206_6 zr206 g3
/-! fM_fits -/
def fM_fits_J130 (N : Nat) (K55 : Int32 → Int32 → Int32 → Int32 → Int32 → zS → Option (Int32 × zS)) (y1 : Int32) (y2 : Int32) (y3 : Int32) (y4 : Int32) (y5 : Int32) (y6 : Int32) (σ : zS) : Option (Int32 × zS) := (fM_putsBack N σ).bind fun s36 => (if y6 = 0 then zlt (y4 ||| 0) fun v38 => K55 y1 y2 y3 v38 (y5 + 1) s36 else zlt (y4 ||| (1 <<< (y5 &&& 31))) fun v39 => K55 y1 y2 y3 v39 (y5 + 1) s36)
set_option maxHeartbeats 4000000 in
theorem kM_fits_J130 (N : Nat) (d : Nat) (hd : 7 ≤ d) (K55 : Int32 → Int32 → Int32 → Int32 → Int32 → zS → Option (Int32 × zS)) (hK55 : ∀ (y1 : Int32) (y2 : Int32) (y3 : Int32) (y4 : Int32) (y5 : Int32) (σ : zS) (w : Int32 × zS) (z6 : Option zA) (hz6 : znl z6 = true) (z7 : Option zA), K55 y1 y2 y3 y4 y5 σ = some w → zEv d 195 55 [some (zR 8 0), some (zI y1), some (zI y2), some (zI y3), some (zI y4), some (zI y5), z6, z7] [] σ (some (zI w.1), w.2)) : ∀ (y1 : Int32) (y2 : Int32) (y3 : Int32) (y4 : Int32) (y5 : Int32) (y6 : Int32) (σ : zS) (w : Int32 × zS) (z7 : Option zA), fM_fits_J130 N K55 y1 y2 y3 y4 y5 y6 σ = some w → zEv d 195 130 [some (zR 8 0), some (zI y1), some (zI y2), some (zI y3), some (zI y4), some (zI y5), some (zI y6), z7] [] σ (some (zI w.1), w.2) := by
  intro y1 y2 y3 y4 y5 y6 σ w z7 h
  unfold fM_fits_J130 at h
  refine ev_s i195_130 (p := 131) rfl ?_
  obtain ⟨s36, hr35, h⟩ := bd_some h
  refine ev_callV i195_131 zc8_237 zm115 zo115 (as' := []) (rest := []) rfl rfl (Nat.le_of_ble_eq_true rfl) (Nat.le_of_ble_eq_true rfl) (Nat.le_of_ble_eq_true rfl) (by omega) (l0 := [some (zR 8 0), none]) rfl (p := 134) rfl (kM_putsBack N σ s36 hr35 (d - 1) (by omega)) ?_
  change zEv d 195 134 [some (zR 8 0), some (zI y1), some (zI y2), some (zI y3), some (zI y4), some (zI y5), some (zI y6), z7] [] s36 _
  refine ev_s i195_134 (p := 136) rfl ?_
  refine ev_s i195_136 (p := 138) rfl ?_
  refine ev_ifeq i195_138 (t := 148) (by decide) (p := 141) rfl h (fun c37 h => ?_) (fun c37 h => ?_)
  · refine ev_s i195_148 (p := 149) (zic_0 _ _ _ _ _) ?_
    refine ev_s i195_149 (p := 150) (t := [zI (y4 ||| 0)]) rfl ?_
    refine ev_let h (fun v38 ev38 h => ?_)
    refine ev_s i195_150 (p := 152) (l := [some (zR 8 0), some (zI y1), some (zI y2), some (zI y3), some (zI v38), some (zI y5), some (zI y6), z7]) rfl ?_
    refine ev_iinc i195_152 zii_1 rfl (l := [some (zR 8 0), some (zI y1), some (zI y2), some (zI y3), some (zI v38), some (zI (y5 + 1)), some (zI y6), z7]) rfl (p := 155) rfl ?_
    refine ev_goto i195_155 (t := 55) (by decide) ?_
    exact hK55 y1 y2 y3 v38 (y5 + 1) s36 w _ rfl _ h
  · refine ev_s i195_141 (p := 142) (zic_1 _ _ _ _ _) ?_
    refine ev_s i195_142 (p := 144) rfl ?_
    refine ev_s i195_144 (p := 145) (t := [zI (1 <<< (y5 &&& 31)), zI y4]) rfl ?_
    refine ev_goto i195_145 (t := 149) (by decide) ?_
    refine ev_s i195_149 (p := 150) (t := [zI (y4 ||| (1 <<< (y5 &&& 31)))]) rfl ?_
    refine ev_let h (fun v39 ev39 h => ?_)
    refine ev_s i195_150 (p := 152) (l := [some (zR 8 0), some (zI y1), some (zI y2), some (zI y3), some (zI v39), some (zI y5), some (zI y6), z7]) rfl ?_
    refine ev_iinc i195_152 zii_1 rfl (l := [some (zR 8 0), some (zI y1), some (zI y2), some (zI y3), some (zI v39), some (zI (y5 + 1)), some (zI y6), z7]) rfl (p := 155) rfl ?_
    refine ev_goto i195_155 (t := 55) (by decide) ?_
    exact hK55 y1 y2 y3 v39 (y5 + 1) s36 w _ rfl _ h
def fM_fits_J118 (N : Nat) (K55 : Int32 → Int32 → Int32 → Int32 → Int32 → zS → Option (Int32 × zS)) (K76 : Int32 → Int32 → Int32 → Int32 → Int32 → Int32 → Int32 → zS → Option (Int32 × zS)) (y1 : Int32) (y2 : Int32) (y3 : Int32) (y4 : Int32) (y5 : Int32) (y7 : Int32) (u0 : Int32) (σ : zS) : Option (Int32 × zS) := (fM_day1 N σ).bind fun s34 => K76 y1 y2 y3 y4 y5 u0 (y7 + 1) s34
set_option maxHeartbeats 4000000 in
theorem kM_fits_J118 (N : Nat) (d : Nat) (hd : 7 ≤ d) (K55 : Int32 → Int32 → Int32 → Int32 → Int32 → zS → Option (Int32 × zS)) (hK55 : ∀ (y1 : Int32) (y2 : Int32) (y3 : Int32) (y4 : Int32) (y5 : Int32) (σ : zS) (w : Int32 × zS) (z6 : Option zA) (hz6 : znl z6 = true) (z7 : Option zA), K55 y1 y2 y3 y4 y5 σ = some w → zEv d 195 55 [some (zR 8 0), some (zI y1), some (zI y2), some (zI y3), some (zI y4), some (zI y5), z6, z7] [] σ (some (zI w.1), w.2)) (K76 : Int32 → Int32 → Int32 → Int32 → Int32 → Int32 → Int32 → zS → Option (Int32 × zS)) (hK76 : ∀ (y1 : Int32) (y2 : Int32) (y3 : Int32) (y4 : Int32) (y5 : Int32) (y6 : Int32) (y7 : Int32) (σ : zS) (w : Int32 × zS), K76 y1 y2 y3 y4 y5 y6 y7 σ = some w → zEv d 195 76 [some (zR 8 0), some (zI y1), some (zI y2), some (zI y3), some (zI y4), some (zI y5), some (zI y6), some (zI y7)] [] σ (some (zI w.1), w.2)) : ∀ (y1 : Int32) (y2 : Int32) (y3 : Int32) (y4 : Int32) (y5 : Int32) (y7 : Int32) (u0 : Int32) (σ : zS) (w : Int32 × zS) (z6 : Option zA) (hz6 : znl z6 = true), fM_fits_J118 N K55 K76 y1 y2 y3 y4 y5 y7 u0 σ = some w → zEv d 195 118 [some (zR 8 0), some (zI y1), some (zI y2), some (zI y3), some (zI y4), some (zI y5), z6, some (zI y7)] [zI u0] σ (some (zI w.1), w.2) := by
  intro y1 y2 y3 y4 y5 y7 u0 σ w z6 hz6 h
  unfold fM_fits_J118 at h
  refine ev_s i195_118 (p := 120) (l := [some (zR 8 0), some (zI y1), some (zI y2), some (zI y3), some (zI y4), some (zI y5), some (zI u0), some (zI y7)]) rfl ?_
  refine ev_s i195_120 (p := 121) rfl ?_
  obtain ⟨s34, hr33, h⟩ := bd_some h
  refine ev_callV i195_121 zc8_188 zm154 zo154 (as' := []) (rest := []) rfl rfl (Nat.le_of_ble_eq_true rfl) (Nat.le_of_ble_eq_true rfl) (Nat.le_of_ble_eq_true rfl) (by omega) (l0 := [some (zR 8 0), none, none, none, none, none]) rfl (p := 124) rfl (kM_day1 N σ s34 hr33 (d - 1) (by omega)) ?_
  change zEv d 195 124 [some (zR 8 0), some (zI y1), some (zI y2), some (zI y3), some (zI y4), some (zI y5), some (zI u0), some (zI y7)] [] s34 _
  refine ev_iinc i195_124 zii_1 rfl (l := [some (zR 8 0), some (zI y1), some (zI y2), some (zI y3), some (zI y4), some (zI y5), some (zI u0), some (zI (y7 + 1))]) rfl (p := 127) rfl ?_
  refine ev_goto i195_127 (t := 76) (by decide) ?_
  exact hK76 y1 y2 y3 y4 y5 u0 (y7 + 1) s34 w h
def fM_fits_L76 (N : Nat) (K55 : Int32 → Int32 → Int32 → Int32 → Int32 → zS → Option (Int32 × zS)) : Nat → Int32 → Int32 → Int32 → Int32 → Int32 → Int32 → Int32 → zS → Option (Int32 × zS)
  | 0, _, _, _, _, _, _, _, _ => none
  | n + 1, y1, y2, y3, y4, y5, y6, y7, σ => zgd (zin y1 4) ((if (σ 40 0 y1.toNatClampNeg) ≤ y7 then fM_fits_J130 N K55 y1 y2 y3 y4 y5 y6 σ else (if y6 = 0 then fM_fits_J130 N K55 y1 y2 y3 y4 y5 y6 σ else zgd (zin ((24 * y1) + y7) 96) ((fM_its y2 3 σ).bind fun r31 => (if (σ 41 0 ((24 * y1) + y7).toNatClampNeg) = r31 then fM_fits_J118 N K55 (fun y1 y2 y3 y4 y5 y6 y7 σ => fM_fits_L76 N K55 n y1 y2 y3 y4 y5 y6 y7 σ) y1 y2 y3 y4 y5 y7 1 σ else fM_fits_J118 N K55 (fun y1 y2 y3 y4 y5 y6 y7 σ => fM_fits_L76 N K55 n y1 y2 y3 y4 y5 y6 y7 σ) y1 y2 y3 y4 y5 y7 0 σ)))))
set_option maxHeartbeats 4000000 in
theorem kM_fits_L76 (N : Nat) (d : Nat) (hd : 7 ≤ d) (K55 : Int32 → Int32 → Int32 → Int32 → Int32 → zS → Option (Int32 × zS)) (hK55 : ∀ (y1 : Int32) (y2 : Int32) (y3 : Int32) (y4 : Int32) (y5 : Int32) (σ : zS) (w : Int32 × zS) (z6 : Option zA) (hz6 : znl z6 = true) (z7 : Option zA), K55 y1 y2 y3 y4 y5 σ = some w → zEv d 195 55 [some (zR 8 0), some (zI y1), some (zI y2), some (zI y3), some (zI y4), some (zI y5), z6, z7] [] σ (some (zI w.1), w.2)) : ∀ n : Nat, ∀ (y1 : Int32) (y2 : Int32) (y3 : Int32) (y4 : Int32) (y5 : Int32) (y6 : Int32) (y7 : Int32) (σ : zS) (w : Int32 × zS), fM_fits_L76 N K55 n y1 y2 y3 y4 y5 y6 y7 σ = some w → zEv d 195 76 [some (zR 8 0), some (zI y1), some (zI y2), some (zI y3), some (zI y4), some (zI y5), some (zI y6), some (zI y7)] [] σ (some (zI w.1), w.2) := by
  intro n
  induction n with
  | zero =>
    intro y1 y2 y3 y4 y5 y6 y7 σ w h
    cases h
  | succ n ih =>
    intro y1 y2 y3 y4 y5 y6 y7 σ w h
    rw [fM_fits_L76] at h
    refine ev_s i195_76 (p := 78) rfl ?_
    refine ev_s i195_78 (p := 79) rfl ?_
    refine ev_getf i195_79 zf8_40 (u := zR 40 0) rfl (p := 82) rfl ?_
    refine ev_s i195_82 (p := 83) rfl ?_
    refine ev_iald i195_83 rfl (n := 4) rfl (p := 84) rfl h (fun g26 h => ?_)
    refine ev_cmpge i195_84 (t := 130) (by decide) (p := 87) rfl h (fun c27 h => ?_) (fun c27 h => ?_)
    · exact kM_fits_J130 N d hd K55 hK55 y1 y2 y3 y4 y5 y6 σ w _ h
    · refine ev_s i195_87 (p := 89) rfl ?_
      refine ev_ifeq i195_89 (t := 130) (by decide) (p := 92) rfl h (fun c28 h => ?_) (fun c28 h => ?_)
      · exact kM_fits_J130 N d hd K55 hK55 y1 y2 y3 y4 y5 y6 σ w _ h
      · refine ev_s i195_92 (p := 93) rfl ?_
        refine ev_getf i195_93 zf8_43 (u := zR 41 0) rfl (p := 96) rfl ?_
        refine ev_s i195_96 (p := 98) (zib_24 _ _ _ _ _) ?_
        refine ev_s i195_98 (p := 99) rfl ?_
        refine ev_s i195_99 (p := 100) (t := [zI (24 * y1), zR 41 0]) rfl ?_
        refine ev_s i195_100 (p := 102) rfl ?_
        refine ev_s i195_102 (p := 103) (t := [zI ((24 * y1) + y7), zR 41 0]) rfl ?_
        refine ev_iald i195_103 rfl (n := 96) rfl (p := 104) rfl h (fun g29 h => ?_)
        refine ev_s i195_104 (p := 105) rfl ?_
        refine ev_s i195_105 (p := 106) rfl ?_
        refine ev_s i195_106 (p := 107) (zic_3 _ _ _ _ _) ?_
        obtain ⟨r31, hr30, h⟩ := bd_some h
        refine ev_callV i195_107 zc8_54 zm118 zo118 (as' := [zI y2, zI 3]) (rest := [zI (σ 41 0 ((24 * y1) + y7).toNatClampNeg)]) rfl rfl (Nat.le_of_ble_eq_true rfl) (Nat.le_of_ble_eq_true rfl) (Nat.le_of_ble_eq_true rfl) (by omega) (l0 := [some (zR 8 0), some (zI y2), some (zI 3)]) rfl (p := 110) rfl (kM_its y2 3 σ r31 hr30 (d - 1) (by omega)) ?_
        change zEv d 195 110 [some (zR 8 0), some (zI y1), some (zI y2), some (zI y3), some (zI y4), some (zI y5), some (zI y6), some (zI y7)] [zI r31, zI (σ 41 0 ((24 * y1) + y7).toNatClampNeg)] σ _
        refine ev_cmpne i195_110 (t := 117) (by decide) (p := 113) rfl h (fun c32 h => ?_) (fun c32 h => ?_)
        · refine ev_s i195_113 (p := 114) (zic_1 _ _ _ _ _) ?_
          refine ev_goto i195_114 (t := 118) (by decide) ?_
          exact kM_fits_J118 N d hd K55 hK55 (fun y1 y2 y3 y4 y5 y6 y7 σ => fM_fits_L76 N K55 n y1 y2 y3 y4 y5 y6 y7 σ) ih y1 y2 y3 y4 y5 y7 1 σ w _ rfl h
        · refine ev_s i195_117 (p := 118) (zic_0 _ _ _ _ _) ?_
          exact kM_fits_J118 N d hd K55 hK55 (fun y1 y2 y3 y4 y5 y6 y7 σ => fM_fits_L76 N K55 n y1 y2 y3 y4 y5 y6 y7 σ) ih y1 y2 y3 y4 y5 y7 0 σ w _ rfl h
def fM_fits_L55 (N : Nat) : Nat → Int32 → Int32 → Int32 → Int32 → Int32 → zS → Option (Int32 × zS)
  | 0, _, _, _, _, _, _ => none
  | n + 1, y1, y2, y3, y4, y5, σ => (if 6 < y5 then (if y3 = 0 then some (y4, σ) else (fM_ones N y4).bind fun r23 => some (r23, σ)) else (fM_lays1 y2 0 y5 σ).bind fun s25 => fM_fits_L76 N (fun y1 y2 y3 y4 y5 σ => fM_fits_L55 N n y1 y2 y3 y4 y5 σ) N y1 y2 y3 y4 y5 1 0 s25)
set_option maxHeartbeats 4000000 in
theorem kM_fits_L55 (N : Nat) (d : Nat) (hd : 7 ≤ d)  : ∀ n : Nat, ∀ (y1 : Int32) (y2 : Int32) (y3 : Int32) (y4 : Int32) (y5 : Int32) (σ : zS) (w : Int32 × zS) (z6 : Option zA) (hz6 : znl z6 = true) (z7 : Option zA), fM_fits_L55 N n y1 y2 y3 y4 y5 σ = some w → zEv d 195 55 [some (zR 8 0), some (zI y1), some (zI y2), some (zI y3), some (zI y4), some (zI y5), z6, z7] [] σ (some (zI w.1), w.2) := by
  intro n
  induction n with
  | zero =>
    intro y1 y2 y3 y4 y5 σ w z6 hz6 z7 h
    cases h
  | succ n ih =>
    intro y1 y2 y3 y4 y5 σ w z6 hz6 z7 h
    rw [fM_fits_L55] at h
    refine ev_s i195_55 (p := 57) rfl ?_
    refine ev_s i195_57 (p := 59) (zib_6 _ _ _ _ _) ?_
    refine ev_cmpgt i195_59 (t := 158) (by decide) (p := 62) rfl h (fun c20 h => ?_) (fun c20 h => ?_)
    · refine ev_s i195_158 (p := 159) rfl ?_
      refine ev_ifne i195_159 (t := 167) (by decide) (p := 162) rfl h (fun c21 h => ?_) (fun c21 h => ?_)
      · refine ev_s i195_162 (p := 164) rfl ?_
        refine ev_goto i195_164 (t := 172) (by decide) ?_
        obtain rfl := Option.some.inj h
        exact ev_iret i195_172 zr195
      · refine ev_s i195_167 (p := 169) rfl ?_
        obtain ⟨r23, hr22, h⟩ := bd_some h
        refine ev_callS i195_169 zn8_228 zc8_228 zm181 (as := [zI y4]) (rest := []) rfl rfl (Nat.le_of_ble_eq_true rfl) (Nat.le_of_ble_eq_true rfl) (Nat.le_of_ble_eq_true rfl) (by omega) (l0 := [some (zI y4), none, none]) rfl (p := 172) rfl (kM_ones N y4 σ r23 hr22 (d - 1) (by omega)) ?_
        change zEv d 195 172 [some (zR 8 0), some (zI y1), some (zI y2), some (zI y3), some (zI y4), some (zI y5), z6, z7] [zI r23] σ _
        obtain rfl := Option.some.inj h
        exact ev_iret i195_172 zr195
    · refine ev_s i195_62 (p := 63) rfl ?_
      refine ev_s i195_63 (p := 64) rfl ?_
      refine ev_s i195_64 (p := 65) (zic_0 _ _ _ _ _) ?_
      refine ev_s i195_65 (p := 67) rfl ?_
      obtain ⟨s25, hr24, h⟩ := bd_some h
      refine ev_callV i195_67 zc8_149 zm119 zo119 (as' := [zI y2, zI 0, zI y5]) (rest := []) rfl rfl (Nat.le_of_ble_eq_true rfl) (Nat.le_of_ble_eq_true rfl) (Nat.le_of_ble_eq_true rfl) (by omega) (l0 := [some (zR 8 0), some (zI y2), some (zI 0), some (zI y5)]) rfl (p := 70) rfl (kM_lays1 y2 0 y5 σ s25 hr24 (d - 1) (by omega)) ?_
      change zEv d 195 70 [some (zR 8 0), some (zI y1), some (zI y2), some (zI y3), some (zI y4), some (zI y5), z6, z7] [] s25 _
      refine ev_s i195_70 (p := 71) (zic_1 _ _ _ _ _) ?_
      refine ev_s i195_71 (p := 73) (l := [some (zR 8 0), some (zI y1), some (zI y2), some (zI y3), some (zI y4), some (zI y5), some (zI 1), z7]) rfl ?_
      refine ev_s i195_73 (p := 74) (zic_0 _ _ _ _ _) ?_
      refine ev_s i195_74 (p := 76) (l := [some (zR 8 0), some (zI y1), some (zI y2), some (zI y3), some (zI y4), some (zI y5), some (zI 1), some (zI 0)]) rfl ?_
      exact kM_fits_L76 N d hd (fun y1 y2 y3 y4 y5 σ => fM_fits_L55 N n y1 y2 y3 y4 y5 σ) ih N y1 y2 y3 y4 y5 1 0 s25 w h
def fM_fits_J24 (N : Nat) (σ : zS) : Option (Int32 × zS) := zb2 (fM_error 1 σ) fun r19 s18 => some (r19, s18)
set_option maxHeartbeats 4000000 in
theorem kM_fits_J24 (N : Nat) (d : Nat) (hd : 7 ≤ d)  : ∀ (σ : zS) (w : Int32 × zS) (z1 : Option zA) (z2 : Option zA) (z3 : Option zA) (hz3 : znl z3 = true) (z4 : Option zA) (hz4 : znl z4 = true) (z5 : Option zA) (hz5 : znl z5 = true) (z6 : Option zA) (hz6 : znl z6 = true) (z7 : Option zA), fM_fits_J24 N σ = some w → zEv d 195 24 [some (zR 8 0), z1, z2, z3, z4, z5, z6, z7] [] σ (some (zI w.1), w.2) := by
  intro σ w z1 z2 z3 hz3 z4 hz4 z5 hz5 z6 hz6 z7 h
  unfold fM_fits_J24 at h
  refine ev_s i195_24 (p := 25) rfl ?_
  refine ev_s i195_25 (p := 26) (zic_1 _ _ _ _ _) ?_
  obtain ⟨r19, s18, hr17, h⟩ := b2_some h
  refine ev_callV i195_26 zc8_58 zm110 zo110 (as' := [zI 1]) (rest := []) rfl rfl (Nat.le_of_ble_eq_true rfl) (Nat.le_of_ble_eq_true rfl) (Nat.le_of_ble_eq_true rfl) (by omega) (l0 := [some (zR 8 0), some (zI 1)]) rfl (p := 29) rfl (kM_error 1 σ (r19, s18) hr17 (d - 1) (by omega)) ?_
  change zEv d 195 29 [some (zR 8 0), z1, z2, z3, z4, z5, z6, z7] [zI r19] s18 _
  obtain rfl := Option.some.inj h
  exact ev_iret i195_29 zr195
def fM_fits (N : Nat) (x1 : Int32) (x2 : Int32) (x3 : Int32) (σ : zS) : Option (Int32 × zS) := (fM_isSheet x1).bind fun r2 => (if r2 = 0 then fM_fits_J24 N σ else (fM_isOne x2 σ).bind fun r5 => (if r5 = 0 then fM_fits_J24 N σ else (fM_in x3 0 1).bind fun r8 => (if r8 = 0 then fM_fits_J24 N σ else zgd (zin x1 4) ((if (σ 39 0 x1.toNatClampNeg) = 0 then zb2 (fM_error 2 σ) fun r14 s13 => some (r14, s13) else (fM_saves N σ).bind fun s16 => fM_fits_L55 N N x1 x2 x3 0 0 s16)))))
set_option maxHeartbeats 4000000 in
theorem kM_fits (N : Nat) (x1 : Int32) (x2 : Int32) (x3 : Int32) (σ : zS) (w : Int32 × zS) (h : fM_fits N x1 x2 x3 σ = some w) (d : Nat) (hd : 7 ≤ d) : zEv d 195 0 [some (zR 8 0), some (zI x1), some (zI x2), some (zI x3), none, none, none, none] [] σ (some (zI w.1), w.2) := by
  unfold fM_fits at h
  refine ev_s i195_0 (p := 1) rfl ?_
  obtain ⟨r2, hr1, h⟩ := bd_some h
  refine ev_callS i195_1 zn8_252 zc8_252 zm206 (as := [zI x1]) (rest := []) rfl rfl (Nat.le_of_ble_eq_true rfl) (Nat.le_of_ble_eq_true rfl) (Nat.le_of_ble_eq_true rfl) (by omega) (l0 := [some (zI x1)]) rfl (p := 4) rfl (kM_isSheet x1 σ r2 hr1 (d - 1) (by omega)) ?_
  change zEv d 195 4 [some (zR 8 0), some (zI x1), some (zI x2), some (zI x3), none, none, none, none] [zI r2] σ _
  refine ev_ifeq i195_4 (t := 24) (by decide) (p := 7) rfl h (fun c3 h => ?_) (fun c3 h => ?_)
  · exact kM_fits_J24 N d hd σ w _ _ _ rfl _ rfl _ rfl _ rfl _ h
  · refine ev_s i195_7 (p := 8) rfl ?_
    refine ev_s i195_8 (p := 9) rfl ?_
    obtain ⟨r5, hr4, h⟩ := bd_some h
    refine ev_callV i195_9 zc8_194 zm116 zo116 (as' := [zI x2]) (rest := []) rfl rfl (Nat.le_of_ble_eq_true rfl) (Nat.le_of_ble_eq_true rfl) (Nat.le_of_ble_eq_true rfl) (by omega) (l0 := [some (zR 8 0), some (zI x2)]) rfl (p := 12) rfl (kM_isOne x2 σ r5 hr4 (d - 1) (by omega)) ?_
    change zEv d 195 12 [some (zR 8 0), some (zI x1), some (zI x2), some (zI x3), none, none, none, none] [zI r5] σ _
    refine ev_ifeq i195_12 (t := 24) (by decide) (p := 15) rfl h (fun c6 h => ?_) (fun c6 h => ?_)
    · exact kM_fits_J24 N d hd σ w _ _ _ rfl _ rfl _ rfl _ rfl _ h
    · refine ev_s i195_15 (p := 16) rfl ?_
      refine ev_s i195_16 (p := 17) (zic_0 _ _ _ _ _) ?_
      refine ev_s i195_17 (p := 18) (zic_1 _ _ _ _ _) ?_
      obtain ⟨r8, hr7, h⟩ := bd_some h
      refine ev_callS i195_18 zn8_50 zc8_50 zm111 (as := [zI x3, zI 0, zI 1]) (rest := []) rfl rfl (Nat.le_of_ble_eq_true rfl) (Nat.le_of_ble_eq_true rfl) (Nat.le_of_ble_eq_true rfl) (by omega) (l0 := [some (zI x3), some (zI 0), some (zI 1)]) rfl (p := 21) rfl (kM_in x3 0 1 σ r8 hr7 (d - 1) (by omega)) ?_
      change zEv d 195 21 [some (zR 8 0), some (zI x1), some (zI x2), some (zI x3), none, none, none, none] [zI r8] σ _
      refine ev_ifne i195_21 (t := 30) (by decide) (p := 24) rfl h (fun c9 h => ?_) (fun c9 h => ?_)
      · exact kM_fits_J24 N d hd σ w _ _ _ rfl _ rfl _ rfl _ rfl _ h
      · refine ev_s i195_30 (p := 31) rfl ?_
        refine ev_getf i195_31 zf8_37 (u := zR 39 0) rfl (p := 34) rfl ?_
        refine ev_s i195_34 (p := 35) rfl ?_
        refine ev_iald i195_35 rfl (n := 4) rfl (p := 36) rfl h (fun g10 h => ?_)
        refine ev_ifne i195_36 (t := 45) (by decide) (p := 39) rfl h (fun c11 h => ?_) (fun c11 h => ?_)
        · refine ev_s i195_39 (p := 40) rfl ?_
          refine ev_s i195_40 (p := 41) (zic_2 _ _ _ _ _) ?_
          obtain ⟨r14, s13, hr12, h⟩ := b2_some h
          refine ev_callV i195_41 zc8_58 zm110 zo110 (as' := [zI 2]) (rest := []) rfl rfl (Nat.le_of_ble_eq_true rfl) (Nat.le_of_ble_eq_true rfl) (Nat.le_of_ble_eq_true rfl) (by omega) (l0 := [some (zR 8 0), some (zI 2)]) rfl (p := 44) rfl (kM_error 2 σ (r14, s13) hr12 (d - 1) (by omega)) ?_
          change zEv d 195 44 [some (zR 8 0), some (zI x1), some (zI x2), some (zI x3), none, none, none, none] [zI r14] s13 _
          obtain rfl := Option.some.inj h
          exact ev_iret i195_44 zr195
        · refine ev_s i195_45 (p := 46) (zic_0 _ _ _ _ _) ?_
          refine ev_s i195_46 (p := 48) (l := [some (zR 8 0), some (zI x1), some (zI x2), some (zI x3), some (zI 0), none, none, none]) rfl ?_
          refine ev_s i195_48 (p := 49) rfl ?_
          obtain ⟨s16, hr15, h⟩ := bd_some h
          refine ev_callV i195_49 zc8_234 zm114 zo114 (as' := []) (rest := []) rfl rfl (Nat.le_of_ble_eq_true rfl) (Nat.le_of_ble_eq_true rfl) (Nat.le_of_ble_eq_true rfl) (by omega) (l0 := [some (zR 8 0), none]) rfl (p := 52) rfl (kM_saves N σ s16 hr15 (d - 1) (by omega)) ?_
          change zEv d 195 52 [some (zR 8 0), some (zI x1), some (zI x2), some (zI x3), some (zI 0), none, none, none] [] s16 _
          refine ev_s i195_52 (p := 53) (zic_0 _ _ _ _ _) ?_
          refine ev_s i195_53 (p := 55) (l := [some (zR 8 0), some (zI x1), some (zI x2), some (zI x3), some (zI 0), some (zI 0), none, none]) rfl ?_
          exact kM_fits_L55 N d hd N x1 x2 x3 0 0 s16 w _ rfl _ h
/-! fV_bodyOf -/
def fV_bodyOf_L4 (N : Nat) : Nat → Int32 → Int32 → Int32 → zS → Option (Int32)
  | 0, _, _, _, _ => none
  | n + 1, y1, y2, y3, σ => (if 6 < y3 then some (0) else (if y2 < 0 then some (0) else zgd (zin ((4 * y2) + y1) 28) (zlt (σ 53 0 ((4 * y2) + y1).toNatClampNeg) fun v4 => (if v4 = 0 then zgd (zin y2 7) (zlt (σ 52 0 y2.toNatClampNeg) fun v7 => fV_bodyOf_L4 N n y1 v7 (y3 + 1) σ) else some (v4)))))
set_option maxHeartbeats 4000000 in
theorem kV_bodyOf_L4 (N : Nat) (d : Nat) (hd : 0 ≤ d)  : ∀ n : Nat, ∀ (y1 : Int32) (y2 : Int32) (y3 : Int32) (σ : zS) (w : Int32) (z0 : Option zA) (z4 : Option zA), fV_bodyOf_L4 N n y1 y2 y3 σ = some w → zEv d 60 4 [z0, some (zI y1), some (zI y2), some (zI y3), z4] [] σ (some (zI w), σ) := by
  intro n
  induction n with
  | zero =>
    intro y1 y2 y3 σ w z0 z4 h
    cases h
  | succ n ih =>
    intro y1 y2 y3 σ w z0 z4 h
    rw [fV_bodyOf_L4] at h
    refine ev_s i60_4 (p := 5) rfl ?_
    refine ev_s i60_5 (p := 7) (zib_6 _ _ _ _ _) ?_
    refine ev_cmpgt i60_7 (t := 45) (by decide) (p := 10) rfl h (fun c1 h => ?_) (fun c1 h => ?_)
    · refine ev_s i60_45 (p := 46) (zic_0 _ _ _ _ _) ?_
      obtain rfl := Option.some.inj h
      exact ev_iret i60_46 zr60
    · refine ev_s i60_10 (p := 11) rfl ?_
      refine ev_iflt i60_11 (t := 45) (by decide) (p := 14) rfl h (fun c2 h => ?_) (fun c2 h => ?_)
      · refine ev_s i60_45 (p := 46) (zic_0 _ _ _ _ _) ?_
        obtain rfl := Option.some.inj h
        exact ev_iret i60_46 zr60
      · refine ev_gets i60_14 zg6_50 (p := 17) rfl ?_
        refine ev_s i60_17 (p := 18) (zic_4 _ _ _ _ _) ?_
        refine ev_s i60_18 (p := 19) rfl ?_
        refine ev_s i60_19 (p := 20) (t := [zI (4 * y2), zR 53 0]) rfl ?_
        refine ev_s i60_20 (p := 21) rfl ?_
        refine ev_s i60_21 (p := 22) (t := [zI ((4 * y2) + y1), zR 53 0]) rfl ?_
        refine ev_iald i60_22 rfl (n := 28) rfl (p := 23) rfl h (fun g3 h => ?_)
        refine ev_let h (fun v4 ev4 h => ?_)
        refine ev_s i60_23 (p := 25) (l := [z0, some (zI y1), some (zI y2), some (zI y3), some (zI v4)]) rfl ?_
        refine ev_s i60_25 (p := 27) rfl ?_
        refine ev_ifeq i60_27 (t := 33) (by decide) (p := 30) rfl h (fun c5 h => ?_) (fun c5 h => ?_)
        · refine ev_gets i60_33 zg6_15 (p := 36) rfl ?_
          refine ev_s i60_36 (p := 37) rfl ?_
          refine ev_iald i60_37 rfl (n := 7) rfl (p := 38) rfl h (fun g6 h => ?_)
          refine ev_let h (fun v7 ev7 h => ?_)
          refine ev_s i60_38 (p := 39) (l := [z0, some (zI y1), some (zI v7), some (zI y3), some (zI v4)]) rfl ?_
          refine ev_iinc i60_39 zii_1 rfl (l := [z0, some (zI y1), some (zI v7), some (zI (y3 + 1)), some (zI v4)]) rfl (p := 42) rfl ?_
          refine ev_goto i60_42 (t := 4) (by decide) ?_
          exact ih y1 v7 (y3 + 1) σ w _ _ h
        · refine ev_s i60_30 (p := 32) rfl ?_
          obtain rfl := Option.some.inj h
          exact ev_iret i60_32 zr60
def fV_bodyOf (N : Nat) (x0 : Int32) (x1 : Int32) (σ : zS) : Option (Int32) := fV_bodyOf_L4 N N x1 x0 0 σ
set_option maxHeartbeats 4000000 in
theorem kV_bodyOf (N : Nat) (x0 : Int32) (x1 : Int32) (σ : zS) (w : Int32) (h : fV_bodyOf N x0 x1 σ = some w) (d : Nat) (hd : 0 ≤ d) : zEv d 60 0 [some (zI x0), some (zI x1), none, none, none] [] σ (some (zI w), σ) := by
  unfold fV_bodyOf at h
  refine ev_s i60_0 (p := 1) rfl ?_
  refine ev_s i60_1 (p := 2) (l := [some (zI x0), some (zI x1), some (zI x0), none, none]) rfl ?_
  refine ev_s i60_2 (p := 3) (zic_0 _ _ _ _ _) ?_
  refine ev_s i60_3 (p := 4) (l := [some (zI x0), some (zI x1), some (zI x0), some (zI 0), none]) rfl ?_
  exact kV_bodyOf_L4 N d hd N x1 x0 0 σ w _ _ h
