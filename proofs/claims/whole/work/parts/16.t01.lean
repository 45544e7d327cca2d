/-! fA_as -/
def fA_as_J17 (N : Nat) (σ : zS) : Option (Int32 × zS) := zb2 (fA_refuse 1 σ) fun r17 s16 => some (r17, s16)
set_option maxHeartbeats 4000000 in
theorem kA_as_J17 (N : Nat) (d : Nat) (hd : 1 ≤ d)  : ∀ (σ : zS) (w : Int32 × zS) (z1 : Option zA) (z2 : Option zA), fA_as_J17 N σ = some w → zEv d 64 17 [some (zR 7 0), z1, z2] [] σ (some (zI w.1), w.2) := by
  intro σ w z1 z2 h
  unfold fA_as_J17 at h
  refine ev_s i64_17 (p := 18) rfl ?_
  refine ev_s i64_18 (p := 19) (zic_1 _ _ _ _ _) ?_
  obtain ⟨r17, s16, hr15, h⟩ := b2_some h
  refine ev_callV i64_19 zc7_72 zm102 zo102 (as' := [zI 1]) (rest := []) rfl rfl (Nat.le_of_ble_eq_true rfl) (Nat.le_of_ble_eq_true rfl) (Nat.le_of_ble_eq_true rfl) (by omega) (l0 := [some (zR 7 0), some (zI 1)]) rfl (p := 22) rfl (kA_refuse 1 σ (r17, s16) hr15 (d - 1) (by omega)) ?_
  change zEv d 64 22 [some (zR 7 0), z1, z2] [zI r17] s16 _
  obtain rfl := Option.some.inj h
  exact ev_iret i64_22 zr64
def fA_as (N : Nat) (x1 : Int32) (x2 : Int32) (σ : zS) : Option (Int32 × zS) := (fA_isThere x1 σ).bind fun r2 => (if r2 = 0 then fA_as_J17 N σ else (fA_within x2 6).bind fun r5 => (if r5 = 0 then fA_as_J17 N σ else zgd (zin x1 8) ((fV_isUnder N (σ 14 0 x1.toNatClampNeg) x2 σ).bind fun r9 => (if r9 = 0 then zb2 (fA_refuse 5 σ) fun r13 s12 => some (r13, s12) else zgd (zin x1 8) (some (σ 15 0 x1.toNatClampNeg, σ))))))
set_option maxHeartbeats 4000000 in
theorem kA_as (N : Nat) (x1 : Int32) (x2 : Int32) (σ : zS) (w : Int32 × zS) (h : fA_as N x1 x2 σ = some w) (d : Nat) (hd : 1 ≤ d) : zEv d 64 0 [some (zR 7 0), some (zI x1), some (zI x2)] [] σ (some (zI w.1), w.2) := by
  unfold fA_as at h
  refine ev_s i64_0 (p := 1) rfl ?_
  refine ev_s i64_1 (p := 2) rfl ?_
  obtain ⟨r2, hr1, h⟩ := bd_some h
  refine ev_callV i64_2 zc7_68 zm104 zo104 (as' := [zI x1]) (rest := []) rfl rfl (Nat.le_of_ble_eq_true rfl) (Nat.le_of_ble_eq_true rfl) (Nat.le_of_ble_eq_true rfl) (by omega) (l0 := [some (zR 7 0), some (zI x1)]) rfl (p := 5) rfl (kA_isThere x1 σ r2 hr1 (d - 1) (by omega)) ?_
  change zEv d 64 5 [some (zR 7 0), some (zI x1), some (zI x2)] [zI r2] σ _
  refine ev_ifeq i64_5 (t := 17) (by decide) (p := 8) rfl h (fun c3 h => ?_) (fun c3 h => ?_)
  · exact kA_as_J17 N d hd σ w _ _ h
  · refine ev_s i64_8 (p := 9) rfl ?_
    refine ev_s i64_9 (p := 11) (zib_6 _ _ _ _ _) ?_
    obtain ⟨r5, hr4, h⟩ := bd_some h
    refine ev_callS i64_11 zn7_64 zc7_64 zm103 (as := [zI x2, zI 6]) (rest := []) rfl rfl (Nat.le_of_ble_eq_true rfl) (Nat.le_of_ble_eq_true rfl) (Nat.le_of_ble_eq_true rfl) (by omega) (l0 := [some (zI x2), some (zI 6)]) rfl (p := 14) rfl (kA_within x2 6 σ r5 hr4 (d - 1) (by omega)) ?_
    change zEv d 64 14 [some (zR 7 0), some (zI x1), some (zI x2)] [zI r5] σ _
    refine ev_ifne i64_14 (t := 23) (by decide) (p := 17) rfl h (fun c6 h => ?_) (fun c6 h => ?_)
    · exact kA_as_J17 N d hd σ w _ _ h
    · refine ev_s i64_23 (p := 24) rfl ?_
      refine ev_getf i64_24 zf7_47 (u := zR 2 0) rfl (p := 27) rfl ?_
      refine ev_getf i64_27 zf7_84 (u := zR 14 0) rfl (p := 30) rfl ?_
      refine ev_s i64_30 (p := 31) rfl ?_
      refine ev_iald i64_31 rfl (n := 8) rfl (p := 32) rfl h (fun g7 h => ?_)
      refine ev_s i64_32 (p := 33) rfl ?_
      obtain ⟨r9, hr8, h⟩ := bd_some h
      refine ev_callS i64_33 zn7_111 zc7_111 zm55 (as := [zI (σ 14 0 x1.toNatClampNeg), zI x2]) (rest := []) rfl rfl (Nat.le_of_ble_eq_true rfl) (Nat.le_of_ble_eq_true rfl) (Nat.le_of_ble_eq_true rfl) (by omega) (l0 := [some (zI (σ 14 0 x1.toNatClampNeg)), some (zI x2), none, none]) rfl (p := 36) rfl (kV_isUnder N (σ 14 0 x1.toNatClampNeg) x2 σ r9 hr8 (d - 1) (by omega)) ?_
      change zEv d 64 36 [some (zR 7 0), some (zI x1), some (zI x2)] [zI r9] σ _
      refine ev_ifeq i64_36 (t := 51) (by decide) (p := 39) rfl h (fun c10 h => ?_) (fun c10 h => ?_)
      · refine ev_s i64_51 (p := 52) rfl ?_
        refine ev_s i64_52 (p := 53) (zic_5 _ _ _ _ _) ?_
        obtain ⟨r13, s12, hr11, h⟩ := b2_some h
        refine ev_callV i64_53 zc7_72 zm102 zo102 (as' := [zI 5]) (rest := []) rfl rfl (Nat.le_of_ble_eq_true rfl) (Nat.le_of_ble_eq_true rfl) (Nat.le_of_ble_eq_true rfl) (by omega) (l0 := [some (zR 7 0), some (zI 5)]) rfl (p := 56) rfl (kA_refuse 5 σ (r13, s12) hr11 (d - 1) (by omega)) ?_
        change zEv d 64 56 [some (zR 7 0), some (zI x1), some (zI x2)] [zI r13] s12 _
        obtain rfl := Option.some.inj h
        exact ev_iret i64_56 zr64
      · refine ev_s i64_39 (p := 40) rfl ?_
        refine ev_getf i64_40 zf7_47 (u := zR 2 0) rfl (p := 43) rfl ?_
        refine ev_getf i64_43 zf7_87 (u := zR 15 0) rfl (p := 46) rfl ?_
        refine ev_s i64_46 (p := 47) rfl ?_
        refine ev_iald i64_47 rfl (n := 8) rfl (p := 48) rfl h (fun g14 h => ?_)
        refine ev_goto i64_48 (t := 56) (by decide) ?_
        obtain rfl := Option.some.inj h
        exact ev_iret i64_56 zr64
/-! fM_above -/
def fM_above (x0 : Int32) : Option (Int32) := (if x0 = 4 then some (1) else (if x0 = 5 then some (2) else some (0)))
set_option maxHeartbeats 4000000 in
theorem kM_above (x0 : Int32) (σ : zS) (w : Int32) (h : fM_above x0 = some w) (d : Nat) (hd : 0 ≤ d) : zEv d 197 0 [some (zI x0)] [] σ (some (zI w), σ) := by
  unfold fM_above at h
  refine ev_s i197_0 (p := 1) rfl ?_
  refine ev_s i197_1 (p := 2) (zic_4 _ _ _ _ _) ?_
  refine ev_cmpne i197_2 (t := 9) (by decide) (p := 5) rfl h (fun c1 h => ?_) (fun c1 h => ?_)
  · refine ev_s i197_5 (p := 6) (zic_1 _ _ _ _ _) ?_
    refine ev_goto i197_6 (t := 19) (by decide) ?_
    obtain rfl := Option.some.inj h
    exact ev_iret i197_19 zr197
  · refine ev_s i197_9 (p := 10) rfl ?_
    refine ev_s i197_10 (p := 11) (zic_5 _ _ _ _ _) ?_
    refine ev_cmpne i197_11 (t := 18) (by decide) (p := 14) rfl h (fun c2 h => ?_) (fun c2 h => ?_)
    · refine ev_s i197_14 (p := 15) (zic_2 _ _ _ _ _) ?_
      refine ev_goto i197_15 (t := 19) (by decide) ?_
      obtain rfl := Option.some.inj h
      exact ev_iret i197_19 zr197
    · refine ev_s i197_18 (p := 19) (zic_0 _ _ _ _ _) ?_
      obtain rfl := Option.some.inj h
      exact ev_iret i197_19 zr197
/-! fM_as -/
def fM_as_J53 (y1 : Int32) (u0 : Int32) (σ : zS) : Option (Int32 × zS) := (if u0 = 0 then zb2 (fM_error 5 σ) fun r20 s19 => some (r20, s19) else (fM_its y1 1 σ).bind fun r22 => some (r22, σ))
set_option maxHeartbeats 4000000 in
theorem kM_as_J53  (d : Nat) (hd : 2 ≤ d)  : ∀ (y1 : Int32) (u0 : Int32) (σ : zS) (w : Int32 × zS) (z2 : Option zA) (hz2 : znl z2 = true) (z3 : Option zA) (hz3 : znl z3 = true) (z4 : Option zA), fM_as_J53 y1 u0 σ = some w → zEv d 162 53 [some (zR 8 0), some (zI y1), z2, z3, z4] [zI u0] σ (some (zI w.1), w.2) := by
  intro y1 u0 σ w z2 hz2 z3 hz3 z4 h
  unfold fM_as_J53 at h
  refine ev_s i162_53 (p := 55) (l := [some (zR 8 0), some (zI y1), z2, z3, some (zI u0)]) (t := []) (s := σ) (by rcases z3 with _ | _ | _ | _ <;> first | rfl | cases hz3) ?_
  refine ev_s i162_55 (p := 57) rfl ?_
  refine ev_ifeq i162_57 (t := 69) (by decide) (p := 60) rfl h (fun c17 h => ?_) (fun c17 h => ?_)
  · refine ev_s i162_69 (p := 70) rfl ?_
    refine ev_s i162_70 (p := 71) (zic_5 _ _ _ _ _) ?_
    obtain ⟨r20, s19, hr18, h⟩ := b2_some h
    refine ev_callV i162_71 zc8_58 zm110 zo110 (as' := [zI 5]) (rest := []) rfl rfl (Nat.le_of_ble_eq_true rfl) (Nat.le_of_ble_eq_true rfl) (Nat.le_of_ble_eq_true rfl) (by omega) (l0 := [some (zR 8 0), some (zI 5)]) rfl (p := 74) rfl (kM_error 5 σ (r20, s19) hr18 (d - 1) (by omega)) ?_
    change zEv d 162 74 [some (zR 8 0), some (zI y1), z2, z3, some (zI u0)] [zI r20] s19 _
    obtain rfl := Option.some.inj h
    exact ev_iret i162_74 zr162
  · refine ev_s i162_60 (p := 61) rfl ?_
    refine ev_s i162_61 (p := 62) rfl ?_
    refine ev_s i162_62 (p := 63) (zic_1 _ _ _ _ _) ?_
    obtain ⟨r22, hr21, h⟩ := bd_some h
    refine ev_callV i162_63 zc8_54 zm118 zo118 (as' := [zI y1, zI 1]) (rest := []) rfl rfl (Nat.le_of_ble_eq_true rfl) (Nat.le_of_ble_eq_true rfl) (Nat.le_of_ble_eq_true rfl) (by omega) (l0 := [some (zR 8 0), some (zI y1), some (zI 1)]) rfl (p := 66) rfl (kM_its y1 1 σ r22 hr21 (d - 1) (by omega)) ?_
    change zEv d 162 66 [some (zR 8 0), some (zI y1), z2, z3, some (zI u0)] [zI r22] σ _
    refine ev_goto i162_66 (t := 74) (by decide) ?_
    obtain rfl := Option.some.inj h
    exact ev_iret i162_74 zr162
def fM_as_J48 (y1 : Int32) (σ : zS) : Option (Int32 × zS) := fM_as_J53 y1 1 σ
set_option maxHeartbeats 4000000 in
theorem kM_as_J48  (d : Nat) (hd : 2 ≤ d)  : ∀ (y1 : Int32) (σ : zS) (w : Int32 × zS) (z2 : Option zA) (hz2 : znl z2 = true) (z3 : Option zA) (hz3 : znl z3 = true) (z4 : Option zA), fM_as_J48 y1 σ = some w → zEv d 162 48 [some (zR 8 0), some (zI y1), z2, z3, z4] [] σ (some (zI w.1), w.2) := by
  intro y1 σ w z2 hz2 z3 hz3 z4 h
  unfold fM_as_J48 at h
  refine ev_s i162_48 (p := 49) (zic_1 _ _ _ _ _) ?_
  refine ev_goto i162_49 (t := 53) (by decide) ?_
  exact kM_as_J53 d hd y1 1 σ w _ hz2 _ hz3 _ h
def fM_as_J18 (σ : zS) : Option (Int32 × zS) := zb2 (fM_error 1 σ) fun r16 s15 => some (r16, s15)
set_option maxHeartbeats 4000000 in
theorem kM_as_J18  (d : Nat) (hd : 2 ≤ d)  : ∀ (σ : zS) (w : Int32 × zS) (z1 : Option zA) (z2 : Option zA) (hz2 : znl z2 = true) (z3 : Option zA) (hz3 : znl z3 = true) (z4 : Option zA), fM_as_J18 σ = some w → zEv d 162 18 [some (zR 8 0), z1, z2, z3, z4] [] σ (some (zI w.1), w.2) := by
  intro σ w z1 z2 hz2 z3 hz3 z4 h
  unfold fM_as_J18 at h
  refine ev_s i162_18 (p := 19) rfl ?_
  refine ev_s i162_19 (p := 20) (zic_1 _ _ _ _ _) ?_
  obtain ⟨r16, s15, hr14, h⟩ := b2_some h
  refine ev_callV i162_20 zc8_58 zm110 zo110 (as' := [zI 1]) (rest := []) rfl rfl (Nat.le_of_ble_eq_true rfl) (Nat.le_of_ble_eq_true rfl) (Nat.le_of_ble_eq_true rfl) (by omega) (l0 := [some (zR 8 0), some (zI 1)]) rfl (p := 23) rfl (kM_error 1 σ (r16, s15) hr14 (d - 1) (by omega)) ?_
  change zEv d 162 23 [some (zR 8 0), z1, z2, z3, z4] [zI r16] s15 _
  obtain rfl := Option.some.inj h
  exact ev_iret i162_23 zr162
def fM_as (x1 : Int32) (x2 : Int32) (σ : zS) : Option (Int32 × zS) := (fM_isOne x1 σ).bind fun r2 => (if r2 = 0 then fM_as_J18 σ else (fM_in x2 0 6).bind fun r5 => (if r5 = 0 then fM_as_J18 σ else (fM_its x1 0 σ).bind fun r8 => (if x2 = 0 then fM_as_J48 x1 σ else (if r8 = x2 then fM_as_J48 x1 σ else (fM_above r8).bind fun r12 => (if r12 = x2 then fM_as_J48 x1 σ else fM_as_J53 x1 0 σ)))))
set_option maxHeartbeats 4000000 in
theorem kM_as (x1 : Int32) (x2 : Int32) (σ : zS) (w : Int32 × zS) (h : fM_as x1 x2 σ = some w) (d : Nat) (hd : 2 ≤ d) : zEv d 162 0 [some (zR 8 0), some (zI x1), some (zI x2), none, none] [] σ (some (zI w.1), w.2) := by
  unfold fM_as at h
  refine ev_s i162_0 (p := 1) rfl ?_
  refine ev_s i162_1 (p := 2) rfl ?_
  obtain ⟨r2, hr1, h⟩ := bd_some h
  refine ev_callV i162_2 zc8_194 zm116 zo116 (as' := [zI x1]) (rest := []) rfl rfl (Nat.le_of_ble_eq_true rfl) (Nat.le_of_ble_eq_true rfl) (Nat.le_of_ble_eq_true rfl) (by omega) (l0 := [some (zR 8 0), some (zI x1)]) rfl (p := 5) rfl (kM_isOne x1 σ r2 hr1 (d - 1) (by omega)) ?_
  change zEv d 162 5 [some (zR 8 0), some (zI x1), some (zI x2), none, none] [zI r2] σ _
  refine ev_ifeq i162_5 (t := 18) (by decide) (p := 8) rfl h (fun c3 h => ?_) (fun c3 h => ?_)
  · exact kM_as_J18 d hd σ w _ _ rfl _ rfl _ h
  · refine ev_s i162_8 (p := 9) rfl ?_
    refine ev_s i162_9 (p := 10) (zic_0 _ _ _ _ _) ?_
    refine ev_s i162_10 (p := 12) (zib_6 _ _ _ _ _) ?_
    obtain ⟨r5, hr4, h⟩ := bd_some h
    refine ev_callS i162_12 zn8_50 zc8_50 zm111 (as := [zI x2, zI 0, zI 6]) (rest := []) rfl rfl (Nat.le_of_ble_eq_true rfl) (Nat.le_of_ble_eq_true rfl) (Nat.le_of_ble_eq_true rfl) (by omega) (l0 := [some (zI x2), some (zI 0), some (zI 6)]) rfl (p := 15) rfl (kM_in x2 0 6 σ r5 hr4 (d - 1) (by omega)) ?_
    change zEv d 162 15 [some (zR 8 0), some (zI x1), some (zI x2), none, none] [zI r5] σ _
    refine ev_ifne i162_15 (t := 24) (by decide) (p := 18) rfl h (fun c6 h => ?_) (fun c6 h => ?_)
    · exact kM_as_J18 d hd σ w _ _ rfl _ rfl _ h
    · refine ev_s i162_24 (p := 25) rfl ?_
      refine ev_s i162_25 (p := 26) rfl ?_
      refine ev_s i162_26 (p := 27) (zic_0 _ _ _ _ _) ?_
      obtain ⟨r8, hr7, h⟩ := bd_some h
      refine ev_callV i162_27 zc8_54 zm118 zo118 (as' := [zI x1, zI 0]) (rest := []) rfl rfl (Nat.le_of_ble_eq_true rfl) (Nat.le_of_ble_eq_true rfl) (Nat.le_of_ble_eq_true rfl) (by omega) (l0 := [some (zR 8 0), some (zI x1), some (zI 0)]) rfl (p := 30) rfl (kM_its x1 0 σ r8 hr7 (d - 1) (by omega)) ?_
      change zEv d 162 30 [some (zR 8 0), some (zI x1), some (zI x2), none, none] [zI r8] σ _
      refine ev_s i162_30 (p := 31) (l := [some (zR 8 0), some (zI x1), some (zI x2), some (zI r8), none]) rfl ?_
      refine ev_s i162_31 (p := 32) rfl ?_
      refine ev_ifeq i162_32 (t := 48) (by decide) (p := 35) rfl h (fun c9 h => ?_) (fun c9 h => ?_)
      · exact kM_as_J48 d hd x1 σ w _ rfl _ rfl _ h
      · refine ev_s i162_35 (p := 36) rfl ?_
        refine ev_s i162_36 (p := 37) rfl ?_
        refine ev_cmpeq i162_37 (t := 48) (by decide) (p := 40) rfl h (fun c10 h => ?_) (fun c10 h => ?_)
        · exact kM_as_J48 d hd x1 σ w _ rfl _ rfl _ h
        · refine ev_s i162_40 (p := 41) rfl ?_
          obtain ⟨r12, hr11, h⟩ := bd_some h
          refine ev_callS i162_41 zn8_197 zc8_197 zm197 (as := [zI r8]) (rest := []) rfl rfl (Nat.le_of_ble_eq_true rfl) (Nat.le_of_ble_eq_true rfl) (Nat.le_of_ble_eq_true rfl) (by omega) (l0 := [some (zI r8)]) rfl (p := 44) rfl (kM_above r8 σ r12 hr11 (d - 1) (by omega)) ?_
          change zEv d 162 44 [some (zR 8 0), some (zI x1), some (zI x2), some (zI r8), none] [zI r12] σ _
          refine ev_s i162_44 (p := 45) rfl ?_
          refine ev_cmpne i162_45 (t := 52) (by decide) (p := 48) rfl h (fun c13 h => ?_) (fun c13 h => ?_)
          · exact kM_as_J48 d hd x1 σ w _ rfl _ rfl _ h
          · refine ev_s i162_52 (p := 53) (zic_0 _ _ _ _ _) ?_
            exact kM_as_J53 d hd x1 0 σ w _ rfl _ rfl _ h
/-! fR_isTied -/
def fR_isTied (b : Nat) (x1 : Int32) (σ : zS) : Option (Int32) := zgd (zin x1 8) ((if (σ 16 b x1.toNatClampNeg) < 0 then some (0) else some (1)))
set_option maxHeartbeats 4000000 in
theorem kR_isTied (b : Nat) (x1 : Int32) (σ : zS) (w : Int32) (h : fR_isTied b x1 σ = some w) (d : Nat) (hd : 0 ≤ d) : zEv d 19 0 [some (zR 2 b), some (zI x1)] [] σ (some (zI w), σ) := by
  unfold fR_isTied at h
  refine ev_s i19_0 (p := 1) rfl ?_
  refine ev_getf i19_1 zf2_18 (u := zR 16 b) rfl (p := 4) rfl ?_
  refine ev_s i19_4 (p := 5) rfl ?_
  refine ev_iald i19_5 rfl (n := 8) rfl (p := 6) rfl h (fun g1 h => ?_)
  refine ev_iflt i19_6 (t := 13) (by decide) (p := 9) rfl h (fun c2 h => ?_) (fun c2 h => ?_)
  · refine ev_s i19_13 (p := 14) (zic_0 _ _ _ _ _) ?_
    obtain rfl := Option.some.inj h
    exact ev_zret i19_14 zr19 (by decide)
  · refine ev_s i19_9 (p := 10) (zic_1 _ _ _ _ _) ?_
    refine ev_goto i19_10 (t := 14) (by decide) ?_
    obtain rfl := Option.some.inj h
    exact ev_zret i19_14 zr19 (by decide)
/-! fA_reel -/
def fA_reel_J17 (σ : zS) : Option (Int32 × zS) := zb2 (fA_refuse 1 σ) fun r19 s18 => some (r19, s18)
set_option maxHeartbeats 4000000 in
theorem kA_reel_J17  (d : Nat) (hd : 1 ≤ d)  : ∀ (σ : zS) (w : Int32 × zS) (z1 : Option zA) (z2 : Option zA) (hz2 : znl z2 = true) (z3 : Option zA), fA_reel_J17 σ = some w → zEv d 65 17 [some (zR 7 0), z1, z2, z3] [] σ (some (zI w.1), w.2) := by
  intro σ w z1 z2 hz2 z3 h
  unfold fA_reel_J17 at h
  refine ev_s i65_17 (p := 18) rfl ?_
  refine ev_s i65_18 (p := 19) (zic_1 _ _ _ _ _) ?_
  obtain ⟨r19, s18, hr17, h⟩ := b2_some h
  refine ev_callV i65_19 zc7_72 zm102 zo102 (as' := [zI 1]) (rest := []) rfl rfl (Nat.le_of_ble_eq_true rfl) (Nat.le_of_ble_eq_true rfl) (Nat.le_of_ble_eq_true rfl) (by omega) (l0 := [some (zR 7 0), some (zI 1)]) rfl (p := 22) rfl (kA_refuse 1 σ (r19, s18) hr17 (d - 1) (by omega)) ?_
  change zEv d 65 22 [some (zR 7 0), z1, z2, z3] [zI r19] s18 _
  obtain rfl := Option.some.inj h
  exact ev_iret i65_22 zr65
def fA_reel (x1 : Int32) (x2 : Int32) (σ : zS) : Option (Int32 × zS) := (fA_isThere x1 σ).bind fun r2 => (if r2 = 0 then fA_reel_J17 σ else (fA_within x2 99).bind fun r5 => (if r5 = 0 then fA_reel_J17 σ else (fR_isTied 0 x1 σ).bind fun r8 => (if r8 = 0 then zb2 (fA_refuse 3 σ) fun r12 s11 => some (r12, s11) else zgd (zin x1 8) (zlt (σ 19 0 x1.toNatClampNeg) fun v14 => zgd (zin x1 8) (zlt (zup σ 19 0 x1.toNatClampNeg x2) fun s15 => some (v14, s15))))))
set_option maxHeartbeats 4000000 in
theorem kA_reel (x1 : Int32) (x2 : Int32) (σ : zS) (w : Int32 × zS) (h : fA_reel x1 x2 σ = some w) (d : Nat) (hd : 1 ≤ d) : zEv d 65 0 [some (zR 7 0), some (zI x1), some (zI x2), none] [] σ (some (zI w.1), w.2) := by
  unfold fA_reel at h
  refine ev_s i65_0 (p := 1) rfl ?_
  refine ev_s i65_1 (p := 2) rfl ?_
  obtain ⟨r2, hr1, h⟩ := bd_some h
  refine ev_callV i65_2 zc7_68 zm104 zo104 (as' := [zI x1]) (rest := []) rfl rfl (Nat.le_of_ble_eq_true rfl) (Nat.le_of_ble_eq_true rfl) (Nat.le_of_ble_eq_true rfl) (by omega) (l0 := [some (zR 7 0), some (zI x1)]) rfl (p := 5) rfl (kA_isThere x1 σ r2 hr1 (d - 1) (by omega)) ?_
  change zEv d 65 5 [some (zR 7 0), some (zI x1), some (zI x2), none] [zI r2] σ _
  refine ev_ifeq i65_5 (t := 17) (by decide) (p := 8) rfl h (fun c3 h => ?_) (fun c3 h => ?_)
  · exact kA_reel_J17 d hd σ w _ _ rfl _ h
  · refine ev_s i65_8 (p := 9) rfl ?_
    refine ev_s i65_9 (p := 11) (zib_99 _ _ _ _ _) ?_
    obtain ⟨r5, hr4, h⟩ := bd_some h
    refine ev_callS i65_11 zn7_64 zc7_64 zm103 (as := [zI x2, zI 99]) (rest := []) rfl rfl (Nat.le_of_ble_eq_true rfl) (Nat.le_of_ble_eq_true rfl) (Nat.le_of_ble_eq_true rfl) (by omega) (l0 := [some (zI x2), some (zI 99)]) rfl (p := 14) rfl (kA_within x2 99 σ r5 hr4 (d - 1) (by omega)) ?_
    change zEv d 65 14 [some (zR 7 0), some (zI x1), some (zI x2), none] [zI r5] σ _
    refine ev_ifne i65_14 (t := 23) (by decide) (p := 17) rfl h (fun c6 h => ?_) (fun c6 h => ?_)
    · exact kA_reel_J17 d hd σ w _ _ rfl _ h
    · refine ev_s i65_23 (p := 24) rfl ?_
      refine ev_getf i65_24 zf7_47 (u := zR 2 0) rfl (p := 27) rfl ?_
      refine ev_s i65_27 (p := 28) rfl ?_
      obtain ⟨r8, hr7, h⟩ := bd_some h
      refine ev_callV i65_28 zc7_114 zm19 zo19 (as' := [zI x1]) (rest := []) rfl rfl (Nat.le_of_ble_eq_true rfl) (Nat.le_of_ble_eq_true rfl) (Nat.le_of_ble_eq_true rfl) (by omega) (l0 := [some (zR 2 0), some (zI x1)]) rfl (p := 31) rfl (kR_isTied 0 x1 σ r8 hr7 (d - 1) (by omega)) ?_
      change zEv d 65 31 [some (zR 7 0), some (zI x1), some (zI x2), none] [zI r8] σ _
      refine ev_ifne i65_31 (t := 40) (by decide) (p := 34) rfl h (fun c9 h => ?_) (fun c9 h => ?_)
      · refine ev_s i65_34 (p := 35) rfl ?_
        refine ev_s i65_35 (p := 36) (zic_3 _ _ _ _ _) ?_
        obtain ⟨r12, s11, hr10, h⟩ := b2_some h
        refine ev_callV i65_36 zc7_72 zm102 zo102 (as' := [zI 3]) (rest := []) rfl rfl (Nat.le_of_ble_eq_true rfl) (Nat.le_of_ble_eq_true rfl) (Nat.le_of_ble_eq_true rfl) (by omega) (l0 := [some (zR 7 0), some (zI 3)]) rfl (p := 39) rfl (kA_refuse 3 σ (r12, s11) hr10 (d - 1) (by omega)) ?_
        change zEv d 65 39 [some (zR 7 0), some (zI x1), some (zI x2), none] [zI r12] s11 _
        obtain rfl := Option.some.inj h
        exact ev_iret i65_39 zr65
      · refine ev_s i65_40 (p := 41) rfl ?_
        refine ev_getf i65_41 zf7_47 (u := zR 2 0) rfl (p := 44) rfl ?_
        refine ev_getf i65_44 zf7_99 (u := zR 19 0) rfl (p := 47) rfl ?_
        refine ev_s i65_47 (p := 48) rfl ?_
        refine ev_iald i65_48 rfl (n := 8) rfl (p := 49) rfl h (fun g13 h => ?_)
        refine ev_let h (fun v14 ev14 h => ?_)
        refine ev_s i65_49 (p := 50) (l := [some (zR 7 0), some (zI x1), some (zI x2), some (zI v14)]) rfl ?_
        refine ev_s i65_50 (p := 51) rfl ?_
        refine ev_getf i65_51 zf7_47 (u := zR 2 0) rfl (p := 54) rfl ?_
        refine ev_getf i65_54 zf7_99 (u := zR 19 0) rfl (p := 57) rfl ?_
        refine ev_s i65_57 (p := 58) rfl ?_
        refine ev_s i65_58 (p := 59) rfl ?_
        refine ev_iast i65_59 rfl (n := 8) rfl (p := 60) rfl h (fun g16 h => ?_)
        refine ev_lets h (fun s15 es15 h => ?_)
        refine ev_s i65_60 (p := 61) rfl ?_
        obtain rfl := Option.some.inj h
        exact ev_iret i65_61 zr65
/-! fM_change1 -/
def fM_change1 (x1 : Int32) (x2 : Int32) (σ : zS) : Option (Int32 × zS) := zgd (zin x1 394) (zlt (σ 30 0 x1.toNatClampNeg) fun v2 => zgd (zin x1 394) (zlt (zup σ 30 0 x1.toNatClampNeg x2) fun s3 => some (v2, s3)))
set_option maxHeartbeats 4000000 in
theorem kM_change1 (x1 : Int32) (x2 : Int32) (σ : zS) (w : Int32 × zS) (h : fM_change1 x1 x2 σ = some w) (d : Nat) (hd : 0 ≤ d) : zEv d 120 0 [some (zR 8 0), some (zI x1), some (zI x2), none] [] σ (some (zI w.1), w.2) := by
  unfold fM_change1 at h
  refine ev_s i120_0 (p := 1) rfl ?_
  refine ev_getf i120_1 zf8_7 (u := zR 30 0) rfl (p := 4) rfl ?_
  refine ev_s i120_4 (p := 5) rfl ?_
  refine ev_iald i120_5 rfl (n := 394) rfl (p := 6) rfl h (fun g1 h => ?_)
  refine ev_let h (fun v2 ev2 h => ?_)
  refine ev_s i120_6 (p := 7) (l := [some (zR 8 0), some (zI x1), some (zI x2), some (zI v2)]) rfl ?_
  refine ev_s i120_7 (p := 8) rfl ?_
  refine ev_getf i120_8 zf8_7 (u := zR 30 0) rfl (p := 11) rfl ?_
  refine ev_s i120_11 (p := 12) rfl ?_
  refine ev_s i120_12 (p := 13) rfl ?_
  refine ev_iast i120_13 rfl (n := 394) rfl (p := 14) rfl h (fun g4 h => ?_)
  refine ev_lets h (fun s3 es3 h => ?_)
  refine ev_s i120_14 (p := 15) rfl ?_
  obtain rfl := Option.some.inj h
  exact ev_iret i120_15 zr120
/-! fM_reel -/
def fM_reel_J18 (σ : zS) : Option (Int32 × zS) := zb2 (fM_error 1 σ) fun r18 s17 => some (r18, s17)
set_option maxHeartbeats 4000000 in
theorem kM_reel_J18  (d : Nat) (hd : 2 ≤ d)  : ∀ (σ : zS) (w : Int32 × zS) (z1 : Option zA) (z2 : Option zA), fM_reel_J18 σ = some w → zEv d 163 18 [some (zR 8 0), z1, z2] [] σ (some (zI w.1), w.2) := by
  intro σ w z1 z2 h
  unfold fM_reel_J18 at h
  refine ev_s i163_18 (p := 19) rfl ?_
  refine ev_s i163_19 (p := 20) (zic_1 _ _ _ _ _) ?_
  obtain ⟨r18, s17, hr16, h⟩ := b2_some h
  refine ev_callV i163_20 zc8_58 zm110 zo110 (as' := [zI 1]) (rest := []) rfl rfl (Nat.le_of_ble_eq_true rfl) (Nat.le_of_ble_eq_true rfl) (Nat.le_of_ble_eq_true rfl) (by omega) (l0 := [some (zR 8 0), some (zI 1)]) rfl (p := 23) rfl (kM_error 1 σ (r18, s17) hr16 (d - 1) (by omega)) ?_
  change zEv d 163 23 [some (zR 8 0), z1, z2] [zI r18] s17 _
  obtain rfl := Option.some.inj h
  exact ev_iret i163_23 zr163
def fM_reel (x1 : Int32) (x2 : Int32) (σ : zS) : Option (Int32 × zS) := (fM_isOne x1 σ).bind fun r2 => (if r2 = 0 then fM_reel_J18 σ else (fM_in x2 0 99).bind fun r5 => (if r5 = 0 then fM_reel_J18 σ else (fM_isTied x1 σ).bind fun r8 => (if r8 = 0 then zb2 (fM_error 3 σ) fun r12 s11 => some (r12, s11) else zb2 (fM_change1 ((12 + (6 * x1)) + 5) x2 σ) fun r15 s14 => some (r15, s14))))
set_option maxHeartbeats 4000000 in
theorem kM_reel (x1 : Int32) (x2 : Int32) (σ : zS) (w : Int32 × zS) (h : fM_reel x1 x2 σ = some w) (d : Nat) (hd : 2 ≤ d) : zEv d 163 0 [some (zR 8 0), some (zI x1), some (zI x2)] [] σ (some (zI w.1), w.2) := by
  unfold fM_reel at h
  refine ev_s i163_0 (p := 1) rfl ?_
  refine ev_s i163_1 (p := 2) rfl ?_
  obtain ⟨r2, hr1, h⟩ := bd_some h
  refine ev_callV i163_2 zc8_194 zm116 zo116 (as' := [zI x1]) (rest := []) rfl rfl (Nat.le_of_ble_eq_true rfl) (Nat.le_of_ble_eq_true rfl) (Nat.le_of_ble_eq_true rfl) (by omega) (l0 := [some (zR 8 0), some (zI x1)]) rfl (p := 5) rfl (kM_isOne x1 σ r2 hr1 (d - 1) (by omega)) ?_
  change zEv d 163 5 [some (zR 8 0), some (zI x1), some (zI x2)] [zI r2] σ _
  refine ev_ifeq i163_5 (t := 18) (by decide) (p := 8) rfl h (fun c3 h => ?_) (fun c3 h => ?_)
  · exact kM_reel_J18 d hd σ w _ _ h
  · refine ev_s i163_8 (p := 9) rfl ?_
    refine ev_s i163_9 (p := 10) (zic_0 _ _ _ _ _) ?_
    refine ev_s i163_10 (p := 12) (zib_99 _ _ _ _ _) ?_
    obtain ⟨r5, hr4, h⟩ := bd_some h
    refine ev_callS i163_12 zn8_50 zc8_50 zm111 (as := [zI x2, zI 0, zI 99]) (rest := []) rfl rfl (Nat.le_of_ble_eq_true rfl) (Nat.le_of_ble_eq_true rfl) (Nat.le_of_ble_eq_true rfl) (by omega) (l0 := [some (zI x2), some (zI 0), some (zI 99)]) rfl (p := 15) rfl (kM_in x2 0 99 σ r5 hr4 (d - 1) (by omega)) ?_
    change zEv d 163 15 [some (zR 8 0), some (zI x1), some (zI x2)] [zI r5] σ _
    refine ev_ifne i163_15 (t := 24) (by decide) (p := 18) rfl h (fun c6 h => ?_) (fun c6 h => ?_)
    · exact kM_reel_J18 d hd σ w _ _ h
    · refine ev_s i163_24 (p := 25) rfl ?_
      refine ev_s i163_25 (p := 26) rfl ?_
      obtain ⟨r8, hr7, h⟩ := bd_some h
      refine ev_callV i163_26 zc8_140 zm121 zo121 (as' := [zI x1]) (rest := []) rfl rfl (Nat.le_of_ble_eq_true rfl) (Nat.le_of_ble_eq_true rfl) (Nat.le_of_ble_eq_true rfl) (by omega) (l0 := [some (zR 8 0), some (zI x1)]) rfl (p := 29) rfl (kM_isTied x1 σ r8 hr7 (d - 1) (by omega)) ?_
      change zEv d 163 29 [some (zR 8 0), some (zI x1), some (zI x2)] [zI r8] σ _
      refine ev_ifeq i163_29 (t := 49) (by decide) (p := 32) rfl h (fun c9 h => ?_) (fun c9 h => ?_)
      · refine ev_s i163_49 (p := 50) rfl ?_
        refine ev_s i163_50 (p := 51) (zic_3 _ _ _ _ _) ?_
        obtain ⟨r12, s11, hr10, h⟩ := b2_some h
        refine ev_callV i163_51 zc8_58 zm110 zo110 (as' := [zI 3]) (rest := []) rfl rfl (Nat.le_of_ble_eq_true rfl) (Nat.le_of_ble_eq_true rfl) (Nat.le_of_ble_eq_true rfl) (by omega) (l0 := [some (zR 8 0), some (zI 3)]) rfl (p := 54) rfl (kM_error 3 σ (r12, s11) hr10 (d - 1) (by omega)) ?_
        change zEv d 163 54 [some (zR 8 0), some (zI x1), some (zI x2)] [zI r12] s11 _
        obtain rfl := Option.some.inj h
        exact ev_iret i163_54 zr163
      · refine ev_s i163_32 (p := 33) rfl ?_
        refine ev_s i163_33 (p := 35) (zib_12 _ _ _ _ _) ?_
        refine ev_s i163_35 (p := 37) (zib_6 _ _ _ _ _) ?_
        refine ev_s i163_37 (p := 38) rfl ?_
        refine ev_s i163_38 (p := 39) (t := [zI (6 * x1), zI 12, zR 8 0]) rfl ?_
        refine ev_s i163_39 (p := 40) (t := [zI (12 + (6 * x1)), zR 8 0]) rfl ?_
        refine ev_s i163_40 (p := 41) (zic_5 _ _ _ _ _) ?_
        refine ev_s i163_41 (p := 42) (t := [zI ((12 + (6 * x1)) + 5), zR 8 0]) rfl ?_
        refine ev_s i163_42 (p := 43) rfl ?_
        obtain ⟨r15, s14, hr13, h⟩ := b2_some h
        refine ev_callV i163_43 zc8_200 zm120 zo120 (as' := [zI ((12 + (6 * x1)) + 5), zI x2]) (rest := []) rfl rfl (Nat.le_of_ble_eq_true rfl) (Nat.le_of_ble_eq_true rfl) (Nat.le_of_ble_eq_true rfl) (by omega) (l0 := [some (zR 8 0), some (zI ((12 + (6 * x1)) + 5)), some (zI x2), none]) rfl (p := 46) rfl (kM_change1 ((12 + (6 * x1)) + 5) x2 σ (r15, s14) hr13 (d - 1) (by omega)) ?_
        change zEv d 163 46 [some (zR 8 0), some (zI x1), some (zI x2)] [zI r15] s14 _
        refine ev_goto i163_46 (t := 54) (by decide) ?_
        obtain rfl := Option.some.inj h
        exact ev_iret i163_54 zr163
/-! fR_untie -/
def fR_untie (b : Nat) (x1 : Int32) (σ : zS) : Option (zS) := zgd (zin x1 8) (zlt (zup σ 16 b x1.toNatClampNeg (-1)) fun s1 => zgd (zin x1 8) (zlt (zup s1 18 b x1.toNatClampNeg 0) fun s3 => zgd (zin x1 8) (zlt (zup s3 19 b x1.toNatClampNeg 0) fun s5 => some s5)))
set_option maxHeartbeats 4000000 in
theorem kR_untie (b : Nat) (x1 : Int32) (σ : zS) (w : zS) (h : fR_untie b x1 σ = some w) (d : Nat) (hd : 0 ≤ d) : zEv d 21 0 [some (zR 2 b), some (zI x1)] [] σ (none, w) := by
  unfold fR_untie at h
  refine ev_s i21_0 (p := 1) rfl ?_
  refine ev_getf i21_1 zf2_18 (u := zR 16 b) rfl (p := 4) rfl ?_
  refine ev_s i21_4 (p := 5) rfl ?_
  refine ev_s i21_5 (p := 6) (zic_m1 _ _ _ _ _) ?_
  refine ev_iast i21_6 rfl (n := 8) rfl (p := 7) rfl h (fun g2 h => ?_)
  refine ev_lets h (fun s1 es1 h => ?_)
  refine ev_s i21_7 (p := 8) rfl ?_
  refine ev_getf i21_8 zf2_24 (u := zR 18 b) rfl (p := 11) rfl ?_
  refine ev_s i21_11 (p := 12) rfl ?_
  refine ev_s i21_12 (p := 13) (zic_0 _ _ _ _ _) ?_
  refine ev_iast i21_13 rfl (n := 8) rfl (p := 14) rfl h (fun g4 h => ?_)
  refine ev_lets h (fun s3 es3 h => ?_)
  refine ev_s i21_14 (p := 15) rfl ?_
  refine ev_getf i21_15 zf2_27 (u := zR 19 b) rfl (p := 18) rfl ?_
  refine ev_s i21_18 (p := 19) rfl ?_
  refine ev_s i21_19 (p := 20) (zic_0 _ _ _ _ _) ?_
  refine ev_iast i21_20 rfl (n := 8) rfl (p := 21) rfl h (fun g6 h => ?_)
  refine ev_lets h (fun s5 es5 h => ?_)
  obtain rfl := Option.some.inj h
  exact ev_vret i21_21 zr21
/-! fA_cut -/
def fA_cut (x1 : Int32) (σ : zS) : Option (Int32 × zS) := (fA_isThere x1 σ).bind fun r2 => (if r2 = 0 then zb2 (fA_refuse 1 σ) fun r6 s5 => some (r6, s5) else (fR_isTied 0 x1 σ).bind fun r8 => (if r8 = 0 then zb2 (fA_refuse 3 σ) fun r12 s11 => some (r12, s11) else zgd (zin x1 8) (zlt (σ 16 0 x1.toNatClampNeg) fun v14 => (fR_untie 0 x1 σ).bind fun s16 => some (v14, s16))))
set_option maxHeartbeats 4000000 in
theorem kA_cut (x1 : Int32) (σ : zS) (w : Int32 × zS) (h : fA_cut x1 σ = some w) (d : Nat) (hd : 1 ≤ d) : zEv d 66 0 [some (zR 7 0), some (zI x1), none] [] σ (some (zI w.1), w.2) := by
  unfold fA_cut at h
  refine ev_s i66_0 (p := 1) rfl ?_
  refine ev_s i66_1 (p := 2) rfl ?_
  obtain ⟨r2, hr1, h⟩ := bd_some h
  refine ev_callV i66_2 zc7_68 zm104 zo104 (as' := [zI x1]) (rest := []) rfl rfl (Nat.le_of_ble_eq_true rfl) (Nat.le_of_ble_eq_true rfl) (Nat.le_of_ble_eq_true rfl) (by omega) (l0 := [some (zR 7 0), some (zI x1)]) rfl (p := 5) rfl (kA_isThere x1 σ r2 hr1 (d - 1) (by omega)) ?_
  change zEv d 66 5 [some (zR 7 0), some (zI x1), none] [zI r2] σ _
  refine ev_ifne i66_5 (t := 14) (by decide) (p := 8) rfl h (fun c3 h => ?_) (fun c3 h => ?_)
  · refine ev_s i66_8 (p := 9) rfl ?_
    refine ev_s i66_9 (p := 10) (zic_1 _ _ _ _ _) ?_
    obtain ⟨r6, s5, hr4, h⟩ := b2_some h
    refine ev_callV i66_10 zc7_72 zm102 zo102 (as' := [zI 1]) (rest := []) rfl rfl (Nat.le_of_ble_eq_true rfl) (Nat.le_of_ble_eq_true rfl) (Nat.le_of_ble_eq_true rfl) (by omega) (l0 := [some (zR 7 0), some (zI 1)]) rfl (p := 13) rfl (kA_refuse 1 σ (r6, s5) hr4 (d - 1) (by omega)) ?_
    change zEv d 66 13 [some (zR 7 0), some (zI x1), none] [zI r6] s5 _
    obtain rfl := Option.some.inj h
    exact ev_iret i66_13 zr66
  · refine ev_s i66_14 (p := 15) rfl ?_
    refine ev_getf i66_15 zf7_47 (u := zR 2 0) rfl (p := 18) rfl ?_
    refine ev_s i66_18 (p := 19) rfl ?_
    obtain ⟨r8, hr7, h⟩ := bd_some h
    refine ev_callV i66_19 zc7_114 zm19 zo19 (as' := [zI x1]) (rest := []) rfl rfl (Nat.le_of_ble_eq_true rfl) (Nat.le_of_ble_eq_true rfl) (Nat.le_of_ble_eq_true rfl) (by omega) (l0 := [some (zR 2 0), some (zI x1)]) rfl (p := 22) rfl (kR_isTied 0 x1 σ r8 hr7 (d - 1) (by omega)) ?_
    change zEv d 66 22 [some (zR 7 0), some (zI x1), none] [zI r8] σ _
    refine ev_ifne i66_22 (t := 31) (by decide) (p := 25) rfl h (fun c9 h => ?_) (fun c9 h => ?_)
    · refine ev_s i66_25 (p := 26) rfl ?_
      refine ev_s i66_26 (p := 27) (zic_3 _ _ _ _ _) ?_
      obtain ⟨r12, s11, hr10, h⟩ := b2_some h
      refine ev_callV i66_27 zc7_72 zm102 zo102 (as' := [zI 3]) (rest := []) rfl rfl (Nat.le_of_ble_eq_true rfl) (Nat.le_of_ble_eq_true rfl) (Nat.le_of_ble_eq_true rfl) (by omega) (l0 := [some (zR 7 0), some (zI 3)]) rfl (p := 30) rfl (kA_refuse 3 σ (r12, s11) hr10 (d - 1) (by omega)) ?_
      change zEv d 66 30 [some (zR 7 0), some (zI x1), none] [zI r12] s11 _
      obtain rfl := Option.some.inj h
      exact ev_iret i66_30 zr66
    · refine ev_s i66_31 (p := 32) rfl ?_
      refine ev_getf i66_32 zf7_47 (u := zR 2 0) rfl (p := 35) rfl ?_
      refine ev_getf i66_35 zf7_90 (u := zR 16 0) rfl (p := 38) rfl ?_
      refine ev_s i66_38 (p := 39) rfl ?_
      refine ev_iald i66_39 rfl (n := 8) rfl (p := 40) rfl h (fun g13 h => ?_)
      refine ev_let h (fun v14 ev14 h => ?_)
      refine ev_s i66_40 (p := 41) (l := [some (zR 7 0), some (zI x1), some (zI v14)]) rfl ?_
      refine ev_s i66_41 (p := 42) rfl ?_
      refine ev_getf i66_42 zf7_47 (u := zR 2 0) rfl (p := 45) rfl ?_
      refine ev_s i66_45 (p := 46) rfl ?_
      obtain ⟨s16, hr15, h⟩ := bd_some h
      refine ev_callV i66_46 zc7_117 zm21 zo21 (as' := [zI x1]) (rest := []) rfl rfl (Nat.le_of_ble_eq_true rfl) (Nat.le_of_ble_eq_true rfl) (Nat.le_of_ble_eq_true rfl) (by omega) (l0 := [some (zR 2 0), some (zI x1)]) rfl (p := 49) rfl (kR_untie 0 x1 σ s16 hr15 (d - 1) (by omega)) ?_
      change zEv d 66 49 [some (zR 7 0), some (zI x1), some (zI v14)] [] s16 _
      refine ev_s i66_49 (p := 50) rfl ?_
      obtain rfl := Option.some.inj h
      exact ev_iret i66_50 zr66
/-! fM_unties -/
def fM_unties (x1 : Int32) (σ : zS) : Option (zS) := (fM_lays1 x1 2 (-1) σ).bind fun s2 => (fM_lays1 x1 4 0 s2).bind fun s4 => (fM_lays1 x1 5 0 s4).bind fun s6 => some s6
set_option maxHeartbeats 4000000 in
theorem kM_unties (x1 : Int32) (σ : zS) (w : zS) (h : fM_unties x1 σ = some w) (d : Nat) (hd : 1 ≤ d) : zEv d 148 0 [some (zR 8 0), some (zI x1)] [] σ (none, w) := by
  unfold fM_unties at h
  refine ev_s i148_0 (p := 1) rfl ?_
  refine ev_s i148_1 (p := 2) rfl ?_
  refine ev_s i148_2 (p := 3) (zic_2 _ _ _ _ _) ?_
  refine ev_s i148_3 (p := 4) (zic_m1 _ _ _ _ _) ?_
  obtain ⟨s2, hr1, h⟩ := bd_some h
  refine ev_callV i148_4 zc8_149 zm119 zo119 (as' := [zI x1, zI 2, zI (-1)]) (rest := []) rfl rfl (Nat.le_of_ble_eq_true rfl) (Nat.le_of_ble_eq_true rfl) (Nat.le_of_ble_eq_true rfl) (by omega) (l0 := [some (zR 8 0), some (zI x1), some (zI 2), some (zI (-1))]) rfl (p := 7) rfl (kM_lays1 x1 2 (-1) σ s2 hr1 (d - 1) (by omega)) ?_
  change zEv d 148 7 [some (zR 8 0), some (zI x1)] [] s2 _
  refine ev_s i148_7 (p := 8) rfl ?_
  refine ev_s i148_8 (p := 9) rfl ?_
  refine ev_s i148_9 (p := 10) (zic_4 _ _ _ _ _) ?_
  refine ev_s i148_10 (p := 11) (zic_0 _ _ _ _ _) ?_
  obtain ⟨s4, hr3, h⟩ := bd_some h
  refine ev_callV i148_11 zc8_149 zm119 zo119 (as' := [zI x1, zI 4, zI 0]) (rest := []) rfl rfl (Nat.le_of_ble_eq_true rfl) (Nat.le_of_ble_eq_true rfl) (Nat.le_of_ble_eq_true rfl) (by omega) (l0 := [some (zR 8 0), some (zI x1), some (zI 4), some (zI 0)]) rfl (p := 14) rfl (kM_lays1 x1 4 0 s2 s4 hr3 (d - 1) (by omega)) ?_
  change zEv d 148 14 [some (zR 8 0), some (zI x1)] [] s4 _
  refine ev_s i148_14 (p := 15) rfl ?_
  refine ev_s i148_15 (p := 16) rfl ?_
  refine ev_s i148_16 (p := 17) (zic_5 _ _ _ _ _) ?_
  refine ev_s i148_17 (p := 18) (zic_0 _ _ _ _ _) ?_
  obtain ⟨s6, hr5, h⟩ := bd_some h
  refine ev_callV i148_18 zc8_149 zm119 zo119 (as' := [zI x1, zI 5, zI 0]) (rest := []) rfl rfl (Nat.le_of_ble_eq_true rfl) (Nat.le_of_ble_eq_true rfl) (Nat.le_of_ble_eq_true rfl) (by omega) (l0 := [some (zR 8 0), some (zI x1), some (zI 5), some (zI 0)]) rfl (p := 21) rfl (kM_lays1 x1 5 0 s4 s6 hr5 (d - 1) (by omega)) ?_
  change zEv d 148 21 [some (zR 8 0), some (zI x1)] [] s6 _
  obtain rfl := Option.some.inj h
  exact ev_vret i148_21 zr148
/-! fM_cut -/
def fM_cut (x1 : Int32) (σ : zS) : Option (Int32 × zS) := (fM_isOne x1 σ).bind fun r2 => (if r2 = 0 then zb2 (fM_error 1 σ) fun r6 s5 => some (r6, s5) else (fM_isTied x1 σ).bind fun r8 => (if r8 = 0 then zb2 (fM_error 3 σ) fun r12 s11 => some (r12, s11) else (fM_its x1 2 σ).bind fun r14 => (fM_unties x1 σ).bind fun s16 => some (r14, s16)))
set_option maxHeartbeats 4000000 in
theorem kM_cut (x1 : Int32) (σ : zS) (w : Int32 × zS) (h : fM_cut x1 σ = some w) (d : Nat) (hd : 2 ≤ d) : zEv d 164 0 [some (zR 8 0), some (zI x1), none] [] σ (some (zI w.1), w.2) := by
  unfold fM_cut at h
  refine ev_s i164_0 (p := 1) rfl ?_
  refine ev_s i164_1 (p := 2) rfl ?_
  obtain ⟨r2, hr1, h⟩ := bd_some h
  refine ev_callV i164_2 zc8_194 zm116 zo116 (as' := [zI x1]) (rest := []) rfl rfl (Nat.le_of_ble_eq_true rfl) (Nat.le_of_ble_eq_true rfl) (Nat.le_of_ble_eq_true rfl) (by omega) (l0 := [some (zR 8 0), some (zI x1)]) rfl (p := 5) rfl (kM_isOne x1 σ r2 hr1 (d - 1) (by omega)) ?_
  change zEv d 164 5 [some (zR 8 0), some (zI x1), none] [zI r2] σ _
  refine ev_ifne i164_5 (t := 14) (by decide) (p := 8) rfl h (fun c3 h => ?_) (fun c3 h => ?_)
  · refine ev_s i164_8 (p := 9) rfl ?_
    refine ev_s i164_9 (p := 10) (zic_1 _ _ _ _ _) ?_
    obtain ⟨r6, s5, hr4, h⟩ := b2_some h
    refine ev_callV i164_10 zc8_58 zm110 zo110 (as' := [zI 1]) (rest := []) rfl rfl (Nat.le_of_ble_eq_true rfl) (Nat.le_of_ble_eq_true rfl) (Nat.le_of_ble_eq_true rfl) (by omega) (l0 := [some (zR 8 0), some (zI 1)]) rfl (p := 13) rfl (kM_error 1 σ (r6, s5) hr4 (d - 1) (by omega)) ?_
    change zEv d 164 13 [some (zR 8 0), some (zI x1), none] [zI r6] s5 _
    obtain rfl := Option.some.inj h
    exact ev_iret i164_13 zr164
  · refine ev_s i164_14 (p := 15) rfl ?_
    refine ev_s i164_15 (p := 16) rfl ?_
    obtain ⟨r8, hr7, h⟩ := bd_some h
    refine ev_callV i164_16 zc8_140 zm121 zo121 (as' := [zI x1]) (rest := []) rfl rfl (Nat.le_of_ble_eq_true rfl) (Nat.le_of_ble_eq_true rfl) (Nat.le_of_ble_eq_true rfl) (by omega) (l0 := [some (zR 8 0), some (zI x1)]) rfl (p := 19) rfl (kM_isTied x1 σ r8 hr7 (d - 1) (by omega)) ?_
    change zEv d 164 19 [some (zR 8 0), some (zI x1), none] [zI r8] σ _
    refine ev_ifne i164_19 (t := 28) (by decide) (p := 22) rfl h (fun c9 h => ?_) (fun c9 h => ?_)
    · refine ev_s i164_22 (p := 23) rfl ?_
      refine ev_s i164_23 (p := 24) (zic_3 _ _ _ _ _) ?_
      obtain ⟨r12, s11, hr10, h⟩ := b2_some h
      refine ev_callV i164_24 zc8_58 zm110 zo110 (as' := [zI 3]) (rest := []) rfl rfl (Nat.le_of_ble_eq_true rfl) (Nat.le_of_ble_eq_true rfl) (Nat.le_of_ble_eq_true rfl) (by omega) (l0 := [some (zR 8 0), some (zI 3)]) rfl (p := 27) rfl (kM_error 3 σ (r12, s11) hr10 (d - 1) (by omega)) ?_
      change zEv d 164 27 [some (zR 8 0), some (zI x1), none] [zI r12] s11 _
      obtain rfl := Option.some.inj h
      exact ev_iret i164_27 zr164
    · refine ev_s i164_28 (p := 29) rfl ?_
      refine ev_s i164_29 (p := 30) rfl ?_
      refine ev_s i164_30 (p := 31) (zic_2 _ _ _ _ _) ?_
      obtain ⟨r14, hr13, h⟩ := bd_some h
      refine ev_callV i164_31 zc8_54 zm118 zo118 (as' := [zI x1, zI 2]) (rest := []) rfl rfl (Nat.le_of_ble_eq_true rfl) (Nat.le_of_ble_eq_true rfl) (Nat.le_of_ble_eq_true rfl) (by omega) (l0 := [some (zR 8 0), some (zI x1), some (zI 2)]) rfl (p := 34) rfl (kM_its x1 2 σ r14 hr13 (d - 1) (by omega)) ?_
      change zEv d 164 34 [some (zR 8 0), some (zI x1), none] [zI r14] σ _
      refine ev_s i164_34 (p := 35) (l := [some (zR 8 0), some (zI x1), some (zI r14)]) rfl ?_
      refine ev_s i164_35 (p := 36) rfl ?_
      refine ev_s i164_36 (p := 37) rfl ?_
      obtain ⟨s16, hr15, h⟩ := bd_some h
      refine ev_callV i164_37 zc8_153 zm148 zo148 (as' := [zI x1]) (rest := []) rfl rfl (Nat.le_of_ble_eq_true rfl) (Nat.le_of_ble_eq_true rfl) (Nat.le_of_ble_eq_true rfl) (by omega) (l0 := [some (zR 8 0), some (zI x1)]) rfl (p := 40) rfl (kM_unties x1 σ s16 hr15 (d - 1) (by omega)) ?_
      change zEv d 164 40 [some (zR 8 0), some (zI x1), some (zI r14)] [] s16 _
      refine ev_s i164_40 (p := 41) rfl ?_
      obtain rfl := Option.some.inj h
      exact ev_iret i164_41 zr164
/-! fA_list -/
def fA_list_J25 (σ : zS) : Option (Int32 × zS) := zb2 (fA_refuse 1 σ) fun r16 s15 => some (r16, s15)
set_option maxHeartbeats 4000000 in
theorem kA_list_J25  (d : Nat) (hd : 1 ≤ d)  : ∀ (σ : zS) (w : Int32 × zS) (z1 : Option zA) (z2 : Option zA) (z3 : Option zA) (hz3 : znl z3 = true) (z4 : Option zA), fA_list_J25 σ = some w → zEv d 67 25 [some (zR 7 0), z1, z2, z3, z4] [] σ (some (zI w.1), w.2) := by
  intro σ w z1 z2 z3 hz3 z4 h
  unfold fA_list_J25 at h
  refine ev_s i67_25 (p := 26) rfl ?_
  refine ev_s i67_26 (p := 27) (zic_1 _ _ _ _ _) ?_
  obtain ⟨r16, s15, hr14, h⟩ := b2_some h
  refine ev_callV i67_27 zc7_72 zm102 zo102 (as' := [zI 1]) (rest := []) rfl rfl (Nat.le_of_ble_eq_true rfl) (Nat.le_of_ble_eq_true rfl) (Nat.le_of_ble_eq_true rfl) (by omega) (l0 := [some (zR 7 0), some (zI 1)]) rfl (p := 30) rfl (kA_refuse 1 σ (r16, s15) hr14 (d - 1) (by omega)) ?_
  change zEv d 67 30 [some (zR 7 0), z1, z2, z3, z4] [zI r16] s15 _
  obtain rfl := Option.some.inj h
  exact ev_iret i67_30 zr67
def fA_list (x1 : Int32) (x2 : Int32) (x3 : Int32) (σ : zS) : Option (Int32 × zS) := (fA_within x1 5).bind fun r2 => (if r2 = 0 then fA_list_J25 σ else (fA_within x2 7).bind fun r5 => (if r5 = 0 then fA_list_J25 σ else (fA_within x3 1).bind fun r8 => (if r8 = 0 then fA_list_J25 σ else zgd (zin x1 6) (zlt (σ 20 0 x1.toNatClampNeg) fun v11 => zgd (zin x1 6) (zlt (zup σ 20 0 x1.toNatClampNeg ((10 * x2) + x3)) fun s12 => some (v11, s12))))))
set_option maxHeartbeats 4000000 in
theorem kA_list (x1 : Int32) (x2 : Int32) (x3 : Int32) (σ : zS) (w : Int32 × zS) (h : fA_list x1 x2 x3 σ = some w) (d : Nat) (hd : 1 ≤ d) : zEv d 67 0 [some (zR 7 0), some (zI x1), some (zI x2), some (zI x3), none] [] σ (some (zI w.1), w.2) := by
  unfold fA_list at h
  refine ev_s i67_0 (p := 1) rfl ?_
  refine ev_s i67_1 (p := 2) (zic_5 _ _ _ _ _) ?_
  obtain ⟨r2, hr1, h⟩ := bd_some h
  refine ev_callS i67_2 zn7_64 zc7_64 zm103 (as := [zI x1, zI 5]) (rest := []) rfl rfl (Nat.le_of_ble_eq_true rfl) (Nat.le_of_ble_eq_true rfl) (Nat.le_of_ble_eq_true rfl) (by omega) (l0 := [some (zI x1), some (zI 5)]) rfl (p := 5) rfl (kA_within x1 5 σ r2 hr1 (d - 1) (by omega)) ?_
  change zEv d 67 5 [some (zR 7 0), some (zI x1), some (zI x2), some (zI x3), none] [zI r2] σ _
  refine ev_ifeq i67_5 (t := 25) (by decide) (p := 8) rfl h (fun c3 h => ?_) (fun c3 h => ?_)
  · exact kA_list_J25 d hd σ w _ _ _ rfl _ h
  · refine ev_s i67_8 (p := 9) rfl ?_
    refine ev_s i67_9 (p := 11) (zib_7 _ _ _ _ _) ?_
    obtain ⟨r5, hr4, h⟩ := bd_some h
    refine ev_callS i67_11 zn7_64 zc7_64 zm103 (as := [zI x2, zI 7]) (rest := []) rfl rfl (Nat.le_of_ble_eq_true rfl) (Nat.le_of_ble_eq_true rfl) (Nat.le_of_ble_eq_true rfl) (by omega) (l0 := [some (zI x2), some (zI 7)]) rfl (p := 14) rfl (kA_within x2 7 σ r5 hr4 (d - 1) (by omega)) ?_
    change zEv d 67 14 [some (zR 7 0), some (zI x1), some (zI x2), some (zI x3), none] [zI r5] σ _
    refine ev_ifeq i67_14 (t := 25) (by decide) (p := 17) rfl h (fun c6 h => ?_) (fun c6 h => ?_)
    · exact kA_list_J25 d hd σ w _ _ _ rfl _ h
    · refine ev_s i67_17 (p := 18) rfl ?_
      refine ev_s i67_18 (p := 19) (zic_1 _ _ _ _ _) ?_
      obtain ⟨r8, hr7, h⟩ := bd_some h
      refine ev_callS i67_19 zn7_64 zc7_64 zm103 (as := [zI x3, zI 1]) (rest := []) rfl rfl (Nat.le_of_ble_eq_true rfl) (Nat.le_of_ble_eq_true rfl) (Nat.le_of_ble_eq_true rfl) (by omega) (l0 := [some (zI x3), some (zI 1)]) rfl (p := 22) rfl (kA_within x3 1 σ r8 hr7 (d - 1) (by omega)) ?_
      change zEv d 67 22 [some (zR 7 0), some (zI x1), some (zI x2), some (zI x3), none] [zI r8] σ _
      refine ev_ifne i67_22 (t := 31) (by decide) (p := 25) rfl h (fun c9 h => ?_) (fun c9 h => ?_)
      · exact kA_list_J25 d hd σ w _ _ _ rfl _ h
      · refine ev_s i67_31 (p := 32) rfl ?_
        refine ev_getf i67_32 zf7_47 (u := zR 2 0) rfl (p := 35) rfl ?_
        refine ev_getf i67_35 zf7_121 (u := zR 20 0) rfl (p := 38) rfl ?_
        refine ev_s i67_38 (p := 39) rfl ?_
        refine ev_iald i67_39 rfl (n := 6) rfl (p := 40) rfl h (fun g10 h => ?_)
        refine ev_let h (fun v11 ev11 h => ?_)
        refine ev_s i67_40 (p := 42) (l := [some (zR 7 0), some (zI x1), some (zI x2), some (zI x3), some (zI v11)]) rfl ?_
        refine ev_s i67_42 (p := 43) rfl ?_
        refine ev_getf i67_43 zf7_47 (u := zR 2 0) rfl (p := 46) rfl ?_
        refine ev_getf i67_46 zf7_121 (u := zR 20 0) rfl (p := 49) rfl ?_
        refine ev_s i67_49 (p := 50) rfl ?_
        refine ev_s i67_50 (p := 52) (zib_10 _ _ _ _ _) ?_
        refine ev_s i67_52 (p := 53) rfl ?_
        refine ev_s i67_53 (p := 54) (t := [zI (10 * x2), zI x1, zR 20 0]) rfl ?_
        refine ev_s i67_54 (p := 55) rfl ?_
        refine ev_s i67_55 (p := 56) (t := [zI ((10 * x2) + x3), zI x1, zR 20 0]) rfl ?_
        refine ev_iast i67_56 rfl (n := 6) rfl (p := 57) rfl h (fun g13 h => ?_)
        refine ev_lets h (fun s12 es12 h => ?_)
        refine ev_s i67_57 (p := 59) rfl ?_
        obtain rfl := Option.some.inj h
        exact ev_iret i67_59 zr67
/-! fM_isPlace -/
def fM_isPlace (x0 : Int32) : Option (Int32) := (fM_in x0 0 5).bind fun r2 => zgd (r2 = 0 ∨ r2 = 1) (some (r2))
set_option maxHeartbeats 4000000 in
theorem kM_isPlace (x0 : Int32) (σ : zS) (w : Int32) (h : fM_isPlace x0 = some w) (d : Nat) (hd : 1 ≤ d) : zEv d 165 0 [some (zI x0)] [] σ (some (zI w), σ) := by
  unfold fM_isPlace at h
  refine ev_s i165_0 (p := 1) rfl ?_
  refine ev_s i165_1 (p := 2) (zic_0 _ _ _ _ _) ?_
  refine ev_s i165_2 (p := 3) (zic_5 _ _ _ _ _) ?_
  obtain ⟨r2, hr1, h⟩ := bd_some h
  refine ev_callS i165_3 zn8_50 zc8_50 zm111 (as := [zI x0, zI 0, zI 5]) (rest := []) rfl rfl (Nat.le_of_ble_eq_true rfl) (Nat.le_of_ble_eq_true rfl) (Nat.le_of_ble_eq_true rfl) (by omega) (l0 := [some (zI x0), some (zI 0), some (zI 5)]) rfl (p := 6) rfl (kM_in x0 0 5 σ r2 hr1 (d - 1) (by omega)) ?_
  change zEv d 165 6 [some (zI x0)] [zI r2] σ _
  obtain ⟨g3, h⟩ := zgd_some h
  obtain rfl := Option.some.inj h
  exact ev_zret i165_6 zr165 g3
/-! fM_list -/
def fM_list_J43 (σ : zS) : Option (Int32 × zS) := zb2 (fM_error 1 σ) fun r15 s14 => some (r15, s14)
set_option maxHeartbeats 4000000 in
theorem kM_list_J43  (d : Nat) (hd : 2 ≤ d)  : ∀ (σ : zS) (w : Int32 × zS) (z1 : Option zA) (z2 : Option zA) (z3 : Option zA), fM_list_J43 σ = some w → zEv d 166 43 [some (zR 8 0), z1, z2, z3] [] σ (some (zI w.1), w.2) := by
  intro σ w z1 z2 z3 h
  unfold fM_list_J43 at h
  refine ev_s i166_43 (p := 44) rfl ?_
  refine ev_s i166_44 (p := 45) (zic_1 _ _ _ _ _) ?_
  obtain ⟨r15, s14, hr13, h⟩ := b2_some h
  refine ev_callV i166_45 zc8_58 zm110 zo110 (as' := [zI 1]) (rest := []) rfl rfl (Nat.le_of_ble_eq_true rfl) (Nat.le_of_ble_eq_true rfl) (Nat.le_of_ble_eq_true rfl) (by omega) (l0 := [some (zR 8 0), some (zI 1)]) rfl (p := 48) rfl (kM_error 1 σ (r15, s14) hr13 (d - 1) (by omega)) ?_
  change zEv d 166 48 [some (zR 8 0), z1, z2, z3] [zI r15] s14 _
  obtain rfl := Option.some.inj h
  exact ev_iret i166_48 zr166
def fM_list (x1 : Int32) (x2 : Int32) (x3 : Int32) (σ : zS) : Option (Int32 × zS) := (fM_isPlace x1).bind fun r2 => (if r2 = 0 then fM_list_J43 σ else (fM_in x2 0 7).bind fun r5 => (if r5 = 0 then fM_list_J43 σ else (fM_in x3 0 1).bind fun r8 => (if r8 = 0 then fM_list_J43 σ else zb2 (fM_change1 (6 + x1) ((10 * x2) + x3) σ) fun r12 s11 => some (r12, s11))))
set_option maxHeartbeats 4000000 in
theorem kM_list (x1 : Int32) (x2 : Int32) (x3 : Int32) (σ : zS) (w : Int32 × zS) (h : fM_list x1 x2 x3 σ = some w) (d : Nat) (hd : 2 ≤ d) : zEv d 166 0 [some (zR 8 0), some (zI x1), some (zI x2), some (zI x3)] [] σ (some (zI w.1), w.2) := by
  unfold fM_list at h
  refine ev_s i166_0 (p := 1) rfl ?_
  obtain ⟨r2, hr1, h⟩ := bd_some h
  refine ev_callS i166_1 zn8_203 zc8_203 zm165 (as := [zI x1]) (rest := []) rfl rfl (Nat.le_of_ble_eq_true rfl) (Nat.le_of_ble_eq_true rfl) (Nat.le_of_ble_eq_true rfl) (by omega) (l0 := [some (zI x1)]) rfl (p := 4) rfl (kM_isPlace x1 σ r2 hr1 (d - 1) (by omega)) ?_
  change zEv d 166 4 [some (zR 8 0), some (zI x1), some (zI x2), some (zI x3)] [zI r2] σ _
  refine ev_ifeq i166_4 (t := 43) (by decide) (p := 7) rfl h (fun c3 h => ?_) (fun c3 h => ?_)
  · exact kM_list_J43 d hd σ w _ _ _ h
  · refine ev_s i166_7 (p := 8) rfl ?_
    refine ev_s i166_8 (p := 9) (zic_0 _ _ _ _ _) ?_
    refine ev_s i166_9 (p := 11) (zib_7 _ _ _ _ _) ?_
    obtain ⟨r5, hr4, h⟩ := bd_some h
    refine ev_callS i166_11 zn8_50 zc8_50 zm111 (as := [zI x2, zI 0, zI 7]) (rest := []) rfl rfl (Nat.le_of_ble_eq_true rfl) (Nat.le_of_ble_eq_true rfl) (Nat.le_of_ble_eq_true rfl) (by omega) (l0 := [some (zI x2), some (zI 0), some (zI 7)]) rfl (p := 14) rfl (kM_in x2 0 7 σ r5 hr4 (d - 1) (by omega)) ?_
    change zEv d 166 14 [some (zR 8 0), some (zI x1), some (zI x2), some (zI x3)] [zI r5] σ _
    refine ev_ifeq i166_14 (t := 43) (by decide) (p := 17) rfl h (fun c6 h => ?_) (fun c6 h => ?_)
    · exact kM_list_J43 d hd σ w _ _ _ h
    · refine ev_s i166_17 (p := 18) rfl ?_
      refine ev_s i166_18 (p := 19) (zic_0 _ _ _ _ _) ?_
      refine ev_s i166_19 (p := 20) (zic_1 _ _ _ _ _) ?_
      obtain ⟨r8, hr7, h⟩ := bd_some h
      refine ev_callS i166_20 zn8_50 zc8_50 zm111 (as := [zI x3, zI 0, zI 1]) (rest := []) rfl rfl (Nat.le_of_ble_eq_true rfl) (Nat.le_of_ble_eq_true rfl) (Nat.le_of_ble_eq_true rfl) (by omega) (l0 := [some (zI x3), some (zI 0), some (zI 1)]) rfl (p := 23) rfl (kM_in x3 0 1 σ r8 hr7 (d - 1) (by omega)) ?_
      change zEv d 166 23 [some (zR 8 0), some (zI x1), some (zI x2), some (zI x3)] [zI r8] σ _
      refine ev_ifeq i166_23 (t := 43) (by decide) (p := 26) rfl h (fun c9 h => ?_) (fun c9 h => ?_)
      · exact kM_list_J43 d hd σ w _ _ _ h
      · refine ev_s i166_26 (p := 27) rfl ?_
        refine ev_s i166_27 (p := 29) (zib_6 _ _ _ _ _) ?_
        refine ev_s i166_29 (p := 30) rfl ?_
        refine ev_s i166_30 (p := 31) (t := [zI (6 + x1), zR 8 0]) rfl ?_
        refine ev_s i166_31 (p := 33) (zib_10 _ _ _ _ _) ?_
        refine ev_s i166_33 (p := 34) rfl ?_
        refine ev_s i166_34 (p := 35) (t := [zI (10 * x2), zI (6 + x1), zR 8 0]) rfl ?_
        refine ev_s i166_35 (p := 36) rfl ?_
        refine ev_s i166_36 (p := 37) (t := [zI ((10 * x2) + x3), zI (6 + x1), zR 8 0]) rfl ?_
        obtain ⟨r12, s11, hr10, h⟩ := b2_some h
        refine ev_callV i166_37 zc8_200 zm120 zo120 (as' := [zI (6 + x1), zI ((10 * x2) + x3)]) (rest := []) rfl rfl (Nat.le_of_ble_eq_true rfl) (Nat.le_of_ble_eq_true rfl) (Nat.le_of_ble_eq_true rfl) (by omega) (l0 := [some (zR 8 0), some (zI (6 + x1)), some (zI ((10 * x2) + x3)), none]) rfl (p := 40) rfl (kM_change1 (6 + x1) ((10 * x2) + x3) σ (r12, s11) hr10 (d - 1) (by omega)) ?_
        change zEv d 166 40 [some (zR 8 0), some (zI x1), some (zI x2), some (zI x3)] [zI r12] s11 _
        refine ev_goto i166_40 (t := 48) (by decide) ?_
        obtain rfl := Option.some.inj h
        exact ev_iret i166_48 zr166
/-! fA_listed -/
def fA_listed (x1 : Int32) (σ : zS) : Option (Int32 × zS) := (fA_within x1 5).bind fun r2 => (if r2 = 0 then zb2 (fA_refuse 1 σ) fun r6 s5 => some (r6, s5) else zgd (zin x1 6) (some (σ 20 0 x1.toNatClampNeg, σ)))
set_option maxHeartbeats 4000000 in
theorem kA_listed (x1 : Int32) (σ : zS) (w : Int32 × zS) (h : fA_listed x1 σ = some w) (d : Nat) (hd : 1 ≤ d) : zEv d 68 0 [some (zR 7 0), some (zI x1)] [] σ (some (zI w.1), w.2) := by
  unfold fA_listed at h
  refine ev_s i68_0 (p := 1) rfl ?_
  refine ev_s i68_1 (p := 2) (zic_5 _ _ _ _ _) ?_
  obtain ⟨r2, hr1, h⟩ := bd_some h
  refine ev_callS i68_2 zn7_64 zc7_64 zm103 (as := [zI x1, zI 5]) (rest := []) rfl rfl (Nat.le_of_ble_eq_true rfl) (Nat.le_of_ble_eq_true rfl) (Nat.le_of_ble_eq_true rfl) (by omega) (l0 := [some (zI x1), some (zI 5)]) rfl (p := 5) rfl (kA_within x1 5 σ r2 hr1 (d - 1) (by omega)) ?_
  change zEv d 68 5 [some (zR 7 0), some (zI x1)] [zI r2] σ _
  refine ev_ifeq i68_5 (t := 20) (by decide) (p := 8) rfl h (fun c3 h => ?_) (fun c3 h => ?_)
  · refine ev_s i68_20 (p := 21) rfl ?_
    refine ev_s i68_21 (p := 22) (zic_1 _ _ _ _ _) ?_
    obtain ⟨r6, s5, hr4, h⟩ := b2_some h
    refine ev_callV i68_22 zc7_72 zm102 zo102 (as' := [zI 1]) (rest := []) rfl rfl (Nat.le_of_ble_eq_true rfl) (Nat.le_of_ble_eq_true rfl) (Nat.le_of_ble_eq_true rfl) (by omega) (l0 := [some (zR 7 0), some (zI 1)]) rfl (p := 25) rfl (kA_refuse 1 σ (r6, s5) hr4 (d - 1) (by omega)) ?_
    change zEv d 68 25 [some (zR 7 0), some (zI x1)] [zI r6] s5 _
    obtain rfl := Option.some.inj h
    exact ev_iret i68_25 zr68
  · refine ev_s i68_8 (p := 9) rfl ?_
    refine ev_getf i68_9 zf7_47 (u := zR 2 0) rfl (p := 12) rfl ?_
    refine ev_getf i68_12 zf7_121 (u := zR 20 0) rfl (p := 15) rfl ?_
    refine ev_s i68_15 (p := 16) rfl ?_
    refine ev_iald i68_16 rfl (n := 6) rfl (p := 17) rfl h (fun g7 h => ?_)
    refine ev_goto i68_17 (t := 25) (by decide) ?_
    obtain rfl := Option.some.inj h
    exact ev_iret i68_25 zr68
/-! fM_listed -/
def fM_listed (x1 : Int32) (σ : zS) : Option (Int32 × zS) := (fM_isPlace x1).bind fun r2 => (if r2 = 0 then zb2 (fM_error 1 σ) fun r6 s5 => some (r6, s5) else zgd (zin (6 + x1) 394) (some (σ 30 0 (6 + x1).toNatClampNeg, σ)))
set_option maxHeartbeats 4000000 in
theorem kM_listed (x1 : Int32) (σ : zS) (w : Int32 × zS) (h : fM_listed x1 σ = some w) (d : Nat) (hd : 2 ≤ d) : zEv d 167 0 [some (zR 8 0), some (zI x1)] [] σ (some (zI w.1), w.2) := by
  unfold fM_listed at h
  refine ev_s i167_0 (p := 1) rfl ?_
  obtain ⟨r2, hr1, h⟩ := bd_some h
  refine ev_callS i167_1 zn8_203 zc8_203 zm165 (as := [zI x1]) (rest := []) rfl rfl (Nat.le_of_ble_eq_true rfl) (Nat.le_of_ble_eq_true rfl) (Nat.le_of_ble_eq_true rfl) (by omega) (l0 := [some (zI x1)]) rfl (p := 4) rfl (kM_isPlace x1 σ r2 hr1 (d - 1) (by omega)) ?_
  change zEv d 167 4 [some (zR 8 0), some (zI x1)] [zI r2] σ _
  refine ev_ifeq i167_4 (t := 19) (by decide) (p := 7) rfl h (fun c3 h => ?_) (fun c3 h => ?_)
  · refine ev_s i167_19 (p := 20) rfl ?_
    refine ev_s i167_20 (p := 21) (zic_1 _ _ _ _ _) ?_
    obtain ⟨r6, s5, hr4, h⟩ := b2_some h
    refine ev_callV i167_21 zc8_58 zm110 zo110 (as' := [zI 1]) (rest := []) rfl rfl (Nat.le_of_ble_eq_true rfl) (Nat.le_of_ble_eq_true rfl) (Nat.le_of_ble_eq_true rfl) (by omega) (l0 := [some (zR 8 0), some (zI 1)]) rfl (p := 24) rfl (kM_error 1 σ (r6, s5) hr4 (d - 1) (by omega)) ?_
    change zEv d 167 24 [some (zR 8 0), some (zI x1)] [zI r6] s5 _
    obtain rfl := Option.some.inj h
    exact ev_iret i167_24 zr167
  · refine ev_s i167_7 (p := 8) rfl ?_
    refine ev_getf i167_8 zf8_7 (u := zR 30 0) rfl (p := 11) rfl ?_
    refine ev_s i167_11 (p := 13) (zib_6 _ _ _ _ _) ?_
    refine ev_s i167_13 (p := 14) rfl ?_
    refine ev_s i167_14 (p := 15) (t := [zI (6 + x1), zR 30 0]) rfl ?_
    refine ev_iald i167_15 rfl (n := 394) rfl (p := 16) rfl h (fun g7 h => ?_)
    refine ev_goto i167_16 (t := 24) (by decide) ?_
    obtain rfl := Option.some.inj h
    exact ev_iret i167_24 zr167
/-! fW_add -/
def fW_add (b : Nat) (x1 : Int32) (σ : zS) : Option (zS) := (if (Int32.ofNat (if b % 2 = 0 then 60 else 24)) ≤ (σ 3 b 1) then some σ else zgd (zin (σ 3 b 1) (if b % 2 = 0 then 60 else 24)) (zlt (zup σ 22 b (σ 3 b 1).toNatClampNeg x1) fun s2 => zlt (zup s2 3 b 1 ((s2 3 b 1) + 1)) fun s4 => some s4))
set_option maxHeartbeats 4000000 in
theorem kW_add (b : Nat) (x1 : Int32) (σ : zS) (w : zS) (h : fW_add b x1 σ = some w) (d : Nat) (hd : 0 ≤ d) : zEv d 48 0 [some (zR 3 b), some (zI x1)] [] σ (none, w) := by
  unfold fW_add at h
  refine ev_s i48_0 (p := 1) rfl ?_
  refine ev_getf i48_1 zf3_13 (u := zI (σ 3 b 1)) rfl (p := 4) rfl ?_
  refine ev_s i48_4 (p := 5) rfl ?_
  refine ev_getf i48_5 zf3_7 (u := zR 22 b) rfl (p := 8) rfl ?_
  refine ev_alen i48_8 rfl (v := Int32.ofNat (if b % 2 = 0 then 60 else 24)) rfl (p := 9) rfl ?_
  refine ev_cmpge i48_9 (t := 32) (by decide) (p := 12) rfl h (fun c1 h => ?_) (fun c1 h => ?_)
  · obtain rfl := Option.some.inj h
    exact ev_vret i48_32 zr48
  · refine ev_s i48_12 (p := 13) rfl ?_
    refine ev_getf i48_13 zf3_7 (u := zR 22 b) rfl (p := 16) rfl ?_
    refine ev_s i48_16 (p := 17) rfl ?_
    refine ev_getf i48_17 zf3_13 (u := zI (σ 3 b 1)) rfl (p := 20) rfl ?_
    refine ev_s i48_20 (p := 21) rfl ?_
    refine ev_iast i48_21 rfl (n := (if b % 2 = 0 then 60 else 24)) rfl (p := 22) rfl h (fun g3 h => ?_)
    refine ev_lets h (fun s2 es2 h => ?_)
    refine ev_s i48_22 (p := 23) rfl ?_
    refine ev_s i48_23 (p := 24) rfl ?_
    refine ev_getf i48_24 zf3_13 (u := zI (s2 3 b 1)) rfl (p := 27) rfl ?_
    refine ev_s i48_27 (p := 28) (zic_1 _ _ _ _ _) ?_
    refine ev_s i48_28 (p := 29) (t := [zI ((s2 3 b 1) + 1), zR 3 b]) rfl ?_
    refine ev_putf i48_29 zf3_13 rfl rfl rfl (p := 32) rfl ?_
    refine ev_lets h (fun s4 es4 h => ?_)
    obtain rfl := Option.some.inj h
    exact ev_vret i48_32 zr48
/-! fA_feed -/
def fA_feed_L43 (N : Nat) : Nat → Int64 → Int32 → Int32 → zS → Option (Int32 × zS)
  | 0, _, _, _, _ => none
  | n + 1, y1, y3, y4, σ => (if y3 ≤ y4 then some (σ 3 0 1, σ) else (fW_add 0 ((((y1.toUInt64 >>> ((8 * y4).toInt64.toUInt64 &&& Int64.toUInt64 63)).toInt64).toInt32) &&& 255) σ).bind fun s12 => fA_feed_L43 N n y1 y3 (y4 + 1) s12)
set_option maxHeartbeats 4000000 in
theorem kA_feed_L43 (N : Nat) (d : Nat) (hd : 1 ≤ d)  : ∀ n : Nat, ∀ (y1 : Int64) (y3 : Int32) (y4 : Int32) (σ : zS) (w : Int32 × zS) (z2 : Option zA), fA_feed_L43 N n y1 y3 y4 σ = some w → zEv d 69 43 [some (zR 7 0), some (zL y1), z2, some (zI y3), some (zI y4)] [] σ (some (zI w.1), w.2) := by
  intro n
  induction n with
  | zero =>
    intro y1 y3 y4 σ w z2 h
    cases h
  | succ n ih =>
    intro y1 y3 y4 σ w z2 h
    rw [fA_feed_L43] at h
    refine ev_s i69_43 (p := 45) rfl ?_
    refine ev_s i69_45 (p := 46) rfl ?_
    refine ev_cmpge i69_46 (t := 77) (by decide) (p := 49) rfl h (fun c10 h => ?_) (fun c10 h => ?_)
    · refine ev_s i69_77 (p := 78) rfl ?_
      refine ev_getf i69_78 zf7_10 (u := zR 5 0) rfl (p := 81) rfl ?_
      refine ev_getf i69_81 zf7_124 (u := zR 3 0) rfl (p := 84) rfl ?_
      refine ev_getf i69_84 zf7_128 (u := zI (σ 3 0 1)) rfl (p := 87) rfl ?_
      obtain rfl := Option.some.inj h
      exact ev_iret i69_87 zr69
    · refine ev_s i69_49 (p := 50) rfl ?_
      refine ev_getf i69_50 zf7_10 (u := zR 5 0) rfl (p := 53) rfl ?_
      refine ev_getf i69_53 zf7_124 (u := zR 3 0) rfl (p := 56) rfl ?_
      refine ev_s i69_56 (p := 57) rfl ?_
      refine ev_s i69_57 (p := 59) (zib_8 _ _ _ _ _) ?_
      refine ev_s i69_59 (p := 61) rfl ?_
      refine ev_s i69_61 (p := 62) (t := [zI (8 * y4), zL y1, zR 3 0]) rfl ?_
      refine ev_s i69_62 (p := 63) rfl ?_
      refine ev_s i69_63 (p := 64) rfl ?_
      refine ev_s i69_64 (p := 67) (zis_255 _ _ _ _ _) ?_
      refine ev_s i69_67 (p := 68) (t := [zI ((((y1.toUInt64 >>> ((8 * y4).toInt64.toUInt64 &&& Int64.toUInt64 63)).toInt64).toInt32) &&& 255), zR 3 0]) rfl ?_
      obtain ⟨s12, hr11, h⟩ := bd_some h
      refine ev_callV i69_68 zc7_133 zm48 zo48 (as' := [zI ((((y1.toUInt64 >>> ((8 * y4).toInt64.toUInt64 &&& Int64.toUInt64 63)).toInt64).toInt32) &&& 255)]) (rest := []) rfl rfl (Nat.le_of_ble_eq_true rfl) (Nat.le_of_ble_eq_true rfl) (Nat.le_of_ble_eq_true rfl) (by omega) (l0 := [some (zR 3 0), some (zI ((((y1.toUInt64 >>> ((8 * y4).toInt64.toUInt64 &&& Int64.toUInt64 63)).toInt64).toInt32) &&& 255))]) rfl (p := 71) rfl (kW_add 0 ((((y1.toUInt64 >>> ((8 * y4).toInt64.toUInt64 &&& Int64.toUInt64 63)).toInt64).toInt32) &&& 255) σ s12 hr11 (d - 1) (by omega)) ?_
      change zEv d 69 71 [some (zR 7 0), some (zL y1), z2, some (zI y3), some (zI y4)] [] s12 _
      refine ev_iinc i69_71 zii_1 rfl (l := [some (zR 7 0), some (zL y1), z2, some (zI y3), some (zI (y4 + 1))]) rfl (p := 74) rfl ?_
      refine ev_goto i69_74 (t := 43) (by decide) ?_
      exact ih y1 y3 (y4 + 1) s12 w _ h
def fA_feed_J11 (N : Nat) (σ : zS) : Option (Int32 × zS) := zb2 (fA_refuse 1 σ) fun r9 s8 => some (r9, s8)
set_option maxHeartbeats 4000000 in
theorem kA_feed_J11 (N : Nat) (d : Nat) (hd : 1 ≤ d)  : ∀ (σ : zS) (w : Int32 × zS) (z1 : Option zA) (z2 : Option zA) (z3 : Option zA) (hz3 : znl z3 = true) (z4 : Option zA), fA_feed_J11 N σ = some w → zEv d 69 11 [some (zR 7 0), z1, z2, z3, z4] [] σ (some (zI w.1), w.2) := by
  intro σ w z1 z2 z3 hz3 z4 h
  unfold fA_feed_J11 at h
  refine ev_s i69_11 (p := 12) rfl ?_
  refine ev_s i69_12 (p := 13) (zic_1 _ _ _ _ _) ?_
  obtain ⟨r9, s8, hr7, h⟩ := b2_some h
  refine ev_callV i69_13 zc7_72 zm102 zo102 (as' := [zI 1]) (rest := []) rfl rfl (Nat.le_of_ble_eq_true rfl) (Nat.le_of_ble_eq_true rfl) (Nat.le_of_ble_eq_true rfl) (by omega) (l0 := [some (zR 7 0), some (zI 1)]) rfl (p := 16) rfl (kA_refuse 1 σ (r9, s8) hr7 (d - 1) (by omega)) ?_
  change zEv d 69 16 [some (zR 7 0), z1, z2, z3, z4] [zI r9] s8 _
  obtain rfl := Option.some.inj h
  exact ev_iret i69_16 zr69
def fA_feed (N : Nat) (x1 : Int64) (x3 : Int32) (σ : zS) : Option (Int32 × zS) := (if x3 < 1 then fA_feed_J11 N σ else (if x3 ≤ 8 then (if x3 ≤ (60 - (σ 3 0 1)) then fA_feed_L43 N N x1 x3 0 σ else zb2 (fA_refuse 4 σ) fun r6 s5 => some (r6, s5)) else fA_feed_J11 N σ))
set_option maxHeartbeats 4000000 in
theorem kA_feed (N : Nat) (x1 : Int64) (x3 : Int32) (σ : zS) (w : Int32 × zS) (h : fA_feed N x1 x3 σ = some w) (d : Nat) (hd : 1 ≤ d) : zEv d 69 0 [some (zR 7 0), some (zL x1), none, some (zI x3), none] [] σ (some (zI w.1), w.2) := by
  unfold fA_feed at h
  refine ev_s i69_0 (p := 1) rfl ?_
  refine ev_s i69_1 (p := 2) (zic_1 _ _ _ _ _) ?_
  refine ev_cmplt i69_2 (t := 11) (by decide) (p := 5) rfl h (fun c1 h => ?_) (fun c1 h => ?_)
  · exact kA_feed_J11 N d hd σ w _ _ _ rfl _ h
  · refine ev_s i69_5 (p := 6) rfl ?_
    refine ev_s i69_6 (p := 8) (zib_8 _ _ _ _ _) ?_
    refine ev_cmple i69_8 (t := 17) (by decide) (p := 11) rfl h (fun c2 h => ?_) (fun c2 h => ?_)
    · refine ev_s i69_17 (p := 18) rfl ?_
      refine ev_s i69_18 (p := 20) (zib_60 _ _ _ _ _) ?_
      refine ev_s i69_20 (p := 21) rfl ?_
      refine ev_getf i69_21 zf7_10 (u := zR 5 0) rfl (p := 24) rfl ?_
      refine ev_getf i69_24 zf7_124 (u := zR 3 0) rfl (p := 27) rfl ?_
      refine ev_getf i69_27 zf7_128 (u := zI (σ 3 0 1)) rfl (p := 30) rfl ?_
      refine ev_s i69_30 (p := 31) (t := [zI (60 - (σ 3 0 1)), zI x3]) rfl ?_
      refine ev_cmple i69_31 (t := 40) (by decide) (p := 34) rfl h (fun c3 h => ?_) (fun c3 h => ?_)
      · refine ev_s i69_40 (p := 41) (zic_0 _ _ _ _ _) ?_
        refine ev_s i69_41 (p := 43) (l := [some (zR 7 0), some (zL x1), none, some (zI x3), some (zI 0)]) rfl ?_
        exact kA_feed_L43 N d hd N x1 x3 0 σ w _ h
      · refine ev_s i69_34 (p := 35) rfl ?_
        refine ev_s i69_35 (p := 36) (zic_4 _ _ _ _ _) ?_
        obtain ⟨r6, s5, hr4, h⟩ := b2_some h
        refine ev_callV i69_36 zc7_72 zm102 zo102 (as' := [zI 4]) (rest := []) rfl rfl (Nat.le_of_ble_eq_true rfl) (Nat.le_of_ble_eq_true rfl) (Nat.le_of_ble_eq_true rfl) (by omega) (l0 := [some (zR 7 0), some (zI 4)]) rfl (p := 39) rfl (kA_refuse 4 σ (r6, s5) hr4 (d - 1) (by omega)) ?_
        change zEv d 69 39 [some (zR 7 0), some (zL x1), none, some (zI x3), none] [zI r6] s5 _
        obtain rfl := Option.some.inj h
        exact ev_iret i69_39 zr69
    · exact kA_feed_J11 N d hd σ w _ _ _ rfl _ h
/-! fM_feed -/
def fM_feed_L38 (N : Nat) : Nat → Int64 → Int32 → Int32 → zS → Option (Int32 × zS)
  | 0, _, _, _, _ => none
  | n + 1, y1, y3, y4, σ => (if y3 ≤ y4 then some (σ 30 0 2, σ) else zgd (zin (310 + (σ 30 0 2)) 394) (zlt (zup σ 30 0 (310 + (σ 30 0 2)).toNatClampNeg (((y1 >>> ((8 * y4).toInt64 &&& 63)) &&& 255).toInt32)) fun s12 => zlt (zup s12 30 0 2 ((s12 30 0 2) + 1)) fun s14 => fM_feed_L38 N n y1 y3 (y4 + 1) s14))
set_option maxHeartbeats 4000000 in
theorem kM_feed_L38 (N : Nat) (d : Nat) (hd : 1 ≤ d)  : ∀ n : Nat, ∀ (y1 : Int64) (y3 : Int32) (y4 : Int32) (σ : zS) (w : Int32 × zS) (z2 : Option zA), fM_feed_L38 N n y1 y3 y4 σ = some w → zEv d 122 38 [some (zR 8 0), some (zL y1), z2, some (zI y3), some (zI y4)] [] σ (some (zI w.1), w.2) := by
  intro n
  induction n with
  | zero =>
    intro y1 y3 y4 σ w z2 h
    cases h
  | succ n ih =>
    intro y1 y3 y4 σ w z2 h
    rw [fM_feed_L38] at h
    refine ev_s i122_38 (p := 40) rfl ?_
    refine ev_s i122_40 (p := 41) rfl ?_
    refine ev_cmpge i122_41 (t := 87) (by decide) (p := 44) rfl h (fun c11 h => ?_) (fun c11 h => ?_)
    · refine ev_s i122_87 (p := 88) rfl ?_
      refine ev_getf i122_88 zf8_7 (u := zR 30 0) rfl (p := 91) rfl ?_
      refine ev_s i122_91 (p := 92) (zic_2 _ _ _ _ _) ?_
      refine ev_ialdK i122_92 rfl (n := 394) rfl (by decide) (p := 93) rfl ?_
      change zEv d 122 93 [some (zR 8 0), some (zL y1), z2, some (zI y3), some (zI y4)] [zI (σ 30 0 2)] σ _
      obtain rfl := Option.some.inj h
      exact ev_iret i122_93 zr122
    · refine ev_s i122_44 (p := 45) rfl ?_
      refine ev_getf i122_45 zf8_7 (u := zR 30 0) rfl (p := 48) rfl ?_
      refine ev_s i122_48 (p := 51) (zis_310 _ _ _ _ _) ?_
      refine ev_s i122_51 (p := 52) rfl ?_
      refine ev_getf i122_52 zf8_7 (u := zR 30 0) rfl (p := 55) rfl ?_
      refine ev_s i122_55 (p := 56) (zic_2 _ _ _ _ _) ?_
      refine ev_ialdK i122_56 rfl (n := 394) rfl (by decide) (p := 57) rfl ?_
      change zEv d 122 57 [some (zR 8 0), some (zL y1), z2, some (zI y3), some (zI y4)] [zI (σ 30 0 2), zI 310, zR 30 0] σ _
      refine ev_s i122_57 (p := 58) (t := [zI (310 + (σ 30 0 2)), zR 30 0]) rfl ?_
      refine ev_s i122_58 (p := 59) rfl ?_
      refine ev_s i122_59 (p := 61) (zib_8 _ _ _ _ _) ?_
      refine ev_s i122_61 (p := 63) rfl ?_
      refine ev_s i122_63 (p := 64) (t := [zI (8 * y4), zL y1, zI (310 + (σ 30 0 2)), zR 30 0]) rfl ?_
      refine ev_s i122_64 (p := 65) rfl ?_
      refine ev_s i122_65 (p := 68) (zkl8_62 0 _ _ _ _) ?_
      refine ev_s i122_68 (p := 69) rfl ?_
      refine ev_s i122_69 (p := 70) rfl ?_
      refine ev_iast i122_70 rfl (n := 394) rfl (p := 71) rfl h (fun g13 h => ?_)
      refine ev_lets h (fun s12 es12 h => ?_)
      refine ev_s i122_71 (p := 72) rfl ?_
      refine ev_getf i122_72 zf8_7 (u := zR 30 0) rfl (p := 75) rfl ?_
      refine ev_s i122_75 (p := 76) (zic_2 _ _ _ _ _) ?_
      refine ev_s i122_76 (p := 77) rfl ?_
      refine ev_ialdK i122_77 rfl (n := 394) rfl (by decide) (p := 78) rfl ?_
      change zEv d 122 78 [some (zR 8 0), some (zL y1), z2, some (zI y3), some (zI y4)] [zI (s12 30 0 2), zI 2, zR 30 0] s12 _
      refine ev_s i122_78 (p := 79) (zic_1 _ _ _ _ _) ?_
      refine ev_s i122_79 (p := 80) (t := [zI ((s12 30 0 2) + 1), zI 2, zR 30 0]) rfl ?_
      refine ev_iastK i122_80 rfl (n := 394) rfl (by decide) (p := 81) rfl ?_
      change zEv d 122 81 [some (zR 8 0), some (zL y1), z2, some (zI y3), some (zI y4)] [] (zup s12 30 0 2 ((s12 30 0 2) + 1)) _
      refine ev_lets h (fun s14 es14 h => ?_)
      refine ev_iinc i122_81 zii_1 rfl (l := [some (zR 8 0), some (zL y1), z2, some (zI y3), some (zI (y4 + 1))]) rfl (p := 84) rfl ?_
      refine ev_goto i122_84 (t := 38) (by decide) ?_
      exact ih y1 y3 (y4 + 1) s14 w _ h
def fM_feed (N : Nat) (x1 : Int64) (x3 : Int32) (σ : zS) : Option (Int32 × zS) := (fM_in x3 1 8).bind fun r2 => (if r2 = 0 then zb2 (fM_error 1 σ) fun r6 s5 => some (r6, s5) else (if ((σ 30 0 2) + x3) ≤ 60 then fM_feed_L38 N N x1 x3 0 σ else zb2 (fM_error 4 σ) fun r10 s9 => some (r10, s9)))
set_option maxHeartbeats 4000000 in
theorem kM_feed (N : Nat) (x1 : Int64) (x3 : Int32) (σ : zS) (w : Int32 × zS) (h : fM_feed N x1 x3 σ = some w) (d : Nat) (hd : 1 ≤ d) : zEv d 122 0 [some (zR 8 0), some (zL x1), none, some (zI x3), none] [] σ (some (zI w.1), w.2) := by
  unfold fM_feed at h
  refine ev_s i122_0 (p := 1) rfl ?_
  refine ev_s i122_1 (p := 2) (zic_1 _ _ _ _ _) ?_
  refine ev_s i122_2 (p := 4) (zib_8 _ _ _ _ _) ?_
  obtain ⟨r2, hr1, h⟩ := bd_some h
  refine ev_callS i122_4 zn8_50 zc8_50 zm111 (as := [zI x3, zI 1, zI 8]) (rest := []) rfl rfl (Nat.le_of_ble_eq_true rfl) (Nat.le_of_ble_eq_true rfl) (Nat.le_of_ble_eq_true rfl) (by omega) (l0 := [some (zI x3), some (zI 1), some (zI 8)]) rfl (p := 7) rfl (kM_in x3 1 8 σ r2 hr1 (d - 1) (by omega)) ?_
  change zEv d 122 7 [some (zR 8 0), some (zL x1), none, some (zI x3), none] [zI r2] σ _
  refine ev_ifne i122_7 (t := 16) (by decide) (p := 10) rfl h (fun c3 h => ?_) (fun c3 h => ?_)
  · refine ev_s i122_10 (p := 11) rfl ?_
    refine ev_s i122_11 (p := 12) (zic_1 _ _ _ _ _) ?_
    obtain ⟨r6, s5, hr4, h⟩ := b2_some h
    refine ev_callV i122_12 zc8_58 zm110 zo110 (as' := [zI 1]) (rest := []) rfl rfl (Nat.le_of_ble_eq_true rfl) (Nat.le_of_ble_eq_true rfl) (Nat.le_of_ble_eq_true rfl) (by omega) (l0 := [some (zR 8 0), some (zI 1)]) rfl (p := 15) rfl (kM_error 1 σ (r6, s5) hr4 (d - 1) (by omega)) ?_
    change zEv d 122 15 [some (zR 8 0), some (zL x1), none, some (zI x3), none] [zI r6] s5 _
    obtain rfl := Option.some.inj h
    exact ev_iret i122_15 zr122
  · refine ev_s i122_16 (p := 17) rfl ?_
    refine ev_getf i122_17 zf8_7 (u := zR 30 0) rfl (p := 20) rfl ?_
    refine ev_s i122_20 (p := 21) (zic_2 _ _ _ _ _) ?_
    refine ev_ialdK i122_21 rfl (n := 394) rfl (by decide) (p := 22) rfl ?_
    change zEv d 122 22 [some (zR 8 0), some (zL x1), none, some (zI x3), none] [zI (σ 30 0 2)] σ _
    refine ev_s i122_22 (p := 23) rfl ?_
    refine ev_s i122_23 (p := 24) (t := [zI ((σ 30 0 2) + x3)]) rfl ?_
    refine ev_s i122_24 (p := 26) (zib_60 _ _ _ _ _) ?_
    refine ev_cmple i122_26 (t := 35) (by decide) (p := 29) rfl h (fun c7 h => ?_) (fun c7 h => ?_)
    · refine ev_s i122_35 (p := 36) (zic_0 _ _ _ _ _) ?_
      refine ev_s i122_36 (p := 38) (l := [some (zR 8 0), some (zL x1), none, some (zI x3), some (zI 0)]) rfl ?_
      exact kM_feed_L38 N d hd N x1 x3 0 σ w _ h
    · refine ev_s i122_29 (p := 30) rfl ?_
      refine ev_s i122_30 (p := 31) (zic_4 _ _ _ _ _) ?_
      obtain ⟨r10, s9, hr8, h⟩ := b2_some h
      refine ev_callV i122_31 zc8_58 zm110 zo110 (as' := [zI 4]) (rest := []) rfl rfl (Nat.le_of_ble_eq_true rfl) (Nat.le_of_ble_eq_true rfl) (Nat.le_of_ble_eq_true rfl) (by omega) (l0 := [some (zR 8 0), some (zI 4)]) rfl (p := 34) rfl (kM_error 4 σ (r10, s9) hr8 (d - 1) (by omega)) ?_
      change zEv d 122 34 [some (zR 8 0), some (zL x1), none, some (zI x3), none] [zI r10] s9 _
      obtain rfl := Option.some.inj h
      exact ev_iret i122_34 zr122
/-! fD_rank -/
def fD_rank (x0 : Int32) : Option (Int32) := (if x0 = 37 then some (5) else (if x0 = 38 then some (2) else (if x0 = 42 then some (5) else (if x0 = 43 then some (4) else (if x0 = 45 then some (4) else (if x0 = 47 then some (5) else (if x0 = 60 then some (3) else (if x0 = 61 then some (3) else (if x0 = 62 then some (3) else (if x0 = 124 then some (1) else some (0)))))))))))
set_option maxHeartbeats 4000000 in
theorem kD_rank (x0 : Int32) (σ : zS) (w : Int32) (h : fD_rank x0 = some w) (d : Nat) (hd : 0 ≤ d) : zEv d 14 0 [some (zI x0)] [] σ (some (zI w), σ) := by
  unfold fD_rank at h
  refine ev_s i14_0 (p := 1) rfl ?_
  refine ev_sel h (fun c1 h => ?_) (fun c1 h => ?_)
  · refine ev_lsw i14_1 (by decide) (t := 100) (by rw [c1]; decide) ?_
    refine ev_s i14_100 (p := 101) (zic_5 _ _ _ _ _) ?_
    obtain rfl := Option.some.inj h
    exact ev_iret i14_101 zr14
  refine ev_sel h (fun c2 h => ?_) (fun c2 h => ?_)
  · refine ev_lsw i14_1 (by decide) (t := 94) (by rw [c2]; decide) ?_
    refine ev_s i14_94 (p := 95) (zic_2 _ _ _ _ _) ?_
    obtain rfl := Option.some.inj h
    exact ev_iret i14_95 zr14
  refine ev_sel h (fun c3 h => ?_) (fun c3 h => ?_)
  · refine ev_lsw i14_1 (by decide) (t := 100) (by rw [c3]; decide) ?_
    refine ev_s i14_100 (p := 101) (zic_5 _ _ _ _ _) ?_
    obtain rfl := Option.some.inj h
    exact ev_iret i14_101 zr14
  refine ev_sel h (fun c4 h => ?_) (fun c4 h => ?_)
  · refine ev_lsw i14_1 (by decide) (t := 98) (by rw [c4]; decide) ?_
    refine ev_s i14_98 (p := 99) (zic_4 _ _ _ _ _) ?_
    obtain rfl := Option.some.inj h
    exact ev_iret i14_99 zr14
  refine ev_sel h (fun c5 h => ?_) (fun c5 h => ?_)
  · refine ev_lsw i14_1 (by decide) (t := 98) (by rw [c5]; decide) ?_
    refine ev_s i14_98 (p := 99) (zic_4 _ _ _ _ _) ?_
    obtain rfl := Option.some.inj h
    exact ev_iret i14_99 zr14
  refine ev_sel h (fun c6 h => ?_) (fun c6 h => ?_)
  · refine ev_lsw i14_1 (by decide) (t := 100) (by rw [c6]; decide) ?_
    refine ev_s i14_100 (p := 101) (zic_5 _ _ _ _ _) ?_
    obtain rfl := Option.some.inj h
    exact ev_iret i14_101 zr14
  refine ev_sel h (fun c7 h => ?_) (fun c7 h => ?_)
  · refine ev_lsw i14_1 (by decide) (t := 96) (by rw [c7]; decide) ?_
    refine ev_s i14_96 (p := 97) (zic_3 _ _ _ _ _) ?_
    obtain rfl := Option.some.inj h
    exact ev_iret i14_97 zr14
  refine ev_sel h (fun c8 h => ?_) (fun c8 h => ?_)
  · refine ev_lsw i14_1 (by decide) (t := 96) (by rw [c8]; decide) ?_
    refine ev_s i14_96 (p := 97) (zic_3 _ _ _ _ _) ?_
    obtain rfl := Option.some.inj h
    exact ev_iret i14_97 zr14
  refine ev_sel h (fun c9 h => ?_) (fun c9 h => ?_)
  · refine ev_lsw i14_1 (by decide) (t := 96) (by rw [c9]; decide) ?_
    refine ev_s i14_96 (p := 97) (zic_3 _ _ _ _ _) ?_
    obtain rfl := Option.some.inj h
    exact ev_iret i14_97 zr14
  refine ev_sel h (fun c10 h => ?_) (fun c10 h => ?_)
  · refine ev_lsw i14_1 (by decide) (t := 92) (by rw [c10]; decide) ?_
    refine ev_s i14_92 (p := 93) (zic_1 _ _ _ _ _) ?_
    obtain rfl := Option.some.inj h
    exact ev_iret i14_93 zr14
  refine ev_lsw i14_1 (by decide) (t := 102) (by show (1 : Int) + zlk x0 [(37, 99), (38, 93), (42, 99), (43, 97), (45, 97), (47, 99), (60, 95), (61, 95), (62, 95), (124, 91)] (101) = 102; rw [zlk_st c1 (by decide), zlk_st c2 (by decide), zlk_st c3 (by decide), zlk_st c4 (by decide), zlk_st c5 (by decide), zlk_st c6 (by decide), zlk_st c7 (by decide), zlk_st c8 (by decide), zlk_st c9 (by decide), zlk_st c10 (by decide)]; rfl) ?_
  refine ev_s i14_102 (p := 103) (zic_0 _ _ _ _ _) ?_
  obtain rfl := Option.some.inj h
  exact ev_iret i14_103 zr14
/-! fD_write -/
def fD_write (x1 : Int32) (σ : zS) : Option (zS) := (if 60 ≤ (σ 1 0 1) then some σ else zgd (zin (σ 1 0 1) 60) (zlt (zup σ 12 0 (σ 1 0 1).toNatClampNeg x1) fun s2 => zlt (zup s2 1 0 1 ((s2 1 0 1) + 1)) fun s4 => some s4))
set_option maxHeartbeats 4000000 in
theorem kD_write (x1 : Int32) (σ : zS) (w : zS) (h : fD_write x1 σ = some w) (d : Nat) (hd : 0 ≤ d) : zEv d 16 0 [some (zR 1 0), some (zI x1)] [] σ (none, w) := by
  unfold fD_write at h
  refine ev_s i16_0 (p := 1) rfl ?_
  refine ev_getf i16_1 zf1_18 (u := zI (σ 1 0 1)) rfl (p := 4) rfl ?_
  refine ev_s i16_4 (p := 6) (zib_60 _ _ _ _ _) ?_
  refine ev_cmpge i16_6 (t := 29) (by decide) (p := 9) rfl h (fun c1 h => ?_) (fun c1 h => ?_)
  · obtain rfl := Option.some.inj h
    exact ev_vret i16_29 zr16
  · refine ev_s i16_9 (p := 10) rfl ?_
    refine ev_getf i16_10 zf1_9 (u := zR 12 0) rfl (p := 13) rfl ?_
    refine ev_s i16_13 (p := 14) rfl ?_
    refine ev_getf i16_14 zf1_18 (u := zI (σ 1 0 1)) rfl (p := 17) rfl ?_
    refine ev_s i16_17 (p := 18) rfl ?_
    refine ev_iast i16_18 rfl (n := 60) rfl (p := 19) rfl h (fun g3 h => ?_)
    refine ev_lets h (fun s2 es2 h => ?_)
    refine ev_s i16_19 (p := 20) rfl ?_
    refine ev_s i16_20 (p := 21) rfl ?_
    refine ev_getf i16_21 zf1_18 (u := zI (s2 1 0 1)) rfl (p := 24) rfl ?_
    refine ev_s i16_24 (p := 25) (zic_1 _ _ _ _ _) ?_
    refine ev_s i16_25 (p := 26) (t := [zI ((s2 1 0 1) + 1), zR 1 0]) rfl ?_
    refine ev_putf i16_26 zf1_18 rfl rfl rfl (p := 29) rfl ?_
    refine ev_lets h (fun s4 es4 h => ?_)
    obtain rfl := Option.some.inj h
    exact ev_vret i16_29 zr16
/-! fD_settle -/
def fD_settle_L7 (N : Nat) : Nat → Int32 → Int32 → zS → Option (zS)
  | 0, _, _, _ => none
  | n + 1, y1, y2, σ => (if y2 < 0 then some σ else zgd (zin y2 60) ((fD_rank (σ 13 0 y2.toNatClampNeg)).bind fun r5 => (if r5 < y1 then some σ else zgd (zin y2 60) ((fD_write (20000 + (σ 13 0 y2.toNatClampNeg)) σ).bind fun s9 => zlt (zup s9 1 0 3 ((s9 1 0 3) - 1)) fun s10 => fD_settle_L7 N n y1 (y2 + (-1)) s10))))
set_option maxHeartbeats 4000000 in
theorem kD_settle_L7 (N : Nat) (d : Nat) (hd : 1 ≤ d)  : ∀ n : Nat, ∀ (y1 : Int32) (y2 : Int32) (σ : zS) (w : zS), fD_settle_L7 N n y1 y2 σ = some w → zEv d 13 7 [some (zR 1 0), some (zI y1), some (zI y2)] [] σ (none, w) := by
  intro n
  induction n with
  | zero =>
    intro y1 y2 σ w h
    cases h
  | succ n ih =>
    intro y1 y2 σ w h
    rw [fD_settle_L7] at h
    refine ev_s i13_7 (p := 8) rfl ?_
    refine ev_iflt i13_8 (t := 54) (by decide) (p := 11) rfl h (fun c2 h => ?_) (fun c2 h => ?_)
    · obtain rfl := Option.some.inj h
      exact ev_vret i13_54 zr13
    · refine ev_s i13_11 (p := 12) rfl ?_
      refine ev_getf i13_12 zf1_15 (u := zR 13 0) rfl (p := 15) rfl ?_
      refine ev_s i13_15 (p := 16) rfl ?_
      refine ev_iald i13_16 rfl (n := 60) rfl (p := 17) rfl h (fun g3 h => ?_)
      obtain ⟨r5, hr4, h⟩ := bd_some h
      refine ev_callS i13_17 zn1_87 zc1_87 zm14 (as := [zI (σ 13 0 y2.toNatClampNeg)]) (rest := []) rfl rfl (Nat.le_of_ble_eq_true rfl) (Nat.le_of_ble_eq_true rfl) (Nat.le_of_ble_eq_true rfl) (by omega) (l0 := [some (zI (σ 13 0 y2.toNatClampNeg))]) rfl (p := 20) rfl (kD_rank (σ 13 0 y2.toNatClampNeg) σ r5 hr4 (d - 1) (by omega)) ?_
      change zEv d 13 20 [some (zR 1 0), some (zI y1), some (zI y2)] [zI r5] σ _
      refine ev_s i13_20 (p := 21) rfl ?_
      refine ev_cmplt i13_21 (t := 54) (by decide) (p := 24) rfl h (fun c6 h => ?_) (fun c6 h => ?_)
      · obtain rfl := Option.some.inj h
        exact ev_vret i13_54 zr13
      · refine ev_s i13_24 (p := 25) rfl ?_
        refine ev_s i13_25 (p := 28) (zis_20000 _ _ _ _ _) ?_
        refine ev_s i13_28 (p := 29) rfl ?_
        refine ev_getf i13_29 zf1_15 (u := zR 13 0) rfl (p := 32) rfl ?_
        refine ev_s i13_32 (p := 33) rfl ?_
        refine ev_iald i13_33 rfl (n := 60) rfl (p := 34) rfl h (fun g7 h => ?_)
        refine ev_s i13_34 (p := 35) (t := [zI (20000 + (σ 13 0 y2.toNatClampNeg)), zR 1 0]) rfl ?_
        obtain ⟨s9, hr8, h⟩ := bd_some h
        refine ev_callV i13_35 zc1_60 zm16 zo16 (as' := [zI (20000 + (σ 13 0 y2.toNatClampNeg))]) (rest := []) rfl rfl (Nat.le_of_ble_eq_true rfl) (Nat.le_of_ble_eq_true rfl) (Nat.le_of_ble_eq_true rfl) (by omega) (l0 := [some (zR 1 0), some (zI (20000 + (σ 13 0 y2.toNatClampNeg)))]) rfl (p := 38) rfl (kD_write (20000 + (σ 13 0 y2.toNatClampNeg)) σ s9 hr8 (d - 1) (by omega)) ?_
        change zEv d 13 38 [some (zR 1 0), some (zI y1), some (zI y2)] [] s9 _
        refine ev_s i13_38 (p := 39) rfl ?_
        refine ev_s i13_39 (p := 40) rfl ?_
        refine ev_getf i13_40 zf1_22 (u := zI (s9 1 0 3)) rfl (p := 43) rfl ?_
        refine ev_s i13_43 (p := 44) (zic_1 _ _ _ _ _) ?_
        refine ev_s i13_44 (p := 45) (t := [zI ((s9 1 0 3) - 1), zR 1 0]) rfl ?_
        refine ev_putf i13_45 zf1_22 rfl rfl rfl (p := 48) rfl ?_
        refine ev_lets h (fun s10 es10 h => ?_)
        refine ev_iinc i13_48 zii_m1 rfl (l := [some (zR 1 0), some (zI y1), some (zI (y2 + (-1)))]) rfl (p := 51) rfl ?_
        refine ev_goto i13_51 (t := 7) (by decide) ?_
        exact ih y1 (y2 + (-1)) s10 w h
def fD_settle (N : Nat) (x1 : Int32) (σ : zS) : Option (zS) := zlt ((σ 1 0 3) - 1) fun v1 => fD_settle_L7 N N x1 v1 σ
set_option maxHeartbeats 4000000 in
theorem kD_settle (N : Nat) (x1 : Int32) (σ : zS) (w : zS) (h : fD_settle N x1 σ = some w) (d : Nat) (hd : 1 ≤ d) : zEv d 13 0 [some (zR 1 0), some (zI x1), none] [] σ (none, w) := by
  unfold fD_settle at h
  refine ev_s i13_0 (p := 1) rfl ?_
  refine ev_getf i13_1 zf1_22 (u := zI (σ 1 0 3)) rfl (p := 4) rfl ?_
  refine ev_s i13_4 (p := 5) (zic_1 _ _ _ _ _) ?_
  refine ev_s i13_5 (p := 6) (t := [zI ((σ 1 0 3) - 1)]) rfl ?_
  refine ev_let h (fun v1 ev1 h => ?_)
  refine ev_s i13_6 (p := 7) (l := [some (zR 1 0), some (zI x1), some (zI v1)]) rfl ?_
  exact kD_settle_L7 N d hd N x1 v1 σ w h
/-! fD_endValue -/
def fD_endValue_L12 (N : Nat) : Nat → Int32 → zS → Option (zS)
  | 0, _, _ => none
  | n + 1, y1, σ => (if y1 < 0 then some σ else zgd (zin y1 60) ((if (σ 13 0 y1.toNatClampNeg) = 33 then (fD_write 20033 σ).bind fun s7 => zlt (zup s7 1 0 3 ((s7 1 0 3) - 1)) fun s8 => zlt (zup s8 1 0 4 ((s8 1 0 4) - 1)) fun s9 => fD_endValue_L12 N n (y1 + (-1)) s9 else some σ)))
set_option maxHeartbeats 4000000 in
theorem kD_endValue_L12 (N : Nat) (d : Nat) (hd : 1 ≤ d)  : ∀ n : Nat, ∀ (y1 : Int32) (σ : zS) (w : zS), fD_endValue_L12 N n y1 σ = some w → zEv d 10 12 [some (zR 1 0), some (zI y1)] [] σ (none, w) := by
  intro n
  induction n with
  | zero =>
    intro y1 σ w h
    cases h
  | succ n ih =>
    intro y1 σ w h
    rw [fD_endValue_L12] at h
    refine ev_s i10_12 (p := 13) rfl ?_
    refine ev_iflt i10_13 (t := 60) (by decide) (p := 16) rfl h (fun c3 h => ?_) (fun c3 h => ?_)
    · obtain rfl := Option.some.inj h
      exact ev_vret i10_60 zr10
    · refine ev_s i10_16 (p := 17) rfl ?_
      refine ev_getf i10_17 zf1_15 (u := zR 13 0) rfl (p := 20) rfl ?_
      refine ev_s i10_20 (p := 21) rfl ?_
      refine ev_iald i10_21 rfl (n := 60) rfl (p := 22) rfl h (fun g4 h => ?_)
      refine ev_s i10_22 (p := 24) (zib_33 _ _ _ _ _) ?_
      refine ev_cmpne i10_24 (t := 60) (by decide) (p := 27) rfl h (fun c5 h => ?_) (fun c5 h => ?_)
      · refine ev_s i10_27 (p := 28) rfl ?_
        refine ev_s i10_28 (p := 31) (zis_20033 _ _ _ _ _) ?_
        obtain ⟨s7, hr6, h⟩ := bd_some h
        refine ev_callV i10_31 zc1_60 zm16 zo16 (as' := [zI 20033]) (rest := []) rfl rfl (Nat.le_of_ble_eq_true rfl) (Nat.le_of_ble_eq_true rfl) (Nat.le_of_ble_eq_true rfl) (by omega) (l0 := [some (zR 1 0), some (zI 20033)]) rfl (p := 34) rfl (kD_write 20033 σ s7 hr6 (d - 1) (by omega)) ?_
        change zEv d 10 34 [some (zR 1 0), some (zI y1)] [] s7 _
        refine ev_s i10_34 (p := 35) rfl ?_
        refine ev_s i10_35 (p := 36) rfl ?_
        refine ev_getf i10_36 zf1_22 (u := zI (s7 1 0 3)) rfl (p := 39) rfl ?_
        refine ev_s i10_39 (p := 40) (zic_1 _ _ _ _ _) ?_
        refine ev_s i10_40 (p := 41) (t := [zI ((s7 1 0 3) - 1), zR 1 0]) rfl ?_
        refine ev_putf i10_41 zf1_22 rfl rfl rfl (p := 44) rfl ?_
        refine ev_lets h (fun s8 es8 h => ?_)
        refine ev_s i10_44 (p := 45) rfl ?_
        refine ev_s i10_45 (p := 46) rfl ?_
        refine ev_getf i10_46 zf1_25 (u := zI (s8 1 0 4)) rfl (p := 49) rfl ?_
        refine ev_s i10_49 (p := 50) (zic_1 _ _ _ _ _) ?_
        refine ev_s i10_50 (p := 51) (t := [zI ((s8 1 0 4) - 1), zR 1 0]) rfl ?_
        refine ev_putf i10_51 zf1_25 rfl rfl rfl (p := 54) rfl ?_
        refine ev_lets h (fun s9 es9 h => ?_)
        refine ev_iinc i10_54 zii_m1 rfl (l := [some (zR 1 0), some (zI (y1 + (-1)))]) rfl (p := 57) rfl ?_
        refine ev_goto i10_57 (t := 12) (by decide) ?_
        exact ih (y1 + (-1)) s9 w h
      · obtain rfl := Option.some.inj h
        exact ev_vret i10_60 zr10
def fD_endValue (N : Nat) (σ : zS) : Option (zS) := zlt (zup σ 1 0 5 0) fun s1 => zlt ((s1 1 0 3) - 1) fun v2 => fD_endValue_L12 N N v2 s1
set_option maxHeartbeats 4000000 in
theorem kD_endValue (N : Nat) (σ : zS) (w : zS) (h : fD_endValue N σ = some w) (d : Nat) (hd : 1 ≤ d) : zEv d 10 0 [some (zR 1 0), none] [] σ (none, w) := by
  unfold fD_endValue at h
  refine ev_s i10_0 (p := 1) rfl ?_
  refine ev_s i10_1 (p := 2) (zic_0 _ _ _ _ _) ?_
  refine ev_putzK i10_2 zf1_28 rfl rfl (by decide) (p := 5) rfl ?_
  refine ev_lets h (fun s1 es1 h => ?_)
  refine ev_s i10_5 (p := 6) rfl ?_
  refine ev_getf i10_6 zf1_22 (u := zI (s1 1 0 3)) rfl (p := 9) rfl ?_
  refine ev_s i10_9 (p := 10) (zic_1 _ _ _ _ _) ?_
  refine ev_s i10_10 (p := 11) (t := [zI ((s1 1 0 3) - 1)]) rfl ?_
  refine ev_let h (fun v2 ev2 h => ?_)
  refine ev_s i10_11 (p := 12) (l := [some (zR 1 0), some (zI v2)]) rfl ?_
  exact kD_endValue_L12 N d hd N v2 s1 w h
/-! fD_closeOne -/
def fD_closeOne (N : Nat) (σ : zS) : Option (Int32 × zS) := (fD_settle N 1 σ).bind fun s2 => (if (s2 1 0 3) = 0 then some (0, s2) else zlt (zup s2 1 0 3 ((s2 1 0 3) - 1)) fun s4 => zlt (zup s4 1 0 4 ((s4 1 0 4) - 1)) fun s5 => (fD_endValue N s5).bind fun s7 => some (1, s7))
set_option maxHeartbeats 4000000 in
theorem kD_closeOne (N : Nat) (σ : zS) (w : Int32 × zS) (h : fD_closeOne N σ = some w) (d : Nat) (hd : 2 ≤ d) : zEv d 12 0 [some (zR 1 0)] [] σ (some (zI w.1), w.2) := by
  unfold fD_closeOne at h
  refine ev_s i12_0 (p := 1) rfl ?_
  refine ev_s i12_1 (p := 2) (zic_1 _ _ _ _ _) ?_
  obtain ⟨s2, hr1, h⟩ := bd_some h
  refine ev_callV i12_2 zc1_46 zm13 zo13 (as' := [zI 1]) (rest := []) rfl rfl (Nat.le_of_ble_eq_true rfl) (Nat.le_of_ble_eq_true rfl) (Nat.le_of_ble_eq_true rfl) (by omega) (l0 := [some (zR 1 0), some (zI 1), none]) rfl (p := 5) rfl (kD_settle N 1 σ s2 hr1 (d - 1) (by omega)) ?_
  change zEv d 12 5 [some (zR 1 0)] [] s2 _
  refine ev_s i12_5 (p := 6) rfl ?_
  refine ev_getf i12_6 zf1_22 (u := zI (s2 1 0 3)) rfl (p := 9) rfl ?_
  refine ev_ifne i12_9 (t := 14) (by decide) (p := 12) rfl h (fun c3 h => ?_) (fun c3 h => ?_)
  · refine ev_s i12_12 (p := 13) (zic_0 _ _ _ _ _) ?_
    obtain rfl := Option.some.inj h
    exact ev_iret i12_13 zr12
  · refine ev_s i12_14 (p := 15) rfl ?_
    refine ev_s i12_15 (p := 16) rfl ?_
    refine ev_getf i12_16 zf1_22 (u := zI (s2 1 0 3)) rfl (p := 19) rfl ?_
    refine ev_s i12_19 (p := 20) (zic_1 _ _ _ _ _) ?_
    refine ev_s i12_20 (p := 21) (t := [zI ((s2 1 0 3) - 1), zR 1 0]) rfl ?_
    refine ev_putf i12_21 zf1_22 rfl rfl rfl (p := 24) rfl ?_
    refine ev_lets h (fun s4 es4 h => ?_)
    refine ev_s i12_24 (p := 25) rfl ?_
    refine ev_s i12_25 (p := 26) rfl ?_
    refine ev_getf i12_26 zf1_25 (u := zI (s4 1 0 4)) rfl (p := 29) rfl ?_
    refine ev_s i12_29 (p := 30) (zic_1 _ _ _ _ _) ?_
    refine ev_s i12_30 (p := 31) (t := [zI ((s4 1 0 4) - 1), zR 1 0]) rfl ?_
    refine ev_putf i12_31 zf1_25 rfl rfl rfl (p := 34) rfl ?_
    refine ev_lets h (fun s5 es5 h => ?_)
    refine ev_s i12_34 (p := 35) rfl ?_
    obtain ⟨s7, hr6, h⟩ := bd_some h
    refine ev_callV i12_35 zc1_69 zm10 zo10 (as' := []) (rest := []) rfl rfl (Nat.le_of_ble_eq_true rfl) (Nat.le_of_ble_eq_true rfl) (Nat.le_of_ble_eq_true rfl) (by omega) (l0 := [some (zR 1 0), none]) rfl (p := 38) rfl (kD_endValue N s5 s7 hr6 (d - 1) (by omega)) ?_
    change zEv d 12 38 [some (zR 1 0)] [] s7 _
    refine ev_s i12_38 (p := 39) (zic_1 _ _ _ _ _) ?_
    obtain rfl := Option.some.inj h
    exact ev_iret i12_39 zr12
/-! fD_await -/
def fD_await (x1 : Int32) (σ : zS) : Option (zS) := (if 60 ≤ (σ 1 0 3) then some σ else zgd (zin (σ 1 0 3) 60) (zlt (zup σ 13 0 (σ 1 0 3).toNatClampNeg x1) fun s2 => zlt (zup s2 1 0 3 ((s2 1 0 3) + 1)) fun s4 => some s4))
set_option maxHeartbeats 4000000 in
theorem kD_await (x1 : Int32) (σ : zS) (w : zS) (h : fD_await x1 σ = some w) (d : Nat) (hd : 0 ≤ d) : zEv d 15 0 [some (zR 1 0), some (zI x1)] [] σ (none, w) := by
  unfold fD_await at h
  refine ev_s i15_0 (p := 1) rfl ?_
  refine ev_getf i15_1 zf1_22 (u := zI (σ 1 0 3)) rfl (p := 4) rfl ?_
  refine ev_s i15_4 (p := 6) (zib_60 _ _ _ _ _) ?_
  refine ev_cmpge i15_6 (t := 29) (by decide) (p := 9) rfl h (fun c1 h => ?_) (fun c1 h => ?_)
  · obtain rfl := Option.some.inj h
    exact ev_vret i15_29 zr15
  · refine ev_s i15_9 (p := 10) rfl ?_
    refine ev_getf i15_10 zf1_15 (u := zR 13 0) rfl (p := 13) rfl ?_
    refine ev_s i15_13 (p := 14) rfl ?_
    refine ev_getf i15_14 zf1_22 (u := zI (σ 1 0 3)) rfl (p := 17) rfl ?_
    refine ev_s i15_17 (p := 18) rfl ?_
    refine ev_iast i15_18 rfl (n := 60) rfl (p := 19) rfl h (fun g3 h => ?_)
    refine ev_lets h (fun s2 es2 h => ?_)
    refine ev_s i15_19 (p := 20) rfl ?_
    refine ev_s i15_20 (p := 21) rfl ?_
    refine ev_getf i15_21 zf1_22 (u := zI (s2 1 0 3)) rfl (p := 24) rfl ?_
    refine ev_s i15_24 (p := 25) (zic_1 _ _ _ _ _) ?_
    refine ev_s i15_25 (p := 26) (t := [zI ((s2 1 0 3) + 1), zR 1 0]) rfl ?_
    refine ev_putf i15_26 zf1_22 rfl rfl rfl (p := 29) rfl ?_
    refine ev_lets h (fun s4 es4 h => ?_)
    obtain rfl := Option.some.inj h
    exact ev_vret i15_29 zr15
/-! fD_readJoin -/
def fD_readJoin_J64 (N : Nat) (y1 : Int32) (σ : zS) : Option (Int32 × zS) := (fD_await y1 σ).bind fun s19 => zlt (zup s19 1 0 5 1) fun s20 => some (1, s20)
set_option maxHeartbeats 4000000 in
theorem kD_readJoin_J64 (N : Nat) (d : Nat) (hd : 3 ≤ d)  : ∀ (y1 : Int32) (σ : zS) (w : Int32 × zS) (z2 : Option zA), fD_readJoin_J64 N y1 σ = some w → zEv d 11 64 [some (zR 1 0), some (zI y1), z2] [] σ (some (zI w.1), w.2) := by
  intro y1 σ w z2 h
  unfold fD_readJoin_J64 at h
  refine ev_s i11_64 (p := 65) rfl ?_
  refine ev_s i11_65 (p := 66) rfl ?_
  obtain ⟨s19, hr18, h⟩ := bd_some h
  refine ev_callV i11_66 zc1_72 zm15 zo15 (as' := [zI y1]) (rest := []) rfl rfl (Nat.le_of_ble_eq_true rfl) (Nat.le_of_ble_eq_true rfl) (Nat.le_of_ble_eq_true rfl) (by omega) (l0 := [some (zR 1 0), some (zI y1)]) rfl (p := 69) rfl (kD_await y1 σ s19 hr18 (d - 1) (by omega)) ?_
  change zEv d 11 69 [some (zR 1 0), some (zI y1), z2] [] s19 _
  refine ev_s i11_69 (p := 70) rfl ?_
  refine ev_s i11_70 (p := 71) (zic_1 _ _ _ _ _) ?_
  refine ev_putzK i11_71 zf1_28 rfl rfl (by decide) (p := 74) rfl ?_
  refine ev_lets h (fun s20 es20 h => ?_)
  refine ev_s i11_74 (p := 75) (zic_1 _ _ _ _ _) ?_
  obtain rfl := Option.some.inj h
  exact ev_iret i11_75 zr11
def fD_readJoin (N : Nat) (x1 : Int32) (σ : zS) : Option (Int32 × zS) := (if x1 = 41 then zb2 (fD_closeOne N σ) fun r4 s3 => some (r4, s3) else (fD_rank x1).bind fun r6 => (if r6 = 0 then some (0, σ) else (if r6 = 3 then (fD_settle N 4 σ).bind fun s10 => (if (s10 1 0 3) ≤ 0 then fD_readJoin_J64 N x1 s10 else zgd (zin ((s10 1 0 3) - 1) 60) ((fD_rank (s10 13 0 ((s10 1 0 3) - 1).toNatClampNeg)).bind fun r14 => (if r14 = 3 then some (0, s10) else fD_readJoin_J64 N x1 s10))) else (fD_settle N r6 σ).bind fun s17 => fD_readJoin_J64 N x1 s17)))
set_option maxHeartbeats 4000000 in
theorem kD_readJoin (N : Nat) (x1 : Int32) (σ : zS) (w : Int32 × zS) (h : fD_readJoin N x1 σ = some w) (d : Nat) (hd : 3 ≤ d) : zEv d 11 0 [some (zR 1 0), some (zI x1), none] [] σ (some (zI w.1), w.2) := by
  unfold fD_readJoin at h
  refine ev_s i11_0 (p := 1) rfl ?_
  refine ev_s i11_1 (p := 3) (zib_41 _ _ _ _ _) ?_
  refine ev_cmpne i11_3 (t := 11) (by decide) (p := 6) rfl h (fun c1 h => ?_) (fun c1 h => ?_)
  · refine ev_s i11_6 (p := 7) rfl ?_
    obtain ⟨r4, s3, hr2, h⟩ := b2_some h
    refine ev_callV i11_7 zc1_83 zm12 zo12 (as' := []) (rest := []) rfl rfl (Nat.le_of_ble_eq_true rfl) (Nat.le_of_ble_eq_true rfl) (Nat.le_of_ble_eq_true rfl) (by omega) (l0 := [some (zR 1 0)]) rfl (p := 10) rfl (kD_closeOne N σ (r4, s3) hr2 (d - 1) (by omega)) ?_
    change zEv d 11 10 [some (zR 1 0), some (zI x1), none] [zI r4] s3 _
    obtain rfl := Option.some.inj h
    exact ev_iret i11_10 zr11
  · refine ev_s i11_11 (p := 12) rfl ?_
    obtain ⟨r6, hr5, h⟩ := bd_some h
    refine ev_callS i11_12 zn1_87 zc1_87 zm14 (as := [zI x1]) (rest := []) rfl rfl (Nat.le_of_ble_eq_true rfl) (Nat.le_of_ble_eq_true rfl) (Nat.le_of_ble_eq_true rfl) (by omega) (l0 := [some (zI x1)]) rfl (p := 15) rfl (kD_rank x1 σ r6 hr5 (d - 1) (by omega)) ?_
    change zEv d 11 15 [some (zR 1 0), some (zI x1), none] [zI r6] σ _
    refine ev_s i11_15 (p := 16) (l := [some (zR 1 0), some (zI x1), some (zI r6)]) rfl ?_
    refine ev_s i11_16 (p := 17) rfl ?_
    refine ev_ifne i11_17 (t := 22) (by decide) (p := 20) rfl h (fun c7 h => ?_) (fun c7 h => ?_)
    · refine ev_s i11_20 (p := 21) (zic_0 _ _ _ _ _) ?_
      obtain rfl := Option.some.inj h
      exact ev_iret i11_21 zr11
    · refine ev_s i11_22 (p := 23) rfl ?_
      refine ev_s i11_23 (p := 24) (zic_3 _ _ _ _ _) ?_
      refine ev_cmpne i11_24 (t := 59) (by decide) (p := 27) rfl h (fun c8 h => ?_) (fun c8 h => ?_)
      · refine ev_s i11_27 (p := 28) rfl ?_
        refine ev_s i11_28 (p := 29) (zic_4 _ _ _ _ _) ?_
        obtain ⟨s10, hr9, h⟩ := bd_some h
        refine ev_callV i11_29 zc1_46 zm13 zo13 (as' := [zI 4]) (rest := []) rfl rfl (Nat.le_of_ble_eq_true rfl) (Nat.le_of_ble_eq_true rfl) (Nat.le_of_ble_eq_true rfl) (by omega) (l0 := [some (zR 1 0), some (zI 4), none]) rfl (p := 32) rfl (kD_settle N 4 σ s10 hr9 (d - 1) (by omega)) ?_
        change zEv d 11 32 [some (zR 1 0), some (zI x1), some (zI r6)] [] s10 _
        refine ev_s i11_32 (p := 33) rfl ?_
        refine ev_getf i11_33 zf1_22 (u := zI (s10 1 0 3)) rfl (p := 36) rfl ?_
        refine ev_ifle i11_36 (t := 64) (by decide) (p := 39) rfl h (fun c11 h => ?_) (fun c11 h => ?_)
        · exact kD_readJoin_J64 N d hd x1 s10 w _ h
        · refine ev_s i11_39 (p := 40) rfl ?_
          refine ev_getf i11_40 zf1_15 (u := zR 13 0) rfl (p := 43) rfl ?_
          refine ev_s i11_43 (p := 44) rfl ?_
          refine ev_getf i11_44 zf1_22 (u := zI (s10 1 0 3)) rfl (p := 47) rfl ?_
          refine ev_s i11_47 (p := 48) (zic_1 _ _ _ _ _) ?_
          refine ev_s i11_48 (p := 49) (t := [zI ((s10 1 0 3) - 1), zR 13 0]) rfl ?_
          refine ev_iald i11_49 rfl (n := 60) rfl (p := 50) rfl h (fun g12 h => ?_)
          obtain ⟨r14, hr13, h⟩ := bd_some h
          refine ev_callS i11_50 zn1_87 zc1_87 zm14 (as := [zI (s10 13 0 ((s10 1 0 3) - 1).toNatClampNeg)]) (rest := []) rfl rfl (Nat.le_of_ble_eq_true rfl) (Nat.le_of_ble_eq_true rfl) (Nat.le_of_ble_eq_true rfl) (by omega) (l0 := [some (zI (s10 13 0 ((s10 1 0 3) - 1).toNatClampNeg))]) rfl (p := 53) rfl (kD_rank (s10 13 0 ((s10 1 0 3) - 1).toNatClampNeg) s10 r14 hr13 (d - 1) (by omega)) ?_
          change zEv d 11 53 [some (zR 1 0), some (zI x1), some (zI r6)] [zI r14] s10 _
          refine ev_s i11_53 (p := 54) (zic_3 _ _ _ _ _) ?_
          refine ev_cmpne i11_54 (t := 64) (by decide) (p := 57) rfl h (fun c15 h => ?_) (fun c15 h => ?_)
          · refine ev_s i11_57 (p := 58) (zic_0 _ _ _ _ _) ?_
            obtain rfl := Option.some.inj h
            exact ev_iret i11_58 zr11
          · exact kD_readJoin_J64 N d hd x1 s10 w _ h
      · refine ev_s i11_59 (p := 60) rfl ?_
        refine ev_s i11_60 (p := 61) rfl ?_
        obtain ⟨s17, hr16, h⟩ := bd_some h
        refine ev_callV i11_61 zc1_46 zm13 zo13 (as' := [zI r6]) (rest := []) rfl rfl (Nat.le_of_ble_eq_true rfl) (Nat.le_of_ble_eq_true rfl) (Nat.le_of_ble_eq_true rfl) (by omega) (l0 := [some (zR 1 0), some (zI r6), none]) rfl (p := 64) rfl (kD_settle N r6 σ s17 hr16 (d - 1) (by omega)) ?_
        change zEv d 11 64 [some (zR 1 0), some (zI x1), some (zI r6)] [] s17 _
        exact kD_readJoin_J64 N d hd x1 s17 w _ h
/-! fD_isDigit -/
def fD_isDigit (x0 : Int32) : Option (Int32) := (if x0 < 48 then some (0) else (if 57 < x0 then some (0) else some (1)))
set_option maxHeartbeats 4000000 in
theorem kD_isDigit (x0 : Int32) (σ : zS) (w : Int32) (h : fD_isDigit x0 = some w) (d : Nat) (hd : 0 ≤ d) : zEv d 7 0 [some (zI x0)] [] σ (some (zI w), σ) := by
  unfold fD_isDigit at h
  refine ev_s i7_0 (p := 1) rfl ?_
  refine ev_s i7_1 (p := 3) (zib_48 _ _ _ _ _) ?_
  refine ev_cmplt i7_3 (t := 16) (by decide) (p := 6) rfl h (fun c1 h => ?_) (fun c1 h => ?_)
  · refine ev_s i7_16 (p := 17) (zic_0 _ _ _ _ _) ?_
    obtain rfl := Option.some.inj h
    exact ev_zret i7_17 zr7 (by decide)
  · refine ev_s i7_6 (p := 7) rfl ?_
    refine ev_s i7_7 (p := 9) (zib_57 _ _ _ _ _) ?_
    refine ev_cmpgt i7_9 (t := 16) (by decide) (p := 12) rfl h (fun c2 h => ?_) (fun c2 h => ?_)
    · refine ev_s i7_16 (p := 17) (zic_0 _ _ _ _ _) ?_
      obtain rfl := Option.some.inj h
      exact ev_zret i7_17 zr7 (by decide)
    · refine ev_s i7_12 (p := 13) (zic_1 _ _ _ _ _) ?_
      refine ev_goto i7_13 (t := 17) (by decide) ?_
      obtain rfl := Option.some.inj h
      exact ev_zret i7_17 zr7 (by decide)
/-! fD_digits -/
def fD_digits_L4 (N : Nat) (p0 : Nat) : Nat → Int32 → Int32 → zS → Option (Int32)
  | 0, _, _, _ => none
  | n + 1, y2, y3, σ => (if (σ 3 p0 1) ≤ y3 then some (y2) else (if 4 ≤ y2 then some (y2) else zgd (zin y3 (if p0 % 2 = 0 then 60 else 24)) ((fD_isDigit (σ 22 p0 y3.toNatClampNeg)).bind fun r5 => (if r5 = 0 then some (y2) else fD_digits_L4 N p0 n (y2 + 1) (y3 + 1) σ))))
set_option maxHeartbeats 4000000 in
theorem kD_digits_L4 (N : Nat) (p0 : Nat) (d : Nat) (hd : 1 ≤ d)  : ∀ n : Nat, ∀ (y2 : Int32) (y3 : Int32) (σ : zS) (w : Int32) (z1 : Option zA) (hz1 : znl z1 = true), fD_digits_L4 N p0 n y2 y3 σ = some w → zEv d 6 4 [some (zR 3 p0), z1, some (zI y2), some (zI y3)] [] σ (some (zI w), σ) := by
  intro n
  induction n with
  | zero =>
    intro y2 y3 σ w z1 hz1 h
    cases h
  | succ n ih =>
    intro y2 y3 σ w z1 hz1 h
    rw [fD_digits_L4] at h
    refine ev_s i6_4 (p := 5) rfl ?_
    refine ev_s i6_5 (p := 6) rfl ?_
    refine ev_getf i6_6 zf1_32 (u := zI (σ 3 p0 1)) rfl (p := 9) rfl ?_
    refine ev_cmpge i6_9 (t := 38) (by decide) (p := 12) rfl h (fun c1 h => ?_) (fun c1 h => ?_)
    · refine ev_s i6_38 (p := 39) rfl ?_
      obtain rfl := Option.some.inj h
      exact ev_iret i6_39 zr6
    · refine ev_s i6_12 (p := 13) rfl ?_
      refine ev_s i6_13 (p := 14) (zic_4 _ _ _ _ _) ?_
      refine ev_cmpge i6_14 (t := 38) (by decide) (p := 17) rfl h (fun c2 h => ?_) (fun c2 h => ?_)
      · refine ev_s i6_38 (p := 39) rfl ?_
        obtain rfl := Option.some.inj h
        exact ev_iret i6_39 zr6
      · refine ev_s i6_17 (p := 18) rfl ?_
        refine ev_getf i6_18 zf1_39 (u := zR 22 p0) rfl (p := 21) rfl ?_
        refine ev_s i6_21 (p := 22) rfl ?_
        refine ev_iald i6_22 rfl (n := (if p0 % 2 = 0 then 60 else 24)) rfl (p := 23) rfl h (fun g3 h => ?_)
        obtain ⟨r5, hr4, h⟩ := bd_some h
        refine ev_callS i6_23 zn1_75 zc1_75 zm7 (as := [zI (σ 22 p0 y3.toNatClampNeg)]) (rest := []) rfl rfl (Nat.le_of_ble_eq_true rfl) (Nat.le_of_ble_eq_true rfl) (Nat.le_of_ble_eq_true rfl) (by omega) (l0 := [some (zI (σ 22 p0 y3.toNatClampNeg))]) rfl (p := 26) rfl (kD_isDigit (σ 22 p0 y3.toNatClampNeg) σ r5 hr4 (d - 1) (by omega)) ?_
        change zEv d 6 26 [some (zR 3 p0), z1, some (zI y2), some (zI y3)] [zI r5] σ _
        refine ev_ifeq i6_26 (t := 38) (by decide) (p := 29) rfl h (fun c6 h => ?_) (fun c6 h => ?_)
        · refine ev_s i6_38 (p := 39) rfl ?_
          obtain rfl := Option.some.inj h
          exact ev_iret i6_39 zr6
        · refine ev_iinc i6_29 zii_1 rfl (l := [some (zR 3 p0), z1, some (zI (y2 + 1)), some (zI y3)]) (by rcases z1 with _ | _ | _ | _ <;> first | rfl | cases hz1) (p := 32) rfl ?_
          refine ev_iinc i6_32 zii_1 rfl (l := [some (zR 3 p0), z1, some (zI (y2 + 1)), some (zI (y3 + 1))]) rfl (p := 35) rfl ?_
          refine ev_goto i6_35 (t := 4) (by decide) ?_
          exact ih (y2 + 1) (y3 + 1) σ w _ hz1 h
def fD_digits (N : Nat) (p0 : Nat) (x1 : Int32) (σ : zS) : Option (Int32) := fD_digits_L4 N p0 N 0 x1 σ
set_option maxHeartbeats 4000000 in
theorem kD_digits (N : Nat) (p0 : Nat) (x1 : Int32) (σ : zS) (w : Int32) (h : fD_digits N p0 x1 σ = some w) (d : Nat) (hd : 1 ≤ d) : zEv d 6 0 [some (zR 3 p0), some (zI x1), none, none] [] σ (some (zI w), σ) := by
  unfold fD_digits at h
  refine ev_s i6_0 (p := 1) (zic_0 _ _ _ _ _) ?_
  refine ev_s i6_1 (p := 2) (l := [some (zR 3 p0), some (zI x1), some (zI 0), none]) rfl ?_
  refine ev_s i6_2 (p := 3) rfl ?_
  refine ev_s i6_3 (p := 4) (l := [some (zR 3 p0), some (zI x1), some (zI 0), some (zI x1)]) rfl ?_
  exact kD_digits_L4 N p0 d hd N 0 x1 σ w _ rfl h
/-! fD_nameOf -/
def fD_nameOf_J21 (N : Nat) (K2 : Int32 → Int32 → Int32 → zS → Option (Int32)) (y0 : Int32) (y1 : Int32) (y2 : Int32) (u0 : Int32) (σ : zS) : Option (Int32) := zgd (zin u0 6) ((if (σ 51 0 u0.toNatClampNeg) = y0 then some (y2) else K2 y0 y1 (y2 + 1) σ))
set_option maxHeartbeats 4000000 in
theorem kD_nameOf_J21 (N : Nat) (d : Nat) (hd : 0 ≤ d) (K2 : Int32 → Int32 → Int32 → zS → Option (Int32)) (hK2 : ∀ (y0 : Int32) (y1 : Int32) (y2 : Int32) (σ : zS) (w : Int32), K2 y0 y1 y2 σ = some w → zEv d 9 2 [some (zI y0), some (zI y1), some (zI y2)] [] σ (some (zI w), σ)) : ∀ (y0 : Int32) (y1 : Int32) (y2 : Int32) (u0 : Int32) (σ : zS) (w : Int32), fD_nameOf_J21 N K2 y0 y1 y2 u0 σ = some w → zEv d 9 21 [some (zI y0), some (zI y1), some (zI y2)] [zI u0, zR 51 0] σ (some (zI w), σ) := by
  intro y0 y1 y2 u0 σ w h
  unfold fD_nameOf_J21 at h
  refine ev_cald i9_21 (p := 22) rfl h (fun g3 h => ?_)
  refine ev_s i9_22 (p := 23) rfl ?_
  refine ev_cmpne i9_23 (t := 28) (by decide) (p := 26) rfl h (fun c4 h => ?_) (fun c4 h => ?_)
  · refine ev_s i9_26 (p := 27) rfl ?_
    obtain rfl := Option.some.inj h
    exact ev_iret i9_27 zr9
  · refine ev_iinc i9_28 zii_1 rfl (l := [some (zI y0), some (zI y1), some (zI (y2 + 1))]) rfl (p := 31) rfl ?_
    refine ev_goto i9_31 (t := 2) (by decide) ?_
    exact hK2 y0 y1 (y2 + 1) σ w h
def fD_nameOf_L2 (N : Nat) : Nat → Int32 → Int32 → Int32 → zS → Option (Int32)
  | 0, _, _, _, _ => none
  | n + 1, y0, y1, y2, σ => (if 3 ≤ y2 then some ((-1)) else (if y1 = 0 then fD_nameOf_J21 N (fun y0 y1 y2 σ => fD_nameOf_L2 N n y0 y1 y2 σ) y0 y1 y2 y2 σ else fD_nameOf_J21 N (fun y0 y1 y2 σ => fD_nameOf_L2 N n y0 y1 y2 σ) y0 y1 y2 (3 + y2) σ))
set_option maxHeartbeats 4000000 in
theorem kD_nameOf_L2 (N : Nat) (d : Nat) (hd : 0 ≤ d)  : ∀ n : Nat, ∀ (y0 : Int32) (y1 : Int32) (y2 : Int32) (σ : zS) (w : Int32), fD_nameOf_L2 N n y0 y1 y2 σ = some w → zEv d 9 2 [some (zI y0), some (zI y1), some (zI y2)] [] σ (some (zI w), σ) := by
  intro n
  induction n with
  | zero =>
    intro y0 y1 y2 σ w h
    cases h
  | succ n ih =>
    intro y0 y1 y2 σ w h
    rw [fD_nameOf_L2] at h
    refine ev_s i9_2 (p := 3) rfl ?_
    refine ev_s i9_3 (p := 4) (zic_3 _ _ _ _ _) ?_
    refine ev_cmpge i9_4 (t := 34) (by decide) (p := 7) rfl h (fun c1 h => ?_) (fun c1 h => ?_)
    · refine ev_s i9_34 (p := 35) (zic_m1 _ _ _ _ _) ?_
      obtain rfl := Option.some.inj h
      exact ev_iret i9_35 zr9
    · refine ev_gets i9_7 zg1_79 (p := 10) rfl ?_
      refine ev_s i9_10 (p := 11) rfl ?_
      refine ev_ifne i9_11 (t := 18) (by decide) (p := 14) rfl h (fun c2 h => ?_) (fun c2 h => ?_)
      · refine ev_s i9_14 (p := 15) rfl ?_
        refine ev_goto i9_15 (t := 21) (by decide) ?_
        exact kD_nameOf_J21 N d hd (fun y0 y1 y2 σ => fD_nameOf_L2 N n y0 y1 y2 σ) ih y0 y1 y2 y2 σ w h
      · refine ev_s i9_18 (p := 19) (zic_3 _ _ _ _ _) ?_
        refine ev_s i9_19 (p := 20) rfl ?_
        refine ev_s i9_20 (p := 21) (t := [zI (3 + y2), zR 51 0]) rfl ?_
        exact kD_nameOf_J21 N d hd (fun y0 y1 y2 σ => fD_nameOf_L2 N n y0 y1 y2 σ) ih y0 y1 y2 (3 + y2) σ w h
def fD_nameOf (N : Nat) (x0 : Int32) (x1 : Int32) (σ : zS) : Option (Int32) := fD_nameOf_L2 N N x0 x1 0 σ
set_option maxHeartbeats 4000000 in
theorem kD_nameOf (N : Nat) (x0 : Int32) (x1 : Int32) (σ : zS) (w : Int32) (h : fD_nameOf N x0 x1 σ = some w) (d : Nat) (hd : 0 ≤ d) : zEv d 9 0 [some (zI x0), some (zI x1), none] [] σ (some (zI w), σ) := by
  unfold fD_nameOf at h
  refine ev_s i9_0 (p := 1) (zic_0 _ _ _ _ _) ?_
  refine ev_s i9_1 (p := 2) (l := [some (zI x0), some (zI x1), some (zI 0)]) rfl ?_
  exact kD_nameOf_L2 N d hd N x0 x1 0 σ w h
/-! fD_number -/
def fD_number_L5 (N : Nat) (p0 : Nat) : Nat → Int32 → Int32 → Int32 → Int32 → zS → Option (Int32)
  | 0, _, _, _, _, _ => none
  | n + 1, y1, y2, y3, y4, σ => (if (y1 + y2) ≤ y4 then some (y3) else (if (σ 3 p0 1) ≤ y4 then some (y3) else zgd (zin y4 (if p0 % 2 = 0 then 60 else 24)) (zlt (((y3 * 10) + (σ 22 p0 y4.toNatClampNeg)) - 48) fun v4 => fD_number_L5 N p0 n y1 y2 v4 (y4 + 1) σ)))
set_option maxHeartbeats 4000000 in
theorem kD_number_L5 (N : Nat) (p0 : Nat) (d : Nat) (hd : 0 ≤ d)  : ∀ n : Nat, ∀ (y1 : Int32) (y2 : Int32) (y3 : Int32) (y4 : Int32) (σ : zS) (w : Int32), fD_number_L5 N p0 n y1 y2 y3 y4 σ = some w → zEv d 8 5 [some (zR 3 p0), some (zI y1), some (zI y2), some (zI y3), some (zI y4)] [] σ (some (zI w), σ) := by
  intro n
  induction n with
  | zero =>
    intro y1 y2 y3 y4 σ w h
    cases h
  | succ n ih =>
    intro y1 y2 y3 y4 σ w h
    rw [fD_number_L5] at h
    refine ev_s i8_5 (p := 7) rfl ?_
    refine ev_s i8_7 (p := 8) rfl ?_
    refine ev_s i8_8 (p := 9) rfl ?_
    refine ev_s i8_9 (p := 10) (t := [zI (y1 + y2), zI y4]) rfl ?_
    refine ev_cmpge i8_10 (t := 44) (by decide) (p := 13) rfl h (fun c1 h => ?_) (fun c1 h => ?_)
    · refine ev_s i8_44 (p := 45) rfl ?_
      obtain rfl := Option.some.inj h
      exact ev_iret i8_45 zr8
    · refine ev_s i8_13 (p := 15) rfl ?_
      refine ev_s i8_15 (p := 16) rfl ?_
      refine ev_getf i8_16 zf1_32 (u := zI (σ 3 p0 1)) rfl (p := 19) rfl ?_
      refine ev_cmpge i8_19 (t := 44) (by decide) (p := 22) rfl h (fun c2 h => ?_) (fun c2 h => ?_)
      · refine ev_s i8_44 (p := 45) rfl ?_
        obtain rfl := Option.some.inj h
        exact ev_iret i8_45 zr8
      · refine ev_s i8_22 (p := 23) rfl ?_
        refine ev_s i8_23 (p := 25) (zib_10 _ _ _ _ _) ?_
        refine ev_s i8_25 (p := 26) (t := [zI (y3 * 10)]) rfl ?_
        refine ev_s i8_26 (p := 27) rfl ?_
        refine ev_getf i8_27 zf1_39 (u := zR 22 p0) rfl (p := 30) rfl ?_
        refine ev_s i8_30 (p := 32) rfl ?_
        refine ev_iald i8_32 rfl (n := (if p0 % 2 = 0 then 60 else 24)) rfl (p := 33) rfl h (fun g3 h => ?_)
        refine ev_s i8_33 (p := 34) (t := [zI ((y3 * 10) + (σ 22 p0 y4.toNatClampNeg))]) rfl ?_
        refine ev_s i8_34 (p := 36) (zib_48 _ _ _ _ _) ?_
        refine ev_s i8_36 (p := 37) (t := [zI (((y3 * 10) + (σ 22 p0 y4.toNatClampNeg)) - 48)]) rfl ?_
        refine ev_let h (fun v4 ev4 h => ?_)
        refine ev_s i8_37 (p := 38) (l := [some (zR 3 p0), some (zI y1), some (zI y2), some (zI v4), some (zI y4)]) rfl ?_
        refine ev_iinc i8_38 zii_1 rfl (l := [some (zR 3 p0), some (zI y1), some (zI y2), some (zI v4), some (zI (y4 + 1))]) rfl (p := 41) rfl ?_
        refine ev_goto i8_41 (t := 5) (by decide) ?_
        exact ih y1 y2 v4 (y4 + 1) σ w h
def fD_number (N : Nat) (p0 : Nat) (x1 : Int32) (x2 : Int32) (σ : zS) : Option (Int32) := fD_number_L5 N p0 N x1 x2 0 x1 σ
set_option maxHeartbeats 4000000 in
theorem kD_number (N : Nat) (p0 : Nat) (x1 : Int32) (x2 : Int32) (σ : zS) (w : Int32) (h : fD_number N p0 x1 x2 σ = some w) (d : Nat) (hd : 0 ≤ d) : zEv d 8 0 [some (zR 3 p0), some (zI x1), some (zI x2), none, none] [] σ (some (zI w), σ) := by
  unfold fD_number at h
  refine ev_s i8_0 (p := 1) (zic_0 _ _ _ _ _) ?_
  refine ev_s i8_1 (p := 2) (l := [some (zR 3 p0), some (zI x1), some (zI x2), some (zI 0), none]) rfl ?_
  refine ev_s i8_2 (p := 3) rfl ?_
  refine ev_s i8_3 (p := 5) (l := [some (zR 3 p0), some (zI x1), some (zI x2), some (zI 0), some (zI x1)]) rfl ?_
  exact kD_number_L5 N p0 d hd N x1 x2 0 x1 σ w h
/-! fD_openOne -/
def fD_openOne (x1 : Int32) (σ : zS) : Option (Int32 × zS) := (if (σ 1 0 4) < 5 then zlt (zup σ 1 0 4 ((σ 1 0 4) + 1)) fun s2 => (fD_await x1 s2).bind fun s4 => some (1, s4) else some (0, σ))
set_option maxHeartbeats 4000000 in
theorem kD_openOne (x1 : Int32) (σ : zS) (w : Int32 × zS) (h : fD_openOne x1 σ = some w) (d : Nat) (hd : 1 ≤ d) : zEv d 5 0 [some (zR 1 0), some (zI x1)] [] σ (some (zI w.1), w.2) := by
  unfold fD_openOne at h
  refine ev_s i5_0 (p := 1) rfl ?_
  refine ev_getf i5_1 zf1_25 (u := zI (σ 1 0 4)) rfl (p := 4) rfl ?_
  refine ev_s i5_4 (p := 5) (zic_5 _ _ _ _ _) ?_
  refine ev_cmplt i5_5 (t := 10) (by decide) (p := 8) rfl h (fun c1 h => ?_) (fun c1 h => ?_)
  · refine ev_s i5_10 (p := 11) rfl ?_
    refine ev_s i5_11 (p := 12) rfl ?_
    refine ev_getf i5_12 zf1_25 (u := zI (σ 1 0 4)) rfl (p := 15) rfl ?_
    refine ev_s i5_15 (p := 16) (zic_1 _ _ _ _ _) ?_
    refine ev_s i5_16 (p := 17) (t := [zI ((σ 1 0 4) + 1), zR 1 0]) rfl ?_
    refine ev_putf i5_17 zf1_25 rfl rfl rfl (p := 20) rfl ?_
    refine ev_lets h (fun s2 es2 h => ?_)
    refine ev_s i5_20 (p := 21) rfl ?_
    refine ev_s i5_21 (p := 22) rfl ?_
    obtain ⟨s4, hr3, h⟩ := bd_some h
    refine ev_callV i5_22 zc1_72 zm15 zo15 (as' := [zI x1]) (rest := []) rfl rfl (Nat.le_of_ble_eq_true rfl) (Nat.le_of_ble_eq_true rfl) (Nat.le_of_ble_eq_true rfl) (by omega) (l0 := [some (zR 1 0), some (zI x1)]) rfl (p := 25) rfl (kD_await x1 s2 s4 hr3 (d - 1) (by omega)) ?_
    change zEv d 5 25 [some (zR 1 0), some (zI x1)] [] s4 _
    refine ev_s i5_25 (p := 26) (zic_1 _ _ _ _ _) ?_
    obtain rfl := Option.some.inj h
    exact ev_iret i5_26 zr5
  · refine ev_s i5_8 (p := 9) (zic_0 _ _ _ _ _) ?_
    obtain rfl := Option.some.inj h
    exact ev_iret i5_9 zr5
/-! fD_readValue -/
def fD_readValue_J83 (N : Nat) (p1 : Nat) (y5 : Int32) (σ : zS) : Option (Int32 × zS) := (fD_endValue N σ).bind fun s21 => some (y5, s21)
set_option maxHeartbeats 4000000 in
theorem kD_readValue_J83 (N : Nat) (p1 : Nat) (d : Nat) (hd : 2 ≤ d)  : ∀ (y5 : Int32) (σ : zS) (w : Int32 × zS) (z1 : Option zA) (z2 : Option zA) (z3 : Option zA) (hz3 : znl z3 = true) (z4 : Option zA) (hz4 : znl z4 = true) (z6 : Option zA), fD_readValue_J83 N p1 y5 σ = some w → zEv d 4 83 [some (zR 1 0), z1, z2, z3, z4, some (zI y5), z6] [] σ (some (zI w.1), w.2) := by
  intro y5 σ w z1 z2 z3 hz3 z4 hz4 z6 h
  unfold fD_readValue_J83 at h
  refine ev_s i4_83 (p := 84) rfl ?_
  obtain ⟨s21, hr20, h⟩ := bd_some h
  refine ev_callV i4_84 zc1_69 zm10 zo10 (as' := []) (rest := []) rfl rfl (Nat.le_of_ble_eq_true rfl) (Nat.le_of_ble_eq_true rfl) (Nat.le_of_ble_eq_true rfl) (by omega) (l0 := [some (zR 1 0), none]) rfl (p := 87) rfl (kD_endValue N σ s21 hr20 (d - 1) (by omega)) ?_
  change zEv d 4 87 [some (zR 1 0), z1, z2, z3, z4, some (zI y5), z6] [] s21 _
  refine ev_s i4_87 (p := 89) rfl ?_
  obtain rfl := Option.some.inj h
  exact ev_iret i4_89 zr4
def fD_readValue_J22 (N : Nat) (p1 : Nat) (y4 : Int32) (σ : zS) : Option (Int32 × zS) := zb2 (fD_openOne y4 σ) fun r19 s18 => some (r19, s18)
set_option maxHeartbeats 4000000 in
theorem kD_readValue_J22 (N : Nat) (p1 : Nat) (d : Nat) (hd : 2 ≤ d)  : ∀ (y4 : Int32) (σ : zS) (w : Int32 × zS) (z1 : Option zA) (z2 : Option zA) (z3 : Option zA) (hz3 : znl z3 = true) (z5 : Option zA) (hz5 : znl z5 = true) (z6 : Option zA), fD_readValue_J22 N p1 y4 σ = some w → zEv d 4 22 [some (zR 1 0), z1, z2, z3, some (zI y4), z5, z6] [] σ (some (zI w.1), w.2) := by
  intro y4 σ w z1 z2 z3 hz3 z5 hz5 z6 h
  unfold fD_readValue_J22 at h
  refine ev_s i4_22 (p := 23) rfl ?_
  refine ev_s i4_23 (p := 25) rfl ?_
  obtain ⟨r19, s18, hr17, h⟩ := b2_some h
  refine ev_callV i4_25 zc1_50 zm5 zo5 (as' := [zI y4]) (rest := []) rfl rfl (Nat.le_of_ble_eq_true rfl) (Nat.le_of_ble_eq_true rfl) (Nat.le_of_ble_eq_true rfl) (by omega) (l0 := [some (zR 1 0), some (zI y4)]) rfl (p := 28) rfl (kD_openOne y4 σ (r19, s18) hr17 (d - 1) (by omega)) ?_
  change zEv d 4 28 [some (zR 1 0), z1, z2, z3, some (zI y4), z5, z6] [zI r19] s18 _
  obtain rfl := Option.some.inj h
  exact ev_iret i4_28 zr4
def fD_readValue (N : Nat) (p1 : Nat) (x2 : Int32) (x3 : Int32) (σ : zS) : Option (Int32 × zS) := zgd (zin x2 (if p1 % 2 = 0 then 60 else 24)) (zlt (σ 22 p1 x2.toNatClampNeg) fun v2 => (if v2 = 33 then fD_readValue_J22 N p1 v2 σ else (if v2 = 40 then fD_readValue_J22 N p1 v2 σ else (fD_digits N p1 x2 σ).bind fun r6 => (if r6 ≤ 0 then (fD_nameOf N v2 x3 σ).bind fun r9 => (if 0 ≤ r9 then (fD_write (10000 + r9) σ).bind fun s12 => fD_readValue_J83 N p1 1 s12 else some (0, σ)) else (fD_number N p1 x2 r6 σ).bind fun r14 => (fD_write r14 σ).bind fun s16 => fD_readValue_J83 N p1 r6 s16))))
set_option maxHeartbeats 4000000 in
theorem kD_readValue (N : Nat) (p1 : Nat) (x2 : Int32) (x3 : Int32) (σ : zS) (w : Int32 × zS) (h : fD_readValue N p1 x2 x3 σ = some w) (d : Nat) (hd : 2 ≤ d) : zEv d 4 0 [some (zR 1 0), some (zR 3 p1), some (zI x2), some (zI x3), none, none, none] [] σ (some (zI w.1), w.2) := by
  unfold fD_readValue at h
  refine ev_s i4_0 (p := 1) rfl ?_
  refine ev_getf i4_1 zf1_39 (u := zR 22 p1) rfl (p := 4) rfl ?_
  refine ev_s i4_4 (p := 5) rfl ?_
  refine ev_iald i4_5 rfl (n := (if p1 % 2 = 0 then 60 else 24)) rfl (p := 6) rfl h (fun g1 h => ?_)
  refine ev_let h (fun v2 ev2 h => ?_)
  refine ev_s i4_6 (p := 8) (l := [some (zR 1 0), some (zR 3 p1), some (zI x2), some (zI x3), some (zI v2), none, none]) rfl ?_
  refine ev_s i4_8 (p := 10) rfl ?_
  refine ev_s i4_10 (p := 12) (zib_33 _ _ _ _ _) ?_
  refine ev_cmpeq i4_12 (t := 22) (by decide) (p := 15) rfl h (fun c3 h => ?_) (fun c3 h => ?_)
  · exact kD_readValue_J22 N p1 d hd v2 σ w _ _ _ rfl _ rfl _ h
  · refine ev_s i4_15 (p := 17) rfl ?_
    refine ev_s i4_17 (p := 19) (zib_40 _ _ _ _ _) ?_
    refine ev_cmpne i4_19 (t := 29) (by decide) (p := 22) rfl h (fun c4 h => ?_) (fun c4 h => ?_)
    · exact kD_readValue_J22 N p1 d hd v2 σ w _ _ _ rfl _ rfl _ h
    · refine ev_s i4_29 (p := 30) rfl ?_
      refine ev_s i4_30 (p := 31) rfl ?_
      obtain ⟨r6, hr5, h⟩ := bd_some h
      refine ev_callS i4_31 zn1_53 zc1_53 zm6 (as := [zR 3 p1, zI x2]) (rest := []) rfl rfl (Nat.le_of_ble_eq_true rfl) (Nat.le_of_ble_eq_true rfl) (Nat.le_of_ble_eq_true rfl) (by omega) (l0 := [some (zR 3 p1), some (zI x2), none, none]) rfl (p := 34) rfl (kD_digits N p1 x2 σ r6 hr5 (d - 1) (by omega)) ?_
      change zEv d 4 34 [some (zR 1 0), some (zR 3 p1), some (zI x2), some (zI x3), some (zI v2), none, none] [zI r6] σ _
      refine ev_s i4_34 (p := 36) (l := [some (zR 1 0), some (zR 3 p1), some (zI x2), some (zI x3), some (zI v2), some (zI r6), none]) rfl ?_
      refine ev_s i4_36 (p := 38) rfl ?_
      refine ev_ifle i4_38 (t := 55) (by decide) (p := 41) rfl h (fun c7 h => ?_) (fun c7 h => ?_)
      · refine ev_s i4_55 (p := 57) rfl ?_
        refine ev_s i4_57 (p := 58) rfl ?_
        obtain ⟨r9, hr8, h⟩ := bd_some h
        refine ev_callS i4_58 zn1_63 zc1_63 zm9 (as := [zI v2, zI x3]) (rest := []) rfl rfl (Nat.le_of_ble_eq_true rfl) (Nat.le_of_ble_eq_true rfl) (Nat.le_of_ble_eq_true rfl) (by omega) (l0 := [some (zI v2), some (zI x3), none]) rfl (p := 61) rfl (kD_nameOf N v2 x3 σ r9 hr8 (d - 1) (by omega)) ?_
        change zEv d 4 61 [some (zR 1 0), some (zR 3 p1), some (zI x2), some (zI x3), some (zI v2), some (zI r6), none] [zI r9] σ _
        refine ev_s i4_61 (p := 63) (l := [some (zR 1 0), some (zR 3 p1), some (zI x2), some (zI x3), some (zI v2), some (zI r6), some (zI r9)]) rfl ?_
        refine ev_s i4_63 (p := 65) rfl ?_
        refine ev_ifge i4_65 (t := 70) (by decide) (p := 68) rfl h (fun c10 h => ?_) (fun c10 h => ?_)
        · refine ev_s i4_70 (p := 71) rfl ?_
          refine ev_s i4_71 (p := 74) (zis_10000 _ _ _ _ _) ?_
          refine ev_s i4_74 (p := 76) rfl ?_
          refine ev_s i4_76 (p := 77) (t := [zI (10000 + r9), zR 1 0]) rfl ?_
          obtain ⟨s12, hr11, h⟩ := bd_some h
          refine ev_callV i4_77 zc1_60 zm16 zo16 (as' := [zI (10000 + r9)]) (rest := []) rfl rfl (Nat.le_of_ble_eq_true rfl) (Nat.le_of_ble_eq_true rfl) (Nat.le_of_ble_eq_true rfl) (by omega) (l0 := [some (zR 1 0), some (zI (10000 + r9))]) rfl (p := 80) rfl (kD_write (10000 + r9) σ s12 hr11 (d - 1) (by omega)) ?_
          change zEv d 4 80 [some (zR 1 0), some (zR 3 p1), some (zI x2), some (zI x3), some (zI v2), some (zI r6), some (zI r9)] [] s12 _
          refine ev_s i4_80 (p := 81) (zic_1 _ _ _ _ _) ?_
          refine ev_s i4_81 (p := 83) (l := [some (zR 1 0), some (zR 3 p1), some (zI x2), some (zI x3), some (zI v2), some (zI 1), some (zI r9)]) rfl ?_
          exact kD_readValue_J83 N p1 d hd 1 s12 w _ _ _ rfl _ rfl _ h
        · refine ev_s i4_68 (p := 69) (zic_0 _ _ _ _ _) ?_
          obtain rfl := Option.some.inj h
          exact ev_iret i4_69 zr4
      · refine ev_s i4_41 (p := 42) rfl ?_
        refine ev_s i4_42 (p := 43) rfl ?_
        refine ev_s i4_43 (p := 44) rfl ?_
        refine ev_s i4_44 (p := 46) rfl ?_
        obtain ⟨r14, hr13, h⟩ := bd_some h
        refine ev_callS i4_46 zn1_57 zc1_57 zm8 (as := [zR 3 p1, zI x2, zI r6]) (rest := [zR 1 0]) rfl rfl (Nat.le_of_ble_eq_true rfl) (Nat.le_of_ble_eq_true rfl) (Nat.le_of_ble_eq_true rfl) (by omega) (l0 := [some (zR 3 p1), some (zI x2), some (zI r6), none, none]) rfl (p := 49) rfl (kD_number N p1 x2 r6 σ r14 hr13 (d - 1) (by omega)) ?_
        change zEv d 4 49 [some (zR 1 0), some (zR 3 p1), some (zI x2), some (zI x3), some (zI v2), some (zI r6), none] [zI r14, zR 1 0] σ _
        obtain ⟨s16, hr15, h⟩ := bd_some h
        refine ev_callV i4_49 zc1_60 zm16 zo16 (as' := [zI r14]) (rest := []) rfl rfl (Nat.le_of_ble_eq_true rfl) (Nat.le_of_ble_eq_true rfl) (Nat.le_of_ble_eq_true rfl) (by omega) (l0 := [some (zR 1 0), some (zI r14)]) rfl (p := 52) rfl (kD_write r14 σ s16 hr15 (d - 1) (by omega)) ?_
        change zEv d 4 52 [some (zR 1 0), some (zR 3 p1), some (zI x2), some (zI x3), some (zI v2), some (zI r6), none] [] s16 _
        refine ev_goto i4_52 (t := 83) (by decide) ?_
        exact kD_readValue_J83 N p1 d hd r6 s16 w _ _ _ rfl _ rfl _ h
/-! fD_read -/
def fD_read_J87 (N : Nat) (p1 : Nat) (σ : zS) : Option (Int32 × zS) := (if (σ 1 0 5) = 0 then (fD_settle N 1 σ).bind fun s19 => (if (s19 1 0 3) ≤ 0 then some ((-1), s19) else some (s19 3 p1 1, s19)) else some (σ 3 p1 1, σ))
set_option maxHeartbeats 4000000 in
theorem kD_read_J87 (N : Nat) (p1 : Nat) (d : Nat) (hd : 4 ≤ d)  : ∀ (σ : zS) (w : Int32 × zS) (z2 : Option zA) (hz2 : znl z2 = true) (z3 : Option zA) (hz3 : znl z3 = true) (z4 : Option zA) (hz4 : znl z4 = true) (z5 : Option zA), fD_read_J87 N p1 σ = some w → zEv d 3 87 [some (zR 1 0), some (zR 3 p1), z2, z3, z4, z5] [] σ (some (zI w.1), w.2) := by
  intro σ w z2 hz2 z3 hz3 z4 hz4 z5 h
  unfold fD_read_J87 at h
  refine ev_s i3_87 (p := 88) rfl ?_
  refine ev_getf i3_88 zf1_28 (u := zI (σ 1 0 5)) rfl (p := 91) rfl ?_
  refine ev_ifeq i3_91 (t := 99) (by decide) (p := 94) rfl h (fun c17 h => ?_) (fun c17 h => ?_)
  · refine ev_s i3_99 (p := 100) rfl ?_
    refine ev_s i3_100 (p := 101) (zic_1 _ _ _ _ _) ?_
    obtain ⟨s19, hr18, h⟩ := bd_some h
    refine ev_callV i3_101 zc1_46 zm13 zo13 (as' := [zI 1]) (rest := []) rfl rfl (Nat.le_of_ble_eq_true rfl) (Nat.le_of_ble_eq_true rfl) (Nat.le_of_ble_eq_true rfl) (by omega) (l0 := [some (zR 1 0), some (zI 1), none]) rfl (p := 104) rfl (kD_settle N 1 σ s19 hr18 (d - 1) (by omega)) ?_
    change zEv d 3 104 [some (zR 1 0), some (zR 3 p1), z2, z3, z4, z5] [] s19 _
    refine ev_s i3_104 (p := 105) rfl ?_
    refine ev_getf i3_105 zf1_22 (u := zI (s19 1 0 3)) rfl (p := 108) rfl ?_
    refine ev_ifle i3_108 (t := 118) (by decide) (p := 111) rfl h (fun c20 h => ?_) (fun c20 h => ?_)
    · refine ev_s i3_118 (p := 119) (zic_m1 _ _ _ _ _) ?_
      obtain rfl := Option.some.inj h
      exact ev_iret i3_119 zr3
    · refine ev_s i3_111 (p := 112) rfl ?_
      refine ev_getf i3_112 zf1_32 (u := zI (s19 3 p1 1)) rfl (p := 115) rfl ?_
      refine ev_goto i3_115 (t := 119) (by decide) ?_
      obtain rfl := Option.some.inj h
      exact ev_iret i3_119 zr3
  · refine ev_s i3_94 (p := 95) rfl ?_
    refine ev_getf i3_95 zf1_32 (u := zI (σ 3 p1 1)) rfl (p := 98) rfl ?_
    obtain rfl := Option.some.inj h
    exact ev_iret i3_98 zr3
def fD_read_J67 (N : Nat) (p1 : Nat) (K25 : Int32 → Int32 → Int32 → zS → Option (Int32 × zS)) (y2 : Int32) (y3 : Int32) (y4 : Int32) (u0 : Int32) (σ : zS) : Option (Int32 × zS) := (if u0 = 0 then some (y3, σ) else zlt (y3 + u0) fun v16 => K25 y2 v16 (y4 + 1) σ)
set_option maxHeartbeats 4000000 in
theorem kD_read_J67 (N : Nat) (p1 : Nat) (d : Nat) (hd : 4 ≤ d) (K25 : Int32 → Int32 → Int32 → zS → Option (Int32 × zS)) (hK25 : ∀ (y2 : Int32) (y3 : Int32) (y4 : Int32) (σ : zS) (w : Int32 × zS) (z5 : Option zA), K25 y2 y3 y4 σ = some w → zEv d 3 25 [some (zR 1 0), some (zR 3 p1), some (zI y2), some (zI y3), some (zI y4), z5] [] σ (some (zI w.1), w.2)) : ∀ (y2 : Int32) (y3 : Int32) (y4 : Int32) (u0 : Int32) (σ : zS) (w : Int32 × zS) (z5 : Option zA), fD_read_J67 N p1 K25 y2 y3 y4 u0 σ = some w → zEv d 3 67 [some (zR 1 0), some (zR 3 p1), some (zI y2), some (zI y3), some (zI y4), z5] [zI u0] σ (some (zI w.1), w.2) := by
  intro y2 y3 y4 u0 σ w z5 h
  unfold fD_read_J67 at h
  refine ev_s i3_67 (p := 69) (l := [some (zR 1 0), some (zR 3 p1), some (zI y2), some (zI y3), some (zI y4), some (zI u0)]) rfl ?_
  refine ev_s i3_69 (p := 71) rfl ?_
  refine ev_ifne i3_71 (t := 76) (by decide) (p := 74) rfl h (fun c15 h => ?_) (fun c15 h => ?_)
  · refine ev_s i3_74 (p := 75) rfl ?_
    obtain rfl := Option.some.inj h
    exact ev_iret i3_75 zr3
  · refine ev_s i3_76 (p := 77) rfl ?_
    refine ev_s i3_77 (p := 79) rfl ?_
    refine ev_s i3_79 (p := 80) (t := [zI (y3 + u0)]) rfl ?_
    refine ev_let h (fun v16 ev16 h => ?_)
    refine ev_s i3_80 (p := 81) (l := [some (zR 1 0), some (zR 3 p1), some (zI y2), some (zI v16), some (zI y4), some (zI u0)]) rfl ?_
    refine ev_iinc i3_81 zii_1 rfl (l := [some (zR 1 0), some (zR 3 p1), some (zI y2), some (zI v16), some (zI (y4 + 1)), some (zI u0)]) rfl (p := 84) rfl ?_
    refine ev_goto i3_84 (t := 25) (by decide) ?_
    exact hK25 y2 v16 (y4 + 1) σ w _ h
def fD_read_L25 (N : Nat) (p1 : Nat) : Nat → Int32 → Int32 → Int32 → zS → Option (Int32 × zS)
  | 0, _, _, _, _ => none
  | n + 1, y2, y3, y4, σ => (if 60 ≤ y4 then fD_read_J87 N p1 σ else (if (σ 3 p1 1) ≤ y3 then fD_read_J87 N p1 σ else (if (σ 1 0 5) = 0 then zgd (zin y3 (if p1 % 2 = 0 then 60 else 24)) (zb2 (fD_readJoin N (σ 22 p1 y3.toNatClampNeg) σ) fun r11 s10 => fD_read_J67 N p1 (fun y2 y3 y4 σ => fD_read_L25 N p1 n y2 y3 y4 σ) y2 y3 y4 r11 s10) else zb2 (fD_readValue N p1 y3 y2 σ) fun r14 s13 => fD_read_J67 N p1 (fun y2 y3 y4 σ => fD_read_L25 N p1 n y2 y3 y4 σ) y2 y3 y4 r14 s13)))
set_option maxHeartbeats 4000000 in
theorem kD_read_L25 (N : Nat) (p1 : Nat) (d : Nat) (hd : 4 ≤ d)  : ∀ n : Nat, ∀ (y2 : Int32) (y3 : Int32) (y4 : Int32) (σ : zS) (w : Int32 × zS) (z5 : Option zA), fD_read_L25 N p1 n y2 y3 y4 σ = some w → zEv d 3 25 [some (zR 1 0), some (zR 3 p1), some (zI y2), some (zI y3), some (zI y4), z5] [] σ (some (zI w.1), w.2) := by
  intro n
  induction n with
  | zero =>
    intro y2 y3 y4 σ w z5 h
    cases h
  | succ n ih =>
    intro y2 y3 y4 σ w z5 h
    rw [fD_read_L25] at h
    refine ev_s i3_25 (p := 27) rfl ?_
    refine ev_s i3_27 (p := 29) (zib_60 _ _ _ _ _) ?_
    refine ev_cmpge i3_29 (t := 87) (by decide) (p := 32) rfl h (fun c5 h => ?_) (fun c5 h => ?_)
    · exact kD_read_J87 N p1 d hd σ w _ rfl _ rfl _ rfl _ h
    · refine ev_s i3_32 (p := 33) rfl ?_
      refine ev_s i3_33 (p := 34) rfl ?_
      refine ev_getf i3_34 zf1_32 (u := zI (σ 3 p1 1)) rfl (p := 37) rfl ?_
      refine ev_cmpge i3_37 (t := 87) (by decide) (p := 40) rfl h (fun c6 h => ?_) (fun c6 h => ?_)
      · exact kD_read_J87 N p1 d hd σ w _ rfl _ rfl _ rfl _ h
      · refine ev_s i3_40 (p := 41) rfl ?_
        refine ev_getf i3_41 zf1_28 (u := zI (σ 1 0 5)) rfl (p := 44) rfl ?_
        refine ev_ifeq i3_44 (t := 57) (by decide) (p := 47) rfl h (fun c7 h => ?_) (fun c7 h => ?_)
        · refine ev_s i3_57 (p := 58) rfl ?_
          refine ev_s i3_58 (p := 59) rfl ?_
          refine ev_getf i3_59 zf1_39 (u := zR 22 p1) rfl (p := 62) rfl ?_
          refine ev_s i3_62 (p := 63) rfl ?_
          refine ev_iald i3_63 rfl (n := (if p1 % 2 = 0 then 60 else 24)) rfl (p := 64) rfl h (fun g8 h => ?_)
          obtain ⟨r11, s10, hr9, h⟩ := b2_some h
          refine ev_callV i3_64 zc1_42 zm11 zo11 (as' := [zI (σ 22 p1 y3.toNatClampNeg)]) (rest := []) rfl rfl (Nat.le_of_ble_eq_true rfl) (Nat.le_of_ble_eq_true rfl) (Nat.le_of_ble_eq_true rfl) (by omega) (l0 := [some (zR 1 0), some (zI (σ 22 p1 y3.toNatClampNeg)), none]) rfl (p := 67) rfl (kD_readJoin N (σ 22 p1 y3.toNatClampNeg) σ (r11, s10) hr9 (d - 1) (by omega)) ?_
          change zEv d 3 67 [some (zR 1 0), some (zR 3 p1), some (zI y2), some (zI y3), some (zI y4), z5] [zI r11] s10 _
          exact kD_read_J67 N p1 d hd (fun y2 y3 y4 σ => fD_read_L25 N p1 n y2 y3 y4 σ) ih y2 y3 y4 r11 s10 w _ h
        · refine ev_s i3_47 (p := 48) rfl ?_
          refine ev_s i3_48 (p := 49) rfl ?_
          refine ev_s i3_49 (p := 50) rfl ?_
          refine ev_s i3_50 (p := 51) rfl ?_
          obtain ⟨r14, s13, hr12, h⟩ := b2_some h
          refine ev_callV i3_51 zc1_35 zm4 zo4 (as' := [zR 3 p1, zI y3, zI y2]) (rest := []) rfl rfl (Nat.le_of_ble_eq_true rfl) (Nat.le_of_ble_eq_true rfl) (Nat.le_of_ble_eq_true rfl) (by omega) (l0 := [some (zR 1 0), some (zR 3 p1), some (zI y3), some (zI y2), none, none, none]) rfl (p := 54) rfl (kD_readValue N p1 y3 y2 σ (r14, s13) hr12 (d - 1) (by omega)) ?_
          change zEv d 3 54 [some (zR 1 0), some (zR 3 p1), some (zI y2), some (zI y3), some (zI y4), z5] [zI r14] s13 _
          refine ev_goto i3_54 (t := 67) (by decide) ?_
          exact kD_read_J67 N p1 d hd (fun y2 y3 y4 σ => fD_read_L25 N p1 n y2 y3 y4 σ) ih y2 y3 y4 r14 s13 w _ h
def fD_read (N : Nat) (p1 : Nat) (x2 : Int32) (σ : zS) : Option (Int32 × zS) := zlt (zup σ 1 0 1 0) fun s1 => zlt (zup s1 1 0 3 0) fun s2 => zlt (zup s2 1 0 4 0) fun s3 => zlt (zup s3 1 0 5 1) fun s4 => fD_read_L25 N p1 N x2 0 0 s4
set_option maxHeartbeats 4000000 in
theorem kD_read (N : Nat) (p1 : Nat) (x2 : Int32) (σ : zS) (w : Int32 × zS) (h : fD_read N p1 x2 σ = some w) (d : Nat) (hd : 4 ≤ d) : zEv d 3 0 [some (zR 1 0), some (zR 3 p1), some (zI x2), none, none, none] [] σ (some (zI w.1), w.2) := by
  unfold fD_read at h
  refine ev_s i3_0 (p := 1) rfl ?_
  refine ev_s i3_1 (p := 2) (zic_0 _ _ _ _ _) ?_
  refine ev_putf i3_2 zf1_18 rfl rfl rfl (p := 5) rfl ?_
  refine ev_lets h (fun s1 es1 h => ?_)
  refine ev_s i3_5 (p := 6) rfl ?_
  refine ev_s i3_6 (p := 7) (zic_0 _ _ _ _ _) ?_
  refine ev_putf i3_7 zf1_22 rfl rfl rfl (p := 10) rfl ?_
  refine ev_lets h (fun s2 es2 h => ?_)
  refine ev_s i3_10 (p := 11) rfl ?_
  refine ev_s i3_11 (p := 12) (zic_0 _ _ _ _ _) ?_
  refine ev_putf i3_12 zf1_25 rfl rfl rfl (p := 15) rfl ?_
  refine ev_lets h (fun s3 es3 h => ?_)
  refine ev_s i3_15 (p := 16) rfl ?_
  refine ev_s i3_16 (p := 17) (zic_1 _ _ _ _ _) ?_
  refine ev_putzK i3_17 zf1_28 rfl rfl (by decide) (p := 20) rfl ?_
  refine ev_lets h (fun s4 es4 h => ?_)
  refine ev_s i3_20 (p := 21) (zic_0 _ _ _ _ _) ?_
  refine ev_s i3_21 (p := 22) (l := [some (zR 1 0), some (zR 3 p1), some (zI x2), some (zI 0), none, none]) rfl ?_
  refine ev_s i3_22 (p := 23) (zic_0 _ _ _ _ _) ?_
  refine ev_s i3_23 (p := 25) (l := [some (zR 1 0), some (zR 3 p1), some (zI x2), some (zI 0), some (zI 0), none]) rfl ?_
  exact kD_read_L25 N p1 d hd N x2 0 0 s4 w _ h
/-! fA_lawOf -/
def fA_lawOf (x1 : Int32) (σ : zS) : Option (Nat) := (if x1 = 0 then some 0 else some 1)
set_option maxHeartbeats 4000000 in
theorem kA_lawOf (x1 : Int32) (σ : zS) (w : Nat) (h : fA_lawOf x1 σ = some w) (d : Nat) (hd : 0 ≤ d) : zEv d 106 0 [some (zR 7 0), some (zI x1)] [] σ (some (zR 0 w), σ) := by
  unfold fA_lawOf at h
  refine ev_s i106_0 (p := 1) rfl ?_
  refine ev_ifne i106_1 (t := 14) (by decide) (p := 4) rfl h (fun c1 h => ?_) (fun c1 h => ?_)
  · refine ev_s i106_4 (p := 5) rfl ?_
    refine ev_getf i106_5 zf7_10 (u := zR 5 0) rfl (p := 8) rfl ?_
    refine ev_getf i106_8 zf7_50 (u := zR 0 0) rfl (p := 11) rfl ?_
    refine ev_goto i106_11 (t := 21) (by decide) ?_
    obtain rfl := Option.some.inj h
    exact ev_aret i106_21 zr106
  · refine ev_s i106_14 (p := 15) rfl ?_
    refine ev_getf i106_15 zf7_10 (u := zR 5 0) rfl (p := 18) rfl ?_
    refine ev_getf i106_18 zf7_54 (u := zR 0 1) rfl (p := 21) rfl ?_
    obtain rfl := Option.some.inj h
    exact ev_aret i106_21 zr106
/-! fL_take_12 -/
def fL_take_12_J34 (N : Nat) (b : Nat) (p1 : Nat) (y2 : Int32) (σ : zS) : Option (zS) := zlt (zup σ 0 b 1 y2) fun s7 => some s7
set_option maxHeartbeats 4000000 in
theorem kL_take_12_J34 (N : Nat) (b : Nat) (p1 : Nat) (d : Nat) (hd : 0 ≤ d)  : ∀ (y2 : Int32) (σ : zS) (w : zS) (z1 : Option zA) (z3 : Option zA), fL_take_12_J34 N b p1 y2 σ = some w → zEv d 0 34 [some (zR 0 b), z1, some (zI y2), z3] [] σ (none, w) := by
  intro y2 σ w z1 z3 h
  unfold fL_take_12_J34 at h
  refine ev_s i0_34 (p := 35) rfl ?_
  refine ev_s i0_35 (p := 36) rfl ?_
  refine ev_putf i0_36 zf0_22 rfl rfl rfl (p := 39) rfl ?_
  refine ev_lets h (fun s7 es7 h => ?_)
  obtain rfl := Option.some.inj h
  exact ev_vret i0_39 zr0
def fL_take_12_L2 (N : Nat) (b : Nat) (p1 : Nat) : Nat → Int32 → Int32 → zS → Option (zS)
  | 0, _, _, _ => none
  | n + 1, y2, y3, σ => (if y2 ≤ y3 then fL_take_12_J34 N b p1 y2 σ else (if 60 ≤ y3 then fL_take_12_J34 N b p1 y2 σ else (if 60 ≤ y3 then fL_take_12_J34 N b p1 y2 σ else zgd (zin y3 60) (zgd (zin y3 60) (zlt (zup σ 10 b y3.toNatClampNeg (σ 12 p1 y3.toNatClampNeg)) fun s5 => fL_take_12_L2 N b p1 n y2 (y3 + 1) s5)))))
set_option maxHeartbeats 4000000 in
theorem kL_take_12_L2 (N : Nat) (b : Nat) (p1 : Nat) (d : Nat) (hd : 0 ≤ d)  : ∀ n : Nat, ∀ (y2 : Int32) (y3 : Int32) (σ : zS) (w : zS), fL_take_12_L2 N b p1 n y2 y3 σ = some w → zEv d 0 2 [some (zR 0 b), some (zR 12 p1), some (zI y2), some (zI y3)] [] σ (none, w) := by
  intro n
  induction n with
  | zero =>
    intro y2 y3 σ w h
    cases h
  | succ n ih =>
    intro y2 y3 σ w h
    rw [fL_take_12_L2] at h
    refine ev_s i0_2 (p := 3) rfl ?_
    refine ev_s i0_3 (p := 4) rfl ?_
    refine ev_cmpge i0_4 (t := 34) (by decide) (p := 7) rfl h (fun c1 h => ?_) (fun c1 h => ?_)
    · exact kL_take_12_J34 N b p1 d hd y2 σ w _ _ h
    · refine ev_s i0_7 (p := 8) rfl ?_
      refine ev_s i0_8 (p := 10) (zib_60 _ _ _ _ _) ?_
      refine ev_cmpge i0_10 (t := 34) (by decide) (p := 13) rfl h (fun c2 h => ?_) (fun c2 h => ?_)
      · exact kL_take_12_J34 N b p1 d hd y2 σ w _ _ h
      · refine ev_s i0_13 (p := 14) rfl ?_
        refine ev_s i0_14 (p := 15) rfl ?_
        refine ev_alen i0_15 rfl (v := 60) rfl (p := 16) rfl ?_
        refine ev_cmpge i0_16 (t := 34) (by decide) (p := 19) rfl h (fun c3 h => ?_) (fun c3 h => ?_)
        · exact kL_take_12_J34 N b p1 d hd y2 σ w _ _ h
        · refine ev_s i0_19 (p := 20) rfl ?_
          refine ev_getf i0_20 zf0_9 (u := zR 10 b) rfl (p := 23) rfl ?_
          refine ev_s i0_23 (p := 24) rfl ?_
          refine ev_s i0_24 (p := 25) rfl ?_
          refine ev_s i0_25 (p := 26) rfl ?_
          refine ev_iald i0_26 rfl (n := 60) rfl (p := 27) rfl h (fun g4 h => ?_)
          refine ev_iast i0_27 rfl (n := 60) rfl (p := 28) rfl h (fun g6 h => ?_)
          refine ev_lets h (fun s5 es5 h => ?_)
          refine ev_iinc i0_28 zii_1 rfl (l := [some (zR 0 b), some (zR 12 p1), some (zI y2), some (zI (y3 + 1))]) rfl (p := 31) rfl ?_
          refine ev_goto i0_31 (t := 2) (by decide) ?_
          exact ih y2 (y3 + 1) s5 w h
def fL_take_12 (N : Nat) (b : Nat) (p1 : Nat) (x2 : Int32) (σ : zS) : Option (zS) := fL_take_12_L2 N b p1 N x2 0 σ
set_option maxHeartbeats 4000000 in
theorem kL_take_12 (N : Nat) (b : Nat) (p1 : Nat) (x2 : Int32) (σ : zS) (w : zS) (h : fL_take_12 N b p1 x2 σ = some w) (d : Nat) (hd : 0 ≤ d) : zEv d 0 0 [some (zR 0 b), some (zR 12 p1), some (zI x2), none] [] σ (none, w) := by
  unfold fL_take_12 at h
  refine ev_s i0_0 (p := 1) (zic_0 _ _ _ _ _) ?_
  refine ev_s i0_1 (p := 2) (l := [some (zR 0 b), some (zR 12 p1), some (zI x2), some (zI 0)]) rfl ?_
  exact kL_take_12_L2 N b p1 d hd N x2 0 σ w h
/-! fA_text -/
def fA_text (N : Nat) (x1 : Int32) (σ : zS) : Option (Int32 × zS) := (fA_within x1 1).bind fun r2 => (if r2 = 0 then zb2 (fA_refuse 1 σ) fun r6 s5 => some (r6, s5) else zb2 (fD_read N 0 x1 σ) fun r9 s8 => zlt (zup s8 3 0 1 0) fun s10 => (if r9 < 0 then (fA_lawOf x1 s10).bind fun r13 => (fL_take_12 N r13 0 (s10 1 0 1) s10).bind fun s15 => some (1, s15) else some ((-10) - r9, s10)))
set_option maxHeartbeats 4000000 in
theorem kA_text (N : Nat) (x1 : Int32) (σ : zS) (w : Int32 × zS) (h : fA_text N x1 σ = some w) (d : Nat) (hd : 5 ≤ d) : zEv d 70 0 [some (zR 7 0), some (zI x1), none] [] σ (some (zI w.1), w.2) := by
  unfold fA_text at h
  refine ev_s i70_0 (p := 1) rfl ?_
  refine ev_s i70_1 (p := 2) (zic_1 _ _ _ _ _) ?_
  obtain ⟨r2, hr1, h⟩ := bd_some h
  refine ev_callS i70_2 zn7_64 zc7_64 zm103 (as := [zI x1, zI 1]) (rest := []) rfl rfl (Nat.le_of_ble_eq_true rfl) (Nat.le_of_ble_eq_true rfl) (Nat.le_of_ble_eq_true rfl) (by omega) (l0 := [some (zI x1), some (zI 1)]) rfl (p := 5) rfl (kA_within x1 1 σ r2 hr1 (d - 1) (by omega)) ?_
  change zEv d 70 5 [some (zR 7 0), some (zI x1), none] [zI r2] σ _
  refine ev_ifne i70_5 (t := 14) (by decide) (p := 8) rfl h (fun c3 h => ?_) (fun c3 h => ?_)
  · refine ev_s i70_8 (p := 9) rfl ?_
    refine ev_s i70_9 (p := 10) (zic_1 _ _ _ _ _) ?_
    obtain ⟨r6, s5, hr4, h⟩ := b2_some h
    refine ev_callV i70_10 zc7_72 zm102 zo102 (as' := [zI 1]) (rest := []) rfl rfl (Nat.le_of_ble_eq_true rfl) (Nat.le_of_ble_eq_true rfl) (Nat.le_of_ble_eq_true rfl) (by omega) (l0 := [some (zR 7 0), some (zI 1)]) rfl (p := 13) rfl (kA_refuse 1 σ (r6, s5) hr4 (d - 1) (by omega)) ?_
    change zEv d 70 13 [some (zR 7 0), some (zI x1), none] [zI r6] s5 _
    obtain rfl := Option.some.inj h
    exact ev_iret i70_13 zr70
  · refine ev_s i70_14 (p := 15) rfl ?_
    refine ev_getf i70_15 zf7_22 (u := zR 1 0) rfl (p := 18) rfl ?_
    refine ev_s i70_18 (p := 19) rfl ?_
    refine ev_getf i70_19 zf7_10 (u := zR 5 0) rfl (p := 22) rfl ?_
    refine ev_getf i70_22 zf7_124 (u := zR 3 0) rfl (p := 25) rfl ?_
    refine ev_s i70_25 (p := 26) rfl ?_
    obtain ⟨r9, s8, hr7, h⟩ := b2_some h
    refine ev_callV i70_26 zc7_135 zm3 zo3 (as' := [zR 3 0, zI x1]) (rest := []) rfl rfl (Nat.le_of_ble_eq_true rfl) (Nat.le_of_ble_eq_true rfl) (Nat.le_of_ble_eq_true rfl) (by omega) (l0 := [some (zR 1 0), some (zR 3 0), some (zI x1), none, none, none]) rfl (p := 29) rfl (kD_read N 0 x1 σ (r9, s8) hr7 (d - 1) (by omega)) ?_
    change zEv d 70 29 [some (zR 7 0), some (zI x1), none] [zI r9] s8 _
    refine ev_s i70_29 (p := 30) (l := [some (zR 7 0), some (zI x1), some (zI r9)]) rfl ?_
    refine ev_s i70_30 (p := 31) rfl ?_
    refine ev_getf i70_31 zf7_10 (u := zR 5 0) rfl (p := 34) rfl ?_
    refine ev_getf i70_34 zf7_124 (u := zR 3 0) rfl (p := 37) rfl ?_
    refine ev_s i70_37 (p := 38) (zic_0 _ _ _ _ _) ?_
    refine ev_putf i70_38 zf7_128 rfl rfl rfl (p := 41) rfl ?_
    refine ev_lets h (fun s10 es10 h => ?_)
    refine ev_s i70_41 (p := 42) rfl ?_
    refine ev_iflt i70_42 (t := 50) (by decide) (p := 45) rfl h (fun c11 h => ?_) (fun c11 h => ?_)
    · refine ev_s i70_50 (p := 51) rfl ?_
      refine ev_s i70_51 (p := 52) rfl ?_
      obtain ⟨r13, hr12, h⟩ := bd_some h
      refine ev_callV i70_52 zc7_139 zm106 zo106 (as' := [zI x1]) (rest := []) rfl rfl (Nat.le_of_ble_eq_true rfl) (Nat.le_of_ble_eq_true rfl) (Nat.le_of_ble_eq_true rfl) (by omega) (l0 := [some (zR 7 0), some (zI x1)]) rfl (p := 55) rfl (kA_lawOf x1 s10 r13 hr12 (d - 1) (by omega)) ?_
      change zEv d 70 55 [some (zR 7 0), some (zI x1), some (zI r9)] [zR 0 r13] s10 _
      refine ev_s i70_55 (p := 56) rfl ?_
      refine ev_getf i70_56 zf7_22 (u := zR 1 0) rfl (p := 59) rfl ?_
      refine ev_getf i70_59 zf7_143 (u := zR 12 0) rfl (p := 62) rfl ?_
      refine ev_s i70_62 (p := 63) rfl ?_
      refine ev_getf i70_63 zf7_22 (u := zR 1 0) rfl (p := 66) rfl ?_
      refine ev_getf i70_66 zf7_146 (u := zI (s10 1 0 1)) rfl (p := 69) rfl ?_
      obtain ⟨s15, hr14, h⟩ := bd_some h
      refine ev_callV i70_69 zc7_147 zm0 zo0 (as' := [zR 12 0, zI (s10 1 0 1)]) (rest := []) rfl rfl (Nat.le_of_ble_eq_true rfl) (Nat.le_of_ble_eq_true rfl) (Nat.le_of_ble_eq_true rfl) (by omega) (l0 := [some (zR 0 r13), some (zR 12 0), some (zI (s10 1 0 1)), none]) rfl (p := 72) rfl (kL_take_12 N r13 0 (s10 1 0 1) s10 s15 hr14 (d - 1) (by omega)) ?_
      change zEv d 70 72 [some (zR 7 0), some (zI x1), some (zI r9)] [] s15 _
      refine ev_s i70_72 (p := 73) (zic_1 _ _ _ _ _) ?_
      obtain rfl := Option.some.inj h
      exact ev_iret i70_73 zr70
    · refine ev_s i70_45 (p := 47) (zib_m10 _ _ _ _ _) ?_
      refine ev_s i70_47 (p := 48) rfl ?_
      refine ev_s i70_48 (p := 49) (t := [zI ((-10) - r9)]) rfl ?_
      obtain rfl := Option.some.inj h
      exact ev_iret i70_49 zr70
/-! fM_look -/
def fM_look (σ : zS) : Option (Int32) := (if (σ 30 0 2) ≤ (σ 8 0 6) then some ((-1)) else zgd (zin (310 + (σ 8 0 6)) 394) (some (σ 30 0 (310 + (σ 8 0 6)).toNatClampNeg)))
set_option maxHeartbeats 4000000 in
theorem kM_look  (σ : zS) (w : Int32) (h : fM_look σ = some w) (d : Nat) (hd : 0 ≤ d) : zEv d 123 0 [some (zR 8 0)] [] σ (some (zI w), σ) := by
  unfold fM_look at h
  refine ev_s i123_0 (p := 1) rfl ?_
  refine ev_getf i123_1 zf8_64 (u := zI (σ 8 0 6)) rfl (p := 4) rfl ?_
  refine ev_s i123_4 (p := 5) rfl ?_
  refine ev_getf i123_5 zf8_7 (u := zR 30 0) rfl (p := 8) rfl ?_
  refine ev_s i123_8 (p := 9) (zic_2 _ _ _ _ _) ?_
  refine ev_ialdK i123_9 rfl (n := 394) rfl (by decide) (p := 10) rfl ?_
  change zEv d 123 10 [some (zR 8 0)] [zI (σ 30 0 2), zI (σ 8 0 6)] σ _
  refine ev_cmpge i123_10 (t := 29) (by decide) (p := 13) rfl h (fun c1 h => ?_) (fun c1 h => ?_)
  · refine ev_s i123_29 (p := 30) (zic_m1 _ _ _ _ _) ?_
    obtain rfl := Option.some.inj h
    exact ev_iret i123_30 zr123
  · refine ev_s i123_13 (p := 14) rfl ?_
    refine ev_getf i123_14 zf8_7 (u := zR 30 0) rfl (p := 17) rfl ?_
    refine ev_s i123_17 (p := 20) (zis_310 _ _ _ _ _) ?_
    refine ev_s i123_20 (p := 21) rfl ?_
    refine ev_getf i123_21 zf8_64 (u := zI (σ 8 0 6)) rfl (p := 24) rfl ?_
    refine ev_s i123_24 (p := 25) (t := [zI (310 + (σ 8 0 6)), zR 30 0]) rfl ?_
    refine ev_iald i123_25 rfl (n := 394) rfl (p := 26) rfl h (fun g2 h => ?_)
    refine ev_goto i123_26 (t := 30) (by decide) ?_
    obtain rfl := Option.some.inj h
    exact ev_iret i123_30 zr123
/-! fM_step1 -/
def fM_step1 (x1 : Int32) (x2 : Int32) (σ : zS) : Option (zS) := zgd (zin (2 * (σ 8 0 8)) 124) (zlt (zup σ 35 0 (2 * (σ 8 0 8)).toNatClampNeg x1) fun s1 => zgd (zin ((2 * (s1 8 0 8)) + 1) 124) (zlt (zup s1 35 0 ((2 * (s1 8 0 8)) + 1).toNatClampNeg x2) fun s3 => zlt (zup s3 8 0 8 ((s3 8 0 8) + 1)) fun s5 => some s5))
set_option maxHeartbeats 4000000 in
theorem kM_step1 (x1 : Int32) (x2 : Int32) (σ : zS) (w : zS) (h : fM_step1 x1 x2 σ = some w) (d : Nat) (hd : 0 ≤ d) : zEv d 125 0 [some (zR 8 0), some (zI x1), some (zI x2)] [] σ (none, w) := by
  unfold fM_step1 at h
  refine ev_s i125_0 (p := 1) rfl ?_
  refine ev_getf i125_1 zf8_25 (u := zR 35 0) rfl (p := 4) rfl ?_
  refine ev_s i125_4 (p := 5) (zic_2 _ _ _ _ _) ?_
  refine ev_s i125_5 (p := 6) rfl ?_
  refine ev_getf i125_6 zf8_71 (u := zI (σ 8 0 8)) rfl (p := 9) rfl ?_
  refine ev_s i125_9 (p := 10) (t := [zI (2 * (σ 8 0 8)), zR 35 0]) rfl ?_
  refine ev_s i125_10 (p := 11) rfl ?_
  refine ev_iast i125_11 rfl (n := 124) rfl (p := 12) rfl h (fun g2 h => ?_)
  refine ev_lets h (fun s1 es1 h => ?_)
  refine ev_s i125_12 (p := 13) rfl ?_
  refine ev_getf i125_13 zf8_25 (u := zR 35 0) rfl (p := 16) rfl ?_
  refine ev_s i125_16 (p := 17) (zic_2 _ _ _ _ _) ?_
  refine ev_s i125_17 (p := 18) rfl ?_
  refine ev_getf i125_18 zf8_71 (u := zI (s1 8 0 8)) rfl (p := 21) rfl ?_
  refine ev_s i125_21 (p := 22) (t := [zI (2 * (s1 8 0 8)), zR 35 0]) rfl ?_
  refine ev_s i125_22 (p := 23) (zic_1 _ _ _ _ _) ?_
  refine ev_s i125_23 (p := 24) (t := [zI ((2 * (s1 8 0 8)) + 1), zR 35 0]) rfl ?_
  refine ev_s i125_24 (p := 25) rfl ?_
  refine ev_iast i125_25 rfl (n := 124) rfl (p := 26) rfl h (fun g4 h => ?_)
  refine ev_lets h (fun s3 es3 h => ?_)
  refine ev_s i125_26 (p := 27) rfl ?_
  refine ev_s i125_27 (p := 28) rfl ?_
  refine ev_getf i125_28 zf8_71 (u := zI (s3 8 0 8)) rfl (p := 31) rfl ?_
  refine ev_s i125_31 (p := 32) (zic_1 _ _ _ _ _) ?_
  refine ev_s i125_32 (p := 33) (t := [zI ((s3 8 0 8) + 1), zR 8 0]) rfl ?_
  refine ev_putf i125_33 zf8_71 rfl rfl rfl (p := 36) rfl ?_
  refine ev_lets h (fun s5 es5 h => ?_)
  obtain rfl := Option.some.inj h
  exact ev_vret i125_36 zr125
/-! fM_isName -/
def fM_isName_J27 (u0 : Int32) (u1 : Int32) (σ : zS) : Option (Int32) := (if u1 = u0 then some (1) else some (0))
set_option maxHeartbeats 4000000 in
theorem kM_isName_J27  (d : Nat) (hd : 0 ≤ d)  : ∀ (u0 : Int32) (u1 : Int32) (σ : zS) (w : Int32) (z0 : Option zA) (z1 : Option zA), fM_isName_J27 u0 u1 σ = some w → zEv d 124 27 [z0, z1] [zI u0, zI u1] σ (some (zI w), σ) := by
  intro u0 u1 σ w z0 z1 h
  unfold fM_isName_J27 at h
  refine ev_cmpne i124_27 (t := 34) (by decide) (p := 30) rfl h (fun c4 h => ?_) (fun c4 h => ?_)
  · refine ev_s i124_30 (p := 31) (zic_1 _ _ _ _ _) ?_
    refine ev_goto i124_31 (t := 35) (by decide) ?_
    obtain rfl := Option.some.inj h
    exact ev_zret i124_35 zr124 (by decide)
  · refine ev_s i124_34 (p := 35) (zic_0 _ _ _ _ _) ?_
    obtain rfl := Option.some.inj h
    exact ev_zret i124_35 zr124 (by decide)
def fM_isName (x1 : Int32) (σ : zS) : Option (Int32) := (if x1 = 115 then some (1) else (if x1 = 100 then some (1) else (if (σ 8 0 9) = 0 then fM_isName_J27 121 x1 σ else fM_isName_J27 111 x1 σ)))
set_option maxHeartbeats 4000000 in
theorem kM_isName (x1 : Int32) (σ : zS) (w : Int32) (h : fM_isName x1 σ = some w) (d : Nat) (hd : 0 ≤ d) : zEv d 124 0 [some (zR 8 0), some (zI x1)] [] σ (some (zI w), σ) := by
  unfold fM_isName at h
  refine ev_s i124_0 (p := 1) rfl ?_
  refine ev_s i124_1 (p := 3) (zib_115 _ _ _ _ _) ?_
  refine ev_cmpeq i124_3 (t := 30) (by decide) (p := 6) rfl h (fun c1 h => ?_) (fun c1 h => ?_)
  · refine ev_s i124_30 (p := 31) (zic_1 _ _ _ _ _) ?_
    refine ev_goto i124_31 (t := 35) (by decide) ?_
    obtain rfl := Option.some.inj h
    exact ev_zret i124_35 zr124 (by decide)
  · refine ev_s i124_6 (p := 7) rfl ?_
    refine ev_s i124_7 (p := 9) (zib_100 _ _ _ _ _) ?_
    refine ev_cmpeq i124_9 (t := 30) (by decide) (p := 12) rfl h (fun c2 h => ?_) (fun c2 h => ?_)
    · refine ev_s i124_30 (p := 31) (zic_1 _ _ _ _ _) ?_
      refine ev_goto i124_31 (t := 35) (by decide) ?_
      obtain rfl := Option.some.inj h
      exact ev_zret i124_35 zr124 (by decide)
    · refine ev_s i124_12 (p := 13) rfl ?_
      refine ev_s i124_13 (p := 14) rfl ?_
      refine ev_getf i124_14 zf8_68 (u := zI (σ 8 0 9)) rfl (p := 17) rfl ?_
      refine ev_ifne i124_17 (t := 25) (by decide) (p := 20) rfl h (fun c3 h => ?_) (fun c3 h => ?_)
      · refine ev_s i124_20 (p := 22) (zib_121 _ _ _ _ _) ?_
        refine ev_goto i124_22 (t := 27) (by decide) ?_
        exact kM_isName_J27 d hd 121 x1 σ w _ _ h
      · refine ev_s i124_25 (p := 27) (zib_111 _ _ _ _ _) ?_
        exact kM_isName_J27 d hd 111 x1 σ w _ _ h
/-! fM_opens -/
def fM_opens (σ : zS) : Option (Int32 × zS) := (if (σ 8 0 7) = 5 then some (0, σ) else zlt (zup σ 8 0 7 ((σ 8 0 7) + 1)) fun s2 => zlt (zup s2 8 0 6 ((s2 8 0 6) + 1)) fun s3 => some (1, s3))
set_option maxHeartbeats 4000000 in
theorem kM_opens  (σ : zS) (w : Int32 × zS) (h : fM_opens σ = some w) (d : Nat) (hd : 0 ≤ d) : zEv d 131 0 [some (zR 8 0)] [] σ (some (zI w.1), w.2) := by
  unfold fM_opens at h
  refine ev_s i131_0 (p := 1) rfl ?_
  refine ev_getf i131_1 zf8_98 (u := zI (σ 8 0 7)) rfl (p := 4) rfl ?_
  refine ev_s i131_4 (p := 5) (zic_5 _ _ _ _ _) ?_
  refine ev_cmpne i131_5 (t := 10) (by decide) (p := 8) rfl h (fun c1 h => ?_) (fun c1 h => ?_)
  · refine ev_s i131_8 (p := 9) (zic_0 _ _ _ _ _) ?_
    obtain rfl := Option.some.inj h
    exact ev_zret i131_9 zr131 (by decide)
  · refine ev_s i131_10 (p := 11) rfl ?_
    refine ev_s i131_11 (p := 12) rfl ?_
    refine ev_getf i131_12 zf8_98 (u := zI (σ 8 0 7)) rfl (p := 15) rfl ?_
    refine ev_s i131_15 (p := 16) (zic_1 _ _ _ _ _) ?_
    refine ev_s i131_16 (p := 17) (t := [zI ((σ 8 0 7) + 1), zR 8 0]) rfl ?_
    refine ev_putf i131_17 zf8_98 rfl rfl rfl (p := 20) rfl ?_
    refine ev_lets h (fun s2 es2 h => ?_)
    refine ev_s i131_20 (p := 21) rfl ?_
    refine ev_s i131_21 (p := 22) rfl ?_
    refine ev_getf i131_22 zf8_64 (u := zI (s2 8 0 6)) rfl (p := 25) rfl ?_
    refine ev_s i131_25 (p := 26) (zic_1 _ _ _ _ _) ?_
    refine ev_s i131_26 (p := 27) (t := [zI ((s2 8 0 6) + 1), zR 8 0]) rfl ?_
    refine ev_putf i131_27 zf8_64 rfl rfl rfl (p := 30) rfl ?_
    refine ev_lets h (fun s3 es3 h => ?_)
    refine ev_s i131_30 (p := 31) (zic_1 _ _ _ _ _) ?_
    obtain rfl := Option.some.inj h
    exact ev_zret i131_31 zr131 (by decide)
/-! fM_whole -/
def fM_whole_L9 (N : Nat) (G : Nat) (P126 : zS → Option (Int32 × zS)) (P127 : zS → Option (Int32 × zS)) (P128 : zS → Option (Int32 × zS)) (P129 : zS → Option (Int32 × zS)) (P130 : zS → Option (Int32 × zS)) (P132 : zS → Option (Int32 × zS)) : Nat → zS → Option (Int32 × zS)
  | 0, _ => none
  | n + 1, σ => (fM_look σ).bind fun r6 => (if r6 = 124 then zlt (zup σ 8 0 6 ((σ 8 0 6) + 1)) fun s8 => zb2 (P127 s8) fun r11 s10 => (if r11 = 0 then some (0, s10) else (fM_step1 3 124 s10).bind fun s14 => fM_whole_L9 N G P126 P127 P128 P129 P130 P132 n s14) else some (1, σ))
set_option maxHeartbeats 4000000 in
theorem kM_whole_L9 (N : Nat) (G : Nat) (P126 : zS → Option (Int32 × zS)) (P127 : zS → Option (Int32 × zS)) (P128 : zS → Option (Int32 × zS)) (P129 : zS → Option (Int32 × zS)) (P130 : zS → Option (Int32 × zS)) (P132 : zS → Option (Int32 × zS)) (d : Nat) (hd : 0 ≤ d) (hd1 : 1 + 1 ≤ d) (hP126 : ∀  (σ : zS) (w : Int32 × zS), P126 σ = some w → zEv (d - 1) 126 0 [some (zR 8 0)] [] σ (some (zI w.1), w.2)) (hP127 : ∀  (σ : zS) (w : Int32 × zS), P127 σ = some w → zEv (d - 1) 127 0 [some (zR 8 0)] [] σ (some (zI w.1), w.2)) (hP128 : ∀  (σ : zS) (w : Int32 × zS), P128 σ = some w → zEv (d - 1) 128 0 [some (zR 8 0), none] [] σ (some (zI w.1), w.2)) (hP129 : ∀  (σ : zS) (w : Int32 × zS), P129 σ = some w → zEv (d - 1) 129 0 [some (zR 8 0), none] [] σ (some (zI w.1), w.2)) (hP130 : ∀  (σ : zS) (w : Int32 × zS), P130 σ = some w → zEv (d - 1) 130 0 [some (zR 8 0), none] [] σ (some (zI w.1), w.2)) (hP132 : ∀  (σ : zS) (w : Int32 × zS), P132 σ = some w → zEv (d - 1) 132 0 [some (zR 8 0), none, none, none] [] σ (some (zI w.1), w.2)) : ∀ n : Nat, ∀ (σ : zS) (w : Int32 × zS), fM_whole_L9 N G P126 P127 P128 P129 P130 P132 n σ = some w → zEv d 126 9 [some (zR 8 0)] [] σ (some (zI w.1), w.2) := by
  intro n
  induction n with
  | zero =>
    intro σ w h
    cases h
  | succ n ih =>
    intro σ w h
    rw [fM_whole_L9] at h
    refine ev_s i126_9 (p := 10) rfl ?_
    obtain ⟨r6, hr5, h⟩ := bd_some h
    refine ev_callV i126_10 zc8_78 zm123 zo123 (as' := []) (rest := []) rfl rfl (Nat.le_of_ble_eq_true rfl) (Nat.le_of_ble_eq_true rfl) (Nat.le_of_ble_eq_true rfl) (by omega) (l0 := [some (zR 8 0)]) rfl (p := 13) rfl (kM_look σ r6 hr5 (d - 1) (by omega)) ?_
    change zEv d 126 13 [some (zR 8 0)] [zI r6] σ _
    refine ev_s i126_13 (p := 15) (zib_124 _ _ _ _ _) ?_
    refine ev_cmpne i126_15 (t := 47) (by decide) (p := 18) rfl h (fun c7 h => ?_) (fun c7 h => ?_)
    · refine ev_s i126_18 (p := 19) rfl ?_
      refine ev_s i126_19 (p := 20) rfl ?_
      refine ev_getf i126_20 zf8_64 (u := zI (σ 8 0 6)) rfl (p := 23) rfl ?_
      refine ev_s i126_23 (p := 24) (zic_1 _ _ _ _ _) ?_
      refine ev_s i126_24 (p := 25) (t := [zI ((σ 8 0 6) + 1), zR 8 0]) rfl ?_
      refine ev_putf i126_25 zf8_64 rfl rfl rfl (p := 28) rfl ?_
      refine ev_lets h (fun s8 es8 h => ?_)
      refine ev_s i126_28 (p := 29) rfl ?_
      obtain ⟨r11, s10, hr9, h⟩ := b2_some h
      refine ev_callV i126_29 zc8_74 zm127 zo127 (as' := []) (rest := []) rfl rfl (Nat.le_of_ble_eq_true rfl) (Nat.le_of_ble_eq_true rfl) (Nat.le_of_ble_eq_true rfl) (by omega) (l0 := [some (zR 8 0)]) rfl (p := 32) rfl (hP127 s8 (r11, s10) hr9) ?_
      change zEv d 126 32 [some (zR 8 0)] [zI r11] s10 _
      refine ev_ifne i126_32 (t := 37) (by decide) (p := 35) rfl h (fun c12 h => ?_) (fun c12 h => ?_)
      · refine ev_s i126_35 (p := 36) (zic_0 _ _ _ _ _) ?_
        obtain rfl := Option.some.inj h
        exact ev_zret i126_36 zr126 (by decide)
      · refine ev_s i126_37 (p := 38) rfl ?_
        refine ev_s i126_38 (p := 39) (zic_3 _ _ _ _ _) ?_
        refine ev_s i126_39 (p := 41) (zib_124 _ _ _ _ _) ?_
        obtain ⟨s14, hr13, h⟩ := bd_some h
        refine ev_callV i126_41 zc8_82 zm125 zo125 (as' := [zI 3, zI 124]) (rest := []) rfl rfl (Nat.le_of_ble_eq_true rfl) (Nat.le_of_ble_eq_true rfl) (Nat.le_of_ble_eq_true rfl) (by omega) (l0 := [some (zR 8 0), some (zI 3), some (zI 124)]) rfl (p := 44) rfl (kM_step1 3 124 s10 s14 hr13 (d - 1) (by omega)) ?_
        change zEv d 126 44 [some (zR 8 0)] [] s14 _
        refine ev_goto i126_44 (t := 9) (by decide) ?_
        exact ih s14 w h
    · refine ev_s i126_47 (p := 48) (zic_1 _ _ _ _ _) ?_
      obtain rfl := Option.some.inj h
      exact ev_zret i126_48 zr126 (by decide)
def fM_whole_b (N : Nat) (G : Nat) (P126 : zS → Option (Int32 × zS)) (P127 : zS → Option (Int32 × zS)) (P128 : zS → Option (Int32 × zS)) (P129 : zS → Option (Int32 × zS)) (P130 : zS → Option (Int32 × zS)) (P132 : zS → Option (Int32 × zS)) (σ : zS) : Option (Int32 × zS) := zb2 (P127 σ) fun r3 s2 => (if r3 = 0 then some (0, s2) else fM_whole_L9 N G P126 P127 P128 P129 P130 P132 N s2)
set_option maxHeartbeats 4000000 in
theorem kM_whole_b (N : Nat) (G : Nat) (P126 : zS → Option (Int32 × zS)) (P127 : zS → Option (Int32 × zS)) (P128 : zS → Option (Int32 × zS)) (P129 : zS → Option (Int32 × zS)) (P130 : zS → Option (Int32 × zS)) (P132 : zS → Option (Int32 × zS)) (σ : zS) (w : Int32 × zS) (d : Nat) (hd : 0 ≤ d) (hd1 : 1 + 1 ≤ d) (hP126 : ∀  (σ : zS) (w : Int32 × zS), P126 σ = some w → zEv (d - 1) 126 0 [some (zR 8 0)] [] σ (some (zI w.1), w.2)) (hP127 : ∀  (σ : zS) (w : Int32 × zS), P127 σ = some w → zEv (d - 1) 127 0 [some (zR 8 0)] [] σ (some (zI w.1), w.2)) (hP128 : ∀  (σ : zS) (w : Int32 × zS), P128 σ = some w → zEv (d - 1) 128 0 [some (zR 8 0), none] [] σ (some (zI w.1), w.2)) (hP129 : ∀  (σ : zS) (w : Int32 × zS), P129 σ = some w → zEv (d - 1) 129 0 [some (zR 8 0), none] [] σ (some (zI w.1), w.2)) (hP130 : ∀  (σ : zS) (w : Int32 × zS), P130 σ = some w → zEv (d - 1) 130 0 [some (zR 8 0), none] [] σ (some (zI w.1), w.2)) (hP132 : ∀  (σ : zS) (w : Int32 × zS), P132 σ = some w → zEv (d - 1) 132 0 [some (zR 8 0), none, none, none] [] σ (some (zI w.1), w.2)) (h : fM_whole_b N G P126 P127 P128 P129 P130 P132 σ = some w) : zEv d 126 0 [some (zR 8 0)] [] σ (some (zI w.1), w.2) := by
  unfold fM_whole_b at h
  refine ev_s i126_0 (p := 1) rfl ?_
  obtain ⟨r3, s2, hr1, h⟩ := b2_some h
  refine ev_callV i126_1 zc8_74 zm127 zo127 (as' := []) (rest := []) rfl rfl (Nat.le_of_ble_eq_true rfl) (Nat.le_of_ble_eq_true rfl) (Nat.le_of_ble_eq_true rfl) (by omega) (l0 := [some (zR 8 0)]) rfl (p := 4) rfl (hP127 σ (r3, s2) hr1) ?_
  change zEv d 126 4 [some (zR 8 0)] [zI r3] s2 _
  refine ev_ifne i126_4 (t := 9) (by decide) (p := 7) rfl h (fun c4 h => ?_) (fun c4 h => ?_)
  · refine ev_s i126_7 (p := 8) (zic_0 _ _ _ _ _) ?_
    obtain rfl := Option.some.inj h
    exact ev_zret i126_8 zr126 (by decide)
  · exact kM_whole_L9 N G P126 P127 P128 P129 P130 P132 d hd hd1 hP126 hP127 hP128 hP129 hP130 hP132 N s2 w h
def fM_both_L9 (N : Nat) (G : Nat) (P126 : zS → Option (Int32 × zS)) (P127 : zS → Option (Int32 × zS)) (P128 : zS → Option (Int32 × zS)) (P129 : zS → Option (Int32 × zS)) (P130 : zS → Option (Int32 × zS)) (P132 : zS → Option (Int32 × zS)) : Nat → zS → Option (Int32 × zS)
  | 0, _ => none
  | n + 1, σ => (fM_look σ).bind fun r6 => (if r6 = 38 then zlt (zup σ 8 0 6 ((σ 8 0 6) + 1)) fun s8 => zb2 (P128 s8) fun r11 s10 => (if r11 = 0 then some (0, s10) else (fM_step1 3 38 s10).bind fun s14 => fM_both_L9 N G P126 P127 P128 P129 P130 P132 n s14) else some (1, σ))
set_option maxHeartbeats 4000000 in
theorem kM_both_L9 (N : Nat) (G : Nat) (P126 : zS → Option (Int32 × zS)) (P127 : zS → Option (Int32 × zS)) (P128 : zS → Option (Int32 × zS)) (P129 : zS → Option (Int32 × zS)) (P130 : zS → Option (Int32 × zS)) (P132 : zS → Option (Int32 × zS)) (d : Nat) (hd : 0 ≤ d) (hd1 : 1 + 1 ≤ d) (hP126 : ∀  (σ : zS) (w : Int32 × zS), P126 σ = some w → zEv (d - 1) 126 0 [some (zR 8 0)] [] σ (some (zI w.1), w.2)) (hP127 : ∀  (σ : zS) (w : Int32 × zS), P127 σ = some w → zEv (d - 1) 127 0 [some (zR 8 0)] [] σ (some (zI w.1), w.2)) (hP128 : ∀  (σ : zS) (w : Int32 × zS), P128 σ = some w → zEv (d - 1) 128 0 [some (zR 8 0), none] [] σ (some (zI w.1), w.2)) (hP129 : ∀  (σ : zS) (w : Int32 × zS), P129 σ = some w → zEv (d - 1) 129 0 [some (zR 8 0), none] [] σ (some (zI w.1), w.2)) (hP130 : ∀  (σ : zS) (w : Int32 × zS), P130 σ = some w → zEv (d - 1) 130 0 [some (zR 8 0), none] [] σ (some (zI w.1), w.2)) (hP132 : ∀  (σ : zS) (w : Int32 × zS), P132 σ = some w → zEv (d - 1) 132 0 [some (zR 8 0), none, none, none] [] σ (some (zI w.1), w.2)) : ∀ n : Nat, ∀ (σ : zS) (w : Int32 × zS), fM_both_L9 N G P126 P127 P128 P129 P130 P132 n σ = some w → zEv d 127 9 [some (zR 8 0)] [] σ (some (zI w.1), w.2) := by
  intro n
  induction n with
  | zero =>
    intro σ w h
    cases h
  | succ n ih =>
    intro σ w h
    rw [fM_both_L9] at h
    refine ev_s i127_9 (p := 10) rfl ?_
    obtain ⟨r6, hr5, h⟩ := bd_some h
    refine ev_callV i127_10 zc8_78 zm123 zo123 (as' := []) (rest := []) rfl rfl (Nat.le_of_ble_eq_true rfl) (Nat.le_of_ble_eq_true rfl) (Nat.le_of_ble_eq_true rfl) (by omega) (l0 := [some (zR 8 0)]) rfl (p := 13) rfl (kM_look σ r6 hr5 (d - 1) (by omega)) ?_
    change zEv d 127 13 [some (zR 8 0)] [zI r6] σ _
    refine ev_s i127_13 (p := 15) (zib_38 _ _ _ _ _) ?_
    refine ev_cmpne i127_15 (t := 47) (by decide) (p := 18) rfl h (fun c7 h => ?_) (fun c7 h => ?_)
    · refine ev_s i127_18 (p := 19) rfl ?_
      refine ev_s i127_19 (p := 20) rfl ?_
      refine ev_getf i127_20 zf8_64 (u := zI (σ 8 0 6)) rfl (p := 23) rfl ?_
      refine ev_s i127_23 (p := 24) (zic_1 _ _ _ _ _) ?_
      refine ev_s i127_24 (p := 25) (t := [zI ((σ 8 0 6) + 1), zR 8 0]) rfl ?_
      refine ev_putf i127_25 zf8_64 rfl rfl rfl (p := 28) rfl ?_
      refine ev_lets h (fun s8 es8 h => ?_)
      refine ev_s i127_28 (p := 29) rfl ?_
      obtain ⟨r11, s10, hr9, h⟩ := b2_some h
      refine ev_callV i127_29 zc8_86 zm128 zo128 (as' := []) (rest := []) rfl rfl (Nat.le_of_ble_eq_true rfl) (Nat.le_of_ble_eq_true rfl) (Nat.le_of_ble_eq_true rfl) (by omega) (l0 := [some (zR 8 0), none]) rfl (p := 32) rfl (hP128 s8 (r11, s10) hr9) ?_
      change zEv d 127 32 [some (zR 8 0)] [zI r11] s10 _
      refine ev_ifne i127_32 (t := 37) (by decide) (p := 35) rfl h (fun c12 h => ?_) (fun c12 h => ?_)
      · refine ev_s i127_35 (p := 36) (zic_0 _ _ _ _ _) ?_
        obtain rfl := Option.some.inj h
        exact ev_zret i127_36 zr127 (by decide)
      · refine ev_s i127_37 (p := 38) rfl ?_
        refine ev_s i127_38 (p := 39) (zic_3 _ _ _ _ _) ?_
        refine ev_s i127_39 (p := 41) (zib_38 _ _ _ _ _) ?_
        obtain ⟨s14, hr13, h⟩ := bd_some h
        refine ev_callV i127_41 zc8_82 zm125 zo125 (as' := [zI 3, zI 38]) (rest := []) rfl rfl (Nat.le_of_ble_eq_true rfl) (Nat.le_of_ble_eq_true rfl) (Nat.le_of_ble_eq_true rfl) (by omega) (l0 := [some (zR 8 0), some (zI 3), some (zI 38)]) rfl (p := 44) rfl (kM_step1 3 38 s10 s14 hr13 (d - 1) (by omega)) ?_
        change zEv d 127 44 [some (zR 8 0)] [] s14 _
        refine ev_goto i127_44 (t := 9) (by decide) ?_
        exact ih s14 w h
    · refine ev_s i127_47 (p := 48) (zic_1 _ _ _ _ _) ?_
      obtain rfl := Option.some.inj h
      exact ev_zret i127_48 zr127 (by decide)
def fM_both_b (N : Nat) (G : Nat) (P126 : zS → Option (Int32 × zS)) (P127 : zS → Option (Int32 × zS)) (P128 : zS → Option (Int32 × zS)) (P129 : zS → Option (Int32 × zS)) (P130 : zS → Option (Int32 × zS)) (P132 : zS → Option (Int32 × zS)) (σ : zS) : Option (Int32 × zS) := zb2 (P128 σ) fun r3 s2 => (if r3 = 0 then some (0, s2) else fM_both_L9 N G P126 P127 P128 P129 P130 P132 N s2)
set_option maxHeartbeats 4000000 in
theorem kM_both_b (N : Nat) (G : Nat) (P126 : zS → Option (Int32 × zS)) (P127 : zS → Option (Int32 × zS)) (P128 : zS → Option (Int32 × zS)) (P129 : zS → Option (Int32 × zS)) (P130 : zS → Option (Int32 × zS)) (P132 : zS → Option (Int32 × zS)) (σ : zS) (w : Int32 × zS) (d : Nat) (hd : 0 ≤ d) (hd1 : 1 + 1 ≤ d) (hP126 : ∀  (σ : zS) (w : Int32 × zS), P126 σ = some w → zEv (d - 1) 126 0 [some (zR 8 0)] [] σ (some (zI w.1), w.2)) (hP127 : ∀  (σ : zS) (w : Int32 × zS), P127 σ = some w → zEv (d - 1) 127 0 [some (zR 8 0)] [] σ (some (zI w.1), w.2)) (hP128 : ∀  (σ : zS) (w : Int32 × zS), P128 σ = some w → zEv (d - 1) 128 0 [some (zR 8 0), none] [] σ (some (zI w.1), w.2)) (hP129 : ∀  (σ : zS) (w : Int32 × zS), P129 σ = some w → zEv (d - 1) 129 0 [some (zR 8 0), none] [] σ (some (zI w.1), w.2)) (hP130 : ∀  (σ : zS) (w : Int32 × zS), P130 σ = some w → zEv (d - 1) 130 0 [some (zR 8 0), none] [] σ (some (zI w.1), w.2)) (hP132 : ∀  (σ : zS) (w : Int32 × zS), P132 σ = some w → zEv (d - 1) 132 0 [some (zR 8 0), none, none, none] [] σ (some (zI w.1), w.2)) (h : fM_both_b N G P126 P127 P128 P129 P130 P132 σ = some w) : zEv d 127 0 [some (zR 8 0)] [] σ (some (zI w.1), w.2) := by
  unfold fM_both_b at h
  refine ev_s i127_0 (p := 1) rfl ?_
  obtain ⟨r3, s2, hr1, h⟩ := b2_some h
  refine ev_callV i127_1 zc8_86 zm128 zo128 (as' := []) (rest := []) rfl rfl (Nat.le_of_ble_eq_true rfl) (Nat.le_of_ble_eq_true rfl) (Nat.le_of_ble_eq_true rfl) (by omega) (l0 := [some (zR 8 0), none]) rfl (p := 4) rfl (hP128 σ (r3, s2) hr1) ?_
  change zEv d 127 4 [some (zR 8 0)] [zI r3] s2 _
  refine ev_ifne i127_4 (t := 9) (by decide) (p := 7) rfl h (fun c4 h => ?_) (fun c4 h => ?_)
  · refine ev_s i127_7 (p := 8) (zic_0 _ _ _ _ _) ?_
    obtain rfl := Option.some.inj h
    exact ev_zret i127_8 zr127 (by decide)
  · exact kM_both_L9 N G P126 P127 P128 P129 P130 P132 d hd hd1 hP126 hP127 hP128 hP129 hP130 hP132 N s2 w h
def fM_compared_J34 (N : Nat) (G : Nat) (P126 : zS → Option (Int32 × zS)) (P127 : zS → Option (Int32 × zS)) (P128 : zS → Option (Int32 × zS)) (P129 : zS → Option (Int32 × zS)) (P130 : zS → Option (Int32 × zS)) (P132 : zS → Option (Int32 × zS)) (y1 : Int32) (σ : zS) : Option (Int32 × zS) := zlt (zup σ 8 0 6 ((σ 8 0 6) + 1)) fun s10 => zb2 (P129 s10) fun r13 s12 => (if r13 = 0 then some (0, s12) else (fM_step1 3 y1 s12).bind fun s16 => some (1, s16))
set_option maxHeartbeats 4000000 in
theorem kM_compared_J34 (N : Nat) (G : Nat) (P126 : zS → Option (Int32 × zS)) (P127 : zS → Option (Int32 × zS)) (P128 : zS → Option (Int32 × zS)) (P129 : zS → Option (Int32 × zS)) (P130 : zS → Option (Int32 × zS)) (P132 : zS → Option (Int32 × zS)) (d : Nat) (hd : 0 ≤ d) (hd1 : 1 + 1 ≤ d) (hP126 : ∀  (σ : zS) (w : Int32 × zS), P126 σ = some w → zEv (d - 1) 126 0 [some (zR 8 0)] [] σ (some (zI w.1), w.2)) (hP127 : ∀  (σ : zS) (w : Int32 × zS), P127 σ = some w → zEv (d - 1) 127 0 [some (zR 8 0)] [] σ (some (zI w.1), w.2)) (hP128 : ∀  (σ : zS) (w : Int32 × zS), P128 σ = some w → zEv (d - 1) 128 0 [some (zR 8 0), none] [] σ (some (zI w.1), w.2)) (hP129 : ∀  (σ : zS) (w : Int32 × zS), P129 σ = some w → zEv (d - 1) 129 0 [some (zR 8 0), none] [] σ (some (zI w.1), w.2)) (hP130 : ∀  (σ : zS) (w : Int32 × zS), P130 σ = some w → zEv (d - 1) 130 0 [some (zR 8 0), none] [] σ (some (zI w.1), w.2)) (hP132 : ∀  (σ : zS) (w : Int32 × zS), P132 σ = some w → zEv (d - 1) 132 0 [some (zR 8 0), none, none, none] [] σ (some (zI w.1), w.2)) : ∀ (y1 : Int32) (σ : zS) (w : Int32 × zS), fM_compared_J34 N G P126 P127 P128 P129 P130 P132 y1 σ = some w → zEv d 128 34 [some (zR 8 0), some (zI y1)] [] σ (some (zI w.1), w.2) := by
  intro y1 σ w h
  unfold fM_compared_J34 at h
  refine ev_s i128_34 (p := 35) rfl ?_
  refine ev_s i128_35 (p := 36) rfl ?_
  refine ev_getf i128_36 zf8_64 (u := zI (σ 8 0 6)) rfl (p := 39) rfl ?_
  refine ev_s i128_39 (p := 40) (zic_1 _ _ _ _ _) ?_
  refine ev_s i128_40 (p := 41) (t := [zI ((σ 8 0 6) + 1), zR 8 0]) rfl ?_
  refine ev_putf i128_41 zf8_64 rfl rfl rfl (p := 44) rfl ?_
  refine ev_lets h (fun s10 es10 h => ?_)
  refine ev_s i128_44 (p := 45) rfl ?_
  obtain ⟨r13, s12, hr11, h⟩ := b2_some h
  refine ev_callV i128_45 zc8_89 zm129 zo129 (as' := []) (rest := []) rfl rfl (Nat.le_of_ble_eq_true rfl) (Nat.le_of_ble_eq_true rfl) (Nat.le_of_ble_eq_true rfl) (by omega) (l0 := [some (zR 8 0), none]) rfl (p := 48) rfl (hP129 s10 (r13, s12) hr11) ?_
  change zEv d 128 48 [some (zR 8 0), some (zI y1)] [zI r13] s12 _
  refine ev_ifne i128_48 (t := 53) (by decide) (p := 51) rfl h (fun c14 h => ?_) (fun c14 h => ?_)
  · refine ev_s i128_51 (p := 52) (zic_0 _ _ _ _ _) ?_
    obtain rfl := Option.some.inj h
    exact ev_zret i128_52 zr128 (by decide)
  · refine ev_s i128_53 (p := 54) rfl ?_
    refine ev_s i128_54 (p := 55) (zic_3 _ _ _ _ _) ?_
    refine ev_s i128_55 (p := 56) rfl ?_
    obtain ⟨s16, hr15, h⟩ := bd_some h
    refine ev_callV i128_56 zc8_82 zm125 zo125 (as' := [zI 3, zI y1]) (rest := []) rfl rfl (Nat.le_of_ble_eq_true rfl) (Nat.le_of_ble_eq_true rfl) (Nat.le_of_ble_eq_true rfl) (by omega) (l0 := [some (zR 8 0), some (zI 3), some (zI y1)]) rfl (p := 59) rfl (kM_step1 3 y1 s12 s16 hr15 (d - 1) (by omega)) ?_
    change zEv d 128 59 [some (zR 8 0), some (zI y1)] [] s16 _
    refine ev_s i128_59 (p := 60) (zic_1 _ _ _ _ _) ?_
    obtain rfl := Option.some.inj h
    exact ev_zret i128_60 zr128 (by decide)
def fM_compared_b (N : Nat) (G : Nat) (P126 : zS → Option (Int32 × zS)) (P127 : zS → Option (Int32 × zS)) (P128 : zS → Option (Int32 × zS)) (P129 : zS → Option (Int32 × zS)) (P130 : zS → Option (Int32 × zS)) (P132 : zS → Option (Int32 × zS)) (σ : zS) : Option (Int32 × zS) := zb2 (P129 σ) fun r3 s2 => (if r3 = 0 then some (0, s2) else (fM_look s2).bind fun r6 => (if r6 = 60 then fM_compared_J34 N G P126 P127 P128 P129 P130 P132 r6 s2 else (if r6 = 61 then fM_compared_J34 N G P126 P127 P128 P129 P130 P132 r6 s2 else (if r6 = 62 then fM_compared_J34 N G P126 P127 P128 P129 P130 P132 r6 s2 else some (1, s2)))))
set_option maxHeartbeats 4000000 in
theorem kM_compared_b (N : Nat) (G : Nat) (P126 : zS → Option (Int32 × zS)) (P127 : zS → Option (Int32 × zS)) (P128 : zS → Option (Int32 × zS)) (P129 : zS → Option (Int32 × zS)) (P130 : zS → Option (Int32 × zS)) (P132 : zS → Option (Int32 × zS)) (σ : zS) (w : Int32 × zS) (d : Nat) (hd : 0 ≤ d) (hd1 : 1 + 1 ≤ d) (hP126 : ∀  (σ : zS) (w : Int32 × zS), P126 σ = some w → zEv (d - 1) 126 0 [some (zR 8 0)] [] σ (some (zI w.1), w.2)) (hP127 : ∀  (σ : zS) (w : Int32 × zS), P127 σ = some w → zEv (d - 1) 127 0 [some (zR 8 0)] [] σ (some (zI w.1), w.2)) (hP128 : ∀  (σ : zS) (w : Int32 × zS), P128 σ = some w → zEv (d - 1) 128 0 [some (zR 8 0), none] [] σ (some (zI w.1), w.2)) (hP129 : ∀  (σ : zS) (w : Int32 × zS), P129 σ = some w → zEv (d - 1) 129 0 [some (zR 8 0), none] [] σ (some (zI w.1), w.2)) (hP130 : ∀  (σ : zS) (w : Int32 × zS), P130 σ = some w → zEv (d - 1) 130 0 [some (zR 8 0), none] [] σ (some (zI w.1), w.2)) (hP132 : ∀  (σ : zS) (w : Int32 × zS), P132 σ = some w → zEv (d - 1) 132 0 [some (zR 8 0), none, none, none] [] σ (some (zI w.1), w.2)) (h : fM_compared_b N G P126 P127 P128 P129 P130 P132 σ = some w) : zEv d 128 0 [some (zR 8 0), none] [] σ (some (zI w.1), w.2) := by
  unfold fM_compared_b at h
  refine ev_s i128_0 (p := 1) rfl ?_
  obtain ⟨r3, s2, hr1, h⟩ := b2_some h
  refine ev_callV i128_1 zc8_89 zm129 zo129 (as' := []) (rest := []) rfl rfl (Nat.le_of_ble_eq_true rfl) (Nat.le_of_ble_eq_true rfl) (Nat.le_of_ble_eq_true rfl) (by omega) (l0 := [some (zR 8 0), none]) rfl (p := 4) rfl (hP129 σ (r3, s2) hr1) ?_
  change zEv d 128 4 [some (zR 8 0), none] [zI r3] s2 _
  refine ev_ifne i128_4 (t := 9) (by decide) (p := 7) rfl h (fun c4 h => ?_) (fun c4 h => ?_)
  · refine ev_s i128_7 (p := 8) (zic_0 _ _ _ _ _) ?_
    obtain rfl := Option.some.inj h
    exact ev_zret i128_8 zr128 (by decide)
  · refine ev_s i128_9 (p := 10) rfl ?_
    obtain ⟨r6, hr5, h⟩ := bd_some h
    refine ev_callV i128_10 zc8_78 zm123 zo123 (as' := []) (rest := []) rfl rfl (Nat.le_of_ble_eq_true rfl) (Nat.le_of_ble_eq_true rfl) (Nat.le_of_ble_eq_true rfl) (by omega) (l0 := [some (zR 8 0)]) rfl (p := 13) rfl (kM_look s2 r6 hr5 (d - 1) (by omega)) ?_
    change zEv d 128 13 [some (zR 8 0), none] [zI r6] s2 _
    refine ev_s i128_13 (p := 14) (l := [some (zR 8 0), some (zI r6)]) rfl ?_
    refine ev_s i128_14 (p := 15) rfl ?_
    refine ev_s i128_15 (p := 17) (zib_60 _ _ _ _ _) ?_
    refine ev_cmpeq i128_17 (t := 34) (by decide) (p := 20) rfl h (fun c7 h => ?_) (fun c7 h => ?_)
    · exact kM_compared_J34 N G P126 P127 P128 P129 P130 P132 d hd hd1 hP126 hP127 hP128 hP129 hP130 hP132 r6 s2 w h
    · refine ev_s i128_20 (p := 21) rfl ?_
      refine ev_s i128_21 (p := 23) (zib_61 _ _ _ _ _) ?_
      refine ev_cmpeq i128_23 (t := 34) (by decide) (p := 26) rfl h (fun c8 h => ?_) (fun c8 h => ?_)
      · exact kM_compared_J34 N G P126 P127 P128 P129 P130 P132 d hd hd1 hP126 hP127 hP128 hP129 hP130 hP132 r6 s2 w h
      · refine ev_s i128_26 (p := 27) rfl ?_
        refine ev_s i128_27 (p := 29) (zib_62 _ _ _ _ _) ?_
        refine ev_cmpeq i128_29 (t := 34) (by decide) (p := 32) rfl h (fun c9 h => ?_) (fun c9 h => ?_)
        · exact kM_compared_J34 N G P126 P127 P128 P129 P130 P132 d hd hd1 hP126 hP127 hP128 hP129 hP130 hP132 r6 s2 w h
        · refine ev_s i128_32 (p := 33) (zic_1 _ _ _ _ _) ?_
          obtain rfl := Option.some.inj h
          exact ev_zret i128_33 zr128 (by decide)
def fM_sum_J27 (N : Nat) (G : Nat) (P126 : zS → Option (Int32 × zS)) (P127 : zS → Option (Int32 × zS)) (P128 : zS → Option (Int32 × zS)) (P129 : zS → Option (Int32 × zS)) (P130 : zS → Option (Int32 × zS)) (P132 : zS → Option (Int32 × zS)) (K9 : zS → Option (Int32 × zS)) (σ : zS) : Option (Int32 × zS) := (fM_look σ).bind fun r12 => zlt (zup σ 8 0 6 ((σ 8 0 6) + 1)) fun s13 => zb2 (P130 s13) fun r16 s15 => (if r16 = 0 then some (0, s15) else (fM_step1 3 r12 s15).bind fun s19 => K9 s19)
set_option maxHeartbeats 4000000 in
theorem kM_sum_J27 (N : Nat) (G : Nat) (P126 : zS → Option (Int32 × zS)) (P127 : zS → Option (Int32 × zS)) (P128 : zS → Option (Int32 × zS)) (P129 : zS → Option (Int32 × zS)) (P130 : zS → Option (Int32 × zS)) (P132 : zS → Option (Int32 × zS)) (d : Nat) (hd : 0 ≤ d) (hd1 : 1 + 1 ≤ d) (hP126 : ∀  (σ : zS) (w : Int32 × zS), P126 σ = some w → zEv (d - 1) 126 0 [some (zR 8 0)] [] σ (some (zI w.1), w.2)) (hP127 : ∀  (σ : zS) (w : Int32 × zS), P127 σ = some w → zEv (d - 1) 127 0 [some (zR 8 0)] [] σ (some (zI w.1), w.2)) (hP128 : ∀  (σ : zS) (w : Int32 × zS), P128 σ = some w → zEv (d - 1) 128 0 [some (zR 8 0), none] [] σ (some (zI w.1), w.2)) (hP129 : ∀  (σ : zS) (w : Int32 × zS), P129 σ = some w → zEv (d - 1) 129 0 [some (zR 8 0), none] [] σ (some (zI w.1), w.2)) (hP130 : ∀  (σ : zS) (w : Int32 × zS), P130 σ = some w → zEv (d - 1) 130 0 [some (zR 8 0), none] [] σ (some (zI w.1), w.2)) (hP132 : ∀  (σ : zS) (w : Int32 × zS), P132 σ = some w → zEv (d - 1) 132 0 [some (zR 8 0), none, none, none] [] σ (some (zI w.1), w.2)) (K9 : zS → Option (Int32 × zS)) (hK9 : ∀ (σ : zS) (w : Int32 × zS) (z1 : Option zA), K9 σ = some w → zEv d 129 9 [some (zR 8 0), z1] [] σ (some (zI w.1), w.2)) : ∀ (σ : zS) (w : Int32 × zS) (z1 : Option zA), fM_sum_J27 N G P126 P127 P128 P129 P130 P132 K9 σ = some w → zEv d 129 27 [some (zR 8 0), z1] [] σ (some (zI w.1), w.2) := by
  intro σ w z1 h
  unfold fM_sum_J27 at h
  refine ev_s i129_27 (p := 28) rfl ?_
  obtain ⟨r12, hr11, h⟩ := bd_some h
  refine ev_callV i129_28 zc8_78 zm123 zo123 (as' := []) (rest := []) rfl rfl (Nat.le_of_ble_eq_true rfl) (Nat.le_of_ble_eq_true rfl) (Nat.le_of_ble_eq_true rfl) (by omega) (l0 := [some (zR 8 0)]) rfl (p := 31) rfl (kM_look σ r12 hr11 (d - 1) (by omega)) ?_
  change zEv d 129 31 [some (zR 8 0), z1] [zI r12] σ _
  refine ev_s i129_31 (p := 32) (l := [some (zR 8 0), some (zI r12)]) rfl ?_
  refine ev_s i129_32 (p := 33) rfl ?_
  refine ev_s i129_33 (p := 34) rfl ?_
  refine ev_getf i129_34 zf8_64 (u := zI (σ 8 0 6)) rfl (p := 37) rfl ?_
  refine ev_s i129_37 (p := 38) (zic_1 _ _ _ _ _) ?_
  refine ev_s i129_38 (p := 39) (t := [zI ((σ 8 0 6) + 1), zR 8 0]) rfl ?_
  refine ev_putf i129_39 zf8_64 rfl rfl rfl (p := 42) rfl ?_
  refine ev_lets h (fun s13 es13 h => ?_)
  refine ev_s i129_42 (p := 43) rfl ?_
  obtain ⟨r16, s15, hr14, h⟩ := b2_some h
  refine ev_callV i129_43 zc8_92 zm130 zo130 (as' := []) (rest := []) rfl rfl (Nat.le_of_ble_eq_true rfl) (Nat.le_of_ble_eq_true rfl) (Nat.le_of_ble_eq_true rfl) (by omega) (l0 := [some (zR 8 0), none]) rfl (p := 46) rfl (hP130 s13 (r16, s15) hr14) ?_
  change zEv d 129 46 [some (zR 8 0), some (zI r12)] [zI r16] s15 _
  refine ev_ifne i129_46 (t := 51) (by decide) (p := 49) rfl h (fun c17 h => ?_) (fun c17 h => ?_)
  · refine ev_s i129_49 (p := 50) (zic_0 _ _ _ _ _) ?_
    obtain rfl := Option.some.inj h
    exact ev_zret i129_50 zr129 (by decide)
  · refine ev_s i129_51 (p := 52) rfl ?_
    refine ev_s i129_52 (p := 53) (zic_3 _ _ _ _ _) ?_
    refine ev_s i129_53 (p := 54) rfl ?_
    obtain ⟨s19, hr18, h⟩ := bd_some h
    refine ev_callV i129_54 zc8_82 zm125 zo125 (as' := [zI 3, zI r12]) (rest := []) rfl rfl (Nat.le_of_ble_eq_true rfl) (Nat.le_of_ble_eq_true rfl) (Nat.le_of_ble_eq_true rfl) (by omega) (l0 := [some (zR 8 0), some (zI 3), some (zI r12)]) rfl (p := 57) rfl (kM_step1 3 r12 s15 s19 hr18 (d - 1) (by omega)) ?_
    change zEv d 129 57 [some (zR 8 0), some (zI r12)] [] s19 _
    refine ev_goto i129_57 (t := 9) (by decide) ?_
    exact hK9 s19 w _ h
def fM_sum_L9 (N : Nat) (G : Nat) (P126 : zS → Option (Int32 × zS)) (P127 : zS → Option (Int32 × zS)) (P128 : zS → Option (Int32 × zS)) (P129 : zS → Option (Int32 × zS)) (P130 : zS → Option (Int32 × zS)) (P132 : zS → Option (Int32 × zS)) : Nat → zS → Option (Int32 × zS)
  | 0, _ => none
  | n + 1, σ => (fM_look σ).bind fun r6 => (if r6 = 43 then fM_sum_J27 N G P126 P127 P128 P129 P130 P132 (fun σ => fM_sum_L9 N G P126 P127 P128 P129 P130 P132 n σ) σ else (fM_look σ).bind fun r9 => (if r9 = 45 then fM_sum_J27 N G P126 P127 P128 P129 P130 P132 (fun σ => fM_sum_L9 N G P126 P127 P128 P129 P130 P132 n σ) σ else some (1, σ)))
set_option maxHeartbeats 4000000 in
theorem kM_sum_L9 (N : Nat) (G : Nat) (P126 : zS → Option (Int32 × zS)) (P127 : zS → Option (Int32 × zS)) (P128 : zS → Option (Int32 × zS)) (P129 : zS → Option (Int32 × zS)) (P130 : zS → Option (Int32 × zS)) (P132 : zS → Option (Int32 × zS)) (d : Nat) (hd : 0 ≤ d) (hd1 : 1 + 1 ≤ d) (hP126 : ∀  (σ : zS) (w : Int32 × zS), P126 σ = some w → zEv (d - 1) 126 0 [some (zR 8 0)] [] σ (some (zI w.1), w.2)) (hP127 : ∀  (σ : zS) (w : Int32 × zS), P127 σ = some w → zEv (d - 1) 127 0 [some (zR 8 0)] [] σ (some (zI w.1), w.2)) (hP128 : ∀  (σ : zS) (w : Int32 × zS), P128 σ = some w → zEv (d - 1) 128 0 [some (zR 8 0), none] [] σ (some (zI w.1), w.2)) (hP129 : ∀  (σ : zS) (w : Int32 × zS), P129 σ = some w → zEv (d - 1) 129 0 [some (zR 8 0), none] [] σ (some (zI w.1), w.2)) (hP130 : ∀  (σ : zS) (w : Int32 × zS), P130 σ = some w → zEv (d - 1) 130 0 [some (zR 8 0), none] [] σ (some (zI w.1), w.2)) (hP132 : ∀  (σ : zS) (w : Int32 × zS), P132 σ = some w → zEv (d - 1) 132 0 [some (zR 8 0), none, none, none] [] σ (some (zI w.1), w.2)) : ∀ n : Nat, ∀ (σ : zS) (w : Int32 × zS) (z1 : Option zA), fM_sum_L9 N G P126 P127 P128 P129 P130 P132 n σ = some w → zEv d 129 9 [some (zR 8 0), z1] [] σ (some (zI w.1), w.2) := by
  intro n
  induction n with
  | zero =>
    intro σ w z1 h
    cases h
  | succ n ih =>
    intro σ w z1 h
    rw [fM_sum_L9] at h
    refine ev_s i129_9 (p := 10) rfl ?_
    obtain ⟨r6, hr5, h⟩ := bd_some h
    refine ev_callV i129_10 zc8_78 zm123 zo123 (as' := []) (rest := []) rfl rfl (Nat.le_of_ble_eq_true rfl) (Nat.le_of_ble_eq_true rfl) (Nat.le_of_ble_eq_true rfl) (by omega) (l0 := [some (zR 8 0)]) rfl (p := 13) rfl (kM_look σ r6 hr5 (d - 1) (by omega)) ?_
    change zEv d 129 13 [some (zR 8 0), z1] [zI r6] σ _
    refine ev_s i129_13 (p := 15) (zib_43 _ _ _ _ _) ?_
    refine ev_cmpeq i129_15 (t := 27) (by decide) (p := 18) rfl h (fun c7 h => ?_) (fun c7 h => ?_)
    · exact kM_sum_J27 N G P126 P127 P128 P129 P130 P132 d hd hd1 hP126 hP127 hP128 hP129 hP130 hP132 (fun σ => fM_sum_L9 N G P126 P127 P128 P129 P130 P132 n σ) ih σ w _ h
    · refine ev_s i129_18 (p := 19) rfl ?_
      obtain ⟨r9, hr8, h⟩ := bd_some h
      refine ev_callV i129_19 zc8_78 zm123 zo123 (as' := []) (rest := []) rfl rfl (Nat.le_of_ble_eq_true rfl) (Nat.le_of_ble_eq_true rfl) (Nat.le_of_ble_eq_true rfl) (by omega) (l0 := [some (zR 8 0)]) rfl (p := 22) rfl (kM_look σ r9 hr8 (d - 1) (by omega)) ?_
      change zEv d 129 22 [some (zR 8 0), z1] [zI r9] σ _
      refine ev_s i129_22 (p := 24) (zib_45 _ _ _ _ _) ?_
      refine ev_cmpne i129_24 (t := 60) (by decide) (p := 27) rfl h (fun c10 h => ?_) (fun c10 h => ?_)
      · exact kM_sum_J27 N G P126 P127 P128 P129 P130 P132 d hd hd1 hP126 hP127 hP128 hP129 hP130 hP132 (fun σ => fM_sum_L9 N G P126 P127 P128 P129 P130 P132 n σ) ih σ w _ h
      · refine ev_s i129_60 (p := 61) (zic_1 _ _ _ _ _) ?_
        obtain rfl := Option.some.inj h
        exact ev_zret i129_61 zr129 (by decide)
def fM_sum_b (N : Nat) (G : Nat) (P126 : zS → Option (Int32 × zS)) (P127 : zS → Option (Int32 × zS)) (P128 : zS → Option (Int32 × zS)) (P129 : zS → Option (Int32 × zS)) (P130 : zS → Option (Int32 × zS)) (P132 : zS → Option (Int32 × zS)) (σ : zS) : Option (Int32 × zS) := zb2 (P130 σ) fun r3 s2 => (if r3 = 0 then some (0, s2) else fM_sum_L9 N G P126 P127 P128 P129 P130 P132 N s2)
set_option maxHeartbeats 4000000 in
theorem kM_sum_b (N : Nat) (G : Nat) (P126 : zS → Option (Int32 × zS)) (P127 : zS → Option (Int32 × zS)) (P128 : zS → Option (Int32 × zS)) (P129 : zS → Option (Int32 × zS)) (P130 : zS → Option (Int32 × zS)) (P132 : zS → Option (Int32 × zS)) (σ : zS) (w : Int32 × zS) (d : Nat) (hd : 0 ≤ d) (hd1 : 1 + 1 ≤ d) (hP126 : ∀  (σ : zS) (w : Int32 × zS), P126 σ = some w → zEv (d - 1) 126 0 [some (zR 8 0)] [] σ (some (zI w.1), w.2)) (hP127 : ∀  (σ : zS) (w : Int32 × zS), P127 σ = some w → zEv (d - 1) 127 0 [some (zR 8 0)] [] σ (some (zI w.1), w.2)) (hP128 : ∀  (σ : zS) (w : Int32 × zS), P128 σ = some w → zEv (d - 1) 128 0 [some (zR 8 0), none] [] σ (some (zI w.1), w.2)) (hP129 : ∀  (σ : zS) (w : Int32 × zS), P129 σ = some w → zEv (d - 1) 129 0 [some (zR 8 0), none] [] σ (some (zI w.1), w.2)) (hP130 : ∀  (σ : zS) (w : Int32 × zS), P130 σ = some w → zEv (d - 1) 130 0 [some (zR 8 0), none] [] σ (some (zI w.1), w.2)) (hP132 : ∀  (σ : zS) (w : Int32 × zS), P132 σ = some w → zEv (d - 1) 132 0 [some (zR 8 0), none, none, none] [] σ (some (zI w.1), w.2)) (h : fM_sum_b N G P126 P127 P128 P129 P130 P132 σ = some w) : zEv d 129 0 [some (zR 8 0), none] [] σ (some (zI w.1), w.2) := by
  unfold fM_sum_b at h
  refine ev_s i129_0 (p := 1) rfl ?_
  obtain ⟨r3, s2, hr1, h⟩ := b2_some h
  refine ev_callV i129_1 zc8_92 zm130 zo130 (as' := []) (rest := []) rfl rfl (Nat.le_of_ble_eq_true rfl) (Nat.le_of_ble_eq_true rfl) (Nat.le_of_ble_eq_true rfl) (by omega) (l0 := [some (zR 8 0), none]) rfl (p := 4) rfl (hP130 σ (r3, s2) hr1) ?_
  change zEv d 129 4 [some (zR 8 0), none] [zI r3] s2 _
  refine ev_ifne i129_4 (t := 9) (by decide) (p := 7) rfl h (fun c4 h => ?_) (fun c4 h => ?_)
  · refine ev_s i129_7 (p := 8) (zic_0 _ _ _ _ _) ?_
    obtain rfl := Option.some.inj h
    exact ev_zret i129_8 zr129 (by decide)
  · exact kM_sum_L9 N G P126 P127 P128 P129 P130 P132 d hd hd1 hP126 hP127 hP128 hP129 hP130 hP132 N s2 w _ h
def fM_product_J36 (N : Nat) (G : Nat) (P126 : zS → Option (Int32 × zS)) (P127 : zS → Option (Int32 × zS)) (P128 : zS → Option (Int32 × zS)) (P129 : zS → Option (Int32 × zS)) (P130 : zS → Option (Int32 × zS)) (P132 : zS → Option (Int32 × zS)) (K9 : zS → Option (Int32 × zS)) (σ : zS) : Option (Int32 × zS) := (fM_look σ).bind fun r15 => zlt (zup σ 8 0 6 ((σ 8 0 6) + 1)) fun s16 => zb2 (P132 s16) fun r19 s18 => (if r19 = 0 then some (0, s18) else (fM_step1 3 r15 s18).bind fun s22 => K9 s22)
set_option maxHeartbeats 4000000 in
theorem kM_product_J36 (N : Nat) (G : Nat) (P126 : zS → Option (Int32 × zS)) (P127 : zS → Option (Int32 × zS)) (P128 : zS → Option (Int32 × zS)) (P129 : zS → Option (Int32 × zS)) (P130 : zS → Option (Int32 × zS)) (P132 : zS → Option (Int32 × zS)) (d : Nat) (hd : 0 ≤ d) (hd1 : 1 + 1 ≤ d) (hP126 : ∀  (σ : zS) (w : Int32 × zS), P126 σ = some w → zEv (d - 1) 126 0 [some (zR 8 0)] [] σ (some (zI w.1), w.2)) (hP127 : ∀  (σ : zS) (w : Int32 × zS), P127 σ = some w → zEv (d - 1) 127 0 [some (zR 8 0)] [] σ (some (zI w.1), w.2)) (hP128 : ∀  (σ : zS) (w : Int32 × zS), P128 σ = some w → zEv (d - 1) 128 0 [some (zR 8 0), none] [] σ (some (zI w.1), w.2)) (hP129 : ∀  (σ : zS) (w : Int32 × zS), P129 σ = some w → zEv (d - 1) 129 0 [some (zR 8 0), none] [] σ (some (zI w.1), w.2)) (hP130 : ∀  (σ : zS) (w : Int32 × zS), P130 σ = some w → zEv (d - 1) 130 0 [some (zR 8 0), none] [] σ (some (zI w.1), w.2)) (hP132 : ∀  (σ : zS) (w : Int32 × zS), P132 σ = some w → zEv (d - 1) 132 0 [some (zR 8 0), none, none, none] [] σ (some (zI w.1), w.2)) (K9 : zS → Option (Int32 × zS)) (hK9 : ∀ (σ : zS) (w : Int32 × zS) (z1 : Option zA), K9 σ = some w → zEv d 130 9 [some (zR 8 0), z1] [] σ (some (zI w.1), w.2)) : ∀ (σ : zS) (w : Int32 × zS) (z1 : Option zA), fM_product_J36 N G P126 P127 P128 P129 P130 P132 K9 σ = some w → zEv d 130 36 [some (zR 8 0), z1] [] σ (some (zI w.1), w.2) := by
  intro σ w z1 h
  unfold fM_product_J36 at h
  refine ev_s i130_36 (p := 37) rfl ?_
  obtain ⟨r15, hr14, h⟩ := bd_some h
  refine ev_callV i130_37 zc8_78 zm123 zo123 (as' := []) (rest := []) rfl rfl (Nat.le_of_ble_eq_true rfl) (Nat.le_of_ble_eq_true rfl) (Nat.le_of_ble_eq_true rfl) (by omega) (l0 := [some (zR 8 0)]) rfl (p := 40) rfl (kM_look σ r15 hr14 (d - 1) (by omega)) ?_
  change zEv d 130 40 [some (zR 8 0), z1] [zI r15] σ _
  refine ev_s i130_40 (p := 41) (l := [some (zR 8 0), some (zI r15)]) rfl ?_
  refine ev_s i130_41 (p := 42) rfl ?_
  refine ev_s i130_42 (p := 43) rfl ?_
  refine ev_getf i130_43 zf8_64 (u := zI (σ 8 0 6)) rfl (p := 46) rfl ?_
  refine ev_s i130_46 (p := 47) (zic_1 _ _ _ _ _) ?_
  refine ev_s i130_47 (p := 48) (t := [zI ((σ 8 0 6) + 1), zR 8 0]) rfl ?_
  refine ev_putf i130_48 zf8_64 rfl rfl rfl (p := 51) rfl ?_
  refine ev_lets h (fun s16 es16 h => ?_)
  refine ev_s i130_51 (p := 52) rfl ?_
  obtain ⟨r19, s18, hr17, h⟩ := b2_some h
  refine ev_callV i130_52 zc8_95 zm132 zo132 (as' := []) (rest := []) rfl rfl (Nat.le_of_ble_eq_true rfl) (Nat.le_of_ble_eq_true rfl) (Nat.le_of_ble_eq_true rfl) (by omega) (l0 := [some (zR 8 0), none, none, none]) rfl (p := 55) rfl (hP132 s16 (r19, s18) hr17) ?_
  change zEv d 130 55 [some (zR 8 0), some (zI r15)] [zI r19] s18 _
  refine ev_ifne i130_55 (t := 60) (by decide) (p := 58) rfl h (fun c20 h => ?_) (fun c20 h => ?_)
  · refine ev_s i130_58 (p := 59) (zic_0 _ _ _ _ _) ?_
    obtain rfl := Option.some.inj h
    exact ev_zret i130_59 zr130 (by decide)
  · refine ev_s i130_60 (p := 61) rfl ?_
    refine ev_s i130_61 (p := 62) (zic_3 _ _ _ _ _) ?_
    refine ev_s i130_62 (p := 63) rfl ?_
    obtain ⟨s22, hr21, h⟩ := bd_some h
    refine ev_callV i130_63 zc8_82 zm125 zo125 (as' := [zI 3, zI r15]) (rest := []) rfl rfl (Nat.le_of_ble_eq_true rfl) (Nat.le_of_ble_eq_true rfl) (Nat.le_of_ble_eq_true rfl) (by omega) (l0 := [some (zR 8 0), some (zI 3), some (zI r15)]) rfl (p := 66) rfl (kM_step1 3 r15 s18 s22 hr21 (d - 1) (by omega)) ?_
    change zEv d 130 66 [some (zR 8 0), some (zI r15)] [] s22 _
    refine ev_goto i130_66 (t := 9) (by decide) ?_
    exact hK9 s22 w _ h
def fM_product_L9 (N : Nat) (G : Nat) (P126 : zS → Option (Int32 × zS)) (P127 : zS → Option (Int32 × zS)) (P128 : zS → Option (Int32 × zS)) (P129 : zS → Option (Int32 × zS)) (P130 : zS → Option (Int32 × zS)) (P132 : zS → Option (Int32 × zS)) : Nat → zS → Option (Int32 × zS)
  | 0, _ => none
  | n + 1, σ => (fM_look σ).bind fun r6 => (if r6 = 42 then fM_product_J36 N G P126 P127 P128 P129 P130 P132 (fun σ => fM_product_L9 N G P126 P127 P128 P129 P130 P132 n σ) σ else (fM_look σ).bind fun r9 => (if r9 = 47 then fM_product_J36 N G P126 P127 P128 P129 P130 P132 (fun σ => fM_product_L9 N G P126 P127 P128 P129 P130 P132 n σ) σ else (fM_look σ).bind fun r12 => (if r12 = 37 then fM_product_J36 N G P126 P127 P128 P129 P130 P132 (fun σ => fM_product_L9 N G P126 P127 P128 P129 P130 P132 n σ) σ else some (1, σ))))
set_option maxHeartbeats 4000000 in
theorem kM_product_L9 (N : Nat) (G : Nat) (P126 : zS → Option (Int32 × zS)) (P127 : zS → Option (Int32 × zS)) (P128 : zS → Option (Int32 × zS)) (P129 : zS → Option (Int32 × zS)) (P130 : zS → Option (Int32 × zS)) (P132 : zS → Option (Int32 × zS)) (d : Nat) (hd : 0 ≤ d) (hd1 : 1 + 1 ≤ d) (hP126 : ∀  (σ : zS) (w : Int32 × zS), P126 σ = some w → zEv (d - 1) 126 0 [some (zR 8 0)] [] σ (some (zI w.1), w.2)) (hP127 : ∀  (σ : zS) (w : Int32 × zS), P127 σ = some w → zEv (d - 1) 127 0 [some (zR 8 0)] [] σ (some (zI w.1), w.2)) (hP128 : ∀  (σ : zS) (w : Int32 × zS), P128 σ = some w → zEv (d - 1) 128 0 [some (zR 8 0), none] [] σ (some (zI w.1), w.2)) (hP129 : ∀  (σ : zS) (w : Int32 × zS), P129 σ = some w → zEv (d - 1) 129 0 [some (zR 8 0), none] [] σ (some (zI w.1), w.2)) (hP130 : ∀  (σ : zS) (w : Int32 × zS), P130 σ = some w → zEv (d - 1) 130 0 [some (zR 8 0), none] [] σ (some (zI w.1), w.2)) (hP132 : ∀  (σ : zS) (w : Int32 × zS), P132 σ = some w → zEv (d - 1) 132 0 [some (zR 8 0), none, none, none] [] σ (some (zI w.1), w.2)) : ∀ n : Nat, ∀ (σ : zS) (w : Int32 × zS) (z1 : Option zA), fM_product_L9 N G P126 P127 P128 P129 P130 P132 n σ = some w → zEv d 130 9 [some (zR 8 0), z1] [] σ (some (zI w.1), w.2) := by
  intro n
  induction n with
  | zero =>
    intro σ w z1 h
    cases h
  | succ n ih =>
    intro σ w z1 h
    rw [fM_product_L9] at h
    refine ev_s i130_9 (p := 10) rfl ?_
    obtain ⟨r6, hr5, h⟩ := bd_some h
    refine ev_callV i130_10 zc8_78 zm123 zo123 (as' := []) (rest := []) rfl rfl (Nat.le_of_ble_eq_true rfl) (Nat.le_of_ble_eq_true rfl) (Nat.le_of_ble_eq_true rfl) (by omega) (l0 := [some (zR 8 0)]) rfl (p := 13) rfl (kM_look σ r6 hr5 (d - 1) (by omega)) ?_
    change zEv d 130 13 [some (zR 8 0), z1] [zI r6] σ _
    refine ev_s i130_13 (p := 15) (zib_42 _ _ _ _ _) ?_
    refine ev_cmpeq i130_15 (t := 36) (by decide) (p := 18) rfl h (fun c7 h => ?_) (fun c7 h => ?_)
    · exact kM_product_J36 N G P126 P127 P128 P129 P130 P132 d hd hd1 hP126 hP127 hP128 hP129 hP130 hP132 (fun σ => fM_product_L9 N G P126 P127 P128 P129 P130 P132 n σ) ih σ w _ h
    · refine ev_s i130_18 (p := 19) rfl ?_
      obtain ⟨r9, hr8, h⟩ := bd_some h
      refine ev_callV i130_19 zc8_78 zm123 zo123 (as' := []) (rest := []) rfl rfl (Nat.le_of_ble_eq_true rfl) (Nat.le_of_ble_eq_true rfl) (Nat.le_of_ble_eq_true rfl) (by omega) (l0 := [some (zR 8 0)]) rfl (p := 22) rfl (kM_look σ r9 hr8 (d - 1) (by omega)) ?_
      change zEv d 130 22 [some (zR 8 0), z1] [zI r9] σ _
      refine ev_s i130_22 (p := 24) (zib_47 _ _ _ _ _) ?_
      refine ev_cmpeq i130_24 (t := 36) (by decide) (p := 27) rfl h (fun c10 h => ?_) (fun c10 h => ?_)
      · exact kM_product_J36 N G P126 P127 P128 P129 P130 P132 d hd hd1 hP126 hP127 hP128 hP129 hP130 hP132 (fun σ => fM_product_L9 N G P126 P127 P128 P129 P130 P132 n σ) ih σ w _ h
      · refine ev_s i130_27 (p := 28) rfl ?_
        obtain ⟨r12, hr11, h⟩ := bd_some h
        refine ev_callV i130_28 zc8_78 zm123 zo123 (as' := []) (rest := []) rfl rfl (Nat.le_of_ble_eq_true rfl) (Nat.le_of_ble_eq_true rfl) (Nat.le_of_ble_eq_true rfl) (by omega) (l0 := [some (zR 8 0)]) rfl (p := 31) rfl (kM_look σ r12 hr11 (d - 1) (by omega)) ?_
        change zEv d 130 31 [some (zR 8 0), z1] [zI r12] σ _
        refine ev_s i130_31 (p := 33) (zib_37 _ _ _ _ _) ?_
        refine ev_cmpne i130_33 (t := 69) (by decide) (p := 36) rfl h (fun c13 h => ?_) (fun c13 h => ?_)
        · exact kM_product_J36 N G P126 P127 P128 P129 P130 P132 d hd hd1 hP126 hP127 hP128 hP129 hP130 hP132 (fun σ => fM_product_L9 N G P126 P127 P128 P129 P130 P132 n σ) ih σ w _ h
        · refine ev_s i130_69 (p := 70) (zic_1 _ _ _ _ _) ?_
          obtain rfl := Option.some.inj h
          exact ev_zret i130_70 zr130 (by decide)
def fM_product_b (N : Nat) (G : Nat) (P126 : zS → Option (Int32 × zS)) (P127 : zS → Option (Int32 × zS)) (P128 : zS → Option (Int32 × zS)) (P129 : zS → Option (Int32 × zS)) (P130 : zS → Option (Int32 × zS)) (P132 : zS → Option (Int32 × zS)) (σ : zS) : Option (Int32 × zS) := zb2 (P132 σ) fun r3 s2 => (if r3 = 0 then some (0, s2) else fM_product_L9 N G P126 P127 P128 P129 P130 P132 N s2)
set_option maxHeartbeats 4000000 in
theorem kM_product_b (N : Nat) (G : Nat) (P126 : zS → Option (Int32 × zS)) (P127 : zS → Option (Int32 × zS)) (P128 : zS → Option (Int32 × zS)) (P129 : zS → Option (Int32 × zS)) (P130 : zS → Option (Int32 × zS)) (P132 : zS → Option (Int32 × zS)) (σ : zS) (w : Int32 × zS) (d : Nat) (hd : 0 ≤ d) (hd1 : 1 + 1 ≤ d) (hP126 : ∀  (σ : zS) (w : Int32 × zS), P126 σ = some w → zEv (d - 1) 126 0 [some (zR 8 0)] [] σ (some (zI w.1), w.2)) (hP127 : ∀  (σ : zS) (w : Int32 × zS), P127 σ = some w → zEv (d - 1) 127 0 [some (zR 8 0)] [] σ (some (zI w.1), w.2)) (hP128 : ∀  (σ : zS) (w : Int32 × zS), P128 σ = some w → zEv (d - 1) 128 0 [some (zR 8 0), none] [] σ (some (zI w.1), w.2)) (hP129 : ∀  (σ : zS) (w : Int32 × zS), P129 σ = some w → zEv (d - 1) 129 0 [some (zR 8 0), none] [] σ (some (zI w.1), w.2)) (hP130 : ∀  (σ : zS) (w : Int32 × zS), P130 σ = some w → zEv (d - 1) 130 0 [some (zR 8 0), none] [] σ (some (zI w.1), w.2)) (hP132 : ∀  (σ : zS) (w : Int32 × zS), P132 σ = some w → zEv (d - 1) 132 0 [some (zR 8 0), none, none, none] [] σ (some (zI w.1), w.2)) (h : fM_product_b N G P126 P127 P128 P129 P130 P132 σ = some w) : zEv d 130 0 [some (zR 8 0), none] [] σ (some (zI w.1), w.2) := by
  unfold fM_product_b at h
  refine ev_s i130_0 (p := 1) rfl ?_
  obtain ⟨r3, s2, hr1, h⟩ := b2_some h
  refine ev_callV i130_1 zc8_95 zm132 zo132 (as' := []) (rest := []) rfl rfl (Nat.le_of_ble_eq_true rfl) (Nat.le_of_ble_eq_true rfl) (Nat.le_of_ble_eq_true rfl) (by omega) (l0 := [some (zR 8 0), none, none, none]) rfl (p := 4) rfl (hP132 σ (r3, s2) hr1) ?_
  change zEv d 130 4 [some (zR 8 0), none] [zI r3] s2 _
  refine ev_ifne i130_4 (t := 9) (by decide) (p := 7) rfl h (fun c4 h => ?_) (fun c4 h => ?_)
  · refine ev_s i130_7 (p := 8) (zic_0 _ _ _ _ _) ?_
    obtain rfl := Option.some.inj h
    exact ev_zret i130_8 zr130 (by decide)
  · exact kM_product_L9 N G P126 P127 P128 P129 P130 P132 d hd hd1 hP126 hP127 hP128 hP129 hP130 hP132 N s2 w _ h
def fM_one0_J94 (N : Nat) (G : Nat) (P126 : zS → Option (Int32 × zS)) (P127 : zS → Option (Int32 × zS)) (P128 : zS → Option (Int32 × zS)) (P129 : zS → Option (Int32 × zS)) (P130 : zS → Option (Int32 × zS)) (P132 : zS → Option (Int32 × zS)) (y2 : Int32) (σ : zS) : Option (Int32 × zS) := (fM_step1 0 y2 σ).bind fun s49 => some (1, s49)
set_option maxHeartbeats 4000000 in
theorem kM_one0_J94 (N : Nat) (G : Nat) (P126 : zS → Option (Int32 × zS)) (P127 : zS → Option (Int32 × zS)) (P128 : zS → Option (Int32 × zS)) (P129 : zS → Option (Int32 × zS)) (P130 : zS → Option (Int32 × zS)) (P132 : zS → Option (Int32 × zS)) (d : Nat) (hd : 0 ≤ d) (hd1 : 1 + 1 ≤ d) (hP126 : ∀  (σ : zS) (w : Int32 × zS), P126 σ = some w → zEv (d - 1) 126 0 [some (zR 8 0)] [] σ (some (zI w.1), w.2)) (hP127 : ∀  (σ : zS) (w : Int32 × zS), P127 σ = some w → zEv (d - 1) 127 0 [some (zR 8 0)] [] σ (some (zI w.1), w.2)) (hP128 : ∀  (σ : zS) (w : Int32 × zS), P128 σ = some w → zEv (d - 1) 128 0 [some (zR 8 0), none] [] σ (some (zI w.1), w.2)) (hP129 : ∀  (σ : zS) (w : Int32 × zS), P129 σ = some w → zEv (d - 1) 129 0 [some (zR 8 0), none] [] σ (some (zI w.1), w.2)) (hP130 : ∀  (σ : zS) (w : Int32 × zS), P130 σ = some w → zEv (d - 1) 130 0 [some (zR 8 0), none] [] σ (some (zI w.1), w.2)) (hP132 : ∀  (σ : zS) (w : Int32 × zS), P132 σ = some w → zEv (d - 1) 132 0 [some (zR 8 0), none, none, none] [] σ (some (zI w.1), w.2)) : ∀ (y2 : Int32) (σ : zS) (w : Int32 × zS) (z1 : Option zA) (hz1 : znl z1 = true) (z3 : Option zA), fM_one0_J94 N G P126 P127 P128 P129 P130 P132 y2 σ = some w → zEv d 132 94 [some (zR 8 0), z1, some (zI y2), z3] [] σ (some (zI w.1), w.2) := by
  intro y2 σ w z1 hz1 z3 h
  unfold fM_one0_J94 at h
  refine ev_s i132_94 (p := 95) rfl ?_
  refine ev_s i132_95 (p := 96) (zic_0 _ _ _ _ _) ?_
  refine ev_s i132_96 (p := 97) rfl ?_
  obtain ⟨s49, hr48, h⟩ := bd_some h
  refine ev_callV i132_97 zc8_82 zm125 zo125 (as' := [zI 0, zI y2]) (rest := []) rfl rfl (Nat.le_of_ble_eq_true rfl) (Nat.le_of_ble_eq_true rfl) (Nat.le_of_ble_eq_true rfl) (by omega) (l0 := [some (zR 8 0), some (zI 0), some (zI y2)]) rfl (p := 100) rfl (kM_step1 0 y2 σ s49 hr48 (d - 1) (by omega)) ?_
  change zEv d 132 100 [some (zR 8 0), z1, some (zI y2), z3] [] s49 _
  refine ev_s i132_100 (p := 101) (zic_1 _ _ _ _ _) ?_
  obtain rfl := Option.some.inj h
  exact ev_zret i132_101 zr132 (by decide)
def fM_one0_L46 (N : Nat) (G : Nat) (P126 : zS → Option (Int32 × zS)) (P127 : zS → Option (Int32 × zS)) (P128 : zS → Option (Int32 × zS)) (P129 : zS → Option (Int32 × zS)) (P130 : zS → Option (Int32 × zS)) (P132 : zS → Option (Int32 × zS)) : Nat → Int32 → Int32 → zS → Option (Int32 × zS)
  | 0, _, _, _ => none
  | n + 1, y2, y3, σ => (if 4 ≤ y3 then fM_one0_J94 N G P126 P127 P128 P129 P130 P132 y2 σ else (fM_look σ).bind fun r40 => (fM_in r40 48 57).bind fun r42 => (if r42 = 0 then fM_one0_J94 N G P126 P127 P128 P129 P130 P132 y2 σ else (fM_look σ).bind fun r45 => zlt (((10 * y2) + r45) - 48) fun v46 => zlt (zup σ 8 0 6 ((σ 8 0 6) + 1)) fun s47 => fM_one0_L46 N G P126 P127 P128 P129 P130 P132 n v46 (y3 + 1) s47))
set_option maxHeartbeats 4000000 in
theorem kM_one0_L46 (N : Nat) (G : Nat) (P126 : zS → Option (Int32 × zS)) (P127 : zS → Option (Int32 × zS)) (P128 : zS → Option (Int32 × zS)) (P129 : zS → Option (Int32 × zS)) (P130 : zS → Option (Int32 × zS)) (P132 : zS → Option (Int32 × zS)) (d : Nat) (hd : 0 ≤ d) (hd1 : 1 + 1 ≤ d) (hP126 : ∀  (σ : zS) (w : Int32 × zS), P126 σ = some w → zEv (d - 1) 126 0 [some (zR 8 0)] [] σ (some (zI w.1), w.2)) (hP127 : ∀  (σ : zS) (w : Int32 × zS), P127 σ = some w → zEv (d - 1) 127 0 [some (zR 8 0)] [] σ (some (zI w.1), w.2)) (hP128 : ∀  (σ : zS) (w : Int32 × zS), P128 σ = some w → zEv (d - 1) 128 0 [some (zR 8 0), none] [] σ (some (zI w.1), w.2)) (hP129 : ∀  (σ : zS) (w : Int32 × zS), P129 σ = some w → zEv (d - 1) 129 0 [some (zR 8 0), none] [] σ (some (zI w.1), w.2)) (hP130 : ∀  (σ : zS) (w : Int32 × zS), P130 σ = some w → zEv (d - 1) 130 0 [some (zR 8 0), none] [] σ (some (zI w.1), w.2)) (hP132 : ∀  (σ : zS) (w : Int32 × zS), P132 σ = some w → zEv (d - 1) 132 0 [some (zR 8 0), none, none, none] [] σ (some (zI w.1), w.2)) : ∀ n : Nat, ∀ (y2 : Int32) (y3 : Int32) (σ : zS) (w : Int32 × zS) (z1 : Option zA) (hz1 : znl z1 = true), fM_one0_L46 N G P126 P127 P128 P129 P130 P132 n y2 y3 σ = some w → zEv d 132 46 [some (zR 8 0), z1, some (zI y2), some (zI y3)] [] σ (some (zI w.1), w.2) := by
  intro n
  induction n with
  | zero =>
    intro y2 y3 σ w z1 hz1 h
    cases h
  | succ n ih =>
    intro y2 y3 σ w z1 hz1 h
    rw [fM_one0_L46] at h
    refine ev_s i132_46 (p := 47) rfl ?_
    refine ev_s i132_47 (p := 48) (zic_4 _ _ _ _ _) ?_
    refine ev_cmpge i132_48 (t := 94) (by decide) (p := 51) rfl h (fun c38 h => ?_) (fun c38 h => ?_)
    · exact kM_one0_J94 N G P126 P127 P128 P129 P130 P132 d hd hd1 hP126 hP127 hP128 hP129 hP130 hP132 y2 σ w _ hz1 _ h
    · refine ev_s i132_51 (p := 52) rfl ?_
      obtain ⟨r40, hr39, h⟩ := bd_some h
      refine ev_callV i132_52 zc8_78 zm123 zo123 (as' := []) (rest := []) rfl rfl (Nat.le_of_ble_eq_true rfl) (Nat.le_of_ble_eq_true rfl) (Nat.le_of_ble_eq_true rfl) (by omega) (l0 := [some (zR 8 0)]) rfl (p := 55) rfl (kM_look σ r40 hr39 (d - 1) (by omega)) ?_
      change zEv d 132 55 [some (zR 8 0), z1, some (zI y2), some (zI y3)] [zI r40] σ _
      refine ev_s i132_55 (p := 57) (zib_48 _ _ _ _ _) ?_
      refine ev_s i132_57 (p := 59) (zib_57 _ _ _ _ _) ?_
      obtain ⟨r42, hr41, h⟩ := bd_some h
      refine ev_callS i132_59 zn8_50 zc8_50 zm111 (as := [zI r40, zI 48, zI 57]) (rest := []) rfl rfl (Nat.le_of_ble_eq_true rfl) (Nat.le_of_ble_eq_true rfl) (Nat.le_of_ble_eq_true rfl) (by omega) (l0 := [some (zI r40), some (zI 48), some (zI 57)]) rfl (p := 62) rfl (kM_in r40 48 57 σ r42 hr41 (d - 1) (by omega)) ?_
      change zEv d 132 62 [some (zR 8 0), z1, some (zI y2), some (zI y3)] [zI r42] σ _
      refine ev_ifeq i132_62 (t := 94) (by decide) (p := 65) rfl h (fun c43 h => ?_) (fun c43 h => ?_)
      · exact kM_one0_J94 N G P126 P127 P128 P129 P130 P132 d hd hd1 hP126 hP127 hP128 hP129 hP130 hP132 y2 σ w _ hz1 _ h
      · refine ev_s i132_65 (p := 67) (zib_10 _ _ _ _ _) ?_
        refine ev_s i132_67 (p := 68) rfl ?_
        refine ev_s i132_68 (p := 69) (t := [zI (10 * y2)]) rfl ?_
        refine ev_s i132_69 (p := 70) rfl ?_
        obtain ⟨r45, hr44, h⟩ := bd_some h
        refine ev_callV i132_70 zc8_78 zm123 zo123 (as' := []) (rest := [zI (10 * y2)]) rfl rfl (Nat.le_of_ble_eq_true rfl) (Nat.le_of_ble_eq_true rfl) (Nat.le_of_ble_eq_true rfl) (by omega) (l0 := [some (zR 8 0)]) rfl (p := 73) rfl (kM_look σ r45 hr44 (d - 1) (by omega)) ?_
        change zEv d 132 73 [some (zR 8 0), z1, some (zI y2), some (zI y3)] [zI r45, zI (10 * y2)] σ _
        refine ev_s i132_73 (p := 74) (t := [zI ((10 * y2) + r45)]) rfl ?_
        refine ev_s i132_74 (p := 76) (zib_48 _ _ _ _ _) ?_
        refine ev_s i132_76 (p := 77) (t := [zI (((10 * y2) + r45) - 48)]) rfl ?_
        refine ev_let h (fun v46 ev46 h => ?_)
        refine ev_s i132_77 (p := 78) (l := [some (zR 8 0), z1, some (zI v46), some (zI y3)]) (t := []) (s := σ) (by rcases z1 with _ | _ | _ | _ <;> first | rfl | cases hz1) ?_
        refine ev_s i132_78 (p := 79) rfl ?_
        refine ev_s i132_79 (p := 80) rfl ?_
        refine ev_getf i132_80 zf8_64 (u := zI (σ 8 0 6)) rfl (p := 83) rfl ?_
        refine ev_s i132_83 (p := 84) (zic_1 _ _ _ _ _) ?_
        refine ev_s i132_84 (p := 85) (t := [zI ((σ 8 0 6) + 1), zR 8 0]) rfl ?_
        refine ev_putf i132_85 zf8_64 rfl rfl rfl (p := 88) rfl ?_
        refine ev_lets h (fun s47 es47 h => ?_)
        refine ev_iinc i132_88 zii_1 rfl (l := [some (zR 8 0), z1, some (zI v46), some (zI (y3 + 1))]) rfl (p := 91) rfl ?_
        refine ev_goto i132_91 (t := 46) (by decide) ?_
        exact ih v46 (y3 + 1) s47 w _ hz1 h
def fM_one0_b (N : Nat) (G : Nat) (P126 : zS → Option (Int32 × zS)) (P127 : zS → Option (Int32 × zS)) (P128 : zS → Option (Int32 × zS)) (P129 : zS → Option (Int32 × zS)) (P130 : zS → Option (Int32 × zS)) (P132 : zS → Option (Int32 × zS)) (σ : zS) : Option (Int32 × zS) := (fM_look σ).bind fun r2 => (fM_isName r2 σ).bind fun r4 => (if r4 = 0 then (fM_in r2 48 57).bind fun r7 => (if r7 = 0 then (if r2 = 33 then zb2 (fM_opens σ) fun r12 s11 => (if r12 = 0 then some (0, s11) else zb2 (P132 s11) fun r16 s15 => (if r16 = 0 then some (0, s15) else zlt (zup s15 8 0 7 ((s15 8 0 7) - 1)) fun s18 => (fM_step1 2 0 s18).bind fun s20 => some (1, s20))) else (if r2 = 40 then zb2 (fM_opens σ) fun r24 s23 => (if r24 = 0 then some (0, s23) else zb2 (P126 s23) fun r28 s27 => (if r28 = 0 then some (0, s27) else (fM_look s27).bind fun r31 => (if r31 = 41 then zlt (zup s27 8 0 6 ((s27 8 0 6) + 1)) fun s33 => zlt (zup s33 8 0 7 ((s33 8 0 7) - 1)) fun s34 => some (1, s34) else some (0, s27)))) else some (0, σ))) else fM_one0_L46 N G P126 P127 P128 P129 P130 P132 N 0 0 σ) else zlt (zup σ 8 0 6 ((σ 8 0 6) + 1)) fun s35 => (fM_step1 1 r2 s35).bind fun s37 => some (1, s37))
set_option maxHeartbeats 4000000 in
theorem kM_one0_b (N : Nat) (G : Nat) (P126 : zS → Option (Int32 × zS)) (P127 : zS → Option (Int32 × zS)) (P128 : zS → Option (Int32 × zS)) (P129 : zS → Option (Int32 × zS)) (P130 : zS → Option (Int32 × zS)) (P132 : zS → Option (Int32 × zS)) (σ : zS) (w : Int32 × zS) (d : Nat) (hd : 0 ≤ d) (hd1 : 1 + 1 ≤ d) (hP126 : ∀  (σ : zS) (w : Int32 × zS), P126 σ = some w → zEv (d - 1) 126 0 [some (zR 8 0)] [] σ (some (zI w.1), w.2)) (hP127 : ∀  (σ : zS) (w : Int32 × zS), P127 σ = some w → zEv (d - 1) 127 0 [some (zR 8 0)] [] σ (some (zI w.1), w.2)) (hP128 : ∀  (σ : zS) (w : Int32 × zS), P128 σ = some w → zEv (d - 1) 128 0 [some (zR 8 0), none] [] σ (some (zI w.1), w.2)) (hP129 : ∀  (σ : zS) (w : Int32 × zS), P129 σ = some w → zEv (d - 1) 129 0 [some (zR 8 0), none] [] σ (some (zI w.1), w.2)) (hP130 : ∀  (σ : zS) (w : Int32 × zS), P130 σ = some w → zEv (d - 1) 130 0 [some (zR 8 0), none] [] σ (some (zI w.1), w.2)) (hP132 : ∀  (σ : zS) (w : Int32 × zS), P132 σ = some w → zEv (d - 1) 132 0 [some (zR 8 0), none, none, none] [] σ (some (zI w.1), w.2)) (h : fM_one0_b N G P126 P127 P128 P129 P130 P132 σ = some w) : zEv d 132 0 [some (zR 8 0), none, none, none] [] σ (some (zI w.1), w.2) := by
  unfold fM_one0_b at h
  refine ev_s i132_0 (p := 1) rfl ?_
  obtain ⟨r2, hr1, h⟩ := bd_some h
  refine ev_callV i132_1 zc8_78 zm123 zo123 (as' := []) (rest := []) rfl rfl (Nat.le_of_ble_eq_true rfl) (Nat.le_of_ble_eq_true rfl) (Nat.le_of_ble_eq_true rfl) (by omega) (l0 := [some (zR 8 0)]) rfl (p := 4) rfl (kM_look σ r2 hr1 (d - 1) (by omega)) ?_
  change zEv d 132 4 [some (zR 8 0), none, none, none] [zI r2] σ _
  refine ev_s i132_4 (p := 5) (l := [some (zR 8 0), some (zI r2), none, none]) rfl ?_
  refine ev_s i132_5 (p := 6) rfl ?_
  refine ev_s i132_6 (p := 7) rfl ?_
  obtain ⟨r4, hr3, h⟩ := bd_some h
  refine ev_callV i132_7 zc8_101 zm124 zo124 (as' := [zI r2]) (rest := []) rfl rfl (Nat.le_of_ble_eq_true rfl) (Nat.le_of_ble_eq_true rfl) (Nat.le_of_ble_eq_true rfl) (by omega) (l0 := [some (zR 8 0), some (zI r2)]) rfl (p := 10) rfl (kM_isName r2 σ r4 hr3 (d - 1) (by omega)) ?_
  change zEv d 132 10 [some (zR 8 0), some (zI r2), none, none] [zI r4] σ _
  refine ev_ifeq i132_10 (t := 31) (by decide) (p := 13) rfl h (fun c5 h => ?_) (fun c5 h => ?_)
  · refine ev_s i132_31 (p := 32) rfl ?_
    refine ev_s i132_32 (p := 34) (zib_48 _ _ _ _ _) ?_
    refine ev_s i132_34 (p := 36) (zib_57 _ _ _ _ _) ?_
    obtain ⟨r7, hr6, h⟩ := bd_some h
    refine ev_callS i132_36 zn8_50 zc8_50 zm111 (as := [zI r2, zI 48, zI 57]) (rest := []) rfl rfl (Nat.le_of_ble_eq_true rfl) (Nat.le_of_ble_eq_true rfl) (Nat.le_of_ble_eq_true rfl) (by omega) (l0 := [some (zI r2), some (zI 48), some (zI 57)]) rfl (p := 39) rfl (kM_in r2 48 57 σ r7 hr6 (d - 1) (by omega)) ?_
    change zEv d 132 39 [some (zR 8 0), some (zI r2), none, none] [zI r7] σ _
    refine ev_ifeq i132_39 (t := 102) (by decide) (p := 42) rfl h (fun c8 h => ?_) (fun c8 h => ?_)
    · refine ev_s i132_102 (p := 103) rfl ?_
      refine ev_s i132_103 (p := 105) (zib_33 _ _ _ _ _) ?_
      refine ev_cmpne i132_105 (t := 142) (by decide) (p := 108) rfl h (fun c9 h => ?_) (fun c9 h => ?_)
      · refine ev_s i132_108 (p := 109) rfl ?_
        obtain ⟨r12, s11, hr10, h⟩ := b2_some h
        refine ev_callV i132_109 zc8_105 zm131 zo131 (as' := []) (rest := []) rfl rfl (Nat.le_of_ble_eq_true rfl) (Nat.le_of_ble_eq_true rfl) (Nat.le_of_ble_eq_true rfl) (by omega) (l0 := [some (zR 8 0)]) rfl (p := 112) rfl (kM_opens σ (r12, s11) hr10 (d - 1) (by omega)) ?_
        change zEv d 132 112 [some (zR 8 0), some (zI r2), none, none] [zI r12] s11 _
        refine ev_ifeq i132_112 (t := 122) (by decide) (p := 115) rfl h (fun c13 h => ?_) (fun c13 h => ?_)
        · refine ev_s i132_122 (p := 123) (zic_0 _ _ _ _ _) ?_
          obtain rfl := Option.some.inj h
          exact ev_zret i132_123 zr132 (by decide)
        · refine ev_s i132_115 (p := 116) rfl ?_
          obtain ⟨r16, s15, hr14, h⟩ := b2_some h
          refine ev_callV i132_116 zc8_95 zm132 zo132 (as' := []) (rest := []) rfl rfl (Nat.le_of_ble_eq_true rfl) (Nat.le_of_ble_eq_true rfl) (Nat.le_of_ble_eq_true rfl) (by omega) (l0 := [some (zR 8 0), none, none, none]) rfl (p := 119) rfl (hP132 s11 (r16, s15) hr14) ?_
          change zEv d 132 119 [some (zR 8 0), some (zI r2), none, none] [zI r16] s15 _
          refine ev_ifne i132_119 (t := 124) (by decide) (p := 122) rfl h (fun c17 h => ?_) (fun c17 h => ?_)
          · refine ev_s i132_122 (p := 123) (zic_0 _ _ _ _ _) ?_
            obtain rfl := Option.some.inj h
            exact ev_zret i132_123 zr132 (by decide)
          · refine ev_s i132_124 (p := 125) rfl ?_
            refine ev_s i132_125 (p := 126) rfl ?_
            refine ev_getf i132_126 zf8_98 (u := zI (s15 8 0 7)) rfl (p := 129) rfl ?_
            refine ev_s i132_129 (p := 130) (zic_1 _ _ _ _ _) ?_
            refine ev_s i132_130 (p := 131) (t := [zI ((s15 8 0 7) - 1), zR 8 0]) rfl ?_
            refine ev_putf i132_131 zf8_98 rfl rfl rfl (p := 134) rfl ?_
            refine ev_lets h (fun s18 es18 h => ?_)
            refine ev_s i132_134 (p := 135) rfl ?_
            refine ev_s i132_135 (p := 136) (zic_2 _ _ _ _ _) ?_
            refine ev_s i132_136 (p := 137) (zic_0 _ _ _ _ _) ?_
            obtain ⟨s20, hr19, h⟩ := bd_some h
            refine ev_callV i132_137 zc8_82 zm125 zo125 (as' := [zI 2, zI 0]) (rest := []) rfl rfl (Nat.le_of_ble_eq_true rfl) (Nat.le_of_ble_eq_true rfl) (Nat.le_of_ble_eq_true rfl) (by omega) (l0 := [some (zR 8 0), some (zI 2), some (zI 0)]) rfl (p := 140) rfl (kM_step1 2 0 s18 s20 hr19 (d - 1) (by omega)) ?_
            change zEv d 132 140 [some (zR 8 0), some (zI r2), none, none] [] s20 _
            refine ev_s i132_140 (p := 141) (zic_1 _ _ _ _ _) ?_
            obtain rfl := Option.some.inj h
            exact ev_zret i132_141 zr132 (by decide)
      · refine ev_s i132_142 (p := 143) rfl ?_
        refine ev_s i132_143 (p := 145) (zib_40 _ _ _ _ _) ?_
        refine ev_cmpne i132_145 (t := 171) (by decide) (p := 148) rfl h (fun c21 h => ?_) (fun c21 h => ?_)
        · refine ev_s i132_148 (p := 149) rfl ?_
          obtain ⟨r24, s23, hr22, h⟩ := b2_some h
          refine ev_callV i132_149 zc8_105 zm131 zo131 (as' := []) (rest := []) rfl rfl (Nat.le_of_ble_eq_true rfl) (Nat.le_of_ble_eq_true rfl) (Nat.le_of_ble_eq_true rfl) (by omega) (l0 := [some (zR 8 0)]) rfl (p := 152) rfl (kM_opens σ (r24, s23) hr22 (d - 1) (by omega)) ?_
          change zEv d 132 152 [some (zR 8 0), some (zI r2), none, none] [zI r24] s23 _
          refine ev_ifeq i132_152 (t := 171) (by decide) (p := 155) rfl h (fun c25 h => ?_) (fun c25 h => ?_)
          · refine ev_s i132_171 (p := 172) (zic_0 _ _ _ _ _) ?_
            obtain rfl := Option.some.inj h
            exact ev_zret i132_172 zr132 (by decide)
          · refine ev_s i132_155 (p := 156) rfl ?_
            obtain ⟨r28, s27, hr26, h⟩ := b2_some h
            refine ev_callV i132_156 zc8_108 zm126 zo126 (as' := []) (rest := []) rfl rfl (Nat.le_of_ble_eq_true rfl) (Nat.le_of_ble_eq_true rfl) (Nat.le_of_ble_eq_true rfl) (by omega) (l0 := [some (zR 8 0)]) rfl (p := 159) rfl (hP126 s23 (r28, s27) hr26) ?_
            change zEv d 132 159 [some (zR 8 0), some (zI r2), none, none] [zI r28] s27 _
            refine ev_ifeq i132_159 (t := 171) (by decide) (p := 162) rfl h (fun c29 h => ?_) (fun c29 h => ?_)
            · refine ev_s i132_171 (p := 172) (zic_0 _ _ _ _ _) ?_
              obtain rfl := Option.some.inj h
              exact ev_zret i132_172 zr132 (by decide)
            · refine ev_s i132_162 (p := 163) rfl ?_
              obtain ⟨r31, hr30, h⟩ := bd_some h
              refine ev_callV i132_163 zc8_78 zm123 zo123 (as' := []) (rest := []) rfl rfl (Nat.le_of_ble_eq_true rfl) (Nat.le_of_ble_eq_true rfl) (Nat.le_of_ble_eq_true rfl) (by omega) (l0 := [some (zR 8 0)]) rfl (p := 166) rfl (kM_look s27 r31 hr30 (d - 1) (by omega)) ?_
              change zEv d 132 166 [some (zR 8 0), some (zI r2), none, none] [zI r31] s27 _
              refine ev_s i132_166 (p := 168) (zib_41 _ _ _ _ _) ?_
              refine ev_cmpeq i132_168 (t := 173) (by decide) (p := 171) rfl h (fun c32 h => ?_) (fun c32 h => ?_)
              · refine ev_s i132_173 (p := 174) rfl ?_
                refine ev_s i132_174 (p := 175) rfl ?_
                refine ev_getf i132_175 zf8_64 (u := zI (s27 8 0 6)) rfl (p := 178) rfl ?_
                refine ev_s i132_178 (p := 179) (zic_1 _ _ _ _ _) ?_
                refine ev_s i132_179 (p := 180) (t := [zI ((s27 8 0 6) + 1), zR 8 0]) rfl ?_
                refine ev_putf i132_180 zf8_64 rfl rfl rfl (p := 183) rfl ?_
                refine ev_lets h (fun s33 es33 h => ?_)
                refine ev_s i132_183 (p := 184) rfl ?_
                refine ev_s i132_184 (p := 185) rfl ?_
                refine ev_getf i132_185 zf8_98 (u := zI (s33 8 0 7)) rfl (p := 188) rfl ?_
                refine ev_s i132_188 (p := 189) (zic_1 _ _ _ _ _) ?_
                refine ev_s i132_189 (p := 190) (t := [zI ((s33 8 0 7) - 1), zR 8 0]) rfl ?_
                refine ev_putf i132_190 zf8_98 rfl rfl rfl (p := 193) rfl ?_
                refine ev_lets h (fun s34 es34 h => ?_)
                refine ev_s i132_193 (p := 194) (zic_1 _ _ _ _ _) ?_
                obtain rfl := Option.some.inj h
                exact ev_zret i132_194 zr132 (by decide)
              · refine ev_s i132_171 (p := 172) (zic_0 _ _ _ _ _) ?_
                obtain rfl := Option.some.inj h
                exact ev_zret i132_172 zr132 (by decide)
        · refine ev_s i132_171 (p := 172) (zic_0 _ _ _ _ _) ?_
          obtain rfl := Option.some.inj h
          exact ev_zret i132_172 zr132 (by decide)
    · refine ev_s i132_42 (p := 43) (zic_0 _ _ _ _ _) ?_
      refine ev_s i132_43 (p := 44) (l := [some (zR 8 0), some (zI r2), some (zI 0), none]) rfl ?_
      refine ev_s i132_44 (p := 45) (zic_0 _ _ _ _ _) ?_
      refine ev_s i132_45 (p := 46) (l := [some (zR 8 0), some (zI r2), some (zI 0), some (zI 0)]) rfl ?_
      exact kM_one0_L46 N G P126 P127 P128 P129 P130 P132 d hd hd1 hP126 hP127 hP128 hP129 hP130 hP132 N 0 0 σ w _ rfl h
  · refine ev_s i132_13 (p := 14) rfl ?_
    refine ev_s i132_14 (p := 15) rfl ?_
    refine ev_getf i132_15 zf8_64 (u := zI (σ 8 0 6)) rfl (p := 18) rfl ?_
    refine ev_s i132_18 (p := 19) (zic_1 _ _ _ _ _) ?_
    refine ev_s i132_19 (p := 20) (t := [zI ((σ 8 0 6) + 1), zR 8 0]) rfl ?_
    refine ev_putf i132_20 zf8_64 rfl rfl rfl (p := 23) rfl ?_
    refine ev_lets h (fun s35 es35 h => ?_)
    refine ev_s i132_23 (p := 24) rfl ?_
    refine ev_s i132_24 (p := 25) (zic_1 _ _ _ _ _) ?_
    refine ev_s i132_25 (p := 26) rfl ?_
    obtain ⟨s37, hr36, h⟩ := bd_some h
    refine ev_callV i132_26 zc8_82 zm125 zo125 (as' := [zI 1, zI r2]) (rest := []) rfl rfl (Nat.le_of_ble_eq_true rfl) (Nat.le_of_ble_eq_true rfl) (Nat.le_of_ble_eq_true rfl) (by omega) (l0 := [some (zR 8 0), some (zI 1), some (zI r2)]) rfl (p := 29) rfl (kM_step1 1 r2 s35 s37 hr36 (d - 1) (by omega)) ?_
    change zEv d 132 29 [some (zR 8 0), some (zI r2), none, none] [] s37 _
    refine ev_s i132_29 (p := 30) (zic_1 _ _ _ _ _) ?_
    obtain rfl := Option.some.inj h
    exact ev_zret i132_30 zr132 (by decide)
def gM_whole (N : Nat) (G : Nat) : Nat → (zS → Option (Int32 × zS)) × (zS → Option (Int32 × zS)) × (zS → Option (Int32 × zS)) × (zS → Option (Int32 × zS)) × (zS → Option (Int32 × zS)) × (zS → Option (Int32 × zS))
  | 0 => ((fun _ => none), (fun _ => none), (fun _ => none), (fun _ => none), (fun _ => none), (fun _ => none))
  | n + 1 => (fM_whole_b N G (gM_whole N G n).1 (gM_whole N G n).2.1 (gM_whole N G n).2.2.1 (gM_whole N G n).2.2.2.1 (gM_whole N G n).2.2.2.2.1 (gM_whole N G n).2.2.2.2.2, fM_both_b N G (gM_whole N G n).1 (gM_whole N G n).2.1 (gM_whole N G n).2.2.1 (gM_whole N G n).2.2.2.1 (gM_whole N G n).2.2.2.2.1 (gM_whole N G n).2.2.2.2.2, fM_compared_b N G (gM_whole N G n).1 (gM_whole N G n).2.1 (gM_whole N G n).2.2.1 (gM_whole N G n).2.2.2.1 (gM_whole N G n).2.2.2.2.1 (gM_whole N G n).2.2.2.2.2, fM_sum_b N G (gM_whole N G n).1 (gM_whole N G n).2.1 (gM_whole N G n).2.2.1 (gM_whole N G n).2.2.2.1 (gM_whole N G n).2.2.2.2.1 (gM_whole N G n).2.2.2.2.2, fM_product_b N G (gM_whole N G n).1 (gM_whole N G n).2.1 (gM_whole N G n).2.2.1 (gM_whole N G n).2.2.2.1 (gM_whole N G n).2.2.2.2.1 (gM_whole N G n).2.2.2.2.2, fM_one0_b N G (gM_whole N G n).1 (gM_whole N G n).2.1 (gM_whole N G n).2.2.1 (gM_whole N G n).2.2.2.1 (gM_whole N G n).2.2.2.2.1 (gM_whole N G n).2.2.2.2.2)
def fM_whole (N : Nat) (G : Nat) (n : Nat) (σ : zS) : Option (Int32 × zS) := (gM_whole N G n).1 σ
def fM_both (N : Nat) (G : Nat) (n : Nat) (σ : zS) : Option (Int32 × zS) := (gM_whole N G n).2.1 σ
def fM_compared (N : Nat) (G : Nat) (n : Nat) (σ : zS) : Option (Int32 × zS) := (gM_whole N G n).2.2.1 σ
def fM_sum (N : Nat) (G : Nat) (n : Nat) (σ : zS) : Option (Int32 × zS) := (gM_whole N G n).2.2.2.1 σ
def fM_product (N : Nat) (G : Nat) (n : Nat) (σ : zS) : Option (Int32 × zS) := (gM_whole N G n).2.2.2.2.1 σ
def fM_one0 (N : Nat) (G : Nat) (n : Nat) (σ : zS) : Option (Int32 × zS) := (gM_whole N G n).2.2.2.2.2 σ
set_option maxHeartbeats 4000000 in
theorem kgM_whole (N : Nat) (G : Nat) : ∀ n d : Nat, 1 + n ≤ d → (∀  (σ : zS) (w : Int32 × zS), (gM_whole N G n).1 σ = some w → zEv d 126 0 [some (zR 8 0)] [] σ (some (zI w.1), w.2)) ∧ (∀  (σ : zS) (w : Int32 × zS), (gM_whole N G n).2.1 σ = some w → zEv d 127 0 [some (zR 8 0)] [] σ (some (zI w.1), w.2)) ∧ (∀  (σ : zS) (w : Int32 × zS), (gM_whole N G n).2.2.1 σ = some w → zEv d 128 0 [some (zR 8 0), none] [] σ (some (zI w.1), w.2)) ∧ (∀  (σ : zS) (w : Int32 × zS), (gM_whole N G n).2.2.2.1 σ = some w → zEv d 129 0 [some (zR 8 0), none] [] σ (some (zI w.1), w.2)) ∧ (∀  (σ : zS) (w : Int32 × zS), (gM_whole N G n).2.2.2.2.1 σ = some w → zEv d 130 0 [some (zR 8 0), none] [] σ (some (zI w.1), w.2)) ∧ (∀  (σ : zS) (w : Int32 × zS), (gM_whole N G n).2.2.2.2.2 σ = some w → zEv d 132 0 [some (zR 8 0), none, none, none] [] σ (some (zI w.1), w.2)) := by
  intro n
  induction n with
  | zero =>
    intro d _
    exact ⟨(fun _ _ h => absurd h (by simp [gM_whole])), (fun _ _ h => absurd h (by simp [gM_whole])), (fun _ _ h => absurd h (by simp [gM_whole])), (fun _ _ h => absurd h (by simp [gM_whole])), (fun _ _ h => absurd h (by simp [gM_whole])), (fun _ _ h => absurd h (by simp [gM_whole]))⟩
  | succ n ih =>
    intro d hd
    have ih2 := ih (d - 1) (by omega)
    exact ⟨(fun σ w h => kM_whole_b N G (gM_whole N G n).1 (gM_whole N G n).2.1 (gM_whole N G n).2.2.1 (gM_whole N G n).2.2.2.1 (gM_whole N G n).2.2.2.2.1 (gM_whole N G n).2.2.2.2.2 σ w d (by omega) (by omega) ih2.1 ih2.2.1 ih2.2.2.1 ih2.2.2.2.1 ih2.2.2.2.2.1 ih2.2.2.2.2.2 h), (fun σ w h => kM_both_b N G (gM_whole N G n).1 (gM_whole N G n).2.1 (gM_whole N G n).2.2.1 (gM_whole N G n).2.2.2.1 (gM_whole N G n).2.2.2.2.1 (gM_whole N G n).2.2.2.2.2 σ w d (by omega) (by omega) ih2.1 ih2.2.1 ih2.2.2.1 ih2.2.2.2.1 ih2.2.2.2.2.1 ih2.2.2.2.2.2 h), (fun σ w h => kM_compared_b N G (gM_whole N G n).1 (gM_whole N G n).2.1 (gM_whole N G n).2.2.1 (gM_whole N G n).2.2.2.1 (gM_whole N G n).2.2.2.2.1 (gM_whole N G n).2.2.2.2.2 σ w d (by omega) (by omega) ih2.1 ih2.2.1 ih2.2.2.1 ih2.2.2.2.1 ih2.2.2.2.2.1 ih2.2.2.2.2.2 h), (fun σ w h => kM_sum_b N G (gM_whole N G n).1 (gM_whole N G n).2.1 (gM_whole N G n).2.2.1 (gM_whole N G n).2.2.2.1 (gM_whole N G n).2.2.2.2.1 (gM_whole N G n).2.2.2.2.2 σ w d (by omega) (by omega) ih2.1 ih2.2.1 ih2.2.2.1 ih2.2.2.2.1 ih2.2.2.2.2.1 ih2.2.2.2.2.2 h), (fun σ w h => kM_product_b N G (gM_whole N G n).1 (gM_whole N G n).2.1 (gM_whole N G n).2.2.1 (gM_whole N G n).2.2.2.1 (gM_whole N G n).2.2.2.2.1 (gM_whole N G n).2.2.2.2.2 σ w d (by omega) (by omega) ih2.1 ih2.2.1 ih2.2.2.1 ih2.2.2.2.1 ih2.2.2.2.2.1 ih2.2.2.2.2.2 h), (fun σ w h => kM_one0_b N G (gM_whole N G n).1 (gM_whole N G n).2.1 (gM_whole N G n).2.2.1 (gM_whole N G n).2.2.2.1 (gM_whole N G n).2.2.2.2.1 (gM_whole N G n).2.2.2.2.2 σ w d (by omega) (by omega) ih2.1 ih2.2.1 ih2.2.2.1 ih2.2.2.2.1 ih2.2.2.2.2.1 ih2.2.2.2.2.2 h)⟩
set_option maxHeartbeats 4000000 in
theorem kM_whole (N : Nat) (G : Nat) (n : Nat)  (σ : zS) (w : Int32 × zS) (h : fM_whole N G n σ = some w) (d : Nat) (hd : 1 + n ≤ d) : zEv d 126 0 [some (zR 8 0)] [] σ (some (zI w.1), w.2) :=
  (kgM_whole N G n d hd).1  σ w h
set_option maxHeartbeats 4000000 in
theorem kM_both (N : Nat) (G : Nat) (n : Nat)  (σ : zS) (w : Int32 × zS) (h : fM_both N G n σ = some w) (d : Nat) (hd : 1 + n ≤ d) : zEv d 127 0 [some (zR 8 0)] [] σ (some (zI w.1), w.2) :=
  (kgM_whole N G n d hd).2.1  σ w h
set_option maxHeartbeats 4000000 in
theorem kM_compared (N : Nat) (G : Nat) (n : Nat)  (σ : zS) (w : Int32 × zS) (h : fM_compared N G n σ = some w) (d : Nat) (hd : 1 + n ≤ d) : zEv d 128 0 [some (zR 8 0), none] [] σ (some (zI w.1), w.2) :=
  (kgM_whole N G n d hd).2.2.1  σ w h
set_option maxHeartbeats 4000000 in
theorem kM_sum (N : Nat) (G : Nat) (n : Nat)  (σ : zS) (w : Int32 × zS) (h : fM_sum N G n σ = some w) (d : Nat) (hd : 1 + n ≤ d) : zEv d 129 0 [some (zR 8 0), none] [] σ (some (zI w.1), w.2) :=
  (kgM_whole N G n d hd).2.2.2.1  σ w h
set_option maxHeartbeats 4000000 in
theorem kM_product (N : Nat) (G : Nat) (n : Nat)  (σ : zS) (w : Int32 × zS) (h : fM_product N G n σ = some w) (d : Nat) (hd : 1 + n ≤ d) : zEv d 130 0 [some (zR 8 0), none] [] σ (some (zI w.1), w.2) :=
  (kgM_whole N G n d hd).2.2.2.2.1  σ w h
set_option maxHeartbeats 4000000 in
theorem kM_one0 (N : Nat) (G : Nat) (n : Nat)  (σ : zS) (w : Int32 × zS) (h : fM_one0 N G n σ = some w) (d : Nat) (hd : 1 + n ≤ d) : zEv d 132 0 [some (zR 8 0), none, none, none] [] σ (some (zI w.1), w.2) :=
  (kgM_whole N G n d hd).2.2.2.2.2  σ w h
/-! fM_text -/
def fM_text_L101 (N : Nat) (G : Nat) : Nat → Int32 → Int32 → zS → Option (Int32 × zS)
  | 0, _, _, _ => none
  | n + 1, y3, y4, σ => (if (2 * (σ 8 0 8)) ≤ y4 then some (1, σ) else zgd (zin y4 124) (zgd (zin ((y3 + 1) + y4) 394) (zlt (zup σ 30 0 ((y3 + 1) + y4).toNatClampNeg (σ 35 0 y4.toNatClampNeg)) fun s23 => fM_text_L101 N G n y3 (y4 + 1) s23)))
set_option maxHeartbeats 4000000 in
theorem kM_text_L101 (N : Nat) (G : Nat) (d : Nat) (hd : 2 + 1 * G ≤ d)  : ∀ n : Nat, ∀ (y3 : Int32) (y4 : Int32) (σ : zS) (w : Int32 × zS) (z1 : Option zA) (hz1 : znl z1 = true) (z2 : Option zA) (hz2 : znl z2 = true), fM_text_L101 N G n y3 y4 σ = some w → zEv d 134 101 [some (zR 8 0), z1, z2, some (zI y3), some (zI y4)] [] σ (some (zI w.1), w.2) := by
  intro n
  induction n with
  | zero =>
    intro y3 y4 σ w z1 hz1 z2 hz2 h
    cases h
  | succ n ih =>
    intro y3 y4 σ w z1 hz1 z2 hz2 h
    rw [fM_text_L101] at h
    refine ev_s i134_101 (p := 103) rfl ?_
    refine ev_s i134_103 (p := 104) (zic_2 _ _ _ _ _) ?_
    refine ev_s i134_104 (p := 105) rfl ?_
    refine ev_getf i134_105 zf8_71 (u := zI (σ 8 0 8)) rfl (p := 108) rfl ?_
    refine ev_s i134_108 (p := 109) (t := [zI (2 * (σ 8 0 8)), zI y4]) rfl ?_
    refine ev_cmpge i134_109 (t := 136) (by decide) (p := 112) rfl h (fun c21 h => ?_) (fun c21 h => ?_)
    · refine ev_s i134_136 (p := 137) (zic_1 _ _ _ _ _) ?_
      obtain rfl := Option.some.inj h
      exact ev_iret i134_137 zr134
    · refine ev_s i134_112 (p := 113) rfl ?_
      refine ev_getf i134_113 zf8_7 (u := zR 30 0) rfl (p := 116) rfl ?_
      refine ev_s i134_116 (p := 117) rfl ?_
      refine ev_s i134_117 (p := 118) (zic_1 _ _ _ _ _) ?_
      refine ev_s i134_118 (p := 119) (t := [zI (y3 + 1), zR 30 0]) rfl ?_
      refine ev_s i134_119 (p := 121) rfl ?_
      refine ev_s i134_121 (p := 122) (t := [zI ((y3 + 1) + y4), zR 30 0]) rfl ?_
      refine ev_s i134_122 (p := 123) rfl ?_
      refine ev_getf i134_123 zf8_25 (u := zR 35 0) rfl (p := 126) rfl ?_
      refine ev_s i134_126 (p := 128) rfl ?_
      refine ev_iald i134_128 rfl (n := 124) rfl (p := 129) rfl h (fun g22 h => ?_)
      refine ev_iast i134_129 rfl (n := 394) rfl (p := 130) rfl h (fun g24 h => ?_)
      refine ev_lets h (fun s23 es23 h => ?_)
      refine ev_iinc i134_130 zii_1 rfl (l := [some (zR 8 0), z1, z2, some (zI y3), some (zI (y4 + 1))]) rfl (p := 133) rfl ?_
      refine ev_goto i134_133 (t := 101) (by decide) ?_
      exact ih y3 (y4 + 1) s23 w _ hz1 _ hz2 h
def fM_text_J60 (N : Nat) (G : Nat) (y1 : Int32) (u0 : Int32) (σ : zS) : Option (Int32 × zS) := zlt (zup σ 30 0 2 0) fun s16 => (if u0 = 0 then some ((-10) - (s16 8 0 6), s16) else zlt (60 + (125 * y1)) fun v18 => zgd (zin v18 394) (zlt (zup s16 30 0 v18.toNatClampNeg (s16 8 0 8)) fun s19 => fM_text_L101 N G N v18 0 s19))
set_option maxHeartbeats 4000000 in
theorem kM_text_J60 (N : Nat) (G : Nat) (d : Nat) (hd : 2 + 1 * G ≤ d)  : ∀ (y1 : Int32) (u0 : Int32) (σ : zS) (w : Int32 × zS) (z2 : Option zA) (hz2 : znl z2 = true) (z3 : Option zA) (hz3 : znl z3 = true) (z4 : Option zA), fM_text_J60 N G y1 u0 σ = some w → zEv d 134 60 [some (zR 8 0), some (zI y1), z2, z3, z4] [zI u0] σ (some (zI w.1), w.2) := by
  intro y1 u0 σ w z2 hz2 z3 hz3 z4 h
  unfold fM_text_J60 at h
  refine ev_s i134_60 (p := 61) (l := [some (zR 8 0), some (zI y1), some (zI u0), z3, z4]) rfl ?_
  refine ev_s i134_61 (p := 62) rfl ?_
  refine ev_getf i134_62 zf8_7 (u := zR 30 0) rfl (p := 65) rfl ?_
  refine ev_s i134_65 (p := 66) (zic_2 _ _ _ _ _) ?_
  refine ev_s i134_66 (p := 67) (zic_0 _ _ _ _ _) ?_
  refine ev_iastK i134_67 rfl (n := 394) rfl (by decide) (p := 68) rfl ?_
  change zEv d 134 68 [some (zR 8 0), some (zI y1), some (zI u0), z3, z4] [] (zup σ 30 0 2 0) _
  refine ev_lets h (fun s16 es16 h => ?_)
  refine ev_s i134_68 (p := 69) rfl ?_
  refine ev_ifne i134_69 (t := 80) (by decide) (p := 72) rfl h (fun c17 h => ?_) (fun c17 h => ?_)
  · refine ev_s i134_72 (p := 74) (zib_m10 _ _ _ _ _) ?_
    refine ev_s i134_74 (p := 75) rfl ?_
    refine ev_getf i134_75 zf8_64 (u := zI (s16 8 0 6)) rfl (p := 78) rfl ?_
    refine ev_s i134_78 (p := 79) (t := [zI ((-10) - (s16 8 0 6))]) rfl ?_
    obtain rfl := Option.some.inj h
    exact ev_iret i134_79 zr134
  · refine ev_s i134_80 (p := 82) (zib_60 _ _ _ _ _) ?_
    refine ev_s i134_82 (p := 84) (zib_125 _ _ _ _ _) ?_
    refine ev_s i134_84 (p := 85) rfl ?_
    refine ev_s i134_85 (p := 86) (t := [zI (125 * y1), zI 60]) rfl ?_
    refine ev_s i134_86 (p := 87) (t := [zI (60 + (125 * y1))]) rfl ?_
    refine ev_let h (fun v18 ev18 h => ?_)
    refine ev_s i134_87 (p := 88) (l := [some (zR 8 0), some (zI y1), some (zI u0), some (zI v18), z4]) rfl ?_
    refine ev_s i134_88 (p := 89) rfl ?_
    refine ev_getf i134_89 zf8_7 (u := zR 30 0) rfl (p := 92) rfl ?_
    refine ev_s i134_92 (p := 93) rfl ?_
    refine ev_s i134_93 (p := 94) rfl ?_
    refine ev_getf i134_94 zf8_71 (u := zI (s16 8 0 8)) rfl (p := 97) rfl ?_
    refine ev_iast i134_97 rfl (n := 394) rfl (p := 98) rfl h (fun g20 h => ?_)
    refine ev_lets h (fun s19 es19 h => ?_)
    refine ev_s i134_98 (p := 99) (zic_0 _ _ _ _ _) ?_
    refine ev_s i134_99 (p := 101) (l := [some (zR 8 0), some (zI y1), some (zI u0), some (zI v18), some (zI 0)]) rfl ?_
    exact kM_text_L101 N G d hd N v18 0 s19 w _ rfl _ rfl h
def fM_text_J59 (N : Nat) (G : Nat) (y1 : Int32) (σ : zS) : Option (Int32 × zS) := fM_text_J60 N G y1 0 σ
set_option maxHeartbeats 4000000 in
theorem kM_text_J59 (N : Nat) (G : Nat) (d : Nat) (hd : 2 + 1 * G ≤ d)  : ∀ (y1 : Int32) (σ : zS) (w : Int32 × zS) (z2 : Option zA) (hz2 : znl z2 = true) (z3 : Option zA) (hz3 : znl z3 = true) (z4 : Option zA), fM_text_J59 N G y1 σ = some w → zEv d 134 59 [some (zR 8 0), some (zI y1), z2, z3, z4] [] σ (some (zI w.1), w.2) := by
  intro y1 σ w z2 hz2 z3 hz3 z4 h
  unfold fM_text_J59 at h
  refine ev_s i134_59 (p := 60) (zic_0 _ _ _ _ _) ?_
  exact kM_text_J60 N G d hd y1 0 σ w _ hz2 _ hz3 _ h
def fM_text (N : Nat) (G : Nat) (x1 : Int32) (σ : zS) : Option (Int32 × zS) := (fM_in x1 0 1).bind fun r2 => (if r2 = 0 then zb2 (fM_error 1 σ) fun r6 s5 => some (r6, s5) else zlt (zup σ 8 0 9 x1) fun s7 => zlt (zup s7 8 0 6 0) fun s8 => zlt (zup s8 8 0 7 0) fun s9 => zlt (zup s9 8 0 8 0) fun s10 => zb2 (fM_whole N G G s10) fun r13 s12 => (if r13 = 0 then fM_text_J59 N G x1 s12 else (if (s12 8 0 6) = (s12 30 0 2) then fM_text_J60 N G x1 1 s12 else fM_text_J59 N G x1 s12)))
set_option maxHeartbeats 4000000 in
theorem kM_text (N : Nat) (G : Nat) (x1 : Int32) (σ : zS) (w : Int32 × zS) (h : fM_text N G x1 σ = some w) (d : Nat) (hd : 2 + 1 * G ≤ d) : zEv d 134 0 [some (zR 8 0), some (zI x1), none, none, none] [] σ (some (zI w.1), w.2) := by
  unfold fM_text at h
  refine ev_s i134_0 (p := 1) rfl ?_
  refine ev_s i134_1 (p := 2) (zic_0 _ _ _ _ _) ?_
  refine ev_s i134_2 (p := 3) (zic_1 _ _ _ _ _) ?_
  obtain ⟨r2, hr1, h⟩ := bd_some h
  refine ev_callS i134_3 zn8_50 zc8_50 zm111 (as := [zI x1, zI 0, zI 1]) (rest := []) rfl rfl (Nat.le_of_ble_eq_true rfl) (Nat.le_of_ble_eq_true rfl) (Nat.le_of_ble_eq_true rfl) (by omega) (l0 := [some (zI x1), some (zI 0), some (zI 1)]) rfl (p := 6) rfl (kM_in x1 0 1 σ r2 hr1 (d - 1) (by omega)) ?_
  change zEv d 134 6 [some (zR 8 0), some (zI x1), none, none, none] [zI r2] σ _
  refine ev_ifne i134_6 (t := 15) (by decide) (p := 9) rfl h (fun c3 h => ?_) (fun c3 h => ?_)
  · refine ev_s i134_9 (p := 10) rfl ?_
    refine ev_s i134_10 (p := 11) (zic_1 _ _ _ _ _) ?_
    obtain ⟨r6, s5, hr4, h⟩ := b2_some h
    refine ev_callV i134_11 zc8_58 zm110 zo110 (as' := [zI 1]) (rest := []) rfl rfl (Nat.le_of_ble_eq_true rfl) (Nat.le_of_ble_eq_true rfl) (Nat.le_of_ble_eq_true rfl) (by omega) (l0 := [some (zR 8 0), some (zI 1)]) rfl (p := 14) rfl (kM_error 1 σ (r6, s5) hr4 (d - 1) (by omega)) ?_
    change zEv d 134 14 [some (zR 8 0), some (zI x1), none, none, none] [zI r6] s5 _
    obtain rfl := Option.some.inj h
    exact ev_iret i134_14 zr134
  · refine ev_s i134_15 (p := 16) rfl ?_
    refine ev_s i134_16 (p := 17) rfl ?_
    refine ev_putf i134_17 zf8_68 rfl rfl rfl (p := 20) rfl ?_
    refine ev_lets h (fun s7 es7 h => ?_)
    refine ev_s i134_20 (p := 21) rfl ?_
    refine ev_s i134_21 (p := 22) (zic_0 _ _ _ _ _) ?_
    refine ev_putf i134_22 zf8_64 rfl rfl rfl (p := 25) rfl ?_
    refine ev_lets h (fun s8 es8 h => ?_)
    refine ev_s i134_25 (p := 26) rfl ?_
    refine ev_s i134_26 (p := 27) (zic_0 _ _ _ _ _) ?_
    refine ev_putf i134_27 zf8_98 rfl rfl rfl (p := 30) rfl ?_
    refine ev_lets h (fun s9 es9 h => ?_)
    refine ev_s i134_30 (p := 31) rfl ?_
    refine ev_s i134_31 (p := 32) (zic_0 _ _ _ _ _) ?_
    refine ev_putf i134_32 zf8_71 rfl rfl rfl (p := 35) rfl ?_
    refine ev_lets h (fun s10 es10 h => ?_)
    refine ev_s i134_35 (p := 36) rfl ?_
    obtain ⟨r13, s12, hr11, h⟩ := b2_some h
    refine ev_callV i134_36 zc8_108 zm126 zo126 (as' := []) (rest := []) rfl rfl (Nat.le_of_ble_eq_true rfl) (Nat.le_of_ble_eq_true rfl) (Nat.le_of_ble_eq_true rfl) (by omega) (l0 := [some (zR 8 0)]) rfl (p := 39) rfl (kM_whole N G G s10 (r13, s12) hr11 (d - 1) (by omega)) ?_
    change zEv d 134 39 [some (zR 8 0), some (zI x1), none, none, none] [zI r13] s12 _
    refine ev_ifeq i134_39 (t := 59) (by decide) (p := 42) rfl h (fun c14 h => ?_) (fun c14 h => ?_)
    · exact kM_text_J59 N G d hd x1 s12 w _ rfl _ rfl _ h
    · refine ev_s i134_42 (p := 43) rfl ?_
      refine ev_getf i134_43 zf8_64 (u := zI (s12 8 0 6)) rfl (p := 46) rfl ?_
      refine ev_s i134_46 (p := 47) rfl ?_
      refine ev_getf i134_47 zf8_7 (u := zR 30 0) rfl (p := 50) rfl ?_
      refine ev_s i134_50 (p := 51) (zic_2 _ _ _ _ _) ?_
      refine ev_ialdK i134_51 rfl (n := 394) rfl (by decide) (p := 52) rfl ?_
      change zEv d 134 52 [some (zR 8 0), some (zI x1), none, none, none] [zI (s12 30 0 2), zI (s12 8 0 6)] s12 _
      refine ev_cmpne i134_52 (t := 59) (by decide) (p := 55) rfl h (fun c15 h => ?_) (fun c15 h => ?_)
      · refine ev_s i134_55 (p := 56) (zic_1 _ _ _ _ _) ?_
        refine ev_goto i134_56 (t := 60) (by decide) ?_
        exact kM_text_J60 N G d hd x1 1 s12 w _ rfl _ rfl _ h
      · exact kM_text_J59 N G d hd x1 s12 w _ rfl _ rfl _ h
/-! fA_untell -/
def fA_untell_J30 (y1 : Int32) (u0 : Int32) (σ : zS) : Option (Int32 × zS) := (fA_lawOf y1 σ).bind fun r11 => zlt (zup σ 0 r11 1 0) fun s12 => some (u0, s12)
set_option maxHeartbeats 4000000 in
theorem kA_untell_J30  (d : Nat) (hd : 1 ≤ d)  : ∀ (y1 : Int32) (u0 : Int32) (σ : zS) (w : Int32 × zS) (z2 : Option zA), fA_untell_J30 y1 u0 σ = some w → zEv d 71 30 [some (zR 7 0), some (zI y1), z2] [zI u0] σ (some (zI w.1), w.2) := by
  intro y1 u0 σ w z2 h
  unfold fA_untell_J30 at h
  refine ev_s i71_30 (p := 31) (l := [some (zR 7 0), some (zI y1), some (zI u0)]) rfl ?_
  refine ev_s i71_31 (p := 32) rfl ?_
  refine ev_s i71_32 (p := 33) rfl ?_
  obtain ⟨r11, hr10, h⟩ := bd_some h
  refine ev_callV i71_33 zc7_139 zm106 zo106 (as' := [zI y1]) (rest := []) rfl rfl (Nat.le_of_ble_eq_true rfl) (Nat.le_of_ble_eq_true rfl) (Nat.le_of_ble_eq_true rfl) (by omega) (l0 := [some (zR 7 0), some (zI y1)]) rfl (p := 36) rfl (kA_lawOf y1 σ r11 hr10 (d - 1) (by omega)) ?_
  change zEv d 71 36 [some (zR 7 0), some (zI y1), some (zI u0)] [zR 0 r11] σ _
  refine ev_s i71_36 (p := 37) (zic_0 _ _ _ _ _) ?_
  refine ev_putf i71_37 zf7_153 rfl rfl rfl (p := 40) rfl ?_
  refine ev_lets h (fun s12 es12 h => ?_)
  refine ev_s i71_40 (p := 41) rfl ?_
  obtain rfl := Option.some.inj h
  exact ev_iret i71_41 zr71
def fA_untell (x1 : Int32) (σ : zS) : Option (Int32 × zS) := (fA_within x1 1).bind fun r2 => (if r2 = 0 then zb2 (fA_refuse 1 σ) fun r6 s5 => some (r6, s5) else (fA_lawOf x1 σ).bind fun r8 => (if (σ 0 r8 1) ≤ 0 then fA_untell_J30 x1 0 σ else fA_untell_J30 x1 1 σ))
set_option maxHeartbeats 4000000 in
theorem kA_untell (x1 : Int32) (σ : zS) (w : Int32 × zS) (h : fA_untell x1 σ = some w) (d : Nat) (hd : 1 ≤ d) : zEv d 71 0 [some (zR 7 0), some (zI x1), none] [] σ (some (zI w.1), w.2) := by
  unfold fA_untell at h
  refine ev_s i71_0 (p := 1) rfl ?_
  refine ev_s i71_1 (p := 2) (zic_1 _ _ _ _ _) ?_
  obtain ⟨r2, hr1, h⟩ := bd_some h
  refine ev_callS i71_2 zn7_64 zc7_64 zm103 (as := [zI x1, zI 1]) (rest := []) rfl rfl (Nat.le_of_ble_eq_true rfl) (Nat.le_of_ble_eq_true rfl) (Nat.le_of_ble_eq_true rfl) (by omega) (l0 := [some (zI x1), some (zI 1)]) rfl (p := 5) rfl (kA_within x1 1 σ r2 hr1 (d - 1) (by omega)) ?_
  change zEv d 71 5 [some (zR 7 0), some (zI x1), none] [zI r2] σ _
  refine ev_ifne i71_5 (t := 14) (by decide) (p := 8) rfl h (fun c3 h => ?_) (fun c3 h => ?_)
  · refine ev_s i71_8 (p := 9) rfl ?_
    refine ev_s i71_9 (p := 10) (zic_1 _ _ _ _ _) ?_
    obtain ⟨r6, s5, hr4, h⟩ := b2_some h
    refine ev_callV i71_10 zc7_72 zm102 zo102 (as' := [zI 1]) (rest := []) rfl rfl (Nat.le_of_ble_eq_true rfl) (Nat.le_of_ble_eq_true rfl) (Nat.le_of_ble_eq_true rfl) (by omega) (l0 := [some (zR 7 0), some (zI 1)]) rfl (p := 13) rfl (kA_refuse 1 σ (r6, s5) hr4 (d - 1) (by omega)) ?_
    change zEv d 71 13 [some (zR 7 0), some (zI x1), none] [zI r6] s5 _
    obtain rfl := Option.some.inj h
    exact ev_iret i71_13 zr71
  · refine ev_s i71_14 (p := 15) rfl ?_
    refine ev_s i71_15 (p := 16) rfl ?_
    obtain ⟨r8, hr7, h⟩ := bd_some h
    refine ev_callV i71_16 zc7_139 zm106 zo106 (as' := [zI x1]) (rest := []) rfl rfl (Nat.le_of_ble_eq_true rfl) (Nat.le_of_ble_eq_true rfl) (Nat.le_of_ble_eq_true rfl) (by omega) (l0 := [some (zR 7 0), some (zI x1)]) rfl (p := 19) rfl (kA_lawOf x1 σ r8 hr7 (d - 1) (by omega)) ?_
    change zEv d 71 19 [some (zR 7 0), some (zI x1), none] [zR 0 r8] σ _
    refine ev_getf i71_19 zf7_153 (u := zI (σ 0 r8 1)) rfl (p := 22) rfl ?_
    refine ev_ifle i71_22 (t := 29) (by decide) (p := 25) rfl h (fun c9 h => ?_) (fun c9 h => ?_)
    · refine ev_s i71_29 (p := 30) (zic_0 _ _ _ _ _) ?_
      exact kA_untell_J30 d hd x1 0 σ w _ h
    · refine ev_s i71_25 (p := 26) (zic_1 _ _ _ _ _) ?_
      refine ev_goto i71_26 (t := 30) (by decide) ?_
      exact kA_untell_J30 d hd x1 1 σ w _ h
/-! fM_untell -/
def fM_untell_J28 (y1 : Int32) (u0 : Int32) (σ : zS) : Option (Int32 × zS) := zgd (zin (60 + (125 * y1)) 394) (zlt (zup σ 30 0 (60 + (125 * y1)).toNatClampNeg 0) fun s10 => some (u0, s10))
set_option maxHeartbeats 4000000 in
theorem kM_untell_J28  (d : Nat) (hd : 1 ≤ d)  : ∀ (y1 : Int32) (u0 : Int32) (σ : zS) (w : Int32 × zS) (z2 : Option zA), fM_untell_J28 y1 u0 σ = some w → zEv d 135 28 [some (zR 8 0), some (zI y1), z2] [zI u0] σ (some (zI w.1), w.2) := by
  intro y1 u0 σ w z2 h
  unfold fM_untell_J28 at h
  refine ev_s i135_28 (p := 29) (l := [some (zR 8 0), some (zI y1), some (zI u0)]) rfl ?_
  refine ev_s i135_29 (p := 30) rfl ?_
  refine ev_getf i135_30 zf8_7 (u := zR 30 0) rfl (p := 33) rfl ?_
  refine ev_s i135_33 (p := 35) (zib_60 _ _ _ _ _) ?_
  refine ev_s i135_35 (p := 37) (zib_125 _ _ _ _ _) ?_
  refine ev_s i135_37 (p := 38) rfl ?_
  refine ev_s i135_38 (p := 39) (t := [zI (125 * y1), zI 60, zR 30 0]) rfl ?_
  refine ev_s i135_39 (p := 40) (t := [zI (60 + (125 * y1)), zR 30 0]) rfl ?_
  refine ev_s i135_40 (p := 41) (zic_0 _ _ _ _ _) ?_
  refine ev_iast i135_41 rfl (n := 394) rfl (p := 42) rfl h (fun g11 h => ?_)
  refine ev_lets h (fun s10 es10 h => ?_)
  refine ev_s i135_42 (p := 43) rfl ?_
  obtain rfl := Option.some.inj h
  exact ev_iret i135_43 zr135
def fM_untell (x1 : Int32) (σ : zS) : Option (Int32 × zS) := (fM_in x1 0 1).bind fun r2 => (if r2 = 0 then zb2 (fM_error 1 σ) fun r6 s5 => some (r6, s5) else (fM_hasText x1 σ).bind fun r8 => (if r8 = 0 then fM_untell_J28 x1 0 σ else fM_untell_J28 x1 1 σ))
set_option maxHeartbeats 4000000 in
theorem kM_untell (x1 : Int32) (σ : zS) (w : Int32 × zS) (h : fM_untell x1 σ = some w) (d : Nat) (hd : 1 ≤ d) : zEv d 135 0 [some (zR 8 0), some (zI x1), none] [] σ (some (zI w.1), w.2) := by
  unfold fM_untell at h
  refine ev_s i135_0 (p := 1) rfl ?_
  refine ev_s i135_1 (p := 2) (zic_0 _ _ _ _ _) ?_
  refine ev_s i135_2 (p := 3) (zic_1 _ _ _ _ _) ?_
  obtain ⟨r2, hr1, h⟩ := bd_some h
  refine ev_callS i135_3 zn8_50 zc8_50 zm111 (as := [zI x1, zI 0, zI 1]) (rest := []) rfl rfl (Nat.le_of_ble_eq_true rfl) (Nat.le_of_ble_eq_true rfl) (Nat.le_of_ble_eq_true rfl) (by omega) (l0 := [some (zI x1), some (zI 0), some (zI 1)]) rfl (p := 6) rfl (kM_in x1 0 1 σ r2 hr1 (d - 1) (by omega)) ?_
  change zEv d 135 6 [some (zR 8 0), some (zI x1), none] [zI r2] σ _
  refine ev_ifne i135_6 (t := 15) (by decide) (p := 9) rfl h (fun c3 h => ?_) (fun c3 h => ?_)
  · refine ev_s i135_9 (p := 10) rfl ?_
    refine ev_s i135_10 (p := 11) (zic_1 _ _ _ _ _) ?_
    obtain ⟨r6, s5, hr4, h⟩ := b2_some h
    refine ev_callV i135_11 zc8_58 zm110 zo110 (as' := [zI 1]) (rest := []) rfl rfl (Nat.le_of_ble_eq_true rfl) (Nat.le_of_ble_eq_true rfl) (Nat.le_of_ble_eq_true rfl) (by omega) (l0 := [some (zR 8 0), some (zI 1)]) rfl (p := 14) rfl (kM_error 1 σ (r6, s5) hr4 (d - 1) (by omega)) ?_
    change zEv d 135 14 [some (zR 8 0), some (zI x1), none] [zI r6] s5 _
    obtain rfl := Option.some.inj h
    exact ev_iret i135_14 zr135
  · refine ev_s i135_15 (p := 16) rfl ?_
    refine ev_s i135_16 (p := 17) rfl ?_
    obtain ⟨r8, hr7, h⟩ := bd_some h
    refine ev_callV i135_17 zc8_111 zm133 zo133 (as' := [zI x1]) (rest := []) rfl rfl (Nat.le_of_ble_eq_true rfl) (Nat.le_of_ble_eq_true rfl) (Nat.le_of_ble_eq_true rfl) (by omega) (l0 := [some (zR 8 0), some (zI x1)]) rfl (p := 20) rfl (kM_hasText x1 σ r8 hr7 (d - 1) (by omega)) ?_
    change zEv d 135 20 [some (zR 8 0), some (zI x1), none] [zI r8] σ _
    refine ev_ifeq i135_20 (t := 27) (by decide) (p := 23) rfl h (fun c9 h => ?_) (fun c9 h => ?_)
    · refine ev_s i135_27 (p := 28) (zic_0 _ _ _ _ _) ?_
      exact kM_untell_J28 d hd x1 0 σ w _ h
    · refine ev_s i135_23 (p := 24) (zic_1 _ _ _ _ _) ?_
      refine ev_goto i135_24 (t := 28) (by decide) ?_
      exact kM_untell_J28 d hd x1 1 σ w _ h
/-! fA_law -/
def fA_law (N : Nat) (x1 : Int32) (x2 : Int32) (x3 : Int32) (x4 : Int32) (σ : zS) : Option (Int32 × zS) := (fA_within x1 1).bind fun r2 => (if r2 = 0 then zb2 (fA_refuse 1 σ) fun r6 s5 => some (r6, s5) else (fA_lawOf x1 σ).bind fun r8 => zb2 (fL_gives N r8 x2 x3 x4 σ) fun r11 s10 => some (r11, s10))
set_option maxHeartbeats 4000000 in
theorem kA_law (N : Nat) (x1 : Int32) (x2 : Int32) (x3 : Int32) (x4 : Int32) (σ : zS) (w : Int32 × zS) (h : fA_law N x1 x2 x3 x4 σ = some w) (d : Nat) (hd : 2 ≤ d) : zEv d 72 0 [some (zR 7 0), some (zI x1), some (zI x2), some (zI x3), some (zI x4)] [] σ (some (zI w.1), w.2) := by
  unfold fA_law at h
  refine ev_s i72_0 (p := 1) rfl ?_
  refine ev_s i72_1 (p := 2) (zic_1 _ _ _ _ _) ?_
  obtain ⟨r2, hr1, h⟩ := bd_some h
  refine ev_callS i72_2 zn7_64 zc7_64 zm103 (as := [zI x1, zI 1]) (rest := []) rfl rfl (Nat.le_of_ble_eq_true rfl) (Nat.le_of_ble_eq_true rfl) (Nat.le_of_ble_eq_true rfl) (by omega) (l0 := [some (zI x1), some (zI 1)]) rfl (p := 5) rfl (kA_within x1 1 σ r2 hr1 (d - 1) (by omega)) ?_
  change zEv d 72 5 [some (zR 7 0), some (zI x1), some (zI x2), some (zI x3), some (zI x4)] [zI r2] σ _
  refine ev_ifeq i72_5 (t := 23) (by decide) (p := 8) rfl h (fun c3 h => ?_) (fun c3 h => ?_)
  · refine ev_s i72_23 (p := 24) rfl ?_
    refine ev_s i72_24 (p := 25) (zic_1 _ _ _ _ _) ?_
    obtain ⟨r6, s5, hr4, h⟩ := b2_some h
    refine ev_callV i72_25 zc7_72 zm102 zo102 (as' := [zI 1]) (rest := []) rfl rfl (Nat.le_of_ble_eq_true rfl) (Nat.le_of_ble_eq_true rfl) (Nat.le_of_ble_eq_true rfl) (by omega) (l0 := [some (zR 7 0), some (zI 1)]) rfl (p := 28) rfl (kA_refuse 1 σ (r6, s5) hr4 (d - 1) (by omega)) ?_
    change zEv d 72 28 [some (zR 7 0), some (zI x1), some (zI x2), some (zI x3), some (zI x4)] [zI r6] s5 _
    obtain rfl := Option.some.inj h
    exact ev_iret i72_28 zr72
  · refine ev_s i72_8 (p := 9) rfl ?_
    refine ev_s i72_9 (p := 10) rfl ?_
    obtain ⟨r8, hr7, h⟩ := bd_some h
    refine ev_callV i72_10 zc7_139 zm106 zo106 (as' := [zI x1]) (rest := []) rfl rfl (Nat.le_of_ble_eq_true rfl) (Nat.le_of_ble_eq_true rfl) (Nat.le_of_ble_eq_true rfl) (by omega) (l0 := [some (zR 7 0), some (zI x1)]) rfl (p := 13) rfl (kA_lawOf x1 σ r8 hr7 (d - 1) (by omega)) ?_
    change zEv d 72 13 [some (zR 7 0), some (zI x1), some (zI x2), some (zI x3), some (zI x4)] [zR 0 r8] σ _
    refine ev_s i72_13 (p := 14) rfl ?_
    refine ev_s i72_14 (p := 15) rfl ?_
    refine ev_s i72_15 (p := 17) rfl ?_
    obtain ⟨r11, s10, hr9, h⟩ := b2_some h
    refine ev_callV i72_17 zc7_154 zm1 zo1 (as' := [zI x2, zI x3, zI x4]) (rest := []) rfl rfl (Nat.le_of_ble_eq_true rfl) (Nat.le_of_ble_eq_true rfl) (Nat.le_of_ble_eq_true rfl) (by omega) (l0 := [some (zR 0 r8), some (zI x2), some (zI x3), some (zI x4), none, none, none]) rfl (p := 20) rfl (kL_gives N r8 x2 x3 x4 σ (r11, s10) hr9 (d - 1) (by omega)) ?_
    change zEv d 72 20 [some (zR 7 0), some (zI x1), some (zI x2), some (zI x3), some (zI x4)] [zI r11] s10 _
    refine ev_goto i72_20 (t := 28) (by decide) ?_
    obtain rfl := Option.some.inj h
    exact ev_iret i72_28 zr72
