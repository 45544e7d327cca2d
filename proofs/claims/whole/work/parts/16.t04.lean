/-! fV_speak -/
def fV_speak_J51 (N : Nat) (G : Nat) (P57 : Int32 → Int32 → Int32 → Int32 → zS → Option (Int32 × zS)) (P58 : Int32 → Int32 → Int32 → zS → Option (Int32 × zS)) (P59 : Int32 → Int32 → Int32 → zS → Option (Int32 × zS)) (y3 : Int32) (y4 : Int32) (y5 : Int32) (σ : zS) : Option (Int32 × zS) := (if 20 ≤ y5 then zb2 (P59 y5 y3 (y4 + 1) σ) fun r12 s11 => some (r12, s11) else zb2 (P58 y5 y3 (y4 + 1) σ) fun r15 s14 => some (r15, s14))
set_option maxHeartbeats 4000000 in
theorem kV_speak_J51 (N : Nat) (G : Nat) (P57 : Int32 → Int32 → Int32 → Int32 → zS → Option (Int32 × zS)) (P58 : Int32 → Int32 → Int32 → zS → Option (Int32 × zS)) (P59 : Int32 → Int32 → Int32 → zS → Option (Int32 × zS)) (d : Nat) (hd : 0 ≤ d) (hd1 : 1 + 1 ≤ d) (hP57 : ∀ (x1 : Int32) (x2 : Int32) (x3 : Int32) (x4 : Int32) (σ : zS) (w : Int32 × zS), P57 x1 x2 x3 x4 σ = some w → zEv (d - 1) 57 0 [some (zR 6 0), some (zI x1), some (zI x2), some (zI x3), some (zI x4), none] [] σ (some (zI w.1), w.2)) (hP58 : ∀ (x1 : Int32) (x2 : Int32) (x3 : Int32) (σ : zS) (w : Int32 × zS), P58 x1 x2 x3 σ = some w → zEv (d - 1) 58 0 [some (zR 6 0), some (zI x1), some (zI x2), some (zI x3)] [] σ (some (zI w.1), w.2)) (hP59 : ∀ (x1 : Int32) (x2 : Int32) (x3 : Int32) (σ : zS) (w : Int32 × zS), P59 x1 x2 x3 σ = some w → zEv (d - 1) 59 0 [some (zR 6 0), some (zI x1), some (zI x2), some (zI x3), none, none] [] σ (some (zI w.1), w.2)) : ∀ (y3 : Int32) (y4 : Int32) (y5 : Int32) (σ : zS) (w : Int32 × zS) (z1 : Option zA) (z2 : Option zA), fV_speak_J51 N G P57 P58 P59 y3 y4 y5 σ = some w → zEv d 57 51 [some (zR 6 0), z1, z2, some (zI y3), some (zI y4), some (zI y5)] [] σ (some (zI w.1), w.2) := by
  intro y3 y4 y5 σ w z1 z2 h
  unfold fV_speak_J51 at h
  refine ev_s i57_51 (p := 53) rfl ?_
  refine ev_s i57_53 (p := 55) (zib_20 _ _ _ _ _) ?_
  refine ev_cmpge i57_55 (t := 72) (by decide) (p := 58) rfl h (fun c9 h => ?_) (fun c9 h => ?_)
  · refine ev_s i57_72 (p := 73) rfl ?_
    refine ev_s i57_73 (p := 75) rfl ?_
    refine ev_s i57_75 (p := 76) rfl ?_
    refine ev_s i57_76 (p := 78) rfl ?_
    refine ev_s i57_78 (p := 79) (zic_1 _ _ _ _ _) ?_
    refine ev_s i57_79 (p := 80) (t := [zI (y4 + 1), zI y3, zI y5, zR 6 0]) rfl ?_
    obtain ⟨r12, s11, hr10, h⟩ := b2_some h
    refine ev_callV i57_80 zc6_47 zm59 zo59 (as' := [zI y5, zI y3, zI (y4 + 1)]) (rest := []) rfl rfl (Nat.le_of_ble_eq_true rfl) (Nat.le_of_ble_eq_true rfl) (Nat.le_of_ble_eq_true rfl) (by omega) (l0 := [some (zR 6 0), some (zI y5), some (zI y3), some (zI (y4 + 1)), none, none]) rfl (p := 83) rfl (hP59 y5 y3 (y4 + 1) σ (r12, s11) hr10) ?_
    change zEv d 57 83 [some (zR 6 0), z1, z2, some (zI y3), some (zI y4), some (zI y5)] [zI r12] s11 _
    obtain rfl := Option.some.inj h
    exact ev_iret i57_83 zr57
  · refine ev_s i57_58 (p := 59) rfl ?_
    refine ev_s i57_59 (p := 61) rfl ?_
    refine ev_s i57_61 (p := 62) rfl ?_
    refine ev_s i57_62 (p := 64) rfl ?_
    refine ev_s i57_64 (p := 65) (zic_1 _ _ _ _ _) ?_
    refine ev_s i57_65 (p := 66) (t := [zI (y4 + 1), zI y3, zI y5, zR 6 0]) rfl ?_
    obtain ⟨r15, s14, hr13, h⟩ := b2_some h
    refine ev_callV i57_66 zc6_43 zm58 zo58 (as' := [zI y5, zI y3, zI (y4 + 1)]) (rest := []) rfl rfl (Nat.le_of_ble_eq_true rfl) (Nat.le_of_ble_eq_true rfl) (Nat.le_of_ble_eq_true rfl) (by omega) (l0 := [some (zR 6 0), some (zI y5), some (zI y3), some (zI (y4 + 1))]) rfl (p := 69) rfl (hP58 y5 y3 (y4 + 1) σ (r15, s14) hr13) ?_
    change zEv d 57 69 [some (zR 6 0), z1, z2, some (zI y3), some (zI y4), some (zI y5)] [zI r15] s14 _
    refine ev_goto i57_69 (t := 83) (by decide) ?_
    obtain rfl := Option.some.inj h
    exact ev_iret i57_83 zr57
def fV_speak_b (N : Nat) (G : Nat) (P57 : Int32 → Int32 → Int32 → Int32 → zS → Option (Int32 × zS)) (P58 : Int32 → Int32 → Int32 → zS → Option (Int32 × zS)) (P59 : Int32 → Int32 → Int32 → zS → Option (Int32 × zS)) (x1 : Int32) (x2 : Int32) (x3 : Int32) (x4 : Int32) (σ : zS) : Option (Int32 × zS) := (fV_bodyOf N x1 x2 σ).bind fun r2 => (if 40 < x4 then some (0, σ) else (if r2 = 0 then some (0, σ) else (if 30 ≤ (σ 6 0 1) then fV_speak_J51 N G P57 P58 P59 x3 x4 r2 σ else zgd (zin (σ 6 0 1) 30) (zlt (zup σ 24 0 (σ 6 0 1).toNatClampNeg r2) fun s6 => zlt (zup s6 6 0 1 ((s6 6 0 1) + 1)) fun s8 => fV_speak_J51 N G P57 P58 P59 x3 x4 r2 s8))))
set_option maxHeartbeats 4000000 in
theorem kV_speak_b (N : Nat) (G : Nat) (P57 : Int32 → Int32 → Int32 → Int32 → zS → Option (Int32 × zS)) (P58 : Int32 → Int32 → Int32 → zS → Option (Int32 × zS)) (P59 : Int32 → Int32 → Int32 → zS → Option (Int32 × zS)) (x1 : Int32) (x2 : Int32) (x3 : Int32) (x4 : Int32) (σ : zS) (w : Int32 × zS) (d : Nat) (hd : 0 ≤ d) (hd1 : 1 + 1 ≤ d) (hP57 : ∀ (x1 : Int32) (x2 : Int32) (x3 : Int32) (x4 : Int32) (σ : zS) (w : Int32 × zS), P57 x1 x2 x3 x4 σ = some w → zEv (d - 1) 57 0 [some (zR 6 0), some (zI x1), some (zI x2), some (zI x3), some (zI x4), none] [] σ (some (zI w.1), w.2)) (hP58 : ∀ (x1 : Int32) (x2 : Int32) (x3 : Int32) (σ : zS) (w : Int32 × zS), P58 x1 x2 x3 σ = some w → zEv (d - 1) 58 0 [some (zR 6 0), some (zI x1), some (zI x2), some (zI x3)] [] σ (some (zI w.1), w.2)) (hP59 : ∀ (x1 : Int32) (x2 : Int32) (x3 : Int32) (σ : zS) (w : Int32 × zS), P59 x1 x2 x3 σ = some w → zEv (d - 1) 59 0 [some (zR 6 0), some (zI x1), some (zI x2), some (zI x3), none, none] [] σ (some (zI w.1), w.2)) (h : fV_speak_b N G P57 P58 P59 x1 x2 x3 x4 σ = some w) : zEv d 57 0 [some (zR 6 0), some (zI x1), some (zI x2), some (zI x3), some (zI x4), none] [] σ (some (zI w.1), w.2) := by
  unfold fV_speak_b at h
  refine ev_s i57_0 (p := 1) rfl ?_
  refine ev_s i57_1 (p := 2) rfl ?_
  obtain ⟨r2, hr1, h⟩ := bd_some h
  refine ev_callS i57_2 zn6_39 zc6_39 zm60 (as := [zI x1, zI x2]) (rest := []) rfl rfl (Nat.le_of_ble_eq_true rfl) (Nat.le_of_ble_eq_true rfl) (Nat.le_of_ble_eq_true rfl) (by omega) (l0 := [some (zI x1), some (zI x2), none, none, none]) rfl (p := 5) rfl (kV_bodyOf N x1 x2 σ r2 hr1 (d - 1) (by omega)) ?_
  change zEv d 57 5 [some (zR 6 0), some (zI x1), some (zI x2), some (zI x3), some (zI x4), none] [zI r2] σ _
  refine ev_s i57_5 (p := 7) (l := [some (zR 6 0), some (zI x1), some (zI x2), some (zI x3), some (zI x4), some (zI r2)]) rfl ?_
  refine ev_s i57_7 (p := 9) rfl ?_
  refine ev_s i57_9 (p := 11) (zib_40 _ _ _ _ _) ?_
  refine ev_cmpgt i57_11 (t := 19) (by decide) (p := 14) rfl h (fun c3 h => ?_) (fun c3 h => ?_)
  · refine ev_s i57_19 (p := 20) (zic_0 _ _ _ _ _) ?_
    obtain rfl := Option.some.inj h
    exact ev_iret i57_20 zr57
  · refine ev_s i57_14 (p := 16) rfl ?_
    refine ev_ifne i57_16 (t := 21) (by decide) (p := 19) rfl h (fun c4 h => ?_) (fun c4 h => ?_)
    · refine ev_s i57_19 (p := 20) (zic_0 _ _ _ _ _) ?_
      obtain rfl := Option.some.inj h
      exact ev_iret i57_20 zr57
    · refine ev_s i57_21 (p := 22) rfl ?_
      refine ev_getf i57_22 zf6_32 (u := zI (σ 6 0 1)) rfl (p := 25) rfl ?_
      refine ev_s i57_25 (p := 27) (zib_30 _ _ _ _ _) ?_
      refine ev_cmpge i57_27 (t := 51) (by decide) (p := 30) rfl h (fun c5 h => ?_) (fun c5 h => ?_)
      · exact kV_speak_J51 N G P57 P58 P59 d hd hd1 hP57 hP58 hP59 x3 x4 r2 σ w _ _ h
      · refine ev_s i57_30 (p := 31) rfl ?_
        refine ev_getf i57_31 zf6_11 (u := zR 24 0) rfl (p := 34) rfl ?_
        refine ev_s i57_34 (p := 35) rfl ?_
        refine ev_getf i57_35 zf6_32 (u := zI (σ 6 0 1)) rfl (p := 38) rfl ?_
        refine ev_s i57_38 (p := 40) rfl ?_
        refine ev_iast i57_40 rfl (n := 30) rfl (p := 41) rfl h (fun g7 h => ?_)
        refine ev_lets h (fun s6 es6 h => ?_)
        refine ev_s i57_41 (p := 42) rfl ?_
        refine ev_s i57_42 (p := 43) rfl ?_
        refine ev_getf i57_43 zf6_32 (u := zI (s6 6 0 1)) rfl (p := 46) rfl ?_
        refine ev_s i57_46 (p := 47) (zic_1 _ _ _ _ _) ?_
        refine ev_s i57_47 (p := 48) (t := [zI ((s6 6 0 1) + 1), zR 6 0]) rfl ?_
        refine ev_putf i57_48 zf6_32 rfl rfl rfl (p := 51) rfl ?_
        refine ev_lets h (fun s8 es8 h => ?_)
        exact kV_speak_J51 N G P57 P58 P59 d hd hd1 hP57 hP58 hP59 x3 x4 r2 s8 w _ _ h
def fV_speakMother_b (N : Nat) (G : Nat) (P57 : Int32 → Int32 → Int32 → Int32 → zS → Option (Int32 × zS)) (P58 : Int32 → Int32 → Int32 → zS → Option (Int32 × zS)) (P59 : Int32 → Int32 → Int32 → zS → Option (Int32 × zS)) (x1 : Int32) (x2 : Int32) (x3 : Int32) (σ : zS) : Option (Int32 × zS) := (if x1 = 10 then some (x2 + (σ 6 0 4), σ) else (if x1 = 11 then zb2 (P57 (σ 6 0 3) 0 x2 x3 σ) fun r4 s3 => some (r4 * 2, s3) else (if x1 = 12 then zb2 (P57 (σ 6 0 3) 1 x2 x3 σ) fun r8 s7 => some (r8 - (s7 6 0 5), s7) else (if (σ 6 0 5) = (σ 6 0 4) then zlt (zup σ 6 0 2 1) fun s11 => some (0, s11) else zgd (¬ ((σ 6 0 5) - (σ 6 0 4)) = 0) (some (x2 / ((σ 6 0 5) - (σ 6 0 4)), σ))))))
set_option maxHeartbeats 4000000 in
theorem kV_speakMother_b (N : Nat) (G : Nat) (P57 : Int32 → Int32 → Int32 → Int32 → zS → Option (Int32 × zS)) (P58 : Int32 → Int32 → Int32 → zS → Option (Int32 × zS)) (P59 : Int32 → Int32 → Int32 → zS → Option (Int32 × zS)) (x1 : Int32) (x2 : Int32) (x3 : Int32) (σ : zS) (w : Int32 × zS) (d : Nat) (hd : 0 ≤ d) (hd1 : 1 + 1 ≤ d) (hP57 : ∀ (x1 : Int32) (x2 : Int32) (x3 : Int32) (x4 : Int32) (σ : zS) (w : Int32 × zS), P57 x1 x2 x3 x4 σ = some w → zEv (d - 1) 57 0 [some (zR 6 0), some (zI x1), some (zI x2), some (zI x3), some (zI x4), none] [] σ (some (zI w.1), w.2)) (hP58 : ∀ (x1 : Int32) (x2 : Int32) (x3 : Int32) (σ : zS) (w : Int32 × zS), P58 x1 x2 x3 σ = some w → zEv (d - 1) 58 0 [some (zR 6 0), some (zI x1), some (zI x2), some (zI x3)] [] σ (some (zI w.1), w.2)) (hP59 : ∀ (x1 : Int32) (x2 : Int32) (x3 : Int32) (σ : zS) (w : Int32 × zS), P59 x1 x2 x3 σ = some w → zEv (d - 1) 59 0 [some (zR 6 0), some (zI x1), some (zI x2), some (zI x3), none, none] [] σ (some (zI w.1), w.2)) (h : fV_speakMother_b N G P57 P58 P59 x1 x2 x3 σ = some w) : zEv d 58 0 [some (zR 6 0), some (zI x1), some (zI x2), some (zI x3)] [] σ (some (zI w.1), w.2) := by
  unfold fV_speakMother_b at h
  refine ev_s i58_0 (p := 1) rfl ?_
  refine ev_sel h (fun c1 h => ?_) (fun c1 h => ?_)
  · refine ev_tsw i58_1 (by decide) (t := 28) (by rw [c1]; decide) ?_
    refine ev_s i58_28 (p := 29) rfl ?_
    refine ev_s i58_29 (p := 30) rfl ?_
    refine ev_getf i58_30 zf6_22 (u := zI (σ 6 0 4)) rfl (p := 33) rfl ?_
    refine ev_s i58_33 (p := 34) (t := [zI (x2 + (σ 6 0 4))]) rfl ?_
    obtain rfl := Option.some.inj h
    exact ev_iret i58_34 zr58
  refine ev_sel h (fun c5 h => ?_) (fun c5 h => ?_)
  · refine ev_tsw i58_1 (by decide) (t := 35) (by rw [c5]; decide) ?_
    refine ev_s i58_35 (p := 36) rfl ?_
    refine ev_s i58_36 (p := 37) rfl ?_
    refine ev_getf i58_37 zf6_18 (u := zI (σ 6 0 3)) rfl (p := 40) rfl ?_
    refine ev_s i58_40 (p := 41) (zic_0 _ _ _ _ _) ?_
    refine ev_s i58_41 (p := 42) rfl ?_
    refine ev_s i58_42 (p := 43) rfl ?_
    obtain ⟨r4, s3, hr2, h⟩ := b2_some h
    refine ev_callV i58_43 zc6_35 zm57 zo57 (as' := [zI (σ 6 0 3), zI 0, zI x2, zI x3]) (rest := []) rfl rfl (Nat.le_of_ble_eq_true rfl) (Nat.le_of_ble_eq_true rfl) (Nat.le_of_ble_eq_true rfl) (by omega) (l0 := [some (zR 6 0), some (zI (σ 6 0 3)), some (zI 0), some (zI x2), some (zI x3), none]) rfl (p := 46) rfl (hP57 (σ 6 0 3) 0 x2 x3 σ (r4, s3) hr2) ?_
    change zEv d 58 46 [some (zR 6 0), some (zI x1), some (zI x2), some (zI x3)] [zI r4] s3 _
    refine ev_s i58_46 (p := 47) (zic_2 _ _ _ _ _) ?_
    refine ev_s i58_47 (p := 48) (t := [zI (r4 * 2)]) rfl ?_
    obtain rfl := Option.some.inj h
    exact ev_iret i58_48 zr58
  refine ev_sel h (fun c9 h => ?_) (fun c9 h => ?_)
  · refine ev_tsw i58_1 (by decide) (t := 49) (by rw [c9]; decide) ?_
    refine ev_s i58_49 (p := 50) rfl ?_
    refine ev_s i58_50 (p := 51) rfl ?_
    refine ev_getf i58_51 zf6_18 (u := zI (σ 6 0 3)) rfl (p := 54) rfl ?_
    refine ev_s i58_54 (p := 55) (zic_1 _ _ _ _ _) ?_
    refine ev_s i58_55 (p := 56) rfl ?_
    refine ev_s i58_56 (p := 57) rfl ?_
    obtain ⟨r8, s7, hr6, h⟩ := b2_some h
    refine ev_callV i58_57 zc6_35 zm57 zo57 (as' := [zI (σ 6 0 3), zI 1, zI x2, zI x3]) (rest := []) rfl rfl (Nat.le_of_ble_eq_true rfl) (Nat.le_of_ble_eq_true rfl) (Nat.le_of_ble_eq_true rfl) (by omega) (l0 := [some (zR 6 0), some (zI (σ 6 0 3)), some (zI 1), some (zI x2), some (zI x3), none]) rfl (p := 60) rfl (hP57 (σ 6 0 3) 1 x2 x3 σ (r8, s7) hr6) ?_
    change zEv d 58 60 [some (zR 6 0), some (zI x1), some (zI x2), some (zI x3)] [zI r8] s7 _
    refine ev_s i58_60 (p := 61) rfl ?_
    refine ev_getf i58_61 zf6_25 (u := zI (s7 6 0 5)) rfl (p := 64) rfl ?_
    refine ev_s i58_64 (p := 65) (t := [zI (r8 - (s7 6 0 5))]) rfl ?_
    obtain rfl := Option.some.inj h
    exact ev_iret i58_65 zr58
  refine ev_tsw i58_1 (by decide) (t := 66) (by show (1 : Int) + zsw x1 (10) [27, 34, 48] (65) = 66; rw [zsw_st c1 (by decide), zsw_st c5 (by decide), zsw_st c9 (by decide)]; rfl) ?_
  refine ev_s i58_66 (p := 67) rfl ?_
  refine ev_getf i58_67 zf6_25 (u := zI (σ 6 0 5)) rfl (p := 70) rfl ?_
  refine ev_s i58_70 (p := 71) rfl ?_
  refine ev_getf i58_71 zf6_22 (u := zI (σ 6 0 4)) rfl (p := 74) rfl ?_
  refine ev_cmpne i58_74 (t := 84) (by decide) (p := 77) rfl h (fun c10 h => ?_) (fun c10 h => ?_)
  · refine ev_s i58_77 (p := 78) rfl ?_
    refine ev_s i58_78 (p := 79) (zic_1 _ _ _ _ _) ?_
    refine ev_putzK i58_79 zf6_28 rfl rfl (by decide) (p := 82) rfl ?_
    refine ev_lets h (fun s11 es11 h => ?_)
    refine ev_s i58_82 (p := 83) (zic_0 _ _ _ _ _) ?_
    obtain rfl := Option.some.inj h
    exact ev_iret i58_83 zr58
  · refine ev_s i58_84 (p := 85) rfl ?_
    refine ev_s i58_85 (p := 86) rfl ?_
    refine ev_getf i58_86 zf6_25 (u := zI (σ 6 0 5)) rfl (p := 89) rfl ?_
    refine ev_s i58_89 (p := 90) rfl ?_
    refine ev_getf i58_90 zf6_22 (u := zI (σ 6 0 4)) rfl (p := 93) rfl ?_
    refine ev_s i58_93 (p := 94) (t := [zI ((σ 6 0 5) - (σ 6 0 4)), zI x2]) rfl ?_
    refine ev_idiv i58_94 (p := 95) rfl h (fun g12 h => ?_)
    obtain rfl := Option.some.inj h
    exact ev_iret i58_95 zr58
def fV_speakOther_b (N : Nat) (G : Nat) (P57 : Int32 → Int32 → Int32 → Int32 → zS → Option (Int32 × zS)) (P58 : Int32 → Int32 → Int32 → zS → Option (Int32 × zS)) (P59 : Int32 → Int32 → Int32 → zS → Option (Int32 × zS)) (x1 : Int32) (x2 : Int32) (x3 : Int32) (σ : zS) : Option (Int32 × zS) := zgd (zin ((x1 / 10) - 1) 7) (zlt (σ 52 0 ((x1 / 10) - 1).toNatClampNeg) fun v2 => (if x1 = 20 then zb2 (P57 v2 0 x2 x3 σ) fun r5 s4 => some (r5 - 4, s4) else (if x1 = 21 then zb2 (P57 v2 3 x2 x3 σ) fun r9 s8 => (if (s8 6 0 2) = 0 then zb2 (P57 (s8 6 0 3) 1 1 x3 s8) fun r13 s12 => some (r9 + r13, s12) else some (0, s8)) else (if x1 = 30 then zb2 (P57 v2 1 x2 x3 σ) fun r17 s16 => some (0 - r17, s16) else (if x1 = 40 then zb2 (P57 v2 2 (x2 / 2) x3 σ) fun r21 s20 => some (r21, s20) else (if x1 = 50 then zb2 (P57 v2 0 x2 x3 σ) fun r25 s24 => some (r25 * 3, s24) else (if x1 = 51 then zb2 (P57 v2 2 x2 x3 σ) fun r29 s28 => some (r29 ^^^ (s28 6 0 4), s28) else (if x1 = 60 then zb2 (P57 v2 1 (x2 + 1) x3 σ) fun r33 s32 => some (r33, s32) else (if x1 = 70 then some (9, σ) else zb2 (P57 v2 1 x2 x3 σ) fun r38 s37 => some (r38 + (s37 6 0 5), s37))))))))))
set_option maxHeartbeats 4000000 in
theorem kV_speakOther_b (N : Nat) (G : Nat) (P57 : Int32 → Int32 → Int32 → Int32 → zS → Option (Int32 × zS)) (P58 : Int32 → Int32 → Int32 → zS → Option (Int32 × zS)) (P59 : Int32 → Int32 → Int32 → zS → Option (Int32 × zS)) (x1 : Int32) (x2 : Int32) (x3 : Int32) (σ : zS) (w : Int32 × zS) (d : Nat) (hd : 0 ≤ d) (hd1 : 1 + 1 ≤ d) (hP57 : ∀ (x1 : Int32) (x2 : Int32) (x3 : Int32) (x4 : Int32) (σ : zS) (w : Int32 × zS), P57 x1 x2 x3 x4 σ = some w → zEv (d - 1) 57 0 [some (zR 6 0), some (zI x1), some (zI x2), some (zI x3), some (zI x4), none] [] σ (some (zI w.1), w.2)) (hP58 : ∀ (x1 : Int32) (x2 : Int32) (x3 : Int32) (σ : zS) (w : Int32 × zS), P58 x1 x2 x3 σ = some w → zEv (d - 1) 58 0 [some (zR 6 0), some (zI x1), some (zI x2), some (zI x3)] [] σ (some (zI w.1), w.2)) (hP59 : ∀ (x1 : Int32) (x2 : Int32) (x3 : Int32) (σ : zS) (w : Int32 × zS), P59 x1 x2 x3 σ = some w → zEv (d - 1) 59 0 [some (zR 6 0), some (zI x1), some (zI x2), some (zI x3), none, none] [] σ (some (zI w.1), w.2)) (h : fV_speakOther_b N G P57 P58 P59 x1 x2 x3 σ = some w) : zEv d 59 0 [some (zR 6 0), some (zI x1), some (zI x2), some (zI x3), none, none] [] σ (some (zI w.1), w.2) := by
  unfold fV_speakOther_b at h
  refine ev_gets i59_0 zg6_15 (p := 3) rfl ?_
  refine ev_s i59_3 (p := 4) rfl ?_
  refine ev_s i59_4 (p := 6) (zib_10 _ _ _ _ _) ?_
  refine ev_idivK i59_6 (p := 7) rfl (by decide) ?_
  refine ev_s i59_7 (p := 8) (zic_1 _ _ _ _ _) ?_
  refine ev_s i59_8 (p := 9) (t := [zI ((x1 / 10) - 1), zR 52 0]) rfl ?_
  refine ev_iald i59_9 rfl (n := 7) rfl (p := 10) rfl h (fun g1 h => ?_)
  refine ev_let h (fun v2 ev2 h => ?_)
  refine ev_s i59_10 (p := 12) (l := [some (zR 6 0), some (zI x1), some (zI x2), some (zI x3), some (zI v2), none]) rfl ?_
  refine ev_s i59_12 (p := 13) rfl ?_
  refine ev_sel h (fun c6 h => ?_) (fun c6 h => ?_)
  · refine ev_lsw i59_13 (by decide) (t := 88) (by rw [c6]; decide) ?_
    refine ev_s i59_88 (p := 89) rfl ?_
    refine ev_s i59_89 (p := 91) rfl ?_
    refine ev_s i59_91 (p := 92) (zic_0 _ _ _ _ _) ?_
    refine ev_s i59_92 (p := 93) rfl ?_
    refine ev_s i59_93 (p := 94) rfl ?_
    obtain ⟨r5, s4, hr3, h⟩ := b2_some h
    refine ev_callV i59_94 zc6_35 zm57 zo57 (as' := [zI v2, zI 0, zI x2, zI x3]) (rest := []) rfl rfl (Nat.le_of_ble_eq_true rfl) (Nat.le_of_ble_eq_true rfl) (Nat.le_of_ble_eq_true rfl) (by omega) (l0 := [some (zR 6 0), some (zI v2), some (zI 0), some (zI x2), some (zI x3), none]) rfl (p := 97) rfl (hP57 v2 0 x2 x3 σ (r5, s4) hr3) ?_
    change zEv d 59 97 [some (zR 6 0), some (zI x1), some (zI x2), some (zI x3), some (zI v2), none] [zI r5] s4 _
    refine ev_s i59_97 (p := 98) (zic_4 _ _ _ _ _) ?_
    refine ev_s i59_98 (p := 99) (t := [zI (r5 - 4)]) rfl ?_
    obtain rfl := Option.some.inj h
    exact ev_iret i59_99 zr59
  refine ev_sel h (fun c14 h => ?_) (fun c14 h => ?_)
  · refine ev_lsw i59_13 (by decide) (t := 100) (by rw [c14]; decide) ?_
    refine ev_s i59_100 (p := 101) rfl ?_
    refine ev_s i59_101 (p := 103) rfl ?_
    refine ev_s i59_103 (p := 104) (zic_3 _ _ _ _ _) ?_
    refine ev_s i59_104 (p := 105) rfl ?_
    refine ev_s i59_105 (p := 106) rfl ?_
    obtain ⟨r9, s8, hr7, h⟩ := b2_some h
    refine ev_callV i59_106 zc6_35 zm57 zo57 (as' := [zI v2, zI 3, zI x2, zI x3]) (rest := []) rfl rfl (Nat.le_of_ble_eq_true rfl) (Nat.le_of_ble_eq_true rfl) (Nat.le_of_ble_eq_true rfl) (by omega) (l0 := [some (zR 6 0), some (zI v2), some (zI 3), some (zI x2), some (zI x3), none]) rfl (p := 109) rfl (hP57 v2 3 x2 x3 σ (r9, s8) hr7) ?_
    change zEv d 59 109 [some (zR 6 0), some (zI x1), some (zI x2), some (zI x3), some (zI v2), none] [zI r9] s8 _
    refine ev_s i59_109 (p := 111) (l := [some (zR 6 0), some (zI x1), some (zI x2), some (zI x3), some (zI v2), some (zI r9)]) rfl ?_
    refine ev_s i59_111 (p := 112) rfl ?_
    refine ev_getf i59_112 zf6_28 (u := zI (s8 6 0 2)) rfl (p := 115) rfl ?_
    refine ev_ifeq i59_115 (t := 122) (by decide) (p := 118) rfl h (fun c10 h => ?_) (fun c10 h => ?_)
    · refine ev_s i59_122 (p := 124) rfl ?_
      refine ev_s i59_124 (p := 125) rfl ?_
      refine ev_s i59_125 (p := 126) rfl ?_
      refine ev_getf i59_126 zf6_18 (u := zI (s8 6 0 3)) rfl (p := 129) rfl ?_
      refine ev_s i59_129 (p := 130) (zic_1 _ _ _ _ _) ?_
      refine ev_s i59_130 (p := 131) (zic_1 _ _ _ _ _) ?_
      refine ev_s i59_131 (p := 132) rfl ?_
      obtain ⟨r13, s12, hr11, h⟩ := b2_some h
      refine ev_callV i59_132 zc6_35 zm57 zo57 (as' := [zI (s8 6 0 3), zI 1, zI 1, zI x3]) (rest := [zI r9]) rfl rfl (Nat.le_of_ble_eq_true rfl) (Nat.le_of_ble_eq_true rfl) (Nat.le_of_ble_eq_true rfl) (by omega) (l0 := [some (zR 6 0), some (zI (s8 6 0 3)), some (zI 1), some (zI 1), some (zI x3), none]) rfl (p := 135) rfl (hP57 (s8 6 0 3) 1 1 x3 s8 (r13, s12) hr11) ?_
      change zEv d 59 135 [some (zR 6 0), some (zI x1), some (zI x2), some (zI x3), some (zI v2), some (zI r9)] [zI r13, zI r9] s12 _
      refine ev_s i59_135 (p := 136) (t := [zI (r9 + r13)]) rfl ?_
      obtain rfl := Option.some.inj h
      exact ev_iret i59_136 zr59
    · refine ev_s i59_118 (p := 119) (zic_0 _ _ _ _ _) ?_
      refine ev_goto i59_119 (t := 136) (by decide) ?_
      obtain rfl := Option.some.inj h
      exact ev_iret i59_136 zr59
  refine ev_sel h (fun c18 h => ?_) (fun c18 h => ?_)
  · refine ev_lsw i59_13 (by decide) (t := 137) (by rw [c18]; decide) ?_
    refine ev_s i59_137 (p := 138) (zic_0 _ _ _ _ _) ?_
    refine ev_s i59_138 (p := 139) rfl ?_
    refine ev_s i59_139 (p := 141) rfl ?_
    refine ev_s i59_141 (p := 142) (zic_1 _ _ _ _ _) ?_
    refine ev_s i59_142 (p := 143) rfl ?_
    refine ev_s i59_143 (p := 144) rfl ?_
    obtain ⟨r17, s16, hr15, h⟩ := b2_some h
    refine ev_callV i59_144 zc6_35 zm57 zo57 (as' := [zI v2, zI 1, zI x2, zI x3]) (rest := [zI 0]) rfl rfl (Nat.le_of_ble_eq_true rfl) (Nat.le_of_ble_eq_true rfl) (Nat.le_of_ble_eq_true rfl) (by omega) (l0 := [some (zR 6 0), some (zI v2), some (zI 1), some (zI x2), some (zI x3), none]) rfl (p := 147) rfl (hP57 v2 1 x2 x3 σ (r17, s16) hr15) ?_
    change zEv d 59 147 [some (zR 6 0), some (zI x1), some (zI x2), some (zI x3), some (zI v2), none] [zI r17, zI 0] s16 _
    refine ev_s i59_147 (p := 148) (t := [zI (0 - r17)]) rfl ?_
    obtain rfl := Option.some.inj h
    exact ev_iret i59_148 zr59
  refine ev_sel h (fun c22 h => ?_) (fun c22 h => ?_)
  · refine ev_lsw i59_13 (by decide) (t := 149) (by rw [c22]; decide) ?_
    refine ev_s i59_149 (p := 150) rfl ?_
    refine ev_s i59_150 (p := 152) rfl ?_
    refine ev_s i59_152 (p := 153) (zic_2 _ _ _ _ _) ?_
    refine ev_s i59_153 (p := 154) rfl ?_
    refine ev_s i59_154 (p := 155) (zic_2 _ _ _ _ _) ?_
    refine ev_idivK i59_155 (p := 156) rfl (by decide) ?_
    refine ev_s i59_156 (p := 157) rfl ?_
    obtain ⟨r21, s20, hr19, h⟩ := b2_some h
    refine ev_callV i59_157 zc6_35 zm57 zo57 (as' := [zI v2, zI 2, zI (x2 / 2), zI x3]) (rest := []) rfl rfl (Nat.le_of_ble_eq_true rfl) (Nat.le_of_ble_eq_true rfl) (Nat.le_of_ble_eq_true rfl) (by omega) (l0 := [some (zR 6 0), some (zI v2), some (zI 2), some (zI (x2 / 2)), some (zI x3), none]) rfl (p := 160) rfl (hP57 v2 2 (x2 / 2) x3 σ (r21, s20) hr19) ?_
    change zEv d 59 160 [some (zR 6 0), some (zI x1), some (zI x2), some (zI x3), some (zI v2), none] [zI r21] s20 _
    obtain rfl := Option.some.inj h
    exact ev_iret i59_160 zr59
  refine ev_sel h (fun c26 h => ?_) (fun c26 h => ?_)
  · refine ev_lsw i59_13 (by decide) (t := 161) (by rw [c26]; decide) ?_
    refine ev_s i59_161 (p := 162) rfl ?_
    refine ev_s i59_162 (p := 164) rfl ?_
    refine ev_s i59_164 (p := 165) (zic_0 _ _ _ _ _) ?_
    refine ev_s i59_165 (p := 166) rfl ?_
    refine ev_s i59_166 (p := 167) rfl ?_
    obtain ⟨r25, s24, hr23, h⟩ := b2_some h
    refine ev_callV i59_167 zc6_35 zm57 zo57 (as' := [zI v2, zI 0, zI x2, zI x3]) (rest := []) rfl rfl (Nat.le_of_ble_eq_true rfl) (Nat.le_of_ble_eq_true rfl) (Nat.le_of_ble_eq_true rfl) (by omega) (l0 := [some (zR 6 0), some (zI v2), some (zI 0), some (zI x2), some (zI x3), none]) rfl (p := 170) rfl (hP57 v2 0 x2 x3 σ (r25, s24) hr23) ?_
    change zEv d 59 170 [some (zR 6 0), some (zI x1), some (zI x2), some (zI x3), some (zI v2), none] [zI r25] s24 _
    refine ev_s i59_170 (p := 171) (zic_3 _ _ _ _ _) ?_
    refine ev_s i59_171 (p := 172) (t := [zI (r25 * 3)]) rfl ?_
    obtain rfl := Option.some.inj h
    exact ev_iret i59_172 zr59
  refine ev_sel h (fun c30 h => ?_) (fun c30 h => ?_)
  · refine ev_lsw i59_13 (by decide) (t := 173) (by rw [c30]; decide) ?_
    refine ev_s i59_173 (p := 174) rfl ?_
    refine ev_s i59_174 (p := 176) rfl ?_
    refine ev_s i59_176 (p := 177) (zic_2 _ _ _ _ _) ?_
    refine ev_s i59_177 (p := 178) rfl ?_
    refine ev_s i59_178 (p := 179) rfl ?_
    obtain ⟨r29, s28, hr27, h⟩ := b2_some h
    refine ev_callV i59_179 zc6_35 zm57 zo57 (as' := [zI v2, zI 2, zI x2, zI x3]) (rest := []) rfl rfl (Nat.le_of_ble_eq_true rfl) (Nat.le_of_ble_eq_true rfl) (Nat.le_of_ble_eq_true rfl) (by omega) (l0 := [some (zR 6 0), some (zI v2), some (zI 2), some (zI x2), some (zI x3), none]) rfl (p := 182) rfl (hP57 v2 2 x2 x3 σ (r29, s28) hr27) ?_
    change zEv d 59 182 [some (zR 6 0), some (zI x1), some (zI x2), some (zI x3), some (zI v2), none] [zI r29] s28 _
    refine ev_s i59_182 (p := 183) rfl ?_
    refine ev_getf i59_183 zf6_22 (u := zI (s28 6 0 4)) rfl (p := 186) rfl ?_
    refine ev_s i59_186 (p := 187) (t := [zI (r29 ^^^ (s28 6 0 4))]) rfl ?_
    obtain rfl := Option.some.inj h
    exact ev_iret i59_187 zr59
  refine ev_sel h (fun c34 h => ?_) (fun c34 h => ?_)
  · refine ev_lsw i59_13 (by decide) (t := 188) (by rw [c34]; decide) ?_
    refine ev_s i59_188 (p := 189) rfl ?_
    refine ev_s i59_189 (p := 191) rfl ?_
    refine ev_s i59_191 (p := 192) (zic_1 _ _ _ _ _) ?_
    refine ev_s i59_192 (p := 193) rfl ?_
    refine ev_s i59_193 (p := 194) (zic_1 _ _ _ _ _) ?_
    refine ev_s i59_194 (p := 195) (t := [zI (x2 + 1), zI 1, zI v2, zR 6 0]) rfl ?_
    refine ev_s i59_195 (p := 196) rfl ?_
    obtain ⟨r33, s32, hr31, h⟩ := b2_some h
    refine ev_callV i59_196 zc6_35 zm57 zo57 (as' := [zI v2, zI 1, zI (x2 + 1), zI x3]) (rest := []) rfl rfl (Nat.le_of_ble_eq_true rfl) (Nat.le_of_ble_eq_true rfl) (Nat.le_of_ble_eq_true rfl) (by omega) (l0 := [some (zR 6 0), some (zI v2), some (zI 1), some (zI (x2 + 1)), some (zI x3), none]) rfl (p := 199) rfl (hP57 v2 1 (x2 + 1) x3 σ (r33, s32) hr31) ?_
    change zEv d 59 199 [some (zR 6 0), some (zI x1), some (zI x2), some (zI x3), some (zI v2), none] [zI r33] s32 _
    obtain rfl := Option.some.inj h
    exact ev_iret i59_199 zr59
  refine ev_sel h (fun c35 h => ?_) (fun c35 h => ?_)
  · refine ev_lsw i59_13 (by decide) (t := 200) (by rw [c35]; decide) ?_
    refine ev_s i59_200 (p := 202) (zib_9 _ _ _ _ _) ?_
    obtain rfl := Option.some.inj h
    exact ev_iret i59_202 zr59
  refine ev_lsw i59_13 (by decide) (t := 203) (by show (13 : Int) + zlk x1 [(20, 75), (21, 87), (30, 124), (40, 136), (50, 148), (51, 160), (60, 175), (70, 187)] (190) = 203; rw [zlk_st c6 (by decide), zlk_st c14 (by decide), zlk_st c18 (by decide), zlk_st c22 (by decide), zlk_st c26 (by decide), zlk_st c30 (by decide), zlk_st c34 (by decide), zlk_st c35 (by decide)]; rfl) ?_
  refine ev_s i59_203 (p := 204) rfl ?_
  refine ev_s i59_204 (p := 206) rfl ?_
  refine ev_s i59_206 (p := 207) (zic_1 _ _ _ _ _) ?_
  refine ev_s i59_207 (p := 208) rfl ?_
  refine ev_s i59_208 (p := 209) rfl ?_
  obtain ⟨r38, s37, hr36, h⟩ := b2_some h
  refine ev_callV i59_209 zc6_35 zm57 zo57 (as' := [zI v2, zI 1, zI x2, zI x3]) (rest := []) rfl rfl (Nat.le_of_ble_eq_true rfl) (Nat.le_of_ble_eq_true rfl) (Nat.le_of_ble_eq_true rfl) (by omega) (l0 := [some (zR 6 0), some (zI v2), some (zI 1), some (zI x2), some (zI x3), none]) rfl (p := 212) rfl (hP57 v2 1 x2 x3 σ (r38, s37) hr36) ?_
  change zEv d 59 212 [some (zR 6 0), some (zI x1), some (zI x2), some (zI x3), some (zI v2), none] [zI r38] s37 _
  refine ev_s i59_212 (p := 213) rfl ?_
  refine ev_getf i59_213 zf6_25 (u := zI (s37 6 0 5)) rfl (p := 216) rfl ?_
  refine ev_s i59_216 (p := 217) (t := [zI (r38 + (s37 6 0 5))]) rfl ?_
  obtain rfl := Option.some.inj h
  exact ev_iret i59_217 zr59
def gV_speak (N : Nat) (G : Nat) : Nat → (Int32 → Int32 → Int32 → Int32 → zS → Option (Int32 × zS)) × (Int32 → Int32 → Int32 → zS → Option (Int32 × zS)) × (Int32 → Int32 → Int32 → zS → Option (Int32 × zS))
  | 0 => ((fun _ _ _ _ _ => none), (fun _ _ _ _ => none), (fun _ _ _ _ => none))
  | n + 1 => (fV_speak_b N G (gV_speak N G n).1 (gV_speak N G n).2.1 (gV_speak N G n).2.2, fV_speakMother_b N G (gV_speak N G n).1 (gV_speak N G n).2.1 (gV_speak N G n).2.2, fV_speakOther_b N G (gV_speak N G n).1 (gV_speak N G n).2.1 (gV_speak N G n).2.2)
def fV_speak (N : Nat) (G : Nat) (n : Nat) (x1 : Int32) (x2 : Int32) (x3 : Int32) (x4 : Int32) (σ : zS) : Option (Int32 × zS) := (gV_speak N G n).1 x1 x2 x3 x4 σ
def fV_speakMother (N : Nat) (G : Nat) (n : Nat) (x1 : Int32) (x2 : Int32) (x3 : Int32) (σ : zS) : Option (Int32 × zS) := (gV_speak N G n).2.1 x1 x2 x3 σ
def fV_speakOther (N : Nat) (G : Nat) (n : Nat) (x1 : Int32) (x2 : Int32) (x3 : Int32) (σ : zS) : Option (Int32 × zS) := (gV_speak N G n).2.2 x1 x2 x3 σ
set_option maxHeartbeats 4000000 in
theorem kgV_speak (N : Nat) (G : Nat) : ∀ n d : Nat, 1 + n ≤ d → (∀ (x1 : Int32) (x2 : Int32) (x3 : Int32) (x4 : Int32) (σ : zS) (w : Int32 × zS), (gV_speak N G n).1 x1 x2 x3 x4 σ = some w → zEv d 57 0 [some (zR 6 0), some (zI x1), some (zI x2), some (zI x3), some (zI x4), none] [] σ (some (zI w.1), w.2)) ∧ (∀ (x1 : Int32) (x2 : Int32) (x3 : Int32) (σ : zS) (w : Int32 × zS), (gV_speak N G n).2.1 x1 x2 x3 σ = some w → zEv d 58 0 [some (zR 6 0), some (zI x1), some (zI x2), some (zI x3)] [] σ (some (zI w.1), w.2)) ∧ (∀ (x1 : Int32) (x2 : Int32) (x3 : Int32) (σ : zS) (w : Int32 × zS), (gV_speak N G n).2.2 x1 x2 x3 σ = some w → zEv d 59 0 [some (zR 6 0), some (zI x1), some (zI x2), some (zI x3), none, none] [] σ (some (zI w.1), w.2)) := by
  intro n
  induction n with
  | zero =>
    intro d _
    exact ⟨(fun _ _ _ _ _ _ h => absurd h (by simp [gV_speak])), (fun _ _ _ _ _ h => absurd h (by simp [gV_speak])), (fun _ _ _ _ _ h => absurd h (by simp [gV_speak]))⟩
  | succ n ih =>
    intro d hd
    have ih2 := ih (d - 1) (by omega)
    exact ⟨(fun x1 x2 x3 x4 σ w h => kV_speak_b N G (gV_speak N G n).1 (gV_speak N G n).2.1 (gV_speak N G n).2.2 x1 x2 x3 x4 σ w d (by omega) (by omega) ih2.1 ih2.2.1 ih2.2.2 h), (fun x1 x2 x3 σ w h => kV_speakMother_b N G (gV_speak N G n).1 (gV_speak N G n).2.1 (gV_speak N G n).2.2 x1 x2 x3 σ w d (by omega) (by omega) ih2.1 ih2.2.1 ih2.2.2 h), (fun x1 x2 x3 σ w h => kV_speakOther_b N G (gV_speak N G n).1 (gV_speak N G n).2.1 (gV_speak N G n).2.2 x1 x2 x3 σ w d (by omega) (by omega) ih2.1 ih2.2.1 ih2.2.2 h)⟩
set_option maxHeartbeats 4000000 in
theorem kV_speak (N : Nat) (G : Nat) (n : Nat) (x1 : Int32) (x2 : Int32) (x3 : Int32) (x4 : Int32) (σ : zS) (w : Int32 × zS) (h : fV_speak N G n x1 x2 x3 x4 σ = some w) (d : Nat) (hd : 1 + n ≤ d) : zEv d 57 0 [some (zR 6 0), some (zI x1), some (zI x2), some (zI x3), some (zI x4), none] [] σ (some (zI w.1), w.2) :=
  (kgV_speak N G n d hd).1 x1 x2 x3 x4 σ w h
set_option maxHeartbeats 4000000 in
theorem kV_speakMother (N : Nat) (G : Nat) (n : Nat) (x1 : Int32) (x2 : Int32) (x3 : Int32) (σ : zS) (w : Int32 × zS) (h : fV_speakMother N G n x1 x2 x3 σ = some w) (d : Nat) (hd : 1 + n ≤ d) : zEv d 58 0 [some (zR 6 0), some (zI x1), some (zI x2), some (zI x3)] [] σ (some (zI w.1), w.2) :=
  (kgV_speak N G n d hd).2.1 x1 x2 x3 σ w h
set_option maxHeartbeats 4000000 in
theorem kV_speakOther (N : Nat) (G : Nat) (n : Nat) (x1 : Int32) (x2 : Int32) (x3 : Int32) (σ : zS) (w : Int32 × zS) (h : fV_speakOther N G n x1 x2 x3 σ = some w) (d : Nat) (hd : 1 + n ≤ d) : zEv d 59 0 [some (zR 6 0), some (zI x1), some (zI x2), some (zI x3), none, none] [] σ (some (zI w.1), w.2) :=
  (kgV_speak N G n d hd).2.2 x1 x2 x3 σ w h
/-! fV_begin -/
def fV_begin (N : Nat) (G : Nat) (x1 : Int32) (x2 : Int32) (x3 : Int32) (x4 : Int32) (x5 : Int32) (σ : zS) : Option (Int32 × zS) := zlt (zup σ 6 0 3 x1) fun s1 => zlt (zup s1 6 0 4 x2) fun s2 => zlt (zup s2 6 0 5 x3) fun s3 => zlt (zup s3 6 0 2 0) fun s4 => zlt (zup s4 6 0 1 0) fun s5 => zb2 (fV_speak N G G (s5 6 0 3) x4 x5 0 s5) fun r8 s7 => some (r8, s7)
set_option maxHeartbeats 4000000 in
theorem kV_begin (N : Nat) (G : Nat) (x1 : Int32) (x2 : Int32) (x3 : Int32) (x4 : Int32) (x5 : Int32) (σ : zS) (w : Int32 × zS) (h : fV_begin N G x1 x2 x3 x4 x5 σ = some w) (d : Nat) (hd : 2 + 1 * G ≤ d) : zEv d 56 0 [some (zR 6 0), some (zI x1), some (zI x2), some (zI x3), some (zI x4), some (zI x5)] [] σ (some (zI w.1), w.2) := by
  unfold fV_begin at h
  refine ev_s i56_0 (p := 1) rfl ?_
  refine ev_s i56_1 (p := 2) rfl ?_
  refine ev_putf i56_2 zf6_18 rfl rfl rfl (p := 5) rfl ?_
  refine ev_lets h (fun s1 es1 h => ?_)
  refine ev_s i56_5 (p := 6) rfl ?_
  refine ev_s i56_6 (p := 7) rfl ?_
  refine ev_putf i56_7 zf6_22 rfl rfl rfl (p := 10) rfl ?_
  refine ev_lets h (fun s2 es2 h => ?_)
  refine ev_s i56_10 (p := 11) rfl ?_
  refine ev_s i56_11 (p := 12) rfl ?_
  refine ev_putf i56_12 zf6_25 rfl rfl rfl (p := 15) rfl ?_
  refine ev_lets h (fun s3 es3 h => ?_)
  refine ev_s i56_15 (p := 16) rfl ?_
  refine ev_s i56_16 (p := 17) (zic_0 _ _ _ _ _) ?_
  refine ev_putzK i56_17 zf6_28 rfl rfl (by decide) (p := 20) rfl ?_
  refine ev_lets h (fun s4 es4 h => ?_)
  refine ev_s i56_20 (p := 21) rfl ?_
  refine ev_s i56_21 (p := 22) (zic_0 _ _ _ _ _) ?_
  refine ev_putf i56_22 zf6_32 rfl rfl rfl (p := 25) rfl ?_
  refine ev_lets h (fun s5 es5 h => ?_)
  refine ev_s i56_25 (p := 26) rfl ?_
  refine ev_s i56_26 (p := 27) rfl ?_
  refine ev_getf i56_27 zf6_18 (u := zI (s5 6 0 3)) rfl (p := 30) rfl ?_
  refine ev_s i56_30 (p := 32) rfl ?_
  refine ev_s i56_32 (p := 34) rfl ?_
  refine ev_s i56_34 (p := 35) (zic_0 _ _ _ _ _) ?_
  obtain ⟨r8, s7, hr6, h⟩ := b2_some h
  refine ev_callV i56_35 zc6_35 zm57 zo57 (as' := [zI (s5 6 0 3), zI x4, zI x5, zI 0]) (rest := []) rfl rfl (Nat.le_of_ble_eq_true rfl) (Nat.le_of_ble_eq_true rfl) (Nat.le_of_ble_eq_true rfl) (by omega) (l0 := [some (zR 6 0), some (zI (s5 6 0 3)), some (zI x4), some (zI x5), some (zI 0), none]) rfl (p := 38) rfl (kV_speak N G G (s5 6 0 3) x4 x5 0 s5 (r8, s7) hr6 (d - 1) (by omega)) ?_
  change zEv d 56 38 [some (zR 6 0), some (zI x1), some (zI x2), some (zI x3), some (zI x4), some (zI x5)] [zI r8] s7 _
  obtain rfl := Option.some.inj h
  exact ev_iret i56_38 zr56
/-! fA_voice -/
def fA_voice_J16 (N : Nat) (G : Nat) (σ : zS) : Option (Int32 × zS) := zb2 (fA_refuse 1 σ) fun r18 s17 => some (r18, s17)
set_option maxHeartbeats 4000000 in
theorem kA_voice_J16 (N : Nat) (G : Nat) (d : Nat) (hd : 3 + 1 * G ≤ d)  : ∀ (σ : zS) (w : Int32 × zS) (z1 : Option zA) (z2 : Option zA) (z3 : Option zA) (hz3 : znl z3 = true) (z4 : Option zA), fA_voice_J16 N G σ = some w → zEv d 89 16 [some (zR 7 0), z1, z2, z3, z4] [] σ (some (zI w.1), w.2) := by
  intro σ w z1 z2 z3 hz3 z4 h
  unfold fA_voice_J16 at h
  refine ev_s i89_16 (p := 17) rfl ?_
  refine ev_s i89_17 (p := 18) (zic_1 _ _ _ _ _) ?_
  obtain ⟨r18, s17, hr16, h⟩ := b2_some h
  refine ev_callV i89_18 zc7_72 zm102 zo102 (as' := [zI 1]) (rest := []) rfl rfl (Nat.le_of_ble_eq_true rfl) (Nat.le_of_ble_eq_true rfl) (Nat.le_of_ble_eq_true rfl) (by omega) (l0 := [some (zR 7 0), some (zI 1)]) rfl (p := 21) rfl (kA_refuse 1 σ (r18, s17) hr16 (d - 1) (by omega)) ?_
  change zEv d 89 21 [some (zR 7 0), z1, z2, z3, z4] [zI r18] s17 _
  obtain rfl := Option.some.inj h
  exact ev_iret i89_21 zr89
def fA_voice (N : Nat) (G : Nat) (x1 : Int32) (x2 : Int32) (x3 : Int32) (σ : zS) : Option (Int32 × zS) := (fA_isThere x1 σ).bind fun r2 => (if r2 = 0 then fA_voice_J16 N G σ else (fA_within x2 3).bind fun r5 => (if r5 = 0 then fA_voice_J16 N G σ else zgd (zin x1 8) (zgd (zin x1 8) (zb2 (fV_begin N G (σ 14 0 x1.toNatClampNeg) x1 (σ 15 0 x1.toNatClampNeg) x2 x3 σ) fun r11 s10 => (if (s10 6 0 2) = 0 then some (r11, s10) else zb2 (fA_refuse 6 s10) fun r15 s14 => some (r15, s14))))))
set_option maxHeartbeats 4000000 in
theorem kA_voice (N : Nat) (G : Nat) (x1 : Int32) (x2 : Int32) (x3 : Int32) (σ : zS) (w : Int32 × zS) (h : fA_voice N G x1 x2 x3 σ = some w) (d : Nat) (hd : 3 + 1 * G ≤ d) : zEv d 89 0 [some (zR 7 0), some (zI x1), some (zI x2), some (zI x3), none] [] σ (some (zI w.1), w.2) := by
  unfold fA_voice at h
  refine ev_s i89_0 (p := 1) rfl ?_
  refine ev_s i89_1 (p := 2) rfl ?_
  obtain ⟨r2, hr1, h⟩ := bd_some h
  refine ev_callV i89_2 zc7_68 zm104 zo104 (as' := [zI x1]) (rest := []) rfl rfl (Nat.le_of_ble_eq_true rfl) (Nat.le_of_ble_eq_true rfl) (Nat.le_of_ble_eq_true rfl) (by omega) (l0 := [some (zR 7 0), some (zI x1)]) rfl (p := 5) rfl (kA_isThere x1 σ r2 hr1 (d - 1) (by omega)) ?_
  change zEv d 89 5 [some (zR 7 0), some (zI x1), some (zI x2), some (zI x3), none] [zI r2] σ _
  refine ev_ifeq i89_5 (t := 16) (by decide) (p := 8) rfl h (fun c3 h => ?_) (fun c3 h => ?_)
  · exact kA_voice_J16 N G d hd σ w _ _ _ rfl _ h
  · refine ev_s i89_8 (p := 9) rfl ?_
    refine ev_s i89_9 (p := 10) (zic_3 _ _ _ _ _) ?_
    obtain ⟨r5, hr4, h⟩ := bd_some h
    refine ev_callS i89_10 zn7_64 zc7_64 zm103 (as := [zI x2, zI 3]) (rest := []) rfl rfl (Nat.le_of_ble_eq_true rfl) (Nat.le_of_ble_eq_true rfl) (Nat.le_of_ble_eq_true rfl) (by omega) (l0 := [some (zI x2), some (zI 3)]) rfl (p := 13) rfl (kA_within x2 3 σ r5 hr4 (d - 1) (by omega)) ?_
    change zEv d 89 13 [some (zR 7 0), some (zI x1), some (zI x2), some (zI x3), none] [zI r5] σ _
    refine ev_ifne i89_13 (t := 22) (by decide) (p := 16) rfl h (fun c6 h => ?_) (fun c6 h => ?_)
    · exact kA_voice_J16 N G d hd σ w _ _ _ rfl _ h
    · refine ev_s i89_22 (p := 23) rfl ?_
      refine ev_getf i89_23 zf7_29 (u := zR 6 0) rfl (p := 26) rfl ?_
      refine ev_s i89_26 (p := 27) rfl ?_
      refine ev_getf i89_27 zf7_47 (u := zR 2 0) rfl (p := 30) rfl ?_
      refine ev_getf i89_30 zf7_84 (u := zR 14 0) rfl (p := 33) rfl ?_
      refine ev_s i89_33 (p := 34) rfl ?_
      refine ev_iald i89_34 rfl (n := 8) rfl (p := 35) rfl h (fun g7 h => ?_)
      refine ev_s i89_35 (p := 36) rfl ?_
      refine ev_s i89_36 (p := 37) rfl ?_
      refine ev_getf i89_37 zf7_47 (u := zR 2 0) rfl (p := 40) rfl ?_
      refine ev_getf i89_40 zf7_87 (u := zR 15 0) rfl (p := 43) rfl ?_
      refine ev_s i89_43 (p := 44) rfl ?_
      refine ev_iald i89_44 rfl (n := 8) rfl (p := 45) rfl h (fun g8 h => ?_)
      refine ev_s i89_45 (p := 46) rfl ?_
      refine ev_s i89_46 (p := 47) rfl ?_
      obtain ⟨r11, s10, hr9, h⟩ := b2_some h
      refine ev_callV i89_47 zc7_220 zm56 zo56 (as' := [zI (σ 14 0 x1.toNatClampNeg), zI x1, zI (σ 15 0 x1.toNatClampNeg), zI x2, zI x3]) (rest := []) rfl rfl (Nat.le_of_ble_eq_true rfl) (Nat.le_of_ble_eq_true rfl) (Nat.le_of_ble_eq_true rfl) (by omega) (l0 := [some (zR 6 0), some (zI (σ 14 0 x1.toNatClampNeg)), some (zI x1), some (zI (σ 15 0 x1.toNatClampNeg)), some (zI x2), some (zI x3)]) rfl (p := 50) rfl (kV_begin N G (σ 14 0 x1.toNatClampNeg) x1 (σ 15 0 x1.toNatClampNeg) x2 x3 σ (r11, s10) hr9 (d - 1) (by omega)) ?_
      change zEv d 89 50 [some (zR 7 0), some (zI x1), some (zI x2), some (zI x3), none] [zI r11] s10 _
      refine ev_s i89_50 (p := 52) (l := [some (zR 7 0), some (zI x1), some (zI x2), some (zI x3), some (zI r11)]) rfl ?_
      refine ev_s i89_52 (p := 53) rfl ?_
      refine ev_getf i89_53 zf7_29 (u := zR 6 0) rfl (p := 56) rfl ?_
      refine ev_getf i89_56 zf7_224 (u := zI (s10 6 0 2)) rfl (p := 59) rfl ?_
      refine ev_ifeq i89_59 (t := 71) (by decide) (p := 62) rfl h (fun c12 h => ?_) (fun c12 h => ?_)
      · refine ev_s i89_71 (p := 73) rfl ?_
        obtain rfl := Option.some.inj h
        exact ev_iret i89_73 zr89
      · refine ev_s i89_62 (p := 63) rfl ?_
        refine ev_s i89_63 (p := 65) (zib_6 _ _ _ _ _) ?_
        obtain ⟨r15, s14, hr13, h⟩ := b2_some h
        refine ev_callV i89_65 zc7_72 zm102 zo102 (as' := [zI 6]) (rest := []) rfl rfl (Nat.le_of_ble_eq_true rfl) (Nat.le_of_ble_eq_true rfl) (Nat.le_of_ble_eq_true rfl) (by omega) (l0 := [some (zR 7 0), some (zI 6)]) rfl (p := 68) rfl (kA_refuse 6 s10 (r15, s14) hr13 (d - 1) (by omega)) ?_
        change zEv d 89 68 [some (zR 7 0), some (zI x1), some (zI x2), some (zI x3), some (zI r11)] [zI r15] s14 _
        refine ev_goto i89_68 (t := 73) (by decide) ?_
        obtain rfl := Option.some.inj h
        exact ev_iret i89_73 zr89
/-! fM_kindNow -/
def fM_kindNow (σ : zS) : Option (Int32) := (fM_its (σ 8 0 16) 0 σ).bind fun r2 => some (r2)
set_option maxHeartbeats 4000000 in
theorem kM_kindNow  (σ : zS) (w : Int32) (h : fM_kindNow σ = some w) (d : Nat) (hd : 1 ≤ d) : zEv d 198 0 [some (zR 8 0)] [] σ (some (zI w), σ) := by
  unfold fM_kindNow at h
  refine ev_s i198_0 (p := 1) rfl ?_
  refine ev_s i198_1 (p := 2) rfl ?_
  refine ev_getf i198_2 zf8_258 (u := zI (σ 8 0 16)) rfl (p := 5) rfl ?_
  refine ev_s i198_5 (p := 6) (zic_0 _ _ _ _ _) ?_
  obtain ⟨r2, hr1, h⟩ := bd_some h
  refine ev_callV i198_6 zc8_54 zm118 zo118 (as' := [zI (σ 8 0 16), zI 0]) (rest := []) rfl rfl (Nat.le_of_ble_eq_true rfl) (Nat.le_of_ble_eq_true rfl) (Nat.le_of_ble_eq_true rfl) (by omega) (l0 := [some (zR 8 0), some (zI (σ 8 0 16)), some (zI 0)]) rfl (p := 9) rfl (kM_its (σ 8 0 16) 0 σ r2 hr1 (d - 1) (by omega)) ?_
  change zEv d 198 9 [some (zR 8 0)] [zI r2] σ _
  obtain rfl := Option.some.inj h
  exact ev_iret i198_9 zr198
/-! fM_begins -/
def fM_begins (x1 : Int32) (σ : zS) : Option (zS) := (if 30 ≤ (σ 8 0 14) then some σ else zgd (zin (σ 8 0 14) 30) (zlt (zup σ 38 0 (σ 8 0 14).toNatClampNeg x1) fun s2 => zlt (zup s2 8 0 14 ((s2 8 0 14) + 1)) fun s4 => some s4))
set_option maxHeartbeats 4000000 in
theorem kM_begins (x1 : Int32) (σ : zS) (w : zS) (h : fM_begins x1 σ = some w) (d : Nat) (hd : 0 ≤ d) : zEv d 196 0 [some (zR 8 0), some (zI x1)] [] σ (none, w) := by
  unfold fM_begins at h
  refine ev_s i196_0 (p := 1) rfl ?_
  refine ev_getf i196_1 zf8_255 (u := zI (σ 8 0 14)) rfl (p := 4) rfl ?_
  refine ev_s i196_4 (p := 6) (zib_30 _ _ _ _ _) ?_
  refine ev_cmpge i196_6 (t := 29) (by decide) (p := 9) rfl h (fun c1 h => ?_) (fun c1 h => ?_)
  · obtain rfl := Option.some.inj h
    exact ev_vret i196_29 zr196
  · refine ev_s i196_9 (p := 10) rfl ?_
    refine ev_getf i196_10 zf8_34 (u := zR 38 0) rfl (p := 13) rfl ?_
    refine ev_s i196_13 (p := 14) rfl ?_
    refine ev_getf i196_14 zf8_255 (u := zI (σ 8 0 14)) rfl (p := 17) rfl ?_
    refine ev_s i196_17 (p := 18) rfl ?_
    refine ev_iast i196_18 rfl (n := 30) rfl (p := 19) rfl h (fun g3 h => ?_)
    refine ev_lets h (fun s2 es2 h => ?_)
    refine ev_s i196_19 (p := 20) rfl ?_
    refine ev_s i196_20 (p := 21) rfl ?_
    refine ev_getf i196_21 zf8_255 (u := zI (s2 8 0 14)) rfl (p := 24) rfl ?_
    refine ev_s i196_24 (p := 25) (zic_1 _ _ _ _ _) ?_
    refine ev_s i196_25 (p := 26) (t := [zI ((s2 8 0 14) + 1), zR 8 0]) rfl ?_
    refine ev_putf i196_26 zf8_255 rfl rfl rfl (p := 29) rfl ?_
    refine ev_lets h (fun s4 es4 h => ?_)
    obtain rfl := Option.some.inj h
    exact ev_vret i196_29 zr196
/-! fM_tiesAs -/
def fM_tiesAs_b (G : Nat) (P200 : Int32 → Int32 → zS → Option (Int32 × zS)) (x1 : Int32) (x2 : Int32) (σ : zS) : Option (Int32 × zS) := (if x1 = 0 then (fM_begins 10 σ).bind fun s2 => some (x2 + (s2 8 0 16), s2) else (if x1 = 1 then (fM_begins 20 σ).bind fun s5 => (fM_above 1).bind fun r7 => zb2 (P200 r7 x2 s5) fun r10 s9 => some (r10 - 4, s9) else (if x1 = 2 then (fM_above x1).bind fun r13 => zb2 (P200 r13 x2 σ) fun r16 s15 => some (r16, s15) else (if x1 = 3 then (fM_above x1).bind fun r19 => zb2 (P200 r19 x2 σ) fun r22 s21 => some (r22, s21) else (if x1 = 4 then (fM_begins 50 σ).bind fun s25 => (fM_above 4).bind fun r27 => zb2 (P200 r27 x2 s25) fun r30 s29 => some (r30 * 3, s29) else (if x1 = 5 then (fM_above x1).bind fun r33 => zb2 (P200 r33 x2 σ) fun r36 s35 => some (r36, s35) else (if x1 = 6 then (fM_begins 70 σ).bind fun s39 => some (9, s39) else (fM_above x1).bind fun r42 => zb2 (P200 r42 x2 σ) fun r45 s44 => some (r45, s44))))))))
set_option maxHeartbeats 4000000 in
theorem kM_tiesAs_b (G : Nat) (P200 : Int32 → Int32 → zS → Option (Int32 × zS)) (x1 : Int32) (x2 : Int32) (σ : zS) (w : Int32 × zS) (d : Nat) (hd : 0 ≤ d) (hd1 : 1 + 1 ≤ d) (hP200 : ∀ (x1 : Int32) (x2 : Int32) (σ : zS) (w : Int32 × zS), P200 x1 x2 σ = some w → zEv (d - 1) 200 0 [some (zR 8 0), some (zI x1), some (zI x2)] [] σ (some (zI w.1), w.2)) (h : fM_tiesAs_b G P200 x1 x2 σ = some w) : zEv d 200 0 [some (zR 8 0), some (zI x1), some (zI x2)] [] σ (some (zI w.1), w.2) := by
  unfold fM_tiesAs_b at h
  refine ev_s i200_0 (p := 1) rfl ?_
  refine ev_sel h (fun c3 h => ?_) (fun c3 h => ?_)
  · refine ev_tsw i200_1 (by decide) (t := 44) (by rw [c3]; decide) ?_
    refine ev_s i200_44 (p := 45) rfl ?_
    refine ev_s i200_45 (p := 47) (zib_10 _ _ _ _ _) ?_
    obtain ⟨s2, hr1, h⟩ := bd_some h
    refine ev_callV i200_47 zc8_261 zm196 zo196 (as' := [zI 10]) (rest := []) rfl rfl (Nat.le_of_ble_eq_true rfl) (Nat.le_of_ble_eq_true rfl) (Nat.le_of_ble_eq_true rfl) (by omega) (l0 := [some (zR 8 0), some (zI 10)]) rfl (p := 50) rfl (kM_begins 10 σ s2 hr1 (d - 1) (by omega)) ?_
    change zEv d 200 50 [some (zR 8 0), some (zI x1), some (zI x2)] [] s2 _
    refine ev_s i200_50 (p := 51) rfl ?_
    refine ev_s i200_51 (p := 52) rfl ?_
    refine ev_getf i200_52 zf8_258 (u := zI (s2 8 0 16)) rfl (p := 55) rfl ?_
    refine ev_s i200_55 (p := 56) (t := [zI (x2 + (s2 8 0 16))]) rfl ?_
    obtain rfl := Option.some.inj h
    exact ev_iret i200_56 zr200
  refine ev_sel h (fun c11 h => ?_) (fun c11 h => ?_)
  · refine ev_tsw i200_1 (by decide) (t := 57) (by rw [c11]; decide) ?_
    refine ev_s i200_57 (p := 58) rfl ?_
    refine ev_s i200_58 (p := 60) (zib_20 _ _ _ _ _) ?_
    obtain ⟨s5, hr4, h⟩ := bd_some h
    refine ev_callV i200_60 zc8_261 zm196 zo196 (as' := [zI 20]) (rest := []) rfl rfl (Nat.le_of_ble_eq_true rfl) (Nat.le_of_ble_eq_true rfl) (Nat.le_of_ble_eq_true rfl) (by omega) (l0 := [some (zR 8 0), some (zI 20)]) rfl (p := 63) rfl (kM_begins 20 σ s5 hr4 (d - 1) (by omega)) ?_
    change zEv d 200 63 [some (zR 8 0), some (zI x1), some (zI x2)] [] s5 _
    refine ev_s i200_63 (p := 64) rfl ?_
    refine ev_s i200_64 (p := 65) (zic_1 _ _ _ _ _) ?_
    obtain ⟨r7, hr6, h⟩ := bd_some h
    refine ev_callS i200_65 zn8_197 zc8_197 zm197 (as := [zI 1]) (rest := [zR 8 0]) rfl rfl (Nat.le_of_ble_eq_true rfl) (Nat.le_of_ble_eq_true rfl) (Nat.le_of_ble_eq_true rfl) (by omega) (l0 := [some (zI 1)]) rfl (p := 68) rfl (kM_above 1 s5 r7 hr6 (d - 1) (by omega)) ?_
    change zEv d 200 68 [some (zR 8 0), some (zI x1), some (zI x2)] [zI r7, zR 8 0] s5 _
    refine ev_s i200_68 (p := 69) rfl ?_
    obtain ⟨r10, s9, hr8, h⟩ := b2_some h
    refine ev_callV i200_69 zc8_264 zm200 zo200 (as' := [zI r7, zI x2]) (rest := []) rfl rfl (Nat.le_of_ble_eq_true rfl) (Nat.le_of_ble_eq_true rfl) (Nat.le_of_ble_eq_true rfl) (by omega) (l0 := [some (zR 8 0), some (zI r7), some (zI x2)]) rfl (p := 72) rfl (hP200 r7 x2 s5 (r10, s9) hr8) ?_
    change zEv d 200 72 [some (zR 8 0), some (zI x1), some (zI x2)] [zI r10] s9 _
    refine ev_s i200_72 (p := 73) (zic_4 _ _ _ _ _) ?_
    refine ev_s i200_73 (p := 74) (t := [zI (r10 - 4)]) rfl ?_
    obtain rfl := Option.some.inj h
    exact ev_iret i200_74 zr200
  refine ev_sel h (fun c17 h => ?_) (fun c17 h => ?_)
  · refine ev_tsw i200_1 (by decide) (t := 102) (by rw [c17]; decide) ?_
    refine ev_s i200_102 (p := 103) rfl ?_
    refine ev_s i200_103 (p := 104) rfl ?_
    obtain ⟨r13, hr12, h⟩ := bd_some h
    refine ev_callS i200_104 zn8_197 zc8_197 zm197 (as := [zI x1]) (rest := [zR 8 0]) rfl rfl (Nat.le_of_ble_eq_true rfl) (Nat.le_of_ble_eq_true rfl) (Nat.le_of_ble_eq_true rfl) (by omega) (l0 := [some (zI x1)]) rfl (p := 107) rfl (kM_above x1 σ r13 hr12 (d - 1) (by omega)) ?_
    change zEv d 200 107 [some (zR 8 0), some (zI x1), some (zI x2)] [zI r13, zR 8 0] σ _
    refine ev_s i200_107 (p := 108) rfl ?_
    obtain ⟨r16, s15, hr14, h⟩ := b2_some h
    refine ev_callV i200_108 zc8_264 zm200 zo200 (as' := [zI r13, zI x2]) (rest := []) rfl rfl (Nat.le_of_ble_eq_true rfl) (Nat.le_of_ble_eq_true rfl) (Nat.le_of_ble_eq_true rfl) (by omega) (l0 := [some (zR 8 0), some (zI r13), some (zI x2)]) rfl (p := 111) rfl (hP200 r13 x2 σ (r16, s15) hr14) ?_
    change zEv d 200 111 [some (zR 8 0), some (zI x1), some (zI x2)] [zI r16] s15 _
    obtain rfl := Option.some.inj h
    exact ev_iret i200_111 zr200
  refine ev_sel h (fun c23 h => ?_) (fun c23 h => ?_)
  · refine ev_tsw i200_1 (by decide) (t := 102) (by rw [c23]; decide) ?_
    refine ev_s i200_102 (p := 103) rfl ?_
    refine ev_s i200_103 (p := 104) rfl ?_
    obtain ⟨r19, hr18, h⟩ := bd_some h
    refine ev_callS i200_104 zn8_197 zc8_197 zm197 (as := [zI x1]) (rest := [zR 8 0]) rfl rfl (Nat.le_of_ble_eq_true rfl) (Nat.le_of_ble_eq_true rfl) (Nat.le_of_ble_eq_true rfl) (by omega) (l0 := [some (zI x1)]) rfl (p := 107) rfl (kM_above x1 σ r19 hr18 (d - 1) (by omega)) ?_
    change zEv d 200 107 [some (zR 8 0), some (zI x1), some (zI x2)] [zI r19, zR 8 0] σ _
    refine ev_s i200_107 (p := 108) rfl ?_
    obtain ⟨r22, s21, hr20, h⟩ := b2_some h
    refine ev_callV i200_108 zc8_264 zm200 zo200 (as' := [zI r19, zI x2]) (rest := []) rfl rfl (Nat.le_of_ble_eq_true rfl) (Nat.le_of_ble_eq_true rfl) (Nat.le_of_ble_eq_true rfl) (by omega) (l0 := [some (zR 8 0), some (zI r19), some (zI x2)]) rfl (p := 111) rfl (hP200 r19 x2 σ (r22, s21) hr20) ?_
    change zEv d 200 111 [some (zR 8 0), some (zI x1), some (zI x2)] [zI r22] s21 _
    obtain rfl := Option.some.inj h
    exact ev_iret i200_111 zr200
  refine ev_sel h (fun c31 h => ?_) (fun c31 h => ?_)
  · refine ev_tsw i200_1 (by decide) (t := 75) (by rw [c31]; decide) ?_
    refine ev_s i200_75 (p := 76) rfl ?_
    refine ev_s i200_76 (p := 78) (zib_50 _ _ _ _ _) ?_
    obtain ⟨s25, hr24, h⟩ := bd_some h
    refine ev_callV i200_78 zc8_261 zm196 zo196 (as' := [zI 50]) (rest := []) rfl rfl (Nat.le_of_ble_eq_true rfl) (Nat.le_of_ble_eq_true rfl) (Nat.le_of_ble_eq_true rfl) (by omega) (l0 := [some (zR 8 0), some (zI 50)]) rfl (p := 81) rfl (kM_begins 50 σ s25 hr24 (d - 1) (by omega)) ?_
    change zEv d 200 81 [some (zR 8 0), some (zI x1), some (zI x2)] [] s25 _
    refine ev_s i200_81 (p := 82) rfl ?_
    refine ev_s i200_82 (p := 83) (zic_4 _ _ _ _ _) ?_
    obtain ⟨r27, hr26, h⟩ := bd_some h
    refine ev_callS i200_83 zn8_197 zc8_197 zm197 (as := [zI 4]) (rest := [zR 8 0]) rfl rfl (Nat.le_of_ble_eq_true rfl) (Nat.le_of_ble_eq_true rfl) (Nat.le_of_ble_eq_true rfl) (by omega) (l0 := [some (zI 4)]) rfl (p := 86) rfl (kM_above 4 s25 r27 hr26 (d - 1) (by omega)) ?_
    change zEv d 200 86 [some (zR 8 0), some (zI x1), some (zI x2)] [zI r27, zR 8 0] s25 _
    refine ev_s i200_86 (p := 87) rfl ?_
    obtain ⟨r30, s29, hr28, h⟩ := b2_some h
    refine ev_callV i200_87 zc8_264 zm200 zo200 (as' := [zI r27, zI x2]) (rest := []) rfl rfl (Nat.le_of_ble_eq_true rfl) (Nat.le_of_ble_eq_true rfl) (Nat.le_of_ble_eq_true rfl) (by omega) (l0 := [some (zR 8 0), some (zI r27), some (zI x2)]) rfl (p := 90) rfl (hP200 r27 x2 s25 (r30, s29) hr28) ?_
    change zEv d 200 90 [some (zR 8 0), some (zI x1), some (zI x2)] [zI r30] s29 _
    refine ev_s i200_90 (p := 91) (zic_3 _ _ _ _ _) ?_
    refine ev_s i200_91 (p := 92) (t := [zI (r30 * 3)]) rfl ?_
    obtain rfl := Option.some.inj h
    exact ev_iret i200_92 zr200
  refine ev_sel h (fun c37 h => ?_) (fun c37 h => ?_)
  · refine ev_tsw i200_1 (by decide) (t := 102) (by rw [c37]; decide) ?_
    refine ev_s i200_102 (p := 103) rfl ?_
    refine ev_s i200_103 (p := 104) rfl ?_
    obtain ⟨r33, hr32, h⟩ := bd_some h
    refine ev_callS i200_104 zn8_197 zc8_197 zm197 (as := [zI x1]) (rest := [zR 8 0]) rfl rfl (Nat.le_of_ble_eq_true rfl) (Nat.le_of_ble_eq_true rfl) (Nat.le_of_ble_eq_true rfl) (by omega) (l0 := [some (zI x1)]) rfl (p := 107) rfl (kM_above x1 σ r33 hr32 (d - 1) (by omega)) ?_
    change zEv d 200 107 [some (zR 8 0), some (zI x1), some (zI x2)] [zI r33, zR 8 0] σ _
    refine ev_s i200_107 (p := 108) rfl ?_
    obtain ⟨r36, s35, hr34, h⟩ := b2_some h
    refine ev_callV i200_108 zc8_264 zm200 zo200 (as' := [zI r33, zI x2]) (rest := []) rfl rfl (Nat.le_of_ble_eq_true rfl) (Nat.le_of_ble_eq_true rfl) (Nat.le_of_ble_eq_true rfl) (by omega) (l0 := [some (zR 8 0), some (zI r33), some (zI x2)]) rfl (p := 111) rfl (hP200 r33 x2 σ (r36, s35) hr34) ?_
    change zEv d 200 111 [some (zR 8 0), some (zI x1), some (zI x2)] [zI r36] s35 _
    obtain rfl := Option.some.inj h
    exact ev_iret i200_111 zr200
  refine ev_sel h (fun c40 h => ?_) (fun c40 h => ?_)
  · refine ev_tsw i200_1 (by decide) (t := 93) (by rw [c40]; decide) ?_
    refine ev_s i200_93 (p := 94) rfl ?_
    refine ev_s i200_94 (p := 96) (zib_70 _ _ _ _ _) ?_
    obtain ⟨s39, hr38, h⟩ := bd_some h
    refine ev_callV i200_96 zc8_261 zm196 zo196 (as' := [zI 70]) (rest := []) rfl rfl (Nat.le_of_ble_eq_true rfl) (Nat.le_of_ble_eq_true rfl) (Nat.le_of_ble_eq_true rfl) (by omega) (l0 := [some (zR 8 0), some (zI 70)]) rfl (p := 99) rfl (kM_begins 70 σ s39 hr38 (d - 1) (by omega)) ?_
    change zEv d 200 99 [some (zR 8 0), some (zI x1), some (zI x2)] [] s39 _
    refine ev_s i200_99 (p := 101) (zib_9 _ _ _ _ _) ?_
    obtain rfl := Option.some.inj h
    exact ev_iret i200_101 zr200
  refine ev_tsw i200_1 (by decide) (t := 102) (by show (1 : Int) + zsw x1 (0) [43, 56, 101, 101, 74, 101, 92] (101) = 102; rw [zsw_st c3 (by decide), zsw_st c11 (by decide), zsw_st c17 (by decide), zsw_st c23 (by decide), zsw_st c31 (by decide), zsw_st c37 (by decide), zsw_st c40 (by decide)]; rfl) ?_
  refine ev_s i200_102 (p := 103) rfl ?_
  refine ev_s i200_103 (p := 104) rfl ?_
  obtain ⟨r42, hr41, h⟩ := bd_some h
  refine ev_callS i200_104 zn8_197 zc8_197 zm197 (as := [zI x1]) (rest := [zR 8 0]) rfl rfl (Nat.le_of_ble_eq_true rfl) (Nat.le_of_ble_eq_true rfl) (Nat.le_of_ble_eq_true rfl) (by omega) (l0 := [some (zI x1)]) rfl (p := 107) rfl (kM_above x1 σ r42 hr41 (d - 1) (by omega)) ?_
  change zEv d 200 107 [some (zR 8 0), some (zI x1), some (zI x2)] [zI r42, zR 8 0] σ _
  refine ev_s i200_107 (p := 108) rfl ?_
  obtain ⟨r45, s44, hr43, h⟩ := b2_some h
  refine ev_callV i200_108 zc8_264 zm200 zo200 (as' := [zI r42, zI x2]) (rest := []) rfl rfl (Nat.le_of_ble_eq_true rfl) (Nat.le_of_ble_eq_true rfl) (Nat.le_of_ble_eq_true rfl) (by omega) (l0 := [some (zR 8 0), some (zI r42), some (zI x2)]) rfl (p := 111) rfl (hP200 r42 x2 σ (r45, s44) hr43) ?_
  change zEv d 200 111 [some (zR 8 0), some (zI x1), some (zI x2)] [zI r45] s44 _
  obtain rfl := Option.some.inj h
  exact ev_iret i200_111 zr200
def gM_tiesAs (G : Nat) : Nat → (Int32 → Int32 → zS → Option (Int32 × zS))
  | 0 => (fun _ _ _ => none)
  | n + 1 => fM_tiesAs_b G (gM_tiesAs G n)
def fM_tiesAs (G : Nat) (n : Nat) (x1 : Int32) (x2 : Int32) (σ : zS) : Option (Int32 × zS) := (gM_tiesAs G n) x1 x2 σ
set_option maxHeartbeats 4000000 in
theorem kgM_tiesAs (G : Nat) : ∀ n d : Nat, 1 + n ≤ d → (∀ (x1 : Int32) (x2 : Int32) (σ : zS) (w : Int32 × zS), (gM_tiesAs G n) x1 x2 σ = some w → zEv d 200 0 [some (zR 8 0), some (zI x1), some (zI x2)] [] σ (some (zI w.1), w.2)) := by
  intro n
  induction n with
  | zero =>
    intro d _
    exact (fun _ _ _ _ h => absurd h (by simp [gM_tiesAs]))
  | succ n ih =>
    intro d hd
    have ih2 := ih (d - 1) (by omega)
    exact (fun x1 x2 σ w h => kM_tiesAs_b G (gM_tiesAs G n) x1 x2 σ w d (by omega) (by omega) ih2 h)
set_option maxHeartbeats 4000000 in
theorem kM_tiesAs (G : Nat) (n : Nat) (x1 : Int32) (x2 : Int32) (σ : zS) (w : Int32 × zS) (h : fM_tiesAs G n x1 x2 σ = some w) (d : Nat) (hd : 1 + n ≤ d) : zEv d 200 0 [some (zR 8 0), some (zI x1), some (zI x2)] [] σ (some (zI w.1), w.2) :=
  (kgM_tiesAs G n d hd) x1 x2 σ w h
/-! fM_mNow -/
def fM_mNow (σ : zS) : Option (Int32) := (fM_its (σ 8 0 16) 1 σ).bind fun r2 => some (r2)
set_option maxHeartbeats 4000000 in
theorem kM_mNow  (σ : zS) (w : Int32) (h : fM_mNow σ = some w) (d : Nat) (hd : 1 ≤ d) : zEv d 199 0 [some (zR 8 0)] [] σ (some (zI w), σ) := by
  unfold fM_mNow at h
  refine ev_s i199_0 (p := 1) rfl ?_
  refine ev_s i199_1 (p := 2) rfl ?_
  refine ev_getf i199_2 zf8_258 (u := zI (σ 8 0 16)) rfl (p := 5) rfl ?_
  refine ev_s i199_5 (p := 6) (zic_1 _ _ _ _ _) ?_
  obtain ⟨r2, hr1, h⟩ := bd_some h
  refine ev_callV i199_6 zc8_54 zm118 zo118 (as' := [zI (σ 8 0 16), zI 1]) (rest := []) rfl rfl (Nat.le_of_ble_eq_true rfl) (Nat.le_of_ble_eq_true rfl) (Nat.le_of_ble_eq_true rfl) (by omega) (l0 := [some (zR 8 0), some (zI (σ 8 0 16)), some (zI 1)]) rfl (p := 9) rfl (kM_its (σ 8 0 16) 1 σ r2 hr1 (d - 1) (by omega)) ?_
  change zEv d 199 9 [some (zR 8 0)] [zI r2] σ _
  obtain rfl := Option.some.inj h
  exact ev_iret i199_9 zr199
/-! fM_letsAs -/
def fM_letsAs_b (G : Nat) (P201 : Int32 → Int32 → zS → Option (Int32 × zS)) (x1 : Int32) (x2 : Int32) (σ : zS) : Option (Int32 × zS) := (if x1 = 0 then (fM_begins 11 σ).bind fun s2 => (fM_kindNow s2).bind fun r4 => zb2 (fM_tiesAs G G r4 x2 s2) fun r7 s6 => some (r7 * 2, s6) else (if x1 = 1 then (fM_above x1).bind fun r10 => zb2 (P201 r10 x2 σ) fun r13 s12 => some (r13, s12) else (if x1 = 2 then (fM_begins 30 σ).bind fun s16 => (fM_above 2).bind fun r18 => zb2 (P201 r18 x2 s16) fun r21 s20 => some (0 - r21, s20) else (if x1 = 3 then (fM_above x1).bind fun r24 => zb2 (P201 r24 x2 σ) fun r27 s26 => some (r27, s26) else (if x1 = 4 then (fM_above x1).bind fun r30 => zb2 (P201 r30 x2 σ) fun r33 s32 => some (r33, s32) else (if x1 = 5 then (fM_begins 60 σ).bind fun s36 => (fM_above 5).bind fun r38 => zb2 (P201 r38 (x2 + 1) s36) fun r41 s40 => some (r41, s40) else (if x1 = 6 then (fM_begins 71 σ).bind fun s44 => (fM_above 6).bind fun r46 => zb2 (P201 r46 x2 s44) fun r49 s48 => (fM_mNow s48).bind fun r51 => some (r49 + r51, s48) else (fM_above x1).bind fun r54 => zb2 (P201 r54 x2 σ) fun r57 s56 => some (r57, s56))))))))
set_option maxHeartbeats 4000000 in
theorem kM_letsAs_b (G : Nat) (P201 : Int32 → Int32 → zS → Option (Int32 × zS)) (x1 : Int32) (x2 : Int32) (σ : zS) (w : Int32 × zS) (d : Nat) (hd : 0 ≤ d) (hd1 : 2 + 1 * G + 1 ≤ d) (hP201 : ∀ (x1 : Int32) (x2 : Int32) (σ : zS) (w : Int32 × zS), P201 x1 x2 σ = some w → zEv (d - 1) 201 0 [some (zR 8 0), some (zI x1), some (zI x2)] [] σ (some (zI w.1), w.2)) (h : fM_letsAs_b G P201 x1 x2 σ = some w) : zEv d 201 0 [some (zR 8 0), some (zI x1), some (zI x2)] [] σ (some (zI w.1), w.2) := by
  unfold fM_letsAs_b at h
  refine ev_s i201_0 (p := 1) rfl ?_
  refine ev_sel h (fun c8 h => ?_) (fun c8 h => ?_)
  · refine ev_tsw i201_1 (by decide) (t := 44) (by rw [c8]; decide) ?_
    refine ev_s i201_44 (p := 45) rfl ?_
    refine ev_s i201_45 (p := 47) (zib_11 _ _ _ _ _) ?_
    obtain ⟨s2, hr1, h⟩ := bd_some h
    refine ev_callV i201_47 zc8_261 zm196 zo196 (as' := [zI 11]) (rest := []) rfl rfl (Nat.le_of_ble_eq_true rfl) (Nat.le_of_ble_eq_true rfl) (Nat.le_of_ble_eq_true rfl) (by omega) (l0 := [some (zR 8 0), some (zI 11)]) rfl (p := 50) rfl (kM_begins 11 σ s2 hr1 (d - 1) (by omega)) ?_
    change zEv d 201 50 [some (zR 8 0), some (zI x1), some (zI x2)] [] s2 _
    refine ev_s i201_50 (p := 51) rfl ?_
    refine ev_s i201_51 (p := 52) rfl ?_
    obtain ⟨r4, hr3, h⟩ := bd_some h
    refine ev_callV i201_52 zc8_267 zm198 zo198 (as' := []) (rest := [zR 8 0]) rfl rfl (Nat.le_of_ble_eq_true rfl) (Nat.le_of_ble_eq_true rfl) (Nat.le_of_ble_eq_true rfl) (by omega) (l0 := [some (zR 8 0)]) rfl (p := 55) rfl (kM_kindNow s2 r4 hr3 (d - 1) (by omega)) ?_
    change zEv d 201 55 [some (zR 8 0), some (zI x1), some (zI x2)] [zI r4, zR 8 0] s2 _
    refine ev_s i201_55 (p := 56) rfl ?_
    obtain ⟨r7, s6, hr5, h⟩ := b2_some h
    refine ev_callV i201_56 zc8_264 zm200 zo200 (as' := [zI r4, zI x2]) (rest := []) rfl rfl (Nat.le_of_ble_eq_true rfl) (Nat.le_of_ble_eq_true rfl) (Nat.le_of_ble_eq_true rfl) (by omega) (l0 := [some (zR 8 0), some (zI r4), some (zI x2)]) rfl (p := 59) rfl (kM_tiesAs G G r4 x2 s2 (r7, s6) hr5 (d - 1) (by omega)) ?_
    change zEv d 201 59 [some (zR 8 0), some (zI x1), some (zI x2)] [zI r7] s6 _
    refine ev_s i201_59 (p := 60) (zic_2 _ _ _ _ _) ?_
    refine ev_s i201_60 (p := 61) (t := [zI (r7 * 2)]) rfl ?_
    obtain rfl := Option.some.inj h
    exact ev_iret i201_61 zr201
  refine ev_sel h (fun c14 h => ?_) (fun c14 h => ?_)
  · refine ev_tsw i201_1 (by decide) (t := 120) (by rw [c14]; decide) ?_
    refine ev_s i201_120 (p := 121) rfl ?_
    refine ev_s i201_121 (p := 122) rfl ?_
    obtain ⟨r10, hr9, h⟩ := bd_some h
    refine ev_callS i201_122 zn8_197 zc8_197 zm197 (as := [zI x1]) (rest := [zR 8 0]) rfl rfl (Nat.le_of_ble_eq_true rfl) (Nat.le_of_ble_eq_true rfl) (Nat.le_of_ble_eq_true rfl) (by omega) (l0 := [some (zI x1)]) rfl (p := 125) rfl (kM_above x1 σ r10 hr9 (d - 1) (by omega)) ?_
    change zEv d 201 125 [some (zR 8 0), some (zI x1), some (zI x2)] [zI r10, zR 8 0] σ _
    refine ev_s i201_125 (p := 126) rfl ?_
    obtain ⟨r13, s12, hr11, h⟩ := b2_some h
    refine ev_callV i201_126 zc8_270 zm201 zo201 (as' := [zI r10, zI x2]) (rest := []) rfl rfl (Nat.le_of_ble_eq_true rfl) (Nat.le_of_ble_eq_true rfl) (Nat.le_of_ble_eq_true rfl) (by omega) (l0 := [some (zR 8 0), some (zI r10), some (zI x2)]) rfl (p := 129) rfl (hP201 r10 x2 σ (r13, s12) hr11) ?_
    change zEv d 201 129 [some (zR 8 0), some (zI x1), some (zI x2)] [zI r13] s12 _
    obtain rfl := Option.some.inj h
    exact ev_iret i201_129 zr201
  refine ev_sel h (fun c22 h => ?_) (fun c22 h => ?_)
  · refine ev_tsw i201_1 (by decide) (t := 62) (by rw [c22]; decide) ?_
    refine ev_s i201_62 (p := 63) rfl ?_
    refine ev_s i201_63 (p := 65) (zib_30 _ _ _ _ _) ?_
    obtain ⟨s16, hr15, h⟩ := bd_some h
    refine ev_callV i201_65 zc8_261 zm196 zo196 (as' := [zI 30]) (rest := []) rfl rfl (Nat.le_of_ble_eq_true rfl) (Nat.le_of_ble_eq_true rfl) (Nat.le_of_ble_eq_true rfl) (by omega) (l0 := [some (zR 8 0), some (zI 30)]) rfl (p := 68) rfl (kM_begins 30 σ s16 hr15 (d - 1) (by omega)) ?_
    change zEv d 201 68 [some (zR 8 0), some (zI x1), some (zI x2)] [] s16 _
    refine ev_s i201_68 (p := 69) (zic_0 _ _ _ _ _) ?_
    refine ev_s i201_69 (p := 70) rfl ?_
    refine ev_s i201_70 (p := 71) (zic_2 _ _ _ _ _) ?_
    obtain ⟨r18, hr17, h⟩ := bd_some h
    refine ev_callS i201_71 zn8_197 zc8_197 zm197 (as := [zI 2]) (rest := [zR 8 0, zI 0]) rfl rfl (Nat.le_of_ble_eq_true rfl) (Nat.le_of_ble_eq_true rfl) (Nat.le_of_ble_eq_true rfl) (by omega) (l0 := [some (zI 2)]) rfl (p := 74) rfl (kM_above 2 s16 r18 hr17 (d - 1) (by omega)) ?_
    change zEv d 201 74 [some (zR 8 0), some (zI x1), some (zI x2)] [zI r18, zR 8 0, zI 0] s16 _
    refine ev_s i201_74 (p := 75) rfl ?_
    obtain ⟨r21, s20, hr19, h⟩ := b2_some h
    refine ev_callV i201_75 zc8_270 zm201 zo201 (as' := [zI r18, zI x2]) (rest := [zI 0]) rfl rfl (Nat.le_of_ble_eq_true rfl) (Nat.le_of_ble_eq_true rfl) (Nat.le_of_ble_eq_true rfl) (by omega) (l0 := [some (zR 8 0), some (zI r18), some (zI x2)]) rfl (p := 78) rfl (hP201 r18 x2 s16 (r21, s20) hr19) ?_
    change zEv d 201 78 [some (zR 8 0), some (zI x1), some (zI x2)] [zI r21, zI 0] s20 _
    refine ev_s i201_78 (p := 79) (t := [zI (0 - r21)]) rfl ?_
    obtain rfl := Option.some.inj h
    exact ev_iret i201_79 zr201
  refine ev_sel h (fun c28 h => ?_) (fun c28 h => ?_)
  · refine ev_tsw i201_1 (by decide) (t := 120) (by rw [c28]; decide) ?_
    refine ev_s i201_120 (p := 121) rfl ?_
    refine ev_s i201_121 (p := 122) rfl ?_
    obtain ⟨r24, hr23, h⟩ := bd_some h
    refine ev_callS i201_122 zn8_197 zc8_197 zm197 (as := [zI x1]) (rest := [zR 8 0]) rfl rfl (Nat.le_of_ble_eq_true rfl) (Nat.le_of_ble_eq_true rfl) (Nat.le_of_ble_eq_true rfl) (by omega) (l0 := [some (zI x1)]) rfl (p := 125) rfl (kM_above x1 σ r24 hr23 (d - 1) (by omega)) ?_
    change zEv d 201 125 [some (zR 8 0), some (zI x1), some (zI x2)] [zI r24, zR 8 0] σ _
    refine ev_s i201_125 (p := 126) rfl ?_
    obtain ⟨r27, s26, hr25, h⟩ := b2_some h
    refine ev_callV i201_126 zc8_270 zm201 zo201 (as' := [zI r24, zI x2]) (rest := []) rfl rfl (Nat.le_of_ble_eq_true rfl) (Nat.le_of_ble_eq_true rfl) (Nat.le_of_ble_eq_true rfl) (by omega) (l0 := [some (zR 8 0), some (zI r24), some (zI x2)]) rfl (p := 129) rfl (hP201 r24 x2 σ (r27, s26) hr25) ?_
    change zEv d 201 129 [some (zR 8 0), some (zI x1), some (zI x2)] [zI r27] s26 _
    obtain rfl := Option.some.inj h
    exact ev_iret i201_129 zr201
  refine ev_sel h (fun c34 h => ?_) (fun c34 h => ?_)
  · refine ev_tsw i201_1 (by decide) (t := 120) (by rw [c34]; decide) ?_
    refine ev_s i201_120 (p := 121) rfl ?_
    refine ev_s i201_121 (p := 122) rfl ?_
    obtain ⟨r30, hr29, h⟩ := bd_some h
    refine ev_callS i201_122 zn8_197 zc8_197 zm197 (as := [zI x1]) (rest := [zR 8 0]) rfl rfl (Nat.le_of_ble_eq_true rfl) (Nat.le_of_ble_eq_true rfl) (Nat.le_of_ble_eq_true rfl) (by omega) (l0 := [some (zI x1)]) rfl (p := 125) rfl (kM_above x1 σ r30 hr29 (d - 1) (by omega)) ?_
    change zEv d 201 125 [some (zR 8 0), some (zI x1), some (zI x2)] [zI r30, zR 8 0] σ _
    refine ev_s i201_125 (p := 126) rfl ?_
    obtain ⟨r33, s32, hr31, h⟩ := b2_some h
    refine ev_callV i201_126 zc8_270 zm201 zo201 (as' := [zI r30, zI x2]) (rest := []) rfl rfl (Nat.le_of_ble_eq_true rfl) (Nat.le_of_ble_eq_true rfl) (Nat.le_of_ble_eq_true rfl) (by omega) (l0 := [some (zR 8 0), some (zI r30), some (zI x2)]) rfl (p := 129) rfl (hP201 r30 x2 σ (r33, s32) hr31) ?_
    change zEv d 201 129 [some (zR 8 0), some (zI x1), some (zI x2)] [zI r33] s32 _
    obtain rfl := Option.some.inj h
    exact ev_iret i201_129 zr201
  refine ev_sel h (fun c42 h => ?_) (fun c42 h => ?_)
  · refine ev_tsw i201_1 (by decide) (t := 80) (by rw [c42]; decide) ?_
    refine ev_s i201_80 (p := 81) rfl ?_
    refine ev_s i201_81 (p := 83) (zib_60 _ _ _ _ _) ?_
    obtain ⟨s36, hr35, h⟩ := bd_some h
    refine ev_callV i201_83 zc8_261 zm196 zo196 (as' := [zI 60]) (rest := []) rfl rfl (Nat.le_of_ble_eq_true rfl) (Nat.le_of_ble_eq_true rfl) (Nat.le_of_ble_eq_true rfl) (by omega) (l0 := [some (zR 8 0), some (zI 60)]) rfl (p := 86) rfl (kM_begins 60 σ s36 hr35 (d - 1) (by omega)) ?_
    change zEv d 201 86 [some (zR 8 0), some (zI x1), some (zI x2)] [] s36 _
    refine ev_s i201_86 (p := 87) rfl ?_
    refine ev_s i201_87 (p := 88) (zic_5 _ _ _ _ _) ?_
    obtain ⟨r38, hr37, h⟩ := bd_some h
    refine ev_callS i201_88 zn8_197 zc8_197 zm197 (as := [zI 5]) (rest := [zR 8 0]) rfl rfl (Nat.le_of_ble_eq_true rfl) (Nat.le_of_ble_eq_true rfl) (Nat.le_of_ble_eq_true rfl) (by omega) (l0 := [some (zI 5)]) rfl (p := 91) rfl (kM_above 5 s36 r38 hr37 (d - 1) (by omega)) ?_
    change zEv d 201 91 [some (zR 8 0), some (zI x1), some (zI x2)] [zI r38, zR 8 0] s36 _
    refine ev_s i201_91 (p := 92) rfl ?_
    refine ev_s i201_92 (p := 93) (zic_1 _ _ _ _ _) ?_
    refine ev_s i201_93 (p := 94) (t := [zI (x2 + 1), zI r38, zR 8 0]) rfl ?_
    obtain ⟨r41, s40, hr39, h⟩ := b2_some h
    refine ev_callV i201_94 zc8_270 zm201 zo201 (as' := [zI r38, zI (x2 + 1)]) (rest := []) rfl rfl (Nat.le_of_ble_eq_true rfl) (Nat.le_of_ble_eq_true rfl) (Nat.le_of_ble_eq_true rfl) (by omega) (l0 := [some (zR 8 0), some (zI r38), some (zI (x2 + 1))]) rfl (p := 97) rfl (hP201 r38 (x2 + 1) s36 (r41, s40) hr39) ?_
    change zEv d 201 97 [some (zR 8 0), some (zI x1), some (zI x2)] [zI r41] s40 _
    obtain rfl := Option.some.inj h
    exact ev_iret i201_97 zr201
  refine ev_sel h (fun c52 h => ?_) (fun c52 h => ?_)
  · refine ev_tsw i201_1 (by decide) (t := 98) (by rw [c52]; decide) ?_
    refine ev_s i201_98 (p := 99) rfl ?_
    refine ev_s i201_99 (p := 101) (zib_71 _ _ _ _ _) ?_
    obtain ⟨s44, hr43, h⟩ := bd_some h
    refine ev_callV i201_101 zc8_261 zm196 zo196 (as' := [zI 71]) (rest := []) rfl rfl (Nat.le_of_ble_eq_true rfl) (Nat.le_of_ble_eq_true rfl) (Nat.le_of_ble_eq_true rfl) (by omega) (l0 := [some (zR 8 0), some (zI 71)]) rfl (p := 104) rfl (kM_begins 71 σ s44 hr43 (d - 1) (by omega)) ?_
    change zEv d 201 104 [some (zR 8 0), some (zI x1), some (zI x2)] [] s44 _
    refine ev_s i201_104 (p := 105) rfl ?_
    refine ev_s i201_105 (p := 107) (zib_6 _ _ _ _ _) ?_
    obtain ⟨r46, hr45, h⟩ := bd_some h
    refine ev_callS i201_107 zn8_197 zc8_197 zm197 (as := [zI 6]) (rest := [zR 8 0]) rfl rfl (Nat.le_of_ble_eq_true rfl) (Nat.le_of_ble_eq_true rfl) (Nat.le_of_ble_eq_true rfl) (by omega) (l0 := [some (zI 6)]) rfl (p := 110) rfl (kM_above 6 s44 r46 hr45 (d - 1) (by omega)) ?_
    change zEv d 201 110 [some (zR 8 0), some (zI x1), some (zI x2)] [zI r46, zR 8 0] s44 _
    refine ev_s i201_110 (p := 111) rfl ?_
    obtain ⟨r49, s48, hr47, h⟩ := b2_some h
    refine ev_callV i201_111 zc8_270 zm201 zo201 (as' := [zI r46, zI x2]) (rest := []) rfl rfl (Nat.le_of_ble_eq_true rfl) (Nat.le_of_ble_eq_true rfl) (Nat.le_of_ble_eq_true rfl) (by omega) (l0 := [some (zR 8 0), some (zI r46), some (zI x2)]) rfl (p := 114) rfl (hP201 r46 x2 s44 (r49, s48) hr47) ?_
    change zEv d 201 114 [some (zR 8 0), some (zI x1), some (zI x2)] [zI r49] s48 _
    refine ev_s i201_114 (p := 115) rfl ?_
    obtain ⟨r51, hr50, h⟩ := bd_some h
    refine ev_callV i201_115 zc8_273 zm199 zo199 (as' := []) (rest := [zI r49]) rfl rfl (Nat.le_of_ble_eq_true rfl) (Nat.le_of_ble_eq_true rfl) (Nat.le_of_ble_eq_true rfl) (by omega) (l0 := [some (zR 8 0)]) rfl (p := 118) rfl (kM_mNow s48 r51 hr50 (d - 1) (by omega)) ?_
    change zEv d 201 118 [some (zR 8 0), some (zI x1), some (zI x2)] [zI r51, zI r49] s48 _
    refine ev_s i201_118 (p := 119) (t := [zI (r49 + r51)]) rfl ?_
    obtain rfl := Option.some.inj h
    exact ev_iret i201_119 zr201
  refine ev_tsw i201_1 (by decide) (t := 120) (by show (1 : Int) + zsw x1 (0) [43, 119, 61, 119, 119, 79, 97] (119) = 120; rw [zsw_st c8 (by decide), zsw_st c14 (by decide), zsw_st c22 (by decide), zsw_st c28 (by decide), zsw_st c34 (by decide), zsw_st c42 (by decide), zsw_st c52 (by decide)]; rfl) ?_
  refine ev_s i201_120 (p := 121) rfl ?_
  refine ev_s i201_121 (p := 122) rfl ?_
  obtain ⟨r54, hr53, h⟩ := bd_some h
  refine ev_callS i201_122 zn8_197 zc8_197 zm197 (as := [zI x1]) (rest := [zR 8 0]) rfl rfl (Nat.le_of_ble_eq_true rfl) (Nat.le_of_ble_eq_true rfl) (Nat.le_of_ble_eq_true rfl) (by omega) (l0 := [some (zI x1)]) rfl (p := 125) rfl (kM_above x1 σ r54 hr53 (d - 1) (by omega)) ?_
  change zEv d 201 125 [some (zR 8 0), some (zI x1), some (zI x2)] [zI r54, zR 8 0] σ _
  refine ev_s i201_125 (p := 126) rfl ?_
  obtain ⟨r57, s56, hr55, h⟩ := b2_some h
  refine ev_callV i201_126 zc8_270 zm201 zo201 (as' := [zI r54, zI x2]) (rest := []) rfl rfl (Nat.le_of_ble_eq_true rfl) (Nat.le_of_ble_eq_true rfl) (Nat.le_of_ble_eq_true rfl) (by omega) (l0 := [some (zR 8 0), some (zI r54), some (zI x2)]) rfl (p := 129) rfl (hP201 r54 x2 σ (r57, s56) hr55) ?_
  change zEv d 201 129 [some (zR 8 0), some (zI x1), some (zI x2)] [zI r57] s56 _
  obtain rfl := Option.some.inj h
  exact ev_iret i201_129 zr201
def gM_letsAs (G : Nat) : Nat → (Int32 → Int32 → zS → Option (Int32 × zS))
  | 0 => (fun _ _ _ => none)
  | n + 1 => fM_letsAs_b G (gM_letsAs G n)
def fM_letsAs (G : Nat) (n : Nat) (x1 : Int32) (x2 : Int32) (σ : zS) : Option (Int32 × zS) := (gM_letsAs G n) x1 x2 σ
set_option maxHeartbeats 4000000 in
theorem kgM_letsAs (G : Nat) : ∀ n d : Nat, 2 + 1 * G + n ≤ d → (∀ (x1 : Int32) (x2 : Int32) (σ : zS) (w : Int32 × zS), (gM_letsAs G n) x1 x2 σ = some w → zEv d 201 0 [some (zR 8 0), some (zI x1), some (zI x2)] [] σ (some (zI w.1), w.2)) := by
  intro n
  induction n with
  | zero =>
    intro d _
    exact (fun _ _ _ _ h => absurd h (by simp [gM_letsAs]))
  | succ n ih =>
    intro d hd
    have ih2 := ih (d - 1) (by omega)
    exact (fun x1 x2 σ w h => kM_letsAs_b G (gM_letsAs G n) x1 x2 σ w d (by omega) (by omega) ih2 h)
set_option maxHeartbeats 4000000 in
theorem kM_letsAs (G : Nat) (n : Nat) (x1 : Int32) (x2 : Int32) (σ : zS) (w : Int32 × zS) (h : fM_letsAs G n x1 x2 σ = some w) (d : Nat) (hd : 2 + 1 * G + n ≤ d) : zEv d 201 0 [some (zR 8 0), some (zI x1), some (zI x2)] [] σ (some (zI w.1), w.2) :=
  (kgM_letsAs G n d hd) x1 x2 σ w h
/-! fM_pullsAs -/
def fM_pullsAs_b (G : Nat) (P202 : Int32 → Int32 → zS → Option (Int32 × zS)) (x1 : Int32) (x2 : Int32) (σ : zS) : Option (Int32 × zS) := (if x1 = 0 then (fM_begins 12 σ).bind fun s2 => (fM_kindNow s2).bind fun r4 => zb2 (fM_letsAs G G r4 x2 s2) fun r7 s6 => (fM_mNow s6).bind fun r9 => some (r7 - r9, s6) else (if x1 = 1 then (fM_above x1).bind fun r12 => zb2 (P202 r12 x2 σ) fun r15 s14 => some (r15, s14) else (if x1 = 2 then (fM_above x1).bind fun r18 => zb2 (P202 r18 x2 σ) fun r21 s20 => some (r21, s20) else (if x1 = 3 then (fM_begins 40 σ).bind fun s24 => (fM_above 3).bind fun r26 => zb2 (P202 r26 (x2 / 2) s24) fun r29 s28 => some (r29, s28) else (if x1 = 4 then (fM_begins 51 σ).bind fun s32 => (fM_above 4).bind fun r34 => zb2 (P202 r34 x2 s32) fun r37 s36 => some (r37 ^^^ (s36 8 0 16), s36) else (fM_above x1).bind fun r40 => zb2 (P202 r40 x2 σ) fun r43 s42 => some (r43, s42))))))
set_option maxHeartbeats 4000000 in
theorem kM_pullsAs_b (G : Nat) (P202 : Int32 → Int32 → zS → Option (Int32 × zS)) (x1 : Int32) (x2 : Int32) (σ : zS) (w : Int32 × zS) (d : Nat) (hd : 0 ≤ d) (hd1 : 3 + 2 * G + 1 ≤ d) (hP202 : ∀ (x1 : Int32) (x2 : Int32) (σ : zS) (w : Int32 × zS), P202 x1 x2 σ = some w → zEv (d - 1) 202 0 [some (zR 8 0), some (zI x1), some (zI x2)] [] σ (some (zI w.1), w.2)) (h : fM_pullsAs_b G P202 x1 x2 σ = some w) : zEv d 202 0 [some (zR 8 0), some (zI x1), some (zI x2)] [] σ (some (zI w.1), w.2) := by
  unfold fM_pullsAs_b at h
  refine ev_s i202_0 (p := 1) rfl ?_
  refine ev_sel h (fun c10 h => ?_) (fun c10 h => ?_)
  · refine ev_tsw i202_1 (by decide) (t := 36) (by rw [c10]; decide) ?_
    refine ev_s i202_36 (p := 37) rfl ?_
    refine ev_s i202_37 (p := 39) (zib_12 _ _ _ _ _) ?_
    obtain ⟨s2, hr1, h⟩ := bd_some h
    refine ev_callV i202_39 zc8_261 zm196 zo196 (as' := [zI 12]) (rest := []) rfl rfl (Nat.le_of_ble_eq_true rfl) (Nat.le_of_ble_eq_true rfl) (Nat.le_of_ble_eq_true rfl) (by omega) (l0 := [some (zR 8 0), some (zI 12)]) rfl (p := 42) rfl (kM_begins 12 σ s2 hr1 (d - 1) (by omega)) ?_
    change zEv d 202 42 [some (zR 8 0), some (zI x1), some (zI x2)] [] s2 _
    refine ev_s i202_42 (p := 43) rfl ?_
    refine ev_s i202_43 (p := 44) rfl ?_
    obtain ⟨r4, hr3, h⟩ := bd_some h
    refine ev_callV i202_44 zc8_267 zm198 zo198 (as' := []) (rest := [zR 8 0]) rfl rfl (Nat.le_of_ble_eq_true rfl) (Nat.le_of_ble_eq_true rfl) (Nat.le_of_ble_eq_true rfl) (by omega) (l0 := [some (zR 8 0)]) rfl (p := 47) rfl (kM_kindNow s2 r4 hr3 (d - 1) (by omega)) ?_
    change zEv d 202 47 [some (zR 8 0), some (zI x1), some (zI x2)] [zI r4, zR 8 0] s2 _
    refine ev_s i202_47 (p := 48) rfl ?_
    obtain ⟨r7, s6, hr5, h⟩ := b2_some h
    refine ev_callV i202_48 zc8_270 zm201 zo201 (as' := [zI r4, zI x2]) (rest := []) rfl rfl (Nat.le_of_ble_eq_true rfl) (Nat.le_of_ble_eq_true rfl) (Nat.le_of_ble_eq_true rfl) (by omega) (l0 := [some (zR 8 0), some (zI r4), some (zI x2)]) rfl (p := 51) rfl (kM_letsAs G G r4 x2 s2 (r7, s6) hr5 (d - 1) (by omega)) ?_
    change zEv d 202 51 [some (zR 8 0), some (zI x1), some (zI x2)] [zI r7] s6 _
    refine ev_s i202_51 (p := 52) rfl ?_
    obtain ⟨r9, hr8, h⟩ := bd_some h
    refine ev_callV i202_52 zc8_273 zm199 zo199 (as' := []) (rest := [zI r7]) rfl rfl (Nat.le_of_ble_eq_true rfl) (Nat.le_of_ble_eq_true rfl) (Nat.le_of_ble_eq_true rfl) (by omega) (l0 := [some (zR 8 0)]) rfl (p := 55) rfl (kM_mNow s6 r9 hr8 (d - 1) (by omega)) ?_
    change zEv d 202 55 [some (zR 8 0), some (zI x1), some (zI x2)] [zI r9, zI r7] s6 _
    refine ev_s i202_55 (p := 56) (t := [zI (r7 - r9)]) rfl ?_
    obtain rfl := Option.some.inj h
    exact ev_iret i202_56 zr202
  refine ev_sel h (fun c16 h => ?_) (fun c16 h => ?_)
  · refine ev_tsw i202_1 (by decide) (t := 96) (by rw [c16]; decide) ?_
    refine ev_s i202_96 (p := 97) rfl ?_
    refine ev_s i202_97 (p := 98) rfl ?_
    obtain ⟨r12, hr11, h⟩ := bd_some h
    refine ev_callS i202_98 zn8_197 zc8_197 zm197 (as := [zI x1]) (rest := [zR 8 0]) rfl rfl (Nat.le_of_ble_eq_true rfl) (Nat.le_of_ble_eq_true rfl) (Nat.le_of_ble_eq_true rfl) (by omega) (l0 := [some (zI x1)]) rfl (p := 101) rfl (kM_above x1 σ r12 hr11 (d - 1) (by omega)) ?_
    change zEv d 202 101 [some (zR 8 0), some (zI x1), some (zI x2)] [zI r12, zR 8 0] σ _
    refine ev_s i202_101 (p := 102) rfl ?_
    obtain ⟨r15, s14, hr13, h⟩ := b2_some h
    refine ev_callV i202_102 zc8_276 zm202 zo202 (as' := [zI r12, zI x2]) (rest := []) rfl rfl (Nat.le_of_ble_eq_true rfl) (Nat.le_of_ble_eq_true rfl) (Nat.le_of_ble_eq_true rfl) (by omega) (l0 := [some (zR 8 0), some (zI r12), some (zI x2)]) rfl (p := 105) rfl (hP202 r12 x2 σ (r15, s14) hr13) ?_
    change zEv d 202 105 [some (zR 8 0), some (zI x1), some (zI x2)] [zI r15] s14 _
    obtain rfl := Option.some.inj h
    exact ev_iret i202_105 zr202
  refine ev_sel h (fun c22 h => ?_) (fun c22 h => ?_)
  · refine ev_tsw i202_1 (by decide) (t := 96) (by rw [c22]; decide) ?_
    refine ev_s i202_96 (p := 97) rfl ?_
    refine ev_s i202_97 (p := 98) rfl ?_
    obtain ⟨r18, hr17, h⟩ := bd_some h
    refine ev_callS i202_98 zn8_197 zc8_197 zm197 (as := [zI x1]) (rest := [zR 8 0]) rfl rfl (Nat.le_of_ble_eq_true rfl) (Nat.le_of_ble_eq_true rfl) (Nat.le_of_ble_eq_true rfl) (by omega) (l0 := [some (zI x1)]) rfl (p := 101) rfl (kM_above x1 σ r18 hr17 (d - 1) (by omega)) ?_
    change zEv d 202 101 [some (zR 8 0), some (zI x1), some (zI x2)] [zI r18, zR 8 0] σ _
    refine ev_s i202_101 (p := 102) rfl ?_
    obtain ⟨r21, s20, hr19, h⟩ := b2_some h
    refine ev_callV i202_102 zc8_276 zm202 zo202 (as' := [zI r18, zI x2]) (rest := []) rfl rfl (Nat.le_of_ble_eq_true rfl) (Nat.le_of_ble_eq_true rfl) (Nat.le_of_ble_eq_true rfl) (by omega) (l0 := [some (zR 8 0), some (zI r18), some (zI x2)]) rfl (p := 105) rfl (hP202 r18 x2 σ (r21, s20) hr19) ?_
    change zEv d 202 105 [some (zR 8 0), some (zI x1), some (zI x2)] [zI r21] s20 _
    obtain rfl := Option.some.inj h
    exact ev_iret i202_105 zr202
  refine ev_sel h (fun c30 h => ?_) (fun c30 h => ?_)
  · refine ev_tsw i202_1 (by decide) (t := 57) (by rw [c30]; decide) ?_
    refine ev_s i202_57 (p := 58) rfl ?_
    refine ev_s i202_58 (p := 60) (zib_40 _ _ _ _ _) ?_
    obtain ⟨s24, hr23, h⟩ := bd_some h
    refine ev_callV i202_60 zc8_261 zm196 zo196 (as' := [zI 40]) (rest := []) rfl rfl (Nat.le_of_ble_eq_true rfl) (Nat.le_of_ble_eq_true rfl) (Nat.le_of_ble_eq_true rfl) (by omega) (l0 := [some (zR 8 0), some (zI 40)]) rfl (p := 63) rfl (kM_begins 40 σ s24 hr23 (d - 1) (by omega)) ?_
    change zEv d 202 63 [some (zR 8 0), some (zI x1), some (zI x2)] [] s24 _
    refine ev_s i202_63 (p := 64) rfl ?_
    refine ev_s i202_64 (p := 65) (zic_3 _ _ _ _ _) ?_
    obtain ⟨r26, hr25, h⟩ := bd_some h
    refine ev_callS i202_65 zn8_197 zc8_197 zm197 (as := [zI 3]) (rest := [zR 8 0]) rfl rfl (Nat.le_of_ble_eq_true rfl) (Nat.le_of_ble_eq_true rfl) (Nat.le_of_ble_eq_true rfl) (by omega) (l0 := [some (zI 3)]) rfl (p := 68) rfl (kM_above 3 s24 r26 hr25 (d - 1) (by omega)) ?_
    change zEv d 202 68 [some (zR 8 0), some (zI x1), some (zI x2)] [zI r26, zR 8 0] s24 _
    refine ev_s i202_68 (p := 69) rfl ?_
    refine ev_s i202_69 (p := 70) (zic_2 _ _ _ _ _) ?_
    refine ev_idivK i202_70 (p := 71) rfl (by decide) ?_
    obtain ⟨r29, s28, hr27, h⟩ := b2_some h
    refine ev_callV i202_71 zc8_276 zm202 zo202 (as' := [zI r26, zI (x2 / 2)]) (rest := []) rfl rfl (Nat.le_of_ble_eq_true rfl) (Nat.le_of_ble_eq_true rfl) (Nat.le_of_ble_eq_true rfl) (by omega) (l0 := [some (zR 8 0), some (zI r26), some (zI (x2 / 2))]) rfl (p := 74) rfl (hP202 r26 (x2 / 2) s24 (r29, s28) hr27) ?_
    change zEv d 202 74 [some (zR 8 0), some (zI x1), some (zI x2)] [zI r29] s28 _
    obtain rfl := Option.some.inj h
    exact ev_iret i202_74 zr202
  refine ev_sel h (fun c38 h => ?_) (fun c38 h => ?_)
  · refine ev_tsw i202_1 (by decide) (t := 75) (by rw [c38]; decide) ?_
    refine ev_s i202_75 (p := 76) rfl ?_
    refine ev_s i202_76 (p := 78) (zib_51 _ _ _ _ _) ?_
    obtain ⟨s32, hr31, h⟩ := bd_some h
    refine ev_callV i202_78 zc8_261 zm196 zo196 (as' := [zI 51]) (rest := []) rfl rfl (Nat.le_of_ble_eq_true rfl) (Nat.le_of_ble_eq_true rfl) (Nat.le_of_ble_eq_true rfl) (by omega) (l0 := [some (zR 8 0), some (zI 51)]) rfl (p := 81) rfl (kM_begins 51 σ s32 hr31 (d - 1) (by omega)) ?_
    change zEv d 202 81 [some (zR 8 0), some (zI x1), some (zI x2)] [] s32 _
    refine ev_s i202_81 (p := 82) rfl ?_
    refine ev_s i202_82 (p := 83) (zic_4 _ _ _ _ _) ?_
    obtain ⟨r34, hr33, h⟩ := bd_some h
    refine ev_callS i202_83 zn8_197 zc8_197 zm197 (as := [zI 4]) (rest := [zR 8 0]) rfl rfl (Nat.le_of_ble_eq_true rfl) (Nat.le_of_ble_eq_true rfl) (Nat.le_of_ble_eq_true rfl) (by omega) (l0 := [some (zI 4)]) rfl (p := 86) rfl (kM_above 4 s32 r34 hr33 (d - 1) (by omega)) ?_
    change zEv d 202 86 [some (zR 8 0), some (zI x1), some (zI x2)] [zI r34, zR 8 0] s32 _
    refine ev_s i202_86 (p := 87) rfl ?_
    obtain ⟨r37, s36, hr35, h⟩ := b2_some h
    refine ev_callV i202_87 zc8_276 zm202 zo202 (as' := [zI r34, zI x2]) (rest := []) rfl rfl (Nat.le_of_ble_eq_true rfl) (Nat.le_of_ble_eq_true rfl) (Nat.le_of_ble_eq_true rfl) (by omega) (l0 := [some (zR 8 0), some (zI r34), some (zI x2)]) rfl (p := 90) rfl (hP202 r34 x2 s32 (r37, s36) hr35) ?_
    change zEv d 202 90 [some (zR 8 0), some (zI x1), some (zI x2)] [zI r37] s36 _
    refine ev_s i202_90 (p := 91) rfl ?_
    refine ev_getf i202_91 zf8_258 (u := zI (s36 8 0 16)) rfl (p := 94) rfl ?_
    refine ev_s i202_94 (p := 95) (t := [zI (r37 ^^^ (s36 8 0 16))]) rfl ?_
    obtain rfl := Option.some.inj h
    exact ev_iret i202_95 zr202
  refine ev_tsw i202_1 (by decide) (t := 96) (by show (1 : Int) + zsw x1 (0) [35, 95, 95, 56, 74] (95) = 96; rw [zsw_st c10 (by decide), zsw_st c16 (by decide), zsw_st c22 (by decide), zsw_st c30 (by decide), zsw_st c38 (by decide)]; rfl) ?_
  refine ev_s i202_96 (p := 97) rfl ?_
  refine ev_s i202_97 (p := 98) rfl ?_
  obtain ⟨r40, hr39, h⟩ := bd_some h
  refine ev_callS i202_98 zn8_197 zc8_197 zm197 (as := [zI x1]) (rest := [zR 8 0]) rfl rfl (Nat.le_of_ble_eq_true rfl) (Nat.le_of_ble_eq_true rfl) (Nat.le_of_ble_eq_true rfl) (by omega) (l0 := [some (zI x1)]) rfl (p := 101) rfl (kM_above x1 σ r40 hr39 (d - 1) (by omega)) ?_
  change zEv d 202 101 [some (zR 8 0), some (zI x1), some (zI x2)] [zI r40, zR 8 0] σ _
  refine ev_s i202_101 (p := 102) rfl ?_
  obtain ⟨r43, s42, hr41, h⟩ := b2_some h
  refine ev_callV i202_102 zc8_276 zm202 zo202 (as' := [zI r40, zI x2]) (rest := []) rfl rfl (Nat.le_of_ble_eq_true rfl) (Nat.le_of_ble_eq_true rfl) (Nat.le_of_ble_eq_true rfl) (by omega) (l0 := [some (zR 8 0), some (zI r40), some (zI x2)]) rfl (p := 105) rfl (hP202 r40 x2 σ (r43, s42) hr41) ?_
  change zEv d 202 105 [some (zR 8 0), some (zI x1), some (zI x2)] [zI r43] s42 _
  obtain rfl := Option.some.inj h
  exact ev_iret i202_105 zr202
def gM_pullsAs (G : Nat) : Nat → (Int32 → Int32 → zS → Option (Int32 × zS))
  | 0 => (fun _ _ _ => none)
  | n + 1 => fM_pullsAs_b G (gM_pullsAs G n)
def fM_pullsAs (G : Nat) (n : Nat) (x1 : Int32) (x2 : Int32) (σ : zS) : Option (Int32 × zS) := (gM_pullsAs G n) x1 x2 σ
set_option maxHeartbeats 4000000 in
theorem kgM_pullsAs (G : Nat) : ∀ n d : Nat, 3 + 2 * G + n ≤ d → (∀ (x1 : Int32) (x2 : Int32) (σ : zS) (w : Int32 × zS), (gM_pullsAs G n) x1 x2 σ = some w → zEv d 202 0 [some (zR 8 0), some (zI x1), some (zI x2)] [] σ (some (zI w.1), w.2)) := by
  intro n
  induction n with
  | zero =>
    intro d _
    exact (fun _ _ _ _ h => absurd h (by simp [gM_pullsAs]))
  | succ n ih =>
    intro d hd
    have ih2 := ih (d - 1) (by omega)
    exact (fun x1 x2 σ w h => kM_pullsAs_b G (gM_pullsAs G n) x1 x2 σ w d (by omega) (by omega) ih2 h)
set_option maxHeartbeats 4000000 in
theorem kM_pullsAs (G : Nat) (n : Nat) (x1 : Int32) (x2 : Int32) (σ : zS) (w : Int32 × zS) (h : fM_pullsAs G n x1 x2 σ = some w) (d : Nat) (hd : 3 + 2 * G + n ≤ d) : zEv d 202 0 [some (zR 8 0), some (zI x1), some (zI x2)] [] σ (some (zI w.1), w.2) :=
  (kgM_pullsAs G n d hd) x1 x2 σ w h
/-! fM_partsAs -/
def fM_partsAs_J54 (G : Nat) (P203 : Int32 → Int32 → zS → Option (Int32 × zS)) (y2 : Int32) (y3 : Int32) (u0 : Int32) (σ : zS) : Option (Int32 × zS) := zgd (u0 = 0 ∨ u0 = 1) <| zlt (zup σ 8 0 17 u0) fun s27 => (if y3 = 0 then some (0, s27) else (if y3 = (-1) then some ((-y2), s27) else zgd (¬ y3 = 0) (some (y2 / y3, s27))))
set_option maxHeartbeats 4000000 in
theorem kM_partsAs_J54 (G : Nat) (P203 : Int32 → Int32 → zS → Option (Int32 × zS)) (d : Nat) (hd : 0 ≤ d) (hd1 : 3 + 2 * G + 1 ≤ d) (hP203 : ∀ (x1 : Int32) (x2 : Int32) (σ : zS) (w : Int32 × zS), P203 x1 x2 σ = some w → zEv (d - 1) 203 0 [some (zR 8 0), some (zI x1), some (zI x2), none, none] [] σ (some (zI w.1), w.2)) : ∀ (y2 : Int32) (y3 : Int32) (u0 : Int32) (σ : zS) (w : Int32 × zS) (z0 : Option zA) (z1 : Option zA) (z4 : Option zA), fM_partsAs_J54 G P203 y2 y3 u0 σ = some w → zEv d 203 54 [z0, z1, some (zI y2), some (zI y3), z4] [zI u0, zR 8 0] σ (some (zI w.1), w.2) := by
  intro y2 y3 u0 σ w z0 z1 z4 h
  unfold fM_partsAs_J54 at h
  refine ev_putz i203_54 zf8_279 rfl rfl (p := 57) rfl h (fun g28 h => ?_)
  refine ev_lets h (fun s27 es27 h => ?_)
  refine ev_s i203_57 (p := 58) rfl ?_
  refine ev_ifne i203_58 (t := 65) (by decide) (p := 61) rfl h (fun c29 h => ?_) (fun c29 h => ?_)
  · refine ev_s i203_61 (p := 62) (zic_0 _ _ _ _ _) ?_
    refine ev_goto i203_62 (t := 78) (by decide) ?_
    obtain rfl := Option.some.inj h
    exact ev_iret i203_78 zr203
  · refine ev_s i203_65 (p := 66) rfl ?_
    refine ev_s i203_66 (p := 67) (zic_m1 _ _ _ _ _) ?_
    refine ev_cmpne i203_67 (t := 75) (by decide) (p := 70) rfl h (fun c30 h => ?_) (fun c30 h => ?_)
    · refine ev_s i203_70 (p := 71) rfl ?_
      refine ev_s i203_71 (p := 72) rfl ?_
      refine ev_goto i203_72 (t := 78) (by decide) ?_
      obtain rfl := Option.some.inj h
      exact ev_iret i203_78 zr203
    · refine ev_s i203_75 (p := 76) rfl ?_
      refine ev_s i203_76 (p := 77) rfl ?_
      refine ev_idiv i203_77 (p := 78) rfl h (fun g31 h => ?_)
      obtain rfl := Option.some.inj h
      exact ev_iret i203_78 zr203
def fM_partsAs_b (G : Nat) (P203 : Int32 → Int32 → zS → Option (Int32 × zS)) (x1 : Int32) (x2 : Int32) (σ : zS) : Option (Int32 × zS) := (if x1 = 0 then (fM_begins 13 σ).bind fun s2 => (fM_mNow s2).bind fun r4 => zlt (r4 - (s2 8 0 16)) fun v5 => (if v5 = 0 then fM_partsAs_J54 G P203 x2 v5 1 s2 else fM_partsAs_J54 G P203 x2 v5 0 s2) else (if x1 = 1 then (fM_begins 21 σ).bind fun s9 => (fM_above 1).bind fun r11 => zb2 (P203 r11 x2 s9) fun r14 s13 => (if (s13 8 0 17) = 0 then (fM_kindNow s13).bind fun r17 => zb2 (fM_letsAs G G r17 1 s13) fun r20 s19 => some (r14 + r20, s19) else some (0, s13)) else (fM_above x1).bind fun r23 => zb2 (P203 r23 x2 σ) fun r26 s25 => some (r26, s25)))
set_option maxHeartbeats 4000000 in
theorem kM_partsAs_b (G : Nat) (P203 : Int32 → Int32 → zS → Option (Int32 × zS)) (x1 : Int32) (x2 : Int32) (σ : zS) (w : Int32 × zS) (d : Nat) (hd : 0 ≤ d) (hd1 : 3 + 2 * G + 1 ≤ d) (hP203 : ∀ (x1 : Int32) (x2 : Int32) (σ : zS) (w : Int32 × zS), P203 x1 x2 σ = some w → zEv (d - 1) 203 0 [some (zR 8 0), some (zI x1), some (zI x2), none, none] [] σ (some (zI w.1), w.2)) (h : fM_partsAs_b G P203 x1 x2 σ = some w) : zEv d 203 0 [some (zR 8 0), some (zI x1), some (zI x2), none, none] [] σ (some (zI w.1), w.2) := by
  unfold fM_partsAs_b at h
  refine ev_s i203_0 (p := 1) rfl ?_
  refine ev_sel h (fun c7 h => ?_) (fun c7 h => ?_)
  · refine ev_lsw i203_1 (by decide) (t := 28) (by rw [c7]; decide) ?_
    refine ev_s i203_28 (p := 29) rfl ?_
    refine ev_s i203_29 (p := 31) (zib_13 _ _ _ _ _) ?_
    obtain ⟨s2, hr1, h⟩ := bd_some h
    refine ev_callV i203_31 zc8_261 zm196 zo196 (as' := [zI 13]) (rest := []) rfl rfl (Nat.le_of_ble_eq_true rfl) (Nat.le_of_ble_eq_true rfl) (Nat.le_of_ble_eq_true rfl) (by omega) (l0 := [some (zR 8 0), some (zI 13)]) rfl (p := 34) rfl (kM_begins 13 σ s2 hr1 (d - 1) (by omega)) ?_
    change zEv d 203 34 [some (zR 8 0), some (zI x1), some (zI x2), none, none] [] s2 _
    refine ev_s i203_34 (p := 35) rfl ?_
    obtain ⟨r4, hr3, h⟩ := bd_some h
    refine ev_callV i203_35 zc8_273 zm199 zo199 (as' := []) (rest := []) rfl rfl (Nat.le_of_ble_eq_true rfl) (Nat.le_of_ble_eq_true rfl) (Nat.le_of_ble_eq_true rfl) (by omega) (l0 := [some (zR 8 0)]) rfl (p := 38) rfl (kM_mNow s2 r4 hr3 (d - 1) (by omega)) ?_
    change zEv d 203 38 [some (zR 8 0), some (zI x1), some (zI x2), none, none] [zI r4] s2 _
    refine ev_s i203_38 (p := 39) rfl ?_
    refine ev_getf i203_39 zf8_258 (u := zI (s2 8 0 16)) rfl (p := 42) rfl ?_
    refine ev_s i203_42 (p := 43) (t := [zI (r4 - (s2 8 0 16))]) rfl ?_
    refine ev_let h (fun v5 ev5 h => ?_)
    refine ev_s i203_43 (p := 44) (l := [some (zR 8 0), some (zI x1), some (zI x2), some (zI v5), none]) rfl ?_
    refine ev_s i203_44 (p := 45) rfl ?_
    refine ev_s i203_45 (p := 46) rfl ?_
    refine ev_ifne i203_46 (t := 53) (by decide) (p := 49) rfl h (fun c6 h => ?_) (fun c6 h => ?_)
    · refine ev_s i203_49 (p := 50) (zic_1 _ _ _ _ _) ?_
      refine ev_goto i203_50 (t := 54) (by decide) ?_
      exact kM_partsAs_J54 G P203 d hd hd1 hP203 x2 v5 1 s2 w _ _ _ h
    · refine ev_s i203_53 (p := 54) (zic_0 _ _ _ _ _) ?_
      exact kM_partsAs_J54 G P203 d hd hd1 hP203 x2 v5 0 s2 w _ _ _ h
  refine ev_sel h (fun c21 h => ?_) (fun c21 h => ?_)
  · refine ev_lsw i203_1 (by decide) (t := 79) (by rw [c21]; decide) ?_
    refine ev_s i203_79 (p := 80) rfl ?_
    refine ev_s i203_80 (p := 82) (zib_21 _ _ _ _ _) ?_
    obtain ⟨s9, hr8, h⟩ := bd_some h
    refine ev_callV i203_82 zc8_261 zm196 zo196 (as' := [zI 21]) (rest := []) rfl rfl (Nat.le_of_ble_eq_true rfl) (Nat.le_of_ble_eq_true rfl) (Nat.le_of_ble_eq_true rfl) (by omega) (l0 := [some (zR 8 0), some (zI 21)]) rfl (p := 85) rfl (kM_begins 21 σ s9 hr8 (d - 1) (by omega)) ?_
    change zEv d 203 85 [some (zR 8 0), some (zI x1), some (zI x2), none, none] [] s9 _
    refine ev_s i203_85 (p := 86) rfl ?_
    refine ev_s i203_86 (p := 87) (zic_1 _ _ _ _ _) ?_
    obtain ⟨r11, hr10, h⟩ := bd_some h
    refine ev_callS i203_87 zn8_197 zc8_197 zm197 (as := [zI 1]) (rest := [zR 8 0]) rfl rfl (Nat.le_of_ble_eq_true rfl) (Nat.le_of_ble_eq_true rfl) (Nat.le_of_ble_eq_true rfl) (by omega) (l0 := [some (zI 1)]) rfl (p := 90) rfl (kM_above 1 s9 r11 hr10 (d - 1) (by omega)) ?_
    change zEv d 203 90 [some (zR 8 0), some (zI x1), some (zI x2), none, none] [zI r11, zR 8 0] s9 _
    refine ev_s i203_90 (p := 91) rfl ?_
    obtain ⟨r14, s13, hr12, h⟩ := b2_some h
    refine ev_callV i203_91 zc8_283 zm203 zo203 (as' := [zI r11, zI x2]) (rest := []) rfl rfl (Nat.le_of_ble_eq_true rfl) (Nat.le_of_ble_eq_true rfl) (Nat.le_of_ble_eq_true rfl) (by omega) (l0 := [some (zR 8 0), some (zI r11), some (zI x2), none, none]) rfl (p := 94) rfl (hP203 r11 x2 s9 (r14, s13) hr12) ?_
    change zEv d 203 94 [some (zR 8 0), some (zI x1), some (zI x2), none, none] [zI r14] s13 _
    refine ev_s i203_94 (p := 96) (l := [some (zR 8 0), some (zI x1), some (zI x2), none, some (zI r14)]) rfl ?_
    refine ev_s i203_96 (p := 97) rfl ?_
    refine ev_getf i203_97 zf8_279 (u := zI (s13 8 0 17)) rfl (p := 100) rfl ?_
    refine ev_ifeq i203_100 (t := 107) (by decide) (p := 103) rfl h (fun c15 h => ?_) (fun c15 h => ?_)
    · refine ev_s i203_107 (p := 109) rfl ?_
      refine ev_s i203_109 (p := 110) rfl ?_
      refine ev_s i203_110 (p := 111) rfl ?_
      obtain ⟨r17, hr16, h⟩ := bd_some h
      refine ev_callV i203_111 zc8_267 zm198 zo198 (as' := []) (rest := [zR 8 0, zI r14]) rfl rfl (Nat.le_of_ble_eq_true rfl) (Nat.le_of_ble_eq_true rfl) (Nat.le_of_ble_eq_true rfl) (by omega) (l0 := [some (zR 8 0)]) rfl (p := 114) rfl (kM_kindNow s13 r17 hr16 (d - 1) (by omega)) ?_
      change zEv d 203 114 [some (zR 8 0), some (zI x1), some (zI x2), none, some (zI r14)] [zI r17, zR 8 0, zI r14] s13 _
      refine ev_s i203_114 (p := 115) (zic_1 _ _ _ _ _) ?_
      obtain ⟨r20, s19, hr18, h⟩ := b2_some h
      refine ev_callV i203_115 zc8_270 zm201 zo201 (as' := [zI r17, zI 1]) (rest := [zI r14]) rfl rfl (Nat.le_of_ble_eq_true rfl) (Nat.le_of_ble_eq_true rfl) (Nat.le_of_ble_eq_true rfl) (by omega) (l0 := [some (zR 8 0), some (zI r17), some (zI 1)]) rfl (p := 118) rfl (kM_letsAs G G r17 1 s13 (r20, s19) hr18 (d - 1) (by omega)) ?_
      change zEv d 203 118 [some (zR 8 0), some (zI x1), some (zI x2), none, some (zI r14)] [zI r20, zI r14] s19 _
      refine ev_s i203_118 (p := 119) (t := [zI (r14 + r20)]) rfl ?_
      obtain rfl := Option.some.inj h
      exact ev_iret i203_119 zr203
    · refine ev_s i203_103 (p := 104) (zic_0 _ _ _ _ _) ?_
      refine ev_goto i203_104 (t := 119) (by decide) ?_
      obtain rfl := Option.some.inj h
      exact ev_iret i203_119 zr203
  refine ev_lsw i203_1 (by decide) (t := 120) (by show (1 : Int) + zlk x1 [(0, 27), (1, 78)] (119) = 120; rw [zlk_st c7 (by decide), zlk_st c21 (by decide)]; rfl) ?_
  refine ev_s i203_120 (p := 121) rfl ?_
  refine ev_s i203_121 (p := 122) rfl ?_
  obtain ⟨r23, hr22, h⟩ := bd_some h
  refine ev_callS i203_122 zn8_197 zc8_197 zm197 (as := [zI x1]) (rest := [zR 8 0]) rfl rfl (Nat.le_of_ble_eq_true rfl) (Nat.le_of_ble_eq_true rfl) (Nat.le_of_ble_eq_true rfl) (by omega) (l0 := [some (zI x1)]) rfl (p := 125) rfl (kM_above x1 σ r23 hr22 (d - 1) (by omega)) ?_
  change zEv d 203 125 [some (zR 8 0), some (zI x1), some (zI x2), none, none] [zI r23, zR 8 0] σ _
  refine ev_s i203_125 (p := 126) rfl ?_
  obtain ⟨r26, s25, hr24, h⟩ := b2_some h
  refine ev_callV i203_126 zc8_283 zm203 zo203 (as' := [zI r23, zI x2]) (rest := []) rfl rfl (Nat.le_of_ble_eq_true rfl) (Nat.le_of_ble_eq_true rfl) (Nat.le_of_ble_eq_true rfl) (by omega) (l0 := [some (zR 8 0), some (zI r23), some (zI x2), none, none]) rfl (p := 129) rfl (hP203 r23 x2 σ (r26, s25) hr24) ?_
  change zEv d 203 129 [some (zR 8 0), some (zI x1), some (zI x2), none, none] [zI r26] s25 _
  obtain rfl := Option.some.inj h
  exact ev_iret i203_129 zr203
def gM_partsAs (G : Nat) : Nat → (Int32 → Int32 → zS → Option (Int32 × zS))
  | 0 => (fun _ _ _ => none)
  | n + 1 => fM_partsAs_b G (gM_partsAs G n)
def fM_partsAs (G : Nat) (n : Nat) (x1 : Int32) (x2 : Int32) (σ : zS) : Option (Int32 × zS) := (gM_partsAs G n) x1 x2 σ
set_option maxHeartbeats 4000000 in
theorem kgM_partsAs (G : Nat) : ∀ n d : Nat, 3 + 2 * G + n ≤ d → (∀ (x1 : Int32) (x2 : Int32) (σ : zS) (w : Int32 × zS), (gM_partsAs G n) x1 x2 σ = some w → zEv d 203 0 [some (zR 8 0), some (zI x1), some (zI x2), none, none] [] σ (some (zI w.1), w.2)) := by
  intro n
  induction n with
  | zero =>
    intro d _
    exact (fun _ _ _ _ h => absurd h (by simp [gM_partsAs]))
  | succ n ih =>
    intro d hd
    have ih2 := ih (d - 1) (by omega)
    exact (fun x1 x2 σ w h => kM_partsAs_b G (gM_partsAs G n) x1 x2 σ w d (by omega) (by omega) ih2 h)
set_option maxHeartbeats 4000000 in
theorem kM_partsAs (G : Nat) (n : Nat) (x1 : Int32) (x2 : Int32) (σ : zS) (w : Int32 × zS) (h : fM_partsAs G n x1 x2 σ = some w) (d : Nat) (hd : 3 + 2 * G + n ≤ d) : zEv d 203 0 [some (zR 8 0), some (zI x1), some (zI x2), none, none] [] σ (some (zI w.1), w.2) :=
  (kgM_partsAs G n d hd) x1 x2 σ w h
/-! fM_voice -/
def fM_voice_J95 (G : Nat) (u0 : Int32) (σ : zS) : Option (Int32 × zS) := (if (σ 8 0 17) = 0 then some (u0, σ) else zb2 (fM_error 6 σ) fun r33 s32 => some (r33, s32))
set_option maxHeartbeats 4000000 in
theorem kM_voice_J95 (G : Nat) (d : Nat) (hd : 4 + 3 * G ≤ d)  : ∀ (u0 : Int32) (σ : zS) (w : Int32 × zS) (z1 : Option zA) (z2 : Option zA) (z3 : Option zA) (hz3 : znl z3 = true) (z4 : Option zA) (hz4 : znl z4 = true) (z5 : Option zA), fM_voice_J95 G u0 σ = some w → zEv d 204 95 [some (zR 8 0), z1, z2, z3, z4, z5] [zI u0] σ (some (zI w.1), w.2) := by
  intro u0 σ w z1 z2 z3 hz3 z4 hz4 z5 h
  unfold fM_voice_J95 at h
  refine ev_s i204_95 (p := 97) (l := [some (zR 8 0), z1, z2, z3, z4, some (zI u0)]) (t := []) (s := σ) (by rcases z4 with _ | _ | _ | _ <;> first | rfl | cases hz4) ?_
  refine ev_s i204_97 (p := 98) rfl ?_
  refine ev_getf i204_98 zf8_279 (u := zI (σ 8 0 17)) rfl (p := 101) rfl ?_
  refine ev_ifeq i204_101 (t := 113) (by decide) (p := 104) rfl h (fun c30 h => ?_) (fun c30 h => ?_)
  · refine ev_s i204_113 (p := 115) rfl ?_
    obtain rfl := Option.some.inj h
    exact ev_iret i204_115 zr204
  · refine ev_s i204_104 (p := 105) rfl ?_
    refine ev_s i204_105 (p := 107) (zib_6 _ _ _ _ _) ?_
    obtain ⟨r33, s32, hr31, h⟩ := b2_some h
    refine ev_callV i204_107 zc8_58 zm110 zo110 (as' := [zI 6]) (rest := []) rfl rfl (Nat.le_of_ble_eq_true rfl) (Nat.le_of_ble_eq_true rfl) (Nat.le_of_ble_eq_true rfl) (by omega) (l0 := [some (zR 8 0), some (zI 6)]) rfl (p := 110) rfl (kM_error 6 σ (r33, s32) hr31 (d - 1) (by omega)) ?_
    change zEv d 204 110 [some (zR 8 0), z1, z2, z3, z4, some (zI u0)] [zI r33] s32 _
    refine ev_goto i204_110 (t := 115) (by decide) ?_
    obtain rfl := Option.some.inj h
    exact ev_iret i204_115 zr204
def fM_voice_J17 (G : Nat) (σ : zS) : Option (Int32 × zS) := zb2 (fM_error 1 σ) fun r29 s28 => some (r29, s28)
set_option maxHeartbeats 4000000 in
theorem kM_voice_J17 (G : Nat) (d : Nat) (hd : 4 + 3 * G ≤ d)  : ∀ (σ : zS) (w : Int32 × zS) (z1 : Option zA) (z2 : Option zA) (z3 : Option zA) (hz3 : znl z3 = true) (z4 : Option zA) (hz4 : znl z4 = true) (z5 : Option zA), fM_voice_J17 G σ = some w → zEv d 204 17 [some (zR 8 0), z1, z2, z3, z4, z5] [] σ (some (zI w.1), w.2) := by
  intro σ w z1 z2 z3 hz3 z4 hz4 z5 h
  unfold fM_voice_J17 at h
  refine ev_s i204_17 (p := 18) rfl ?_
  refine ev_s i204_18 (p := 19) (zic_1 _ _ _ _ _) ?_
  obtain ⟨r29, s28, hr27, h⟩ := b2_some h
  refine ev_callV i204_19 zc8_58 zm110 zo110 (as' := [zI 1]) (rest := []) rfl rfl (Nat.le_of_ble_eq_true rfl) (Nat.le_of_ble_eq_true rfl) (Nat.le_of_ble_eq_true rfl) (by omega) (l0 := [some (zR 8 0), some (zI 1)]) rfl (p := 22) rfl (kM_error 1 σ (r29, s28) hr27 (d - 1) (by omega)) ?_
  change zEv d 204 22 [some (zR 8 0), z1, z2, z3, z4, z5] [zI r29] s28 _
  obtain rfl := Option.some.inj h
  exact ev_iret i204_22 zr204
def fM_voice (G : Nat) (x1 : Int32) (x2 : Int32) (x3 : Int32) (σ : zS) : Option (Int32 × zS) := (fM_isOne x1 σ).bind fun r2 => (if r2 = 0 then fM_voice_J17 G σ else (fM_in x2 0 3).bind fun r5 => (if r5 = 0 then fM_voice_J17 G σ else zlt (zup σ 8 0 14 0) fun s7 => zlt (zup s7 8 0 16 x1) fun s8 => zlt (zup s8 8 0 17 0) fun s9 => (fM_kindNow s9).bind fun r11 => (if x2 = 0 then zb2 (fM_tiesAs G G r11 x3 s9) fun r15 s14 => fM_voice_J95 G r15 s14 else (if x2 = 1 then zb2 (fM_letsAs G G r11 x3 s9) fun r19 s18 => fM_voice_J95 G r19 s18 else (if x2 = 2 then zb2 (fM_pullsAs G G r11 x3 s9) fun r23 s22 => fM_voice_J95 G r23 s22 else zb2 (fM_partsAs G G r11 x3 s9) fun r26 s25 => fM_voice_J95 G r26 s25)))))
set_option maxHeartbeats 4000000 in
theorem kM_voice (G : Nat) (x1 : Int32) (x2 : Int32) (x3 : Int32) (σ : zS) (w : Int32 × zS) (h : fM_voice G x1 x2 x3 σ = some w) (d : Nat) (hd : 4 + 3 * G ≤ d) : zEv d 204 0 [some (zR 8 0), some (zI x1), some (zI x2), some (zI x3), none, none] [] σ (some (zI w.1), w.2) := by
  unfold fM_voice at h
  refine ev_s i204_0 (p := 1) rfl ?_
  refine ev_s i204_1 (p := 2) rfl ?_
  obtain ⟨r2, hr1, h⟩ := bd_some h
  refine ev_callV i204_2 zc8_194 zm116 zo116 (as' := [zI x1]) (rest := []) rfl rfl (Nat.le_of_ble_eq_true rfl) (Nat.le_of_ble_eq_true rfl) (Nat.le_of_ble_eq_true rfl) (by omega) (l0 := [some (zR 8 0), some (zI x1)]) rfl (p := 5) rfl (kM_isOne x1 σ r2 hr1 (d - 1) (by omega)) ?_
  change zEv d 204 5 [some (zR 8 0), some (zI x1), some (zI x2), some (zI x3), none, none] [zI r2] σ _
  refine ev_ifeq i204_5 (t := 17) (by decide) (p := 8) rfl h (fun c3 h => ?_) (fun c3 h => ?_)
  · exact kM_voice_J17 G d hd σ w _ _ _ rfl _ rfl _ h
  · refine ev_s i204_8 (p := 9) rfl ?_
    refine ev_s i204_9 (p := 10) (zic_0 _ _ _ _ _) ?_
    refine ev_s i204_10 (p := 11) (zic_3 _ _ _ _ _) ?_
    obtain ⟨r5, hr4, h⟩ := bd_some h
    refine ev_callS i204_11 zn8_50 zc8_50 zm111 (as := [zI x2, zI 0, zI 3]) (rest := []) rfl rfl (Nat.le_of_ble_eq_true rfl) (Nat.le_of_ble_eq_true rfl) (Nat.le_of_ble_eq_true rfl) (by omega) (l0 := [some (zI x2), some (zI 0), some (zI 3)]) rfl (p := 14) rfl (kM_in x2 0 3 σ r5 hr4 (d - 1) (by omega)) ?_
    change zEv d 204 14 [some (zR 8 0), some (zI x1), some (zI x2), some (zI x3), none, none] [zI r5] σ _
    refine ev_ifne i204_14 (t := 23) (by decide) (p := 17) rfl h (fun c6 h => ?_) (fun c6 h => ?_)
    · exact kM_voice_J17 G d hd σ w _ _ _ rfl _ rfl _ h
    · refine ev_s i204_23 (p := 24) rfl ?_
      refine ev_s i204_24 (p := 25) (zic_0 _ _ _ _ _) ?_
      refine ev_putf i204_25 zf8_255 rfl rfl rfl (p := 28) rfl ?_
      refine ev_lets h (fun s7 es7 h => ?_)
      refine ev_s i204_28 (p := 29) rfl ?_
      refine ev_s i204_29 (p := 30) rfl ?_
      refine ev_putf i204_30 zf8_258 rfl rfl rfl (p := 33) rfl ?_
      refine ev_lets h (fun s8 es8 h => ?_)
      refine ev_s i204_33 (p := 34) rfl ?_
      refine ev_s i204_34 (p := 35) (zic_0 _ _ _ _ _) ?_
      refine ev_putzK i204_35 zf8_279 rfl rfl (by decide) (p := 38) rfl ?_
      refine ev_lets h (fun s9 es9 h => ?_)
      refine ev_s i204_38 (p := 39) rfl ?_
      obtain ⟨r11, hr10, h⟩ := bd_some h
      refine ev_callV i204_39 zc8_267 zm198 zo198 (as' := []) (rest := []) rfl rfl (Nat.le_of_ble_eq_true rfl) (Nat.le_of_ble_eq_true rfl) (Nat.le_of_ble_eq_true rfl) (by omega) (l0 := [some (zR 8 0)]) rfl (p := 42) rfl (kM_kindNow s9 r11 hr10 (d - 1) (by omega)) ?_
      change zEv d 204 42 [some (zR 8 0), some (zI x1), some (zI x2), some (zI x3), none, none] [zI r11] s9 _
      refine ev_s i204_42 (p := 44) (l := [some (zR 8 0), some (zI x1), some (zI x2), some (zI x3), some (zI r11), none]) rfl ?_
      refine ev_s i204_44 (p := 45) rfl ?_
      refine ev_ifne i204_45 (t := 58) (by decide) (p := 48) rfl h (fun c12 h => ?_) (fun c12 h => ?_)
      · refine ev_s i204_48 (p := 49) rfl ?_
        refine ev_s i204_49 (p := 51) rfl ?_
        refine ev_s i204_51 (p := 52) rfl ?_
        obtain ⟨r15, s14, hr13, h⟩ := b2_some h
        refine ev_callV i204_52 zc8_264 zm200 zo200 (as' := [zI r11, zI x3]) (rest := []) rfl rfl (Nat.le_of_ble_eq_true rfl) (Nat.le_of_ble_eq_true rfl) (Nat.le_of_ble_eq_true rfl) (by omega) (l0 := [some (zR 8 0), some (zI r11), some (zI x3)]) rfl (p := 55) rfl (kM_tiesAs G G r11 x3 s9 (r15, s14) hr13 (d - 1) (by omega)) ?_
        change zEv d 204 55 [some (zR 8 0), some (zI x1), some (zI x2), some (zI x3), some (zI r11), none] [zI r15] s14 _
        refine ev_goto i204_55 (t := 95) (by decide) ?_
        exact kM_voice_J95 G d hd r15 s14 w _ _ _ rfl _ rfl _ h
      · refine ev_s i204_58 (p := 59) rfl ?_
        refine ev_s i204_59 (p := 60) (zic_1 _ _ _ _ _) ?_
        refine ev_cmpne i204_60 (t := 73) (by decide) (p := 63) rfl h (fun c16 h => ?_) (fun c16 h => ?_)
        · refine ev_s i204_63 (p := 64) rfl ?_
          refine ev_s i204_64 (p := 66) rfl ?_
          refine ev_s i204_66 (p := 67) rfl ?_
          obtain ⟨r19, s18, hr17, h⟩ := b2_some h
          refine ev_callV i204_67 zc8_270 zm201 zo201 (as' := [zI r11, zI x3]) (rest := []) rfl rfl (Nat.le_of_ble_eq_true rfl) (Nat.le_of_ble_eq_true rfl) (Nat.le_of_ble_eq_true rfl) (by omega) (l0 := [some (zR 8 0), some (zI r11), some (zI x3)]) rfl (p := 70) rfl (kM_letsAs G G r11 x3 s9 (r19, s18) hr17 (d - 1) (by omega)) ?_
          change zEv d 204 70 [some (zR 8 0), some (zI x1), some (zI x2), some (zI x3), some (zI r11), none] [zI r19] s18 _
          refine ev_goto i204_70 (t := 95) (by decide) ?_
          exact kM_voice_J95 G d hd r19 s18 w _ _ _ rfl _ rfl _ h
        · refine ev_s i204_73 (p := 74) rfl ?_
          refine ev_s i204_74 (p := 75) (zic_2 _ _ _ _ _) ?_
          refine ev_cmpne i204_75 (t := 88) (by decide) (p := 78) rfl h (fun c20 h => ?_) (fun c20 h => ?_)
          · refine ev_s i204_78 (p := 79) rfl ?_
            refine ev_s i204_79 (p := 81) rfl ?_
            refine ev_s i204_81 (p := 82) rfl ?_
            obtain ⟨r23, s22, hr21, h⟩ := b2_some h
            refine ev_callV i204_82 zc8_276 zm202 zo202 (as' := [zI r11, zI x3]) (rest := []) rfl rfl (Nat.le_of_ble_eq_true rfl) (Nat.le_of_ble_eq_true rfl) (Nat.le_of_ble_eq_true rfl) (by omega) (l0 := [some (zR 8 0), some (zI r11), some (zI x3)]) rfl (p := 85) rfl (kM_pullsAs G G r11 x3 s9 (r23, s22) hr21 (d - 1) (by omega)) ?_
            change zEv d 204 85 [some (zR 8 0), some (zI x1), some (zI x2), some (zI x3), some (zI r11), none] [zI r23] s22 _
            refine ev_goto i204_85 (t := 95) (by decide) ?_
            exact kM_voice_J95 G d hd r23 s22 w _ _ _ rfl _ rfl _ h
          · refine ev_s i204_88 (p := 89) rfl ?_
            refine ev_s i204_89 (p := 91) rfl ?_
            refine ev_s i204_91 (p := 92) rfl ?_
            obtain ⟨r26, s25, hr24, h⟩ := b2_some h
            refine ev_callV i204_92 zc8_283 zm203 zo203 (as' := [zI r11, zI x3]) (rest := []) rfl rfl (Nat.le_of_ble_eq_true rfl) (Nat.le_of_ble_eq_true rfl) (Nat.le_of_ble_eq_true rfl) (by omega) (l0 := [some (zR 8 0), some (zI r11), some (zI x3), none, none]) rfl (p := 95) rfl (kM_partsAs G G r11 x3 s9 (r26, s25) hr24 (d - 1) (by omega)) ?_
            change zEv d 204 95 [some (zR 8 0), some (zI x1), some (zI x2), some (zI x3), some (zI r11), none] [zI r26] s25 _
            exact kM_voice_J95 G d hd r26 s25 w _ _ _ rfl _ rfl _ h
/-! fA_body -/
def fA_body_J27 (σ : zS) : Option (Int32 × zS) := zb2 (fA_refuse 2 σ) fun r6 s5 => some (r6, s5)
set_option maxHeartbeats 4000000 in
theorem kA_body_J27  (d : Nat) (hd : 1 ≤ d)  : ∀ (σ : zS) (w : Int32 × zS) (z1 : Option zA), fA_body_J27 σ = some w → zEv d 90 27 [some (zR 7 0), z1] [] σ (some (zI w.1), w.2) := by
  intro σ w z1 h
  unfold fA_body_J27 at h
  refine ev_s i90_27 (p := 28) rfl ?_
  refine ev_s i90_28 (p := 29) (zic_2 _ _ _ _ _) ?_
  obtain ⟨r6, s5, hr4, h⟩ := b2_some h
  refine ev_callV i90_29 zc7_72 zm102 zo102 (as' := [zI 2]) (rest := []) rfl rfl (Nat.le_of_ble_eq_true rfl) (Nat.le_of_ble_eq_true rfl) (Nat.le_of_ble_eq_true rfl) (by omega) (l0 := [some (zR 7 0), some (zI 2)]) rfl (p := 32) rfl (kA_refuse 2 σ (r6, s5) hr4 (d - 1) (by omega)) ?_
  change zEv d 90 32 [some (zR 7 0), z1] [zI r6] s5 _
  obtain rfl := Option.some.inj h
  exact ev_iret i90_32 zr90
def fA_body (x1 : Int32) (σ : zS) : Option (Int32 × zS) := (if x1 < 0 then fA_body_J27 σ else (if (σ 6 0 1) ≤ x1 then fA_body_J27 σ else zgd (zin x1 30) (some (σ 24 0 x1.toNatClampNeg, σ))))
set_option maxHeartbeats 4000000 in
theorem kA_body (x1 : Int32) (σ : zS) (w : Int32 × zS) (h : fA_body x1 σ = some w) (d : Nat) (hd : 1 ≤ d) : zEv d 90 0 [some (zR 7 0), some (zI x1)] [] σ (some (zI w.1), w.2) := by
  unfold fA_body at h
  refine ev_s i90_0 (p := 1) rfl ?_
  refine ev_iflt i90_1 (t := 27) (by decide) (p := 4) rfl h (fun c1 h => ?_) (fun c1 h => ?_)
  · exact kA_body_J27 d hd σ w _ h
  · refine ev_s i90_4 (p := 5) rfl ?_
    refine ev_s i90_5 (p := 6) rfl ?_
    refine ev_getf i90_6 zf7_29 (u := zR 6 0) rfl (p := 9) rfl ?_
    refine ev_getf i90_9 zf7_228 (u := zI (σ 6 0 1)) rfl (p := 12) rfl ?_
    refine ev_cmpge i90_12 (t := 27) (by decide) (p := 15) rfl h (fun c2 h => ?_) (fun c2 h => ?_)
    · exact kA_body_J27 d hd σ w _ h
    · refine ev_s i90_15 (p := 16) rfl ?_
      refine ev_getf i90_16 zf7_29 (u := zR 6 0) rfl (p := 19) rfl ?_
      refine ev_getf i90_19 zf7_229 (u := zR 24 0) rfl (p := 22) rfl ?_
      refine ev_s i90_22 (p := 23) rfl ?_
      refine ev_iald i90_23 rfl (n := 30) rfl (p := 24) rfl h (fun g3 h => ?_)
      refine ev_goto i90_24 (t := 32) (by decide) ?_
      obtain rfl := Option.some.inj h
      exact ev_iret i90_32 zr90
/-! fM_body -/
def fM_body (x1 : Int32) (σ : zS) : Option (Int32 × zS) := (fM_in x1 0 ((σ 8 0 14) - 1)).bind fun r2 => (if r2 = 0 then zb2 (fM_error 2 σ) fun r6 s5 => some (r6, s5) else zgd (zin x1 30) (some (σ 38 0 x1.toNatClampNeg, σ)))
set_option maxHeartbeats 4000000 in
theorem kM_body (x1 : Int32) (σ : zS) (w : Int32 × zS) (h : fM_body x1 σ = some w) (d : Nat) (hd : 1 ≤ d) : zEv d 205 0 [some (zR 8 0), some (zI x1)] [] σ (some (zI w.1), w.2) := by
  unfold fM_body at h
  refine ev_s i205_0 (p := 1) rfl ?_
  refine ev_s i205_1 (p := 2) (zic_0 _ _ _ _ _) ?_
  refine ev_s i205_2 (p := 3) rfl ?_
  refine ev_getf i205_3 zf8_255 (u := zI (σ 8 0 14)) rfl (p := 6) rfl ?_
  refine ev_s i205_6 (p := 7) (zic_1 _ _ _ _ _) ?_
  refine ev_s i205_7 (p := 8) (t := [zI ((σ 8 0 14) - 1), zI 0, zI x1]) rfl ?_
  obtain ⟨r2, hr1, h⟩ := bd_some h
  refine ev_callS i205_8 zn8_50 zc8_50 zm111 (as := [zI x1, zI 0, zI ((σ 8 0 14) - 1)]) (rest := []) rfl rfl (Nat.le_of_ble_eq_true rfl) (Nat.le_of_ble_eq_true rfl) (Nat.le_of_ble_eq_true rfl) (by omega) (l0 := [some (zI x1), some (zI 0), some (zI ((σ 8 0 14) - 1))]) rfl (p := 11) rfl (kM_in x1 0 ((σ 8 0 14) - 1) σ r2 hr1 (d - 1) (by omega)) ?_
  change zEv d 205 11 [some (zR 8 0), some (zI x1)] [zI r2] σ _
  refine ev_ifeq i205_11 (t := 23) (by decide) (p := 14) rfl h (fun c3 h => ?_) (fun c3 h => ?_)
  · refine ev_s i205_23 (p := 24) rfl ?_
    refine ev_s i205_24 (p := 25) (zic_2 _ _ _ _ _) ?_
    obtain ⟨r6, s5, hr4, h⟩ := b2_some h
    refine ev_callV i205_25 zc8_58 zm110 zo110 (as' := [zI 2]) (rest := []) rfl rfl (Nat.le_of_ble_eq_true rfl) (Nat.le_of_ble_eq_true rfl) (Nat.le_of_ble_eq_true rfl) (by omega) (l0 := [some (zR 8 0), some (zI 2)]) rfl (p := 28) rfl (kM_error 2 σ (r6, s5) hr4 (d - 1) (by omega)) ?_
    change zEv d 205 28 [some (zR 8 0), some (zI x1)] [zI r6] s5 _
    obtain rfl := Option.some.inj h
    exact ev_iret i205_28 zr205
  · refine ev_s i205_14 (p := 15) rfl ?_
    refine ev_getf i205_15 zf8_34 (u := zR 38 0) rfl (p := 18) rfl ?_
    refine ev_s i205_18 (p := 19) rfl ?_
    refine ev_iald i205_19 rfl (n := 30) rfl (p := 20) rfl h (fun g7 h => ?_)
    refine ev_goto i205_20 (t := 28) (by decide) ?_
    obtain rfl := Option.some.inj h
    exact ev_iret i205_28 zr205
/-! fH_clear -/
def fH_clear_L12 (N : Nat) (b : Nat) : Nat → Int32 → zS → Option (zS)
  | 0, _, _ => none
  | n + 1, y3, σ => (if 24 ≤ y3 then some σ else zgd (zin y3 24) (zlt (zup σ 23 b y3.toNatClampNeg 0) fun s4 => fH_clear_L12 N b n (y3 + 1) s4))
set_option maxHeartbeats 4000000 in
theorem kH_clear_L12 (N : Nat) (b : Nat) (d : Nat) (hd : 0 ≤ d)  : ∀ n : Nat, ∀ (y3 : Int32) (σ : zS) (w : zS) (z1 : Option zA) (z2 : Option zA) (hz2 : znl z2 = true), fH_clear_L12 N b n y3 σ = some w → zEv d 51 12 [some (zR 4 b), z1, z2, some (zI y3)] [] σ (none, w) := by
  intro n
  induction n with
  | zero =>
    intro y3 σ w z1 z2 hz2 h
    cases h
  | succ n ih =>
    intro y3 σ w z1 z2 hz2 h
    rw [fH_clear_L12] at h
    refine ev_s i51_12 (p := 13) rfl ?_
    refine ev_s i51_13 (p := 15) (zib_24 _ _ _ _ _) ?_
    refine ev_cmpge i51_15 (t := 31) (by decide) (p := 18) rfl h (fun c3 h => ?_) (fun c3 h => ?_)
    · obtain rfl := Option.some.inj h
      exact ev_vret i51_31 zr51
    · refine ev_s i51_18 (p := 19) rfl ?_
      refine ev_getf i51_19 zf4_9 (u := zR 23 b) rfl (p := 22) rfl ?_
      refine ev_s i51_22 (p := 23) rfl ?_
      refine ev_s i51_23 (p := 24) (zic_0 _ _ _ _ _) ?_
      refine ev_iast i51_24 rfl (n := 24) rfl (p := 25) rfl h (fun g5 h => ?_)
      refine ev_lets h (fun s4 es4 h => ?_)
      refine ev_iinc i51_25 zii_1 rfl (l := [some (zR 4 b), z1, z2, some (zI (y3 + 1))]) (by rcases z2 with _ | _ | _ | _ <;> first | rfl | cases hz2) (p := 28) rfl ?_
      refine ev_goto i51_28 (t := 12) (by decide) ?_
      exact ih (y3 + 1) s4 w _ _ hz2 h
def fH_clear (N : Nat) (b : Nat) (x1 : Int32) (x2 : Int32) (σ : zS) : Option (zS) := zlt (zup σ 4 b 2 x1) fun s1 => zlt (zup s1 4 b 1 x2) fun s2 => fH_clear_L12 N b N 0 s2
set_option maxHeartbeats 4000000 in
theorem kH_clear (N : Nat) (b : Nat) (x1 : Int32) (x2 : Int32) (σ : zS) (w : zS) (h : fH_clear N b x1 x2 σ = some w) (d : Nat) (hd : 0 ≤ d) : zEv d 51 0 [some (zR 4 b), some (zI x1), some (zI x2), none] [] σ (none, w) := by
  unfold fH_clear at h
  refine ev_s i51_0 (p := 1) rfl ?_
  refine ev_s i51_1 (p := 2) rfl ?_
  refine ev_putf i51_2 zf4_15 rfl rfl rfl (p := 5) rfl ?_
  refine ev_lets h (fun s1 es1 h => ?_)
  refine ev_s i51_5 (p := 6) rfl ?_
  refine ev_s i51_6 (p := 7) rfl ?_
  refine ev_putf i51_7 zf4_19 rfl rfl rfl (p := 10) rfl ?_
  refine ev_lets h (fun s2 es2 h => ?_)
  refine ev_s i51_10 (p := 11) (zic_0 _ _ _ _ _) ?_
  refine ev_s i51_11 (p := 12) (l := [some (zR 4 b), some (zI x1), some (zI x2), some (zI 0)]) rfl ?_
  exact kH_clear_L12 N b d hd N 0 s2 w _ _ rfl h
/-! fA_sheet -/
def fA_sheet_J35 (N : Nat) (y1 : Int32) (y2 : Int32) (y3 : Int32) (σ : zS) : Option (Int32 × zS) := (if y2 = 0 then zgd (zin y1 4) ((fH_clear N y1.toNatClampNeg 0 0 σ).bind fun s14 => some (1, s14)) else (if 0 ≤ y3 then (if y3 ≤ 24 then zgd (zin y1 4) ((fH_clear N y1.toNatClampNeg y2 y3 σ).bind fun s19 => some (1, s19)) else zb2 (fA_refuse 1 σ) fun r22 s21 => some (r22, s21)) else zb2 (fA_refuse 3 σ) fun r25 s24 => some (r25, s24)))
set_option maxHeartbeats 4000000 in
theorem kA_sheet_J35 (N : Nat) (d : Nat) (hd : 1 ≤ d)  : ∀ (y1 : Int32) (y2 : Int32) (y3 : Int32) (σ : zS) (w : Int32 × zS), fA_sheet_J35 N y1 y2 y3 σ = some w → zEv d 91 35 [some (zR 7 0), some (zI y1), some (zI y2), some (zI y3)] [] σ (some (zI w.1), w.2) := by
  intro y1 y2 y3 σ w h
  unfold fA_sheet_J35 at h
  refine ev_s i91_35 (p := 36) rfl ?_
  refine ev_ifne i91_36 (t := 52) (by decide) (p := 39) rfl h (fun c11 h => ?_) (fun c11 h => ?_)
  · refine ev_s i91_39 (p := 40) rfl ?_
    refine ev_getf i91_40 zf7_35 (u := zR 25 0) rfl (p := 43) rfl ?_
    refine ev_s i91_43 (p := 44) rfl ?_
    refine ev_aald i91_44 (p := 45) rfl h (fun g12 h => ?_)
    refine ev_s i91_45 (p := 46) (zic_0 _ _ _ _ _) ?_
    refine ev_s i91_46 (p := 47) (zic_0 _ _ _ _ _) ?_
    obtain ⟨s14, hr13, h⟩ := bd_some h
    refine ev_callV i91_47 zc7_232 zm51 zo51 (as' := [zI 0, zI 0]) (rest := []) rfl rfl (Nat.le_of_ble_eq_true rfl) (Nat.le_of_ble_eq_true rfl) (Nat.le_of_ble_eq_true rfl) (by omega) (l0 := [some (zR 4 y1.toNatClampNeg), some (zI 0), some (zI 0), none]) rfl (p := 50) rfl (kH_clear N y1.toNatClampNeg 0 0 σ s14 hr13 (d - 1) (by omega)) ?_
    change zEv d 91 50 [some (zR 7 0), some (zI y1), some (zI y2), some (zI y3)] [] s14 _
    refine ev_s i91_50 (p := 51) (zic_1 _ _ _ _ _) ?_
    obtain rfl := Option.some.inj h
    exact ev_iret i91_51 zr91
  · refine ev_s i91_52 (p := 53) rfl ?_
    refine ev_ifge i91_53 (t := 62) (by decide) (p := 56) rfl h (fun c15 h => ?_) (fun c15 h => ?_)
    · refine ev_s i91_62 (p := 63) rfl ?_
      refine ev_s i91_63 (p := 65) (zib_24 _ _ _ _ _) ?_
      refine ev_cmple i91_65 (t := 74) (by decide) (p := 68) rfl h (fun c16 h => ?_) (fun c16 h => ?_)
      · refine ev_s i91_74 (p := 75) rfl ?_
        refine ev_getf i91_75 zf7_35 (u := zR 25 0) rfl (p := 78) rfl ?_
        refine ev_s i91_78 (p := 79) rfl ?_
        refine ev_aald i91_79 (p := 80) rfl h (fun g17 h => ?_)
        refine ev_s i91_80 (p := 81) rfl ?_
        refine ev_s i91_81 (p := 82) rfl ?_
        obtain ⟨s19, hr18, h⟩ := bd_some h
        refine ev_callV i91_82 zc7_232 zm51 zo51 (as' := [zI y2, zI y3]) (rest := []) rfl rfl (Nat.le_of_ble_eq_true rfl) (Nat.le_of_ble_eq_true rfl) (Nat.le_of_ble_eq_true rfl) (by omega) (l0 := [some (zR 4 y1.toNatClampNeg), some (zI y2), some (zI y3), none]) rfl (p := 85) rfl (kH_clear N y1.toNatClampNeg y2 y3 σ s19 hr18 (d - 1) (by omega)) ?_
        change zEv d 91 85 [some (zR 7 0), some (zI y1), some (zI y2), some (zI y3)] [] s19 _
        refine ev_s i91_85 (p := 86) (zic_1 _ _ _ _ _) ?_
        obtain rfl := Option.some.inj h
        exact ev_iret i91_86 zr91
      · refine ev_s i91_68 (p := 69) rfl ?_
        refine ev_s i91_69 (p := 70) (zic_1 _ _ _ _ _) ?_
        obtain ⟨r22, s21, hr20, h⟩ := b2_some h
        refine ev_callV i91_70 zc7_72 zm102 zo102 (as' := [zI 1]) (rest := []) rfl rfl (Nat.le_of_ble_eq_true rfl) (Nat.le_of_ble_eq_true rfl) (Nat.le_of_ble_eq_true rfl) (by omega) (l0 := [some (zR 7 0), some (zI 1)]) rfl (p := 73) rfl (kA_refuse 1 σ (r22, s21) hr20 (d - 1) (by omega)) ?_
        change zEv d 91 73 [some (zR 7 0), some (zI y1), some (zI y2), some (zI y3)] [zI r22] s21 _
        obtain rfl := Option.some.inj h
        exact ev_iret i91_73 zr91
    · refine ev_s i91_56 (p := 57) rfl ?_
      refine ev_s i91_57 (p := 58) (zic_3 _ _ _ _ _) ?_
      obtain ⟨r25, s24, hr23, h⟩ := b2_some h
      refine ev_callV i91_58 zc7_72 zm102 zo102 (as' := [zI 3]) (rest := []) rfl rfl (Nat.le_of_ble_eq_true rfl) (Nat.le_of_ble_eq_true rfl) (Nat.le_of_ble_eq_true rfl) (by omega) (l0 := [some (zR 7 0), some (zI 3)]) rfl (p := 61) rfl (kA_refuse 3 σ (r25, s24) hr23 (d - 1) (by omega)) ?_
      change zEv d 91 61 [some (zR 7 0), some (zI y1), some (zI y2), some (zI y3)] [zI r25] s24 _
      obtain rfl := Option.some.inj h
      exact ev_iret i91_61 zr91
def fA_sheet_J29 (N : Nat) (σ : zS) : Option (Int32 × zS) := zb2 (fA_refuse 1 σ) fun r10 s9 => some (r10, s9)
set_option maxHeartbeats 4000000 in
theorem kA_sheet_J29 (N : Nat) (d : Nat) (hd : 1 ≤ d)  : ∀ (σ : zS) (w : Int32 × zS) (z1 : Option zA) (z2 : Option zA) (z3 : Option zA), fA_sheet_J29 N σ = some w → zEv d 91 29 [some (zR 7 0), z1, z2, z3] [] σ (some (zI w.1), w.2) := by
  intro σ w z1 z2 z3 h
  unfold fA_sheet_J29 at h
  refine ev_s i91_29 (p := 30) rfl ?_
  refine ev_s i91_30 (p := 31) (zic_1 _ _ _ _ _) ?_
  obtain ⟨r10, s9, hr8, h⟩ := b2_some h
  refine ev_callV i91_31 zc7_72 zm102 zo102 (as' := [zI 1]) (rest := []) rfl rfl (Nat.le_of_ble_eq_true rfl) (Nat.le_of_ble_eq_true rfl) (Nat.le_of_ble_eq_true rfl) (by omega) (l0 := [some (zR 7 0), some (zI 1)]) rfl (p := 34) rfl (kA_refuse 1 σ (r10, s9) hr8 (d - 1) (by omega)) ?_
  change zEv d 91 34 [some (zR 7 0), z1, z2, z3] [zI r10] s9 _
  obtain rfl := Option.some.inj h
  exact ev_iret i91_34 zr91
def fA_sheet (N : Nat) (x1 : Int32) (x2 : Int32) (x3 : Int32) (σ : zS) : Option (Int32 × zS) := (fA_isSheet x1).bind fun r2 => (if r2 = 0 then fA_sheet_J29 N σ else (if x2 = 0 then fA_sheet_J35 N x1 x2 x3 σ else (if x2 = 8 then fA_sheet_J35 N x1 x2 x3 σ else (if x2 = 16 then fA_sheet_J35 N x1 x2 x3 σ else (if x2 = 32 then fA_sheet_J35 N x1 x2 x3 σ else fA_sheet_J29 N σ)))))
set_option maxHeartbeats 4000000 in
theorem kA_sheet (N : Nat) (x1 : Int32) (x2 : Int32) (x3 : Int32) (σ : zS) (w : Int32 × zS) (h : fA_sheet N x1 x2 x3 σ = some w) (d : Nat) (hd : 1 ≤ d) : zEv d 91 0 [some (zR 7 0), some (zI x1), some (zI x2), some (zI x3)] [] σ (some (zI w.1), w.2) := by
  unfold fA_sheet at h
  refine ev_s i91_0 (p := 1) rfl ?_
  obtain ⟨r2, hr1, h⟩ := bd_some h
  refine ev_callS i91_1 zn7_209 zc7_209 zm105 (as := [zI x1]) (rest := []) rfl rfl (Nat.le_of_ble_eq_true rfl) (Nat.le_of_ble_eq_true rfl) (Nat.le_of_ble_eq_true rfl) (by omega) (l0 := [some (zI x1)]) rfl (p := 4) rfl (kA_isSheet x1 σ r2 hr1 (d - 1) (by omega)) ?_
  change zEv d 91 4 [some (zR 7 0), some (zI x1), some (zI x2), some (zI x3)] [zI r2] σ _
  refine ev_ifeq i91_4 (t := 29) (by decide) (p := 7) rfl h (fun c3 h => ?_) (fun c3 h => ?_)
  · exact kA_sheet_J29 N d hd σ w _ _ _ h
  · refine ev_s i91_7 (p := 8) rfl ?_
    refine ev_ifeq i91_8 (t := 35) (by decide) (p := 11) rfl h (fun c4 h => ?_) (fun c4 h => ?_)
    · exact kA_sheet_J35 N d hd x1 x2 x3 σ w h
    · refine ev_s i91_11 (p := 12) rfl ?_
      refine ev_s i91_12 (p := 14) (zib_8 _ _ _ _ _) ?_
      refine ev_cmpeq i91_14 (t := 35) (by decide) (p := 17) rfl h (fun c5 h => ?_) (fun c5 h => ?_)
      · exact kA_sheet_J35 N d hd x1 x2 x3 σ w h
      · refine ev_s i91_17 (p := 18) rfl ?_
        refine ev_s i91_18 (p := 20) (zib_16 _ _ _ _ _) ?_
        refine ev_cmpeq i91_20 (t := 35) (by decide) (p := 23) rfl h (fun c6 h => ?_) (fun c6 h => ?_)
        · exact kA_sheet_J35 N d hd x1 x2 x3 σ w h
        · refine ev_s i91_23 (p := 24) rfl ?_
          refine ev_s i91_24 (p := 26) (zib_32 _ _ _ _ _) ?_
          refine ev_cmpeq i91_26 (t := 35) (by decide) (p := 29) rfl h (fun c7 h => ?_) (fun c7 h => ?_)
          · exact kA_sheet_J35 N d hd x1 x2 x3 σ w h
          · exact kA_sheet_J29 N d hd σ w _ _ _ h
/-! fM_sheet -/
def fM_sheet_L90 (N : Nat) : Nat → Int32 → Int32 → zS → Option (Int32 × zS)
  | 0, _, _, _ => none
  | n + 1, y1, y4, σ => (if 24 ≤ y4 then some (1, σ) else zgd (zin ((24 * y1) + y4) 96) (zlt (zup σ 41 0 ((24 * y1) + y4).toNatClampNeg 0) fun s27 => fM_sheet_L90 N n y1 (y4 + 1) s27))
set_option maxHeartbeats 4000000 in
theorem kM_sheet_L90 (N : Nat) (d : Nat) (hd : 2 ≤ d)  : ∀ n : Nat, ∀ (y1 : Int32) (y4 : Int32) (σ : zS) (w : Int32 × zS) (z2 : Option zA) (z3 : Option zA) (hz3 : znl z3 = true), fM_sheet_L90 N n y1 y4 σ = some w → zEv d 207 90 [some (zR 8 0), some (zI y1), z2, z3, some (zI y4)] [] σ (some (zI w.1), w.2) := by
  intro n
  induction n with
  | zero =>
    intro y1 y4 σ w z2 z3 hz3 h
    cases h
  | succ n ih =>
    intro y1 y4 σ w z2 z3 hz3 h
    rw [fM_sheet_L90] at h
    refine ev_s i207_90 (p := 92) rfl ?_
    refine ev_s i207_92 (p := 94) (zib_24 _ _ _ _ _) ?_
    refine ev_cmpge i207_94 (t := 116) (by decide) (p := 97) rfl h (fun c26 h => ?_) (fun c26 h => ?_)
    · refine ev_s i207_116 (p := 117) (zic_1 _ _ _ _ _) ?_
      obtain rfl := Option.some.inj h
      exact ev_iret i207_117 zr207
    · refine ev_s i207_97 (p := 98) rfl ?_
      refine ev_getf i207_98 zf8_43 (u := zR 41 0) rfl (p := 101) rfl ?_
      refine ev_s i207_101 (p := 103) (zib_24 _ _ _ _ _) ?_
      refine ev_s i207_103 (p := 104) rfl ?_
      refine ev_s i207_104 (p := 105) (t := [zI (24 * y1), zR 41 0]) rfl ?_
      refine ev_s i207_105 (p := 107) rfl ?_
      refine ev_s i207_107 (p := 108) (t := [zI ((24 * y1) + y4), zR 41 0]) rfl ?_
      refine ev_s i207_108 (p := 109) (zic_0 _ _ _ _ _) ?_
      refine ev_iast i207_109 rfl (n := 96) rfl (p := 110) rfl h (fun g28 h => ?_)
      refine ev_lets h (fun s27 es27 h => ?_)
      refine ev_iinc i207_110 zii_1 rfl (l := [some (zR 8 0), some (zI y1), z2, z3, some (zI (y4 + 1))]) (by rcases z3 with _ | _ | _ | _ <;> first | rfl | cases hz3) (p := 113) rfl ?_
      refine ev_goto i207_113 (t := 90) (by decide) ?_
      exact ih y1 (y4 + 1) s27 w _ _ hz3 h
def fM_sheet_J86 (N : Nat) (y1 : Int32) (u0 : Int32) (u1 : Int32) (σ : zS) : Option (Int32 × zS) := zgd (zin u1 4) (zlt (zup σ 40 0 u1.toNatClampNeg u0) fun s24 => fM_sheet_L90 N N y1 0 s24)
set_option maxHeartbeats 4000000 in
theorem kM_sheet_J86 (N : Nat) (d : Nat) (hd : 2 ≤ d)  : ∀ (y1 : Int32) (u0 : Int32) (u1 : Int32) (σ : zS) (w : Int32 × zS) (z2 : Option zA) (z3 : Option zA) (hz3 : znl z3 = true) (z4 : Option zA), fM_sheet_J86 N y1 u0 u1 σ = some w → zEv d 207 86 [some (zR 8 0), some (zI y1), z2, z3, z4] [zI u0, zI u1, zR 40 0] σ (some (zI w.1), w.2) := by
  intro y1 u0 u1 σ w z2 z3 hz3 z4 h
  unfold fM_sheet_J86 at h
  refine ev_iast i207_86 rfl (n := 4) rfl (p := 87) rfl h (fun g25 h => ?_)
  refine ev_lets h (fun s24 es24 h => ?_)
  refine ev_s i207_87 (p := 88) (zic_0 _ _ _ _ _) ?_
  refine ev_s i207_88 (p := 90) (l := [some (zR 8 0), some (zI y1), z2, z3, some (zI 0)]) (t := []) (s := s24) (by rcases z3 with _ | _ | _ | _ <;> first | rfl | cases hz3) ?_
  exact kM_sheet_L90 N d hd N y1 0 s24 w _ _ hz3 h
def fM_sheet_J65 (N : Nat) (y1 : Int32) (y2 : Int32) (y3 : Int32) (σ : zS) : Option (Int32 × zS) := zgd (zin y1 4) (zlt (zup σ 39 0 y1.toNatClampNeg y2) fun s21 => (if y2 = 0 then fM_sheet_J86 N y1 0 y1 s21 else fM_sheet_J86 N y1 y3 y1 s21))
set_option maxHeartbeats 4000000 in
theorem kM_sheet_J65 (N : Nat) (d : Nat) (hd : 2 ≤ d)  : ∀ (y1 : Int32) (y2 : Int32) (y3 : Int32) (σ : zS) (w : Int32 × zS) (z4 : Option zA), fM_sheet_J65 N y1 y2 y3 σ = some w → zEv d 207 65 [some (zR 8 0), some (zI y1), some (zI y2), some (zI y3), z4] [] σ (some (zI w.1), w.2) := by
  intro y1 y2 y3 σ w z4 h
  unfold fM_sheet_J65 at h
  refine ev_s i207_65 (p := 66) rfl ?_
  refine ev_getf i207_66 zf8_37 (u := zR 39 0) rfl (p := 69) rfl ?_
  refine ev_s i207_69 (p := 70) rfl ?_
  refine ev_s i207_70 (p := 71) rfl ?_
  refine ev_iast i207_71 rfl (n := 4) rfl (p := 72) rfl h (fun g22 h => ?_)
  refine ev_lets h (fun s21 es21 h => ?_)
  refine ev_s i207_72 (p := 73) rfl ?_
  refine ev_getf i207_73 zf8_40 (u := zR 40 0) rfl (p := 76) rfl ?_
  refine ev_s i207_76 (p := 77) rfl ?_
  refine ev_s i207_77 (p := 78) rfl ?_
  refine ev_ifne i207_78 (t := 85) (by decide) (p := 81) rfl h (fun c23 h => ?_) (fun c23 h => ?_)
  · refine ev_s i207_81 (p := 82) (zic_0 _ _ _ _ _) ?_
    refine ev_goto i207_82 (t := 86) (by decide) ?_
    exact kM_sheet_J86 N d hd y1 0 y1 s21 w _ _ rfl _ h
  · refine ev_s i207_85 (p := 86) rfl ?_
    exact kM_sheet_J86 N d hd y1 y3 y1 s21 w _ _ rfl _ h
def fM_sheet_J49 (N : Nat) (y1 : Int32) (y2 : Int32) (y3 : Int32) (σ : zS) : Option (Int32 × zS) := (if y2 = 0 then fM_sheet_J65 N y1 y2 y3 σ else (if y3 ≤ 24 then fM_sheet_J65 N y1 y2 y3 σ else zb2 (fM_error 1 σ) fun r20 s19 => some (r20, s19)))
set_option maxHeartbeats 4000000 in
theorem kM_sheet_J49 (N : Nat) (d : Nat) (hd : 2 ≤ d)  : ∀ (y1 : Int32) (y2 : Int32) (y3 : Int32) (σ : zS) (w : Int32 × zS) (z4 : Option zA), fM_sheet_J49 N y1 y2 y3 σ = some w → zEv d 207 49 [some (zR 8 0), some (zI y1), some (zI y2), some (zI y3), z4] [] σ (some (zI w.1), w.2) := by
  intro y1 y2 y3 σ w z4 h
  unfold fM_sheet_J49 at h
  refine ev_s i207_49 (p := 50) rfl ?_
  refine ev_ifeq i207_50 (t := 65) (by decide) (p := 53) rfl h (fun c16 h => ?_) (fun c16 h => ?_)
  · exact kM_sheet_J65 N d hd y1 y2 y3 σ w _ h
  · refine ev_s i207_53 (p := 54) rfl ?_
    refine ev_s i207_54 (p := 56) (zib_24 _ _ _ _ _) ?_
    refine ev_cmple i207_56 (t := 65) (by decide) (p := 59) rfl h (fun c17 h => ?_) (fun c17 h => ?_)
    · exact kM_sheet_J65 N d hd y1 y2 y3 σ w _ h
    · refine ev_s i207_59 (p := 60) rfl ?_
      refine ev_s i207_60 (p := 61) (zic_1 _ _ _ _ _) ?_
      obtain ⟨r20, s19, hr18, h⟩ := b2_some h
      refine ev_callV i207_61 zc8_58 zm110 zo110 (as' := [zI 1]) (rest := []) rfl rfl (Nat.le_of_ble_eq_true rfl) (Nat.le_of_ble_eq_true rfl) (Nat.le_of_ble_eq_true rfl) (by omega) (l0 := [some (zR 8 0), some (zI 1)]) rfl (p := 64) rfl (kM_error 1 σ (r20, s19) hr18 (d - 1) (by omega)) ?_
      change zEv d 207 64 [some (zR 8 0), some (zI y1), some (zI y2), some (zI y3), z4] [zI r20] s19 _
      obtain rfl := Option.some.inj h
      exact ev_iret i207_64 zr207
def fM_sheet_J35 (N : Nat) (y1 : Int32) (y2 : Int32) (y3 : Int32) (σ : zS) : Option (Int32 × zS) := (if y2 = 0 then fM_sheet_J49 N y1 y2 y3 σ else (if 0 ≤ y3 then fM_sheet_J49 N y1 y2 y3 σ else zb2 (fM_error 3 σ) fun r15 s14 => some (r15, s14)))
set_option maxHeartbeats 4000000 in
theorem kM_sheet_J35 (N : Nat) (d : Nat) (hd : 2 ≤ d)  : ∀ (y1 : Int32) (y2 : Int32) (y3 : Int32) (σ : zS) (w : Int32 × zS) (z4 : Option zA), fM_sheet_J35 N y1 y2 y3 σ = some w → zEv d 207 35 [some (zR 8 0), some (zI y1), some (zI y2), some (zI y3), z4] [] σ (some (zI w.1), w.2) := by
  intro y1 y2 y3 σ w z4 h
  unfold fM_sheet_J35 at h
  refine ev_s i207_35 (p := 36) rfl ?_
  refine ev_ifeq i207_36 (t := 49) (by decide) (p := 39) rfl h (fun c11 h => ?_) (fun c11 h => ?_)
  · exact kM_sheet_J49 N d hd y1 y2 y3 σ w _ h
  · refine ev_s i207_39 (p := 40) rfl ?_
    refine ev_ifge i207_40 (t := 49) (by decide) (p := 43) rfl h (fun c12 h => ?_) (fun c12 h => ?_)
    · exact kM_sheet_J49 N d hd y1 y2 y3 σ w _ h
    · refine ev_s i207_43 (p := 44) rfl ?_
      refine ev_s i207_44 (p := 45) (zic_3 _ _ _ _ _) ?_
      obtain ⟨r15, s14, hr13, h⟩ := b2_some h
      refine ev_callV i207_45 zc8_58 zm110 zo110 (as' := [zI 3]) (rest := []) rfl rfl (Nat.le_of_ble_eq_true rfl) (Nat.le_of_ble_eq_true rfl) (Nat.le_of_ble_eq_true rfl) (by omega) (l0 := [some (zR 8 0), some (zI 3)]) rfl (p := 48) rfl (kM_error 3 σ (r15, s14) hr13 (d - 1) (by omega)) ?_
      change zEv d 207 48 [some (zR 8 0), some (zI y1), some (zI y2), some (zI y3), z4] [zI r15] s14 _
      obtain rfl := Option.some.inj h
      exact ev_iret i207_48 zr207
def fM_sheet_J29 (N : Nat) (σ : zS) : Option (Int32 × zS) := zb2 (fM_error 1 σ) fun r10 s9 => some (r10, s9)
set_option maxHeartbeats 4000000 in
theorem kM_sheet_J29 (N : Nat) (d : Nat) (hd : 2 ≤ d)  : ∀ (σ : zS) (w : Int32 × zS) (z1 : Option zA) (z2 : Option zA) (z3 : Option zA) (hz3 : znl z3 = true) (z4 : Option zA), fM_sheet_J29 N σ = some w → zEv d 207 29 [some (zR 8 0), z1, z2, z3, z4] [] σ (some (zI w.1), w.2) := by
  intro σ w z1 z2 z3 hz3 z4 h
  unfold fM_sheet_J29 at h
  refine ev_s i207_29 (p := 30) rfl ?_
  refine ev_s i207_30 (p := 31) (zic_1 _ _ _ _ _) ?_
  obtain ⟨r10, s9, hr8, h⟩ := b2_some h
  refine ev_callV i207_31 zc8_58 zm110 zo110 (as' := [zI 1]) (rest := []) rfl rfl (Nat.le_of_ble_eq_true rfl) (Nat.le_of_ble_eq_true rfl) (Nat.le_of_ble_eq_true rfl) (by omega) (l0 := [some (zR 8 0), some (zI 1)]) rfl (p := 34) rfl (kM_error 1 σ (r10, s9) hr8 (d - 1) (by omega)) ?_
  change zEv d 207 34 [some (zR 8 0), z1, z2, z3, z4] [zI r10] s9 _
  obtain rfl := Option.some.inj h
  exact ev_iret i207_34 zr207
def fM_sheet (N : Nat) (x1 : Int32) (x2 : Int32) (x3 : Int32) (σ : zS) : Option (Int32 × zS) := (fM_isSheet x1).bind fun r2 => (if r2 = 0 then fM_sheet_J29 N σ else (if x2 = 0 then fM_sheet_J35 N x1 x2 x3 σ else (if x2 = 8 then fM_sheet_J35 N x1 x2 x3 σ else (if x2 = 16 then fM_sheet_J35 N x1 x2 x3 σ else (if x2 = 32 then fM_sheet_J35 N x1 x2 x3 σ else fM_sheet_J29 N σ)))))
set_option maxHeartbeats 4000000 in
theorem kM_sheet (N : Nat) (x1 : Int32) (x2 : Int32) (x3 : Int32) (σ : zS) (w : Int32 × zS) (h : fM_sheet N x1 x2 x3 σ = some w) (d : Nat) (hd : 2 ≤ d) : zEv d 207 0 [some (zR 8 0), some (zI x1), some (zI x2), some (zI x3), none] [] σ (some (zI w.1), w.2) := by
  unfold fM_sheet at h
  refine ev_s i207_0 (p := 1) rfl ?_
  obtain ⟨r2, hr1, h⟩ := bd_some h
  refine ev_callS i207_1 zn8_252 zc8_252 zm206 (as := [zI x1]) (rest := []) rfl rfl (Nat.le_of_ble_eq_true rfl) (Nat.le_of_ble_eq_true rfl) (Nat.le_of_ble_eq_true rfl) (by omega) (l0 := [some (zI x1)]) rfl (p := 4) rfl (kM_isSheet x1 σ r2 hr1 (d - 1) (by omega)) ?_
  change zEv d 207 4 [some (zR 8 0), some (zI x1), some (zI x2), some (zI x3), none] [zI r2] σ _
  refine ev_ifeq i207_4 (t := 29) (by decide) (p := 7) rfl h (fun c3 h => ?_) (fun c3 h => ?_)
  · exact kM_sheet_J29 N d hd σ w _ _ _ rfl _ h
  · refine ev_s i207_7 (p := 8) rfl ?_
    refine ev_ifeq i207_8 (t := 35) (by decide) (p := 11) rfl h (fun c4 h => ?_) (fun c4 h => ?_)
    · exact kM_sheet_J35 N d hd x1 x2 x3 σ w _ h
    · refine ev_s i207_11 (p := 12) rfl ?_
      refine ev_s i207_12 (p := 14) (zib_8 _ _ _ _ _) ?_
      refine ev_cmpeq i207_14 (t := 35) (by decide) (p := 17) rfl h (fun c5 h => ?_) (fun c5 h => ?_)
      · exact kM_sheet_J35 N d hd x1 x2 x3 σ w _ h
      · refine ev_s i207_17 (p := 18) rfl ?_
        refine ev_s i207_18 (p := 20) (zib_16 _ _ _ _ _) ?_
        refine ev_cmpeq i207_20 (t := 35) (by decide) (p := 23) rfl h (fun c6 h => ?_) (fun c6 h => ?_)
        · exact kM_sheet_J35 N d hd x1 x2 x3 σ w _ h
        · refine ev_s i207_23 (p := 24) rfl ?_
          refine ev_s i207_24 (p := 26) (zib_32 _ _ _ _ _) ?_
          refine ev_cmpeq i207_26 (t := 35) (by decide) (p := 29) rfl h (fun c7 h => ?_) (fun c7 h => ?_)
          · exact kM_sheet_J35 N d hd x1 x2 x3 σ w _ h
          · exact kM_sheet_J29 N d hd σ w _ _ _ rfl _ h
/-! fH_write -/
def fH_write_J28 (b : Nat) (u0 : Int32) (u1 : Int32) (σ : zS) : Option (zS) := zgd (zin u1 24) (zlt (zup σ 23 b u1.toNatClampNeg u0) fun s2 => some s2)
set_option maxHeartbeats 4000000 in
theorem kH_write_J28 (b : Nat) (d : Nat) (hd : 0 ≤ d)  : ∀ (u0 : Int32) (u1 : Int32) (σ : zS) (w : zS) (z0 : Option zA) (z1 : Option zA) (z2 : Option zA), fH_write_J28 b u0 u1 σ = some w → zEv d 52 28 [z0, z1, z2] [zI u0, zI u1, zR 23 b] σ (none, w) := by
  intro u0 u1 σ w z0 z1 z2 h
  unfold fH_write_J28 at h
  refine ev_iast i52_28 rfl (n := 24) rfl (p := 29) rfl h (fun g3 h => ?_)
  refine ev_lets h (fun s2 es2 h => ?_)
  obtain rfl := Option.some.inj h
  exact ev_vret i52_29 zr52
def fH_write (b : Nat) (x1 : Int32) (x2 : Int32) (σ : zS) : Option (zS) := (if (σ 4 b 2) = 32 then fH_write_J28 b x2 x1 σ else fH_write_J28 b (x2 &&& ((1 <<< ((σ 4 b 2) &&& 31)) - 1)) x1 σ)
set_option maxHeartbeats 4000000 in
theorem kH_write (b : Nat) (x1 : Int32) (x2 : Int32) (σ : zS) (w : zS) (h : fH_write b x1 x2 σ = some w) (d : Nat) (hd : 0 ≤ d) : zEv d 52 0 [some (zR 4 b), some (zI x1), some (zI x2)] [] σ (none, w) := by
  unfold fH_write at h
  refine ev_s i52_0 (p := 1) rfl ?_
  refine ev_getf i52_1 zf4_9 (u := zR 23 b) rfl (p := 4) rfl ?_
  refine ev_s i52_4 (p := 5) rfl ?_
  refine ev_s i52_5 (p := 6) rfl ?_
  refine ev_getf i52_6 zf4_15 (u := zI (σ 4 b 2)) rfl (p := 9) rfl ?_
  refine ev_s i52_9 (p := 11) (zib_32 _ _ _ _ _) ?_
  refine ev_cmpne i52_11 (t := 18) (by decide) (p := 14) rfl h (fun c1 h => ?_) (fun c1 h => ?_)
  · refine ev_s i52_14 (p := 15) rfl ?_
    refine ev_goto i52_15 (t := 28) (by decide) ?_
    exact kH_write_J28 b d hd x2 x1 σ w _ _ _ h
  · refine ev_s i52_18 (p := 19) rfl ?_
    refine ev_s i52_19 (p := 20) (zic_1 _ _ _ _ _) ?_
    refine ev_s i52_20 (p := 21) rfl ?_
    refine ev_getf i52_21 zf4_15 (u := zI (σ 4 b 2)) rfl (p := 24) rfl ?_
    refine ev_s i52_24 (p := 25) (t := [zI (1 <<< ((σ 4 b 2) &&& 31)), zI x2, zI x1, zR 23 b]) rfl ?_
    refine ev_s i52_25 (p := 26) (zic_1 _ _ _ _ _) ?_
    refine ev_s i52_26 (p := 27) (t := [zI ((1 <<< ((σ 4 b 2) &&& 31)) - 1), zI x2, zI x1, zR 23 b]) rfl ?_
    refine ev_s i52_27 (p := 28) (t := [zI (x2 &&& ((1 <<< ((σ 4 b 2) &&& 31)) - 1)), zI x1, zR 23 b]) rfl ?_
    exact kH_write_J28 b d hd (x2 &&& ((1 <<< ((σ 4 b 2) &&& 31)) - 1)) x1 σ w _ _ _ h
/-! fA_put -/
def fA_put_J48 (σ : zS) : Option (Int32 × zS) := zb2 (fA_refuse 1 σ) fun r22 s21 => some (r22, s21)
set_option maxHeartbeats 4000000 in
theorem kA_put_J48  (d : Nat) (hd : 1 ≤ d)  : ∀ (σ : zS) (w : Int32 × zS) (z1 : Option zA) (z2 : Option zA) (z3 : Option zA), fA_put_J48 σ = some w → zEv d 92 48 [some (zR 7 0), z1, z2, z3] [] σ (some (zI w.1), w.2) := by
  intro σ w z1 z2 z3 h
  unfold fA_put_J48 at h
  refine ev_s i92_48 (p := 49) rfl ?_
  refine ev_s i92_49 (p := 50) (zic_1 _ _ _ _ _) ?_
  obtain ⟨r22, s21, hr20, h⟩ := b2_some h
  refine ev_callV i92_50 zc7_72 zm102 zo102 (as' := [zI 1]) (rest := []) rfl rfl (Nat.le_of_ble_eq_true rfl) (Nat.le_of_ble_eq_true rfl) (Nat.le_of_ble_eq_true rfl) (by omega) (l0 := [some (zR 7 0), some (zI 1)]) rfl (p := 53) rfl (kA_refuse 1 σ (r22, s21) hr20 (d - 1) (by omega)) ?_
  change zEv d 92 53 [some (zR 7 0), z1, z2, z3] [zI r22] s21 _
  obtain rfl := Option.some.inj h
  exact ev_iret i92_53 zr92
def fA_put (x1 : Int32) (x2 : Int32) (x3 : Int32) (σ : zS) : Option (Int32 × zS) := (fA_isSheet x1).bind fun r2 => (if r2 = 0 then zb2 (fA_refuse 1 σ) fun r6 s5 => some (r6, s5) else zgd (zin x1 4) ((fH_isMissing x1.toNatClampNeg σ).bind fun r9 => (if r9 = 0 then (if x2 < 0 then fA_put_J48 σ else zgd (zin x1 4) ((if x2 < (σ 4 x1.toNatClampNeg 1) then zgd (zin x1 4) ((fH_write x1.toNatClampNeg x2 x3 σ).bind fun s16 => some (1, s16)) else fA_put_J48 σ))) else zb2 (fA_refuse 2 σ) fun r19 s18 => some (r19, s18))))
set_option maxHeartbeats 4000000 in
theorem kA_put (x1 : Int32) (x2 : Int32) (x3 : Int32) (σ : zS) (w : Int32 × zS) (h : fA_put x1 x2 x3 σ = some w) (d : Nat) (hd : 1 ≤ d) : zEv d 92 0 [some (zR 7 0), some (zI x1), some (zI x2), some (zI x3)] [] σ (some (zI w.1), w.2) := by
  unfold fA_put at h
  refine ev_s i92_0 (p := 1) rfl ?_
  obtain ⟨r2, hr1, h⟩ := bd_some h
  refine ev_callS i92_1 zn7_209 zc7_209 zm105 (as := [zI x1]) (rest := []) rfl rfl (Nat.le_of_ble_eq_true rfl) (Nat.le_of_ble_eq_true rfl) (Nat.le_of_ble_eq_true rfl) (by omega) (l0 := [some (zI x1)]) rfl (p := 4) rfl (kA_isSheet x1 σ r2 hr1 (d - 1) (by omega)) ?_
  change zEv d 92 4 [some (zR 7 0), some (zI x1), some (zI x2), some (zI x3)] [zI r2] σ _
  refine ev_ifne i92_4 (t := 13) (by decide) (p := 7) rfl h (fun c3 h => ?_) (fun c3 h => ?_)
  · refine ev_s i92_7 (p := 8) rfl ?_
    refine ev_s i92_8 (p := 9) (zic_1 _ _ _ _ _) ?_
    obtain ⟨r6, s5, hr4, h⟩ := b2_some h
    refine ev_callV i92_9 zc7_72 zm102 zo102 (as' := [zI 1]) (rest := []) rfl rfl (Nat.le_of_ble_eq_true rfl) (Nat.le_of_ble_eq_true rfl) (Nat.le_of_ble_eq_true rfl) (by omega) (l0 := [some (zR 7 0), some (zI 1)]) rfl (p := 12) rfl (kA_refuse 1 σ (r6, s5) hr4 (d - 1) (by omega)) ?_
    change zEv d 92 12 [some (zR 7 0), some (zI x1), some (zI x2), some (zI x3)] [zI r6] s5 _
    obtain rfl := Option.some.inj h
    exact ev_iret i92_12 zr92
  · refine ev_s i92_13 (p := 14) rfl ?_
    refine ev_getf i92_14 zf7_35 (u := zR 25 0) rfl (p := 17) rfl ?_
    refine ev_s i92_17 (p := 18) rfl ?_
    refine ev_aald i92_18 (p := 19) rfl h (fun g7 h => ?_)
    obtain ⟨r9, hr8, h⟩ := bd_some h
    refine ev_callV i92_19 zc7_212 zm50 zo50 (as' := []) (rest := []) rfl rfl (Nat.le_of_ble_eq_true rfl) (Nat.le_of_ble_eq_true rfl) (Nat.le_of_ble_eq_true rfl) (by omega) (l0 := [some (zR 4 x1.toNatClampNeg)]) rfl (p := 22) rfl (kH_isMissing x1.toNatClampNeg σ r9 hr8 (d - 1) (by omega)) ?_
    change zEv d 92 22 [some (zR 7 0), some (zI x1), some (zI x2), some (zI x3)] [zI r9] σ _
    refine ev_ifeq i92_22 (t := 31) (by decide) (p := 25) rfl h (fun c10 h => ?_) (fun c10 h => ?_)
    · refine ev_s i92_31 (p := 32) rfl ?_
      refine ev_iflt i92_32 (t := 48) (by decide) (p := 35) rfl h (fun c11 h => ?_) (fun c11 h => ?_)
      · exact kA_put_J48 d hd σ w _ _ _ h
      · refine ev_s i92_35 (p := 36) rfl ?_
        refine ev_s i92_36 (p := 37) rfl ?_
        refine ev_getf i92_37 zf7_35 (u := zR 25 0) rfl (p := 40) rfl ?_
        refine ev_s i92_40 (p := 41) rfl ?_
        refine ev_aald i92_41 (p := 42) rfl h (fun g12 h => ?_)
        refine ev_getf i92_42 zf7_236 (u := zI (σ 4 x1.toNatClampNeg 1)) rfl (p := 45) rfl ?_
        refine ev_cmplt i92_45 (t := 54) (by decide) (p := 48) rfl h (fun c13 h => ?_) (fun c13 h => ?_)
        · refine ev_s i92_54 (p := 55) rfl ?_
          refine ev_getf i92_55 zf7_35 (u := zR 25 0) rfl (p := 58) rfl ?_
          refine ev_s i92_58 (p := 59) rfl ?_
          refine ev_aald i92_59 (p := 60) rfl h (fun g14 h => ?_)
          refine ev_s i92_60 (p := 61) rfl ?_
          refine ev_s i92_61 (p := 62) rfl ?_
          obtain ⟨s16, hr15, h⟩ := bd_some h
          refine ev_callV i92_62 zc7_237 zm52 zo52 (as' := [zI x2, zI x3]) (rest := []) rfl rfl (Nat.le_of_ble_eq_true rfl) (Nat.le_of_ble_eq_true rfl) (Nat.le_of_ble_eq_true rfl) (by omega) (l0 := [some (zR 4 x1.toNatClampNeg), some (zI x2), some (zI x3)]) rfl (p := 65) rfl (kH_write x1.toNatClampNeg x2 x3 σ s16 hr15 (d - 1) (by omega)) ?_
          change zEv d 92 65 [some (zR 7 0), some (zI x1), some (zI x2), some (zI x3)] [] s16 _
          refine ev_s i92_65 (p := 66) (zic_1 _ _ _ _ _) ?_
          obtain rfl := Option.some.inj h
          exact ev_iret i92_66 zr92
        · exact kA_put_J48 d hd σ w _ _ _ h
    · refine ev_s i92_25 (p := 26) rfl ?_
      refine ev_s i92_26 (p := 27) (zic_2 _ _ _ _ _) ?_
      obtain ⟨r19, s18, hr17, h⟩ := b2_some h
      refine ev_callV i92_27 zc7_72 zm102 zo102 (as' := [zI 2]) (rest := []) rfl rfl (Nat.le_of_ble_eq_true rfl) (Nat.le_of_ble_eq_true rfl) (Nat.le_of_ble_eq_true rfl) (by omega) (l0 := [some (zR 7 0), some (zI 2)]) rfl (p := 30) rfl (kA_refuse 2 σ (r19, s18) hr17 (d - 1) (by omega)) ?_
      change zEv d 92 30 [some (zR 7 0), some (zI x1), some (zI x2), some (zI x3)] [zI r19] s18 _
      obtain rfl := Option.some.inj h
      exact ev_iret i92_30 zr92
/-! fM_put -/
def fM_put (x1 : Int32) (x2 : Int32) (x3 : Int32) (σ : zS) : Option (Int32 × zS) := (fM_isSheet x1).bind fun r2 => (if r2 = 0 then zb2 (fM_error 1 σ) fun r6 s5 => some (r6, s5) else zgd (zin x1 4) ((if (σ 39 0 x1.toNatClampNeg) = 0 then zb2 (fM_error 2 σ) fun r11 s10 => some (r11, s10) else zgd (zin x1 4) ((fM_in x2 0 ((σ 40 0 x1.toNatClampNeg) - 1)).bind fun r14 => (if r14 = 0 then zb2 (fM_error 1 σ) fun r18 s17 => some (r18, s17) else zgd (zin x1 4) (zlt (32 - (σ 39 0 x1.toNatClampNeg)) fun v20 => zgd (zin ((24 * x1) + x2) 96) (zlt (zup σ 41 0 ((24 * x1) + x2).toNatClampNeg ((x3 <<< (v20 &&& 31)) >>> (v20 &&& 31))) fun s21 => some (1, s21))))))))
set_option maxHeartbeats 4000000 in
theorem kM_put (x1 : Int32) (x2 : Int32) (x3 : Int32) (σ : zS) (w : Int32 × zS) (h : fM_put x1 x2 x3 σ = some w) (d : Nat) (hd : 2 ≤ d) : zEv d 208 0 [some (zR 8 0), some (zI x1), some (zI x2), some (zI x3), none] [] σ (some (zI w.1), w.2) := by
  unfold fM_put at h
  refine ev_s i208_0 (p := 1) rfl ?_
  obtain ⟨r2, hr1, h⟩ := bd_some h
  refine ev_callS i208_1 zn8_252 zc8_252 zm206 (as := [zI x1]) (rest := []) rfl rfl (Nat.le_of_ble_eq_true rfl) (Nat.le_of_ble_eq_true rfl) (Nat.le_of_ble_eq_true rfl) (by omega) (l0 := [some (zI x1)]) rfl (p := 4) rfl (kM_isSheet x1 σ r2 hr1 (d - 1) (by omega)) ?_
  change zEv d 208 4 [some (zR 8 0), some (zI x1), some (zI x2), some (zI x3), none] [zI r2] σ _
  refine ev_ifne i208_4 (t := 13) (by decide) (p := 7) rfl h (fun c3 h => ?_) (fun c3 h => ?_)
  · refine ev_s i208_7 (p := 8) rfl ?_
    refine ev_s i208_8 (p := 9) (zic_1 _ _ _ _ _) ?_
    obtain ⟨r6, s5, hr4, h⟩ := b2_some h
    refine ev_callV i208_9 zc8_58 zm110 zo110 (as' := [zI 1]) (rest := []) rfl rfl (Nat.le_of_ble_eq_true rfl) (Nat.le_of_ble_eq_true rfl) (Nat.le_of_ble_eq_true rfl) (by omega) (l0 := [some (zR 8 0), some (zI 1)]) rfl (p := 12) rfl (kM_error 1 σ (r6, s5) hr4 (d - 1) (by omega)) ?_
    change zEv d 208 12 [some (zR 8 0), some (zI x1), some (zI x2), some (zI x3), none] [zI r6] s5 _
    obtain rfl := Option.some.inj h
    exact ev_iret i208_12 zr208
  · refine ev_s i208_13 (p := 14) rfl ?_
    refine ev_getf i208_14 zf8_37 (u := zR 39 0) rfl (p := 17) rfl ?_
    refine ev_s i208_17 (p := 18) rfl ?_
    refine ev_iald i208_18 rfl (n := 4) rfl (p := 19) rfl h (fun g7 h => ?_)
    refine ev_ifne i208_19 (t := 28) (by decide) (p := 22) rfl h (fun c8 h => ?_) (fun c8 h => ?_)
    · refine ev_s i208_22 (p := 23) rfl ?_
      refine ev_s i208_23 (p := 24) (zic_2 _ _ _ _ _) ?_
      obtain ⟨r11, s10, hr9, h⟩ := b2_some h
      refine ev_callV i208_24 zc8_58 zm110 zo110 (as' := [zI 2]) (rest := []) rfl rfl (Nat.le_of_ble_eq_true rfl) (Nat.le_of_ble_eq_true rfl) (Nat.le_of_ble_eq_true rfl) (by omega) (l0 := [some (zR 8 0), some (zI 2)]) rfl (p := 27) rfl (kM_error 2 σ (r11, s10) hr9 (d - 1) (by omega)) ?_
      change zEv d 208 27 [some (zR 8 0), some (zI x1), some (zI x2), some (zI x3), none] [zI r11] s10 _
      obtain rfl := Option.some.inj h
      exact ev_iret i208_27 zr208
    · refine ev_s i208_28 (p := 29) rfl ?_
      refine ev_s i208_29 (p := 30) (zic_0 _ _ _ _ _) ?_
      refine ev_s i208_30 (p := 31) rfl ?_
      refine ev_getf i208_31 zf8_40 (u := zR 40 0) rfl (p := 34) rfl ?_
      refine ev_s i208_34 (p := 35) rfl ?_
      refine ev_iald i208_35 rfl (n := 4) rfl (p := 36) rfl h (fun g12 h => ?_)
      refine ev_s i208_36 (p := 37) (zic_1 _ _ _ _ _) ?_
      refine ev_s i208_37 (p := 38) (t := [zI ((σ 40 0 x1.toNatClampNeg) - 1), zI 0, zI x2]) rfl ?_
      obtain ⟨r14, hr13, h⟩ := bd_some h
      refine ev_callS i208_38 zn8_50 zc8_50 zm111 (as := [zI x2, zI 0, zI ((σ 40 0 x1.toNatClampNeg) - 1)]) (rest := []) rfl rfl (Nat.le_of_ble_eq_true rfl) (Nat.le_of_ble_eq_true rfl) (Nat.le_of_ble_eq_true rfl) (by omega) (l0 := [some (zI x2), some (zI 0), some (zI ((σ 40 0 x1.toNatClampNeg) - 1))]) rfl (p := 41) rfl (kM_in x2 0 ((σ 40 0 x1.toNatClampNeg) - 1) σ r14 hr13 (d - 1) (by omega)) ?_
      change zEv d 208 41 [some (zR 8 0), some (zI x1), some (zI x2), some (zI x3), none] [zI r14] σ _
      refine ev_ifne i208_41 (t := 50) (by decide) (p := 44) rfl h (fun c15 h => ?_) (fun c15 h => ?_)
      · refine ev_s i208_44 (p := 45) rfl ?_
        refine ev_s i208_45 (p := 46) (zic_1 _ _ _ _ _) ?_
        obtain ⟨r18, s17, hr16, h⟩ := b2_some h
        refine ev_callV i208_46 zc8_58 zm110 zo110 (as' := [zI 1]) (rest := []) rfl rfl (Nat.le_of_ble_eq_true rfl) (Nat.le_of_ble_eq_true rfl) (Nat.le_of_ble_eq_true rfl) (by omega) (l0 := [some (zR 8 0), some (zI 1)]) rfl (p := 49) rfl (kM_error 1 σ (r18, s17) hr16 (d - 1) (by omega)) ?_
        change zEv d 208 49 [some (zR 8 0), some (zI x1), some (zI x2), some (zI x3), none] [zI r18] s17 _
        obtain rfl := Option.some.inj h
        exact ev_iret i208_49 zr208
      · refine ev_s i208_50 (p := 52) (zib_32 _ _ _ _ _) ?_
        refine ev_s i208_52 (p := 53) rfl ?_
        refine ev_getf i208_53 zf8_37 (u := zR 39 0) rfl (p := 56) rfl ?_
        refine ev_s i208_56 (p := 57) rfl ?_
        refine ev_iald i208_57 rfl (n := 4) rfl (p := 58) rfl h (fun g19 h => ?_)
        refine ev_s i208_58 (p := 59) (t := [zI (32 - (σ 39 0 x1.toNatClampNeg))]) rfl ?_
        refine ev_let h (fun v20 ev20 h => ?_)
        refine ev_s i208_59 (p := 61) (l := [some (zR 8 0), some (zI x1), some (zI x2), some (zI x3), some (zI v20)]) rfl ?_
        refine ev_s i208_61 (p := 62) rfl ?_
        refine ev_getf i208_62 zf8_43 (u := zR 41 0) rfl (p := 65) rfl ?_
        refine ev_s i208_65 (p := 67) (zib_24 _ _ _ _ _) ?_
        refine ev_s i208_67 (p := 68) rfl ?_
        refine ev_s i208_68 (p := 69) (t := [zI (24 * x1), zR 41 0]) rfl ?_
        refine ev_s i208_69 (p := 70) rfl ?_
        refine ev_s i208_70 (p := 71) (t := [zI ((24 * x1) + x2), zR 41 0]) rfl ?_
        refine ev_s i208_71 (p := 72) rfl ?_
        refine ev_s i208_72 (p := 74) rfl ?_
        refine ev_s i208_74 (p := 75) (t := [zI (x3 <<< (v20 &&& 31)), zI ((24 * x1) + x2), zR 41 0]) rfl ?_
        refine ev_s i208_75 (p := 77) rfl ?_
        refine ev_s i208_77 (p := 78) (t := [zI ((x3 <<< (v20 &&& 31)) >>> (v20 &&& 31)), zI ((24 * x1) + x2), zR 41 0]) rfl ?_
        refine ev_iast i208_78 rfl (n := 96) rfl (p := 79) rfl h (fun g22 h => ?_)
        refine ev_lets h (fun s21 es21 h => ?_)
        refine ev_s i208_79 (p := 80) (zic_1 _ _ _ _ _) ?_
        obtain rfl := Option.some.inj h
        exact ev_iret i208_80 zr208
/-! fH_hasRun -/
def fH_hasRun (b : Nat) (x1 : Int32) (x2 : Int32) (σ : zS) : Option (Int32) := (if x2 < 0 then some (0) else (if x1 < 0 then some (0) else (if (σ 4 b 1) < x1 then some (0) else (if ((σ 4 b 1) - x1) < x2 then some (0) else some (1)))))
set_option maxHeartbeats 4000000 in
theorem kH_hasRun (b : Nat) (x1 : Int32) (x2 : Int32) (σ : zS) (w : Int32) (h : fH_hasRun b x1 x2 σ = some w) (d : Nat) (hd : 0 ≤ d) : zEv d 53 0 [some (zR 4 b), some (zI x1), some (zI x2)] [] σ (some (zI w), σ) := by
  unfold fH_hasRun at h
  refine ev_s i53_0 (p := 1) rfl ?_
  refine ev_iflt i53_1 (t := 30) (by decide) (p := 4) rfl h (fun c1 h => ?_) (fun c1 h => ?_)
  · refine ev_s i53_30 (p := 31) (zic_0 _ _ _ _ _) ?_
    obtain rfl := Option.some.inj h
    exact ev_zret i53_31 zr53 (by decide)
  · refine ev_s i53_4 (p := 5) rfl ?_
    refine ev_iflt i53_5 (t := 30) (by decide) (p := 8) rfl h (fun c2 h => ?_) (fun c2 h => ?_)
    · refine ev_s i53_30 (p := 31) (zic_0 _ _ _ _ _) ?_
      obtain rfl := Option.some.inj h
      exact ev_zret i53_31 zr53 (by decide)
    · refine ev_s i53_8 (p := 9) rfl ?_
      refine ev_s i53_9 (p := 10) rfl ?_
      refine ev_getf i53_10 zf4_19 (u := zI (σ 4 b 1)) rfl (p := 13) rfl ?_
      refine ev_cmpgt i53_13 (t := 30) (by decide) (p := 16) rfl h (fun c3 h => ?_) (fun c3 h => ?_)
      · refine ev_s i53_30 (p := 31) (zic_0 _ _ _ _ _) ?_
        obtain rfl := Option.some.inj h
        exact ev_zret i53_31 zr53 (by decide)
      · refine ev_s i53_16 (p := 17) rfl ?_
        refine ev_s i53_17 (p := 18) rfl ?_
        refine ev_getf i53_18 zf4_19 (u := zI (σ 4 b 1)) rfl (p := 21) rfl ?_
        refine ev_s i53_21 (p := 22) rfl ?_
        refine ev_s i53_22 (p := 23) (t := [zI ((σ 4 b 1) - x1), zI x2]) rfl ?_
        refine ev_cmpgt i53_23 (t := 30) (by decide) (p := 26) rfl h (fun c4 h => ?_) (fun c4 h => ?_)
        · refine ev_s i53_30 (p := 31) (zic_0 _ _ _ _ _) ?_
          obtain rfl := Option.some.inj h
          exact ev_zret i53_31 zr53 (by decide)
        · refine ev_s i53_26 (p := 27) (zic_1 _ _ _ _ _) ?_
          refine ev_goto i53_27 (t := 31) (by decide) ?_
          obtain rfl := Option.some.inj h
          exact ev_zret i53_31 zr53 (by decide)
/-! fA_move -/
def fA_move_J100 (σ : zS) : Option (Int32 × zS) := zb2 (fA_refuse 1 σ) fun r34 s33 => some (r34, s33)
set_option maxHeartbeats 4000000 in
theorem kA_move_J100  (d : Nat) (hd : 1 ≤ d)  : ∀ (σ : zS) (w : Int32 × zS) (z1 : Option zA) (z2 : Option zA) (z3 : Option zA) (z4 : Option zA) (z5 : Option zA) (hz5 : znl z5 = true) (z6 : Option zA) (hz6 : znl z6 = true) (z7 : Option zA), fA_move_J100 σ = some w → zEv d 93 100 [some (zR 7 0), z1, z2, z3, z4, z5, z6, z7] [] σ (some (zI w.1), w.2) := by
  intro σ w z1 z2 z3 z4 z5 hz5 z6 hz6 z7 h
  unfold fA_move_J100 at h
  refine ev_s i93_100 (p := 101) rfl ?_
  refine ev_s i93_101 (p := 102) (zic_1 _ _ _ _ _) ?_
  obtain ⟨r34, s33, hr32, h⟩ := b2_some h
  refine ev_callV i93_102 zc7_72 zm102 zo102 (as' := [zI 1]) (rest := []) rfl rfl (Nat.le_of_ble_eq_true rfl) (Nat.le_of_ble_eq_true rfl) (Nat.le_of_ble_eq_true rfl) (by omega) (l0 := [some (zR 7 0), some (zI 1)]) rfl (p := 105) rfl (kA_refuse 1 σ (r34, s33) hr32 (d - 1) (by omega)) ?_
  change zEv d 93 105 [some (zR 7 0), z1, z2, z3, z4, z5, z6, z7] [zI r34] s33 _
  obtain rfl := Option.some.inj h
  exact ev_iret i93_105 zr93
def fA_move_J52 (σ : zS) : Option (Int32 × zS) := zb2 (fA_refuse 2 σ) fun r31 s30 => some (r31, s30)
set_option maxHeartbeats 4000000 in
theorem kA_move_J52  (d : Nat) (hd : 1 ≤ d)  : ∀ (σ : zS) (w : Int32 × zS) (z1 : Option zA) (z2 : Option zA) (z3 : Option zA) (z4 : Option zA) (z5 : Option zA) (hz5 : znl z5 = true) (z6 : Option zA) (hz6 : znl z6 = true) (z7 : Option zA), fA_move_J52 σ = some w → zEv d 93 52 [some (zR 7 0), z1, z2, z3, z4, z5, z6, z7] [] σ (some (zI w.1), w.2) := by
  intro σ w z1 z2 z3 z4 z5 hz5 z6 hz6 z7 h
  unfold fA_move_J52 at h
  refine ev_s i93_52 (p := 53) rfl ?_
  refine ev_s i93_53 (p := 54) (zic_2 _ _ _ _ _) ?_
  obtain ⟨r31, s30, hr29, h⟩ := b2_some h
  refine ev_callV i93_54 zc7_72 zm102 zo102 (as' := [zI 2]) (rest := []) rfl rfl (Nat.le_of_ble_eq_true rfl) (Nat.le_of_ble_eq_true rfl) (Nat.le_of_ble_eq_true rfl) (by omega) (l0 := [some (zR 7 0), some (zI 2)]) rfl (p := 57) rfl (kA_refuse 2 σ (r31, s30) hr29 (d - 1) (by omega)) ?_
  change zEv d 93 57 [some (zR 7 0), z1, z2, z3, z4, z5, z6, z7] [zI r31] s30 _
  obtain rfl := Option.some.inj h
  exact ev_iret i93_57 zr93
def fA_move_J14 (σ : zS) : Option (Int32 × zS) := zb2 (fA_refuse 1 σ) fun r28 s27 => some (r28, s27)
set_option maxHeartbeats 4000000 in
theorem kA_move_J14  (d : Nat) (hd : 1 ≤ d)  : ∀ (σ : zS) (w : Int32 × zS) (z1 : Option zA) (z2 : Option zA) (z3 : Option zA) (z4 : Option zA) (z5 : Option zA) (hz5 : znl z5 = true) (z6 : Option zA) (hz6 : znl z6 = true) (z7 : Option zA), fA_move_J14 σ = some w → zEv d 93 14 [some (zR 7 0), z1, z2, z3, z4, z5, z6, z7] [] σ (some (zI w.1), w.2) := by
  intro σ w z1 z2 z3 z4 z5 hz5 z6 hz6 z7 h
  unfold fA_move_J14 at h
  refine ev_s i93_14 (p := 15) rfl ?_
  refine ev_s i93_15 (p := 16) (zic_1 _ _ _ _ _) ?_
  obtain ⟨r28, s27, hr26, h⟩ := b2_some h
  refine ev_callV i93_16 zc7_72 zm102 zo102 (as' := [zI 1]) (rest := []) rfl rfl (Nat.le_of_ble_eq_true rfl) (Nat.le_of_ble_eq_true rfl) (Nat.le_of_ble_eq_true rfl) (by omega) (l0 := [some (zR 7 0), some (zI 1)]) rfl (p := 19) rfl (kA_refuse 1 σ (r28, s27) hr26 (d - 1) (by omega)) ?_
  change zEv d 93 19 [some (zR 7 0), z1, z2, z3, z4, z5, z6, z7] [zI r28] s27 _
  obtain rfl := Option.some.inj h
  exact ev_iret i93_19 zr93
def fA_move (x1 : Int32) (x2 : Int32) (x3 : Int32) (x4 : Int32) (x5 : Int32) (σ : zS) : Option (Int32 × zS) := (fA_isSheet x1).bind fun r2 => (if r2 = 0 then fA_move_J14 σ else (fA_isSheet x3).bind fun r5 => (if r5 = 0 then fA_move_J14 σ else zgd (zin x1 4) (zgd (zin x3 4) ((fH_isMissing x1.toNatClampNeg σ).bind fun r10 => (if r10 = 0 then (fH_isMissing x3.toNatClampNeg σ).bind fun r13 => (if r13 = 0 then (if (σ 4 x1.toNatClampNeg 2) = (σ 4 x3.toNatClampNeg 2) then (fH_hasRun x1.toNatClampNeg x2 x5 σ).bind fun r17 => (if r17 = 0 then fA_move_J100 σ else (fH_hasRun x3.toNatClampNeg x4 x5 σ).bind fun r20 => (if r20 = 0 then fA_move_J100 σ else zgd (¬ x2 < 0 ∧ ¬ x4 < 0 ∧ ¬ x5 < 0 ∧ x2.toNatClampNeg + x5.toNatClampNeg ≤ 24 ∧ x4.toNatClampNeg + x5.toNatClampNeg ≤ 24) (zlt (zcp σ 23 x1.toNatClampNeg 23 x3.toNatClampNeg x2.toNatClampNeg x4.toNatClampNeg x5.toNatClampNeg) fun s22 => some (x5, s22)))) else zb2 (fA_refuse 5 σ) fun r25 s24 => some (r25, s24)) else fA_move_J52 σ) else fA_move_J52 σ)))))
set_option maxHeartbeats 4000000 in
theorem kA_move (x1 : Int32) (x2 : Int32) (x3 : Int32) (x4 : Int32) (x5 : Int32) (σ : zS) (w : Int32 × zS) (h : fA_move x1 x2 x3 x4 x5 σ = some w) (d : Nat) (hd : 1 ≤ d) : zEv d 93 0 [some (zR 7 0), some (zI x1), some (zI x2), some (zI x3), some (zI x4), some (zI x5), none, none] [] σ (some (zI w.1), w.2) := by
  unfold fA_move at h
  refine ev_s i93_0 (p := 1) rfl ?_
  obtain ⟨r2, hr1, h⟩ := bd_some h
  refine ev_callS i93_1 zn7_209 zc7_209 zm105 (as := [zI x1]) (rest := []) rfl rfl (Nat.le_of_ble_eq_true rfl) (Nat.le_of_ble_eq_true rfl) (Nat.le_of_ble_eq_true rfl) (by omega) (l0 := [some (zI x1)]) rfl (p := 4) rfl (kA_isSheet x1 σ r2 hr1 (d - 1) (by omega)) ?_
  change zEv d 93 4 [some (zR 7 0), some (zI x1), some (zI x2), some (zI x3), some (zI x4), some (zI x5), none, none] [zI r2] σ _
  refine ev_ifeq i93_4 (t := 14) (by decide) (p := 7) rfl h (fun c3 h => ?_) (fun c3 h => ?_)
  · exact kA_move_J14 d hd σ w _ _ _ _ _ rfl _ rfl _ h
  · refine ev_s i93_7 (p := 8) rfl ?_
    obtain ⟨r5, hr4, h⟩ := bd_some h
    refine ev_callS i93_8 zn7_209 zc7_209 zm105 (as := [zI x3]) (rest := []) rfl rfl (Nat.le_of_ble_eq_true rfl) (Nat.le_of_ble_eq_true rfl) (Nat.le_of_ble_eq_true rfl) (by omega) (l0 := [some (zI x3)]) rfl (p := 11) rfl (kA_isSheet x3 σ r5 hr4 (d - 1) (by omega)) ?_
    change zEv d 93 11 [some (zR 7 0), some (zI x1), some (zI x2), some (zI x3), some (zI x4), some (zI x5), none, none] [zI r5] σ _
    refine ev_ifne i93_11 (t := 20) (by decide) (p := 14) rfl h (fun c6 h => ?_) (fun c6 h => ?_)
    · exact kA_move_J14 d hd σ w _ _ _ _ _ rfl _ rfl _ h
    · refine ev_s i93_20 (p := 21) rfl ?_
      refine ev_getf i93_21 zf7_35 (u := zR 25 0) rfl (p := 24) rfl ?_
      refine ev_s i93_24 (p := 25) rfl ?_
      refine ev_aald i93_25 (p := 26) rfl h (fun g7 h => ?_)
      refine ev_s i93_26 (p := 28) (l := [some (zR 7 0), some (zI x1), some (zI x2), some (zI x3), some (zI x4), some (zI x5), some (zR 4 x1.toNatClampNeg), none]) rfl ?_
      refine ev_s i93_28 (p := 29) rfl ?_
      refine ev_getf i93_29 zf7_35 (u := zR 25 0) rfl (p := 32) rfl ?_
      refine ev_s i93_32 (p := 33) rfl ?_
      refine ev_aald i93_33 (p := 34) rfl h (fun g8 h => ?_)
      refine ev_s i93_34 (p := 36) (l := [some (zR 7 0), some (zI x1), some (zI x2), some (zI x3), some (zI x4), some (zI x5), some (zR 4 x1.toNatClampNeg), some (zR 4 x3.toNatClampNeg)]) rfl ?_
      refine ev_s i93_36 (p := 38) rfl ?_
      obtain ⟨r10, hr9, h⟩ := bd_some h
      refine ev_callV i93_38 zc7_212 zm50 zo50 (as' := []) (rest := []) rfl rfl (Nat.le_of_ble_eq_true rfl) (Nat.le_of_ble_eq_true rfl) (Nat.le_of_ble_eq_true rfl) (by omega) (l0 := [some (zR 4 x1.toNatClampNeg)]) rfl (p := 41) rfl (kH_isMissing x1.toNatClampNeg σ r10 hr9 (d - 1) (by omega)) ?_
      change zEv d 93 41 [some (zR 7 0), some (zI x1), some (zI x2), some (zI x3), some (zI x4), some (zI x5), some (zR 4 x1.toNatClampNeg), some (zR 4 x3.toNatClampNeg)] [zI r10] σ _
      refine ev_ifne i93_41 (t := 52) (by decide) (p := 44) rfl h (fun c11 h => ?_) (fun c11 h => ?_)
      · refine ev_s i93_44 (p := 46) rfl ?_
        obtain ⟨r13, hr12, h⟩ := bd_some h
        refine ev_callV i93_46 zc7_212 zm50 zo50 (as' := []) (rest := []) rfl rfl (Nat.le_of_ble_eq_true rfl) (Nat.le_of_ble_eq_true rfl) (Nat.le_of_ble_eq_true rfl) (by omega) (l0 := [some (zR 4 x3.toNatClampNeg)]) rfl (p := 49) rfl (kH_isMissing x3.toNatClampNeg σ r13 hr12 (d - 1) (by omega)) ?_
        change zEv d 93 49 [some (zR 7 0), some (zI x1), some (zI x2), some (zI x3), some (zI x4), some (zI x5), some (zR 4 x1.toNatClampNeg), some (zR 4 x3.toNatClampNeg)] [zI r13] σ _
        refine ev_ifeq i93_49 (t := 58) (by decide) (p := 52) rfl h (fun c14 h => ?_) (fun c14 h => ?_)
        · refine ev_s i93_58 (p := 60) rfl ?_
          refine ev_getf i93_60 zf7_240 (u := zI (σ 4 x1.toNatClampNeg 2)) rfl (p := 63) rfl ?_
          refine ev_s i93_63 (p := 65) rfl ?_
          refine ev_getf i93_65 zf7_240 (u := zI (σ 4 x3.toNatClampNeg 2)) rfl (p := 68) rfl ?_
          refine ev_cmpeq i93_68 (t := 77) (by decide) (p := 71) rfl h (fun c15 h => ?_) (fun c15 h => ?_)
          · refine ev_s i93_77 (p := 79) rfl ?_
            refine ev_s i93_79 (p := 80) rfl ?_
            refine ev_s i93_80 (p := 82) rfl ?_
            obtain ⟨r17, hr16, h⟩ := bd_some h
            refine ev_callV i93_82 zc7_243 zm53 zo53 (as' := [zI x2, zI x5]) (rest := []) rfl rfl (Nat.le_of_ble_eq_true rfl) (Nat.le_of_ble_eq_true rfl) (Nat.le_of_ble_eq_true rfl) (by omega) (l0 := [some (zR 4 x1.toNatClampNeg), some (zI x2), some (zI x5)]) rfl (p := 85) rfl (kH_hasRun x1.toNatClampNeg x2 x5 σ r17 hr16 (d - 1) (by omega)) ?_
            change zEv d 93 85 [some (zR 7 0), some (zI x1), some (zI x2), some (zI x3), some (zI x4), some (zI x5), some (zR 4 x1.toNatClampNeg), some (zR 4 x3.toNatClampNeg)] [zI r17] σ _
            refine ev_ifeq i93_85 (t := 100) (by decide) (p := 88) rfl h (fun c18 h => ?_) (fun c18 h => ?_)
            · exact kA_move_J100 d hd σ w _ _ _ _ _ rfl _ rfl _ h
            · refine ev_s i93_88 (p := 90) rfl ?_
              refine ev_s i93_90 (p := 92) rfl ?_
              refine ev_s i93_92 (p := 94) rfl ?_
              obtain ⟨r20, hr19, h⟩ := bd_some h
              refine ev_callV i93_94 zc7_243 zm53 zo53 (as' := [zI x4, zI x5]) (rest := []) rfl rfl (Nat.le_of_ble_eq_true rfl) (Nat.le_of_ble_eq_true rfl) (Nat.le_of_ble_eq_true rfl) (by omega) (l0 := [some (zR 4 x3.toNatClampNeg), some (zI x4), some (zI x5)]) rfl (p := 97) rfl (kH_hasRun x3.toNatClampNeg x4 x5 σ r20 hr19 (d - 1) (by omega)) ?_
              change zEv d 93 97 [some (zR 7 0), some (zI x1), some (zI x2), some (zI x3), some (zI x4), some (zI x5), some (zR 4 x1.toNatClampNeg), some (zR 4 x3.toNatClampNeg)] [zI r20] σ _
              refine ev_ifne i93_97 (t := 106) (by decide) (p := 100) rfl h (fun c21 h => ?_) (fun c21 h => ?_)
              · exact kA_move_J100 d hd σ w _ _ _ _ _ rfl _ rfl _ h
              · refine ev_s i93_106 (p := 108) rfl ?_
                refine ev_getf i93_108 zf7_246 (u := zR 23 x1.toNatClampNeg) rfl (p := 111) rfl ?_
                refine ev_s i93_111 (p := 112) rfl ?_
                refine ev_s i93_112 (p := 114) rfl ?_
                refine ev_getf i93_114 zf7_246 (u := zR 23 x3.toNatClampNeg) rfl (p := 117) rfl ?_
                refine ev_s i93_117 (p := 119) rfl ?_
                refine ev_s i93_119 (p := 121) rfl ?_
                refine ev_copy i93_121 za7_249 rfl rfl (n1 := 24) (n2 := 24) rfl rfl (Nat.le_of_ble_eq_true rfl) (p := 124) rfl h (fun h => ?_)
                refine ev_lets h (fun s22 es22 h => ?_)
                refine ev_s i93_124 (p := 126) rfl ?_
                obtain rfl := Option.some.inj h
                exact ev_iret i93_126 zr93
          · refine ev_s i93_71 (p := 72) rfl ?_
            refine ev_s i93_72 (p := 73) (zic_5 _ _ _ _ _) ?_
            obtain ⟨r25, s24, hr23, h⟩ := b2_some h
            refine ev_callV i93_73 zc7_72 zm102 zo102 (as' := [zI 5]) (rest := []) rfl rfl (Nat.le_of_ble_eq_true rfl) (Nat.le_of_ble_eq_true rfl) (Nat.le_of_ble_eq_true rfl) (by omega) (l0 := [some (zR 7 0), some (zI 5)]) rfl (p := 76) rfl (kA_refuse 5 σ (r25, s24) hr23 (d - 1) (by omega)) ?_
            change zEv d 93 76 [some (zR 7 0), some (zI x1), some (zI x2), some (zI x3), some (zI x4), some (zI x5), some (zR 4 x1.toNatClampNeg), some (zR 4 x3.toNatClampNeg)] [zI r25] s24 _
            obtain rfl := Option.some.inj h
            exact ev_iret i93_76 zr93
        · exact kA_move_J52 d hd σ w _ _ _ _ _ rfl _ rfl _ h
      · exact kA_move_J52 d hd σ w _ _ _ _ _ rfl _ rfl _ h
/-! fM_move -/
def fM_move_L152 (N : Nat) : Nat → Int32 → Int32 → Int32 → Int32 → zS → Option (Int32 × zS)
  | 0, _, _, _, _, _ => none
  | n + 1, y3, y4, y5, y6, σ => (if y5 ≤ y6 then some (y5, σ) else zgd (zin y6 24) (zgd (zin (((24 * y3) + y4) + y6) 96) (zlt (zup σ 41 0 (((24 * y3) + y4) + y6).toNatClampNeg (σ 42 0 y6.toNatClampNeg)) fun s39 => fM_move_L152 N n y3 y4 y5 (y6 + 1) s39)))
set_option maxHeartbeats 4000000 in
theorem kM_move_L152 (N : Nat) (d : Nat) (hd : 2 ≤ d)  : ∀ n : Nat, ∀ (y3 : Int32) (y4 : Int32) (y5 : Int32) (y6 : Int32) (σ : zS) (w : Int32 × zS) (z1 : Option zA) (z2 : Option zA), fM_move_L152 N n y3 y4 y5 y6 σ = some w → zEv d 209 152 [some (zR 8 0), z1, z2, some (zI y3), some (zI y4), some (zI y5), some (zI y6)] [] σ (some (zI w.1), w.2) := by
  intro n
  induction n with
  | zero =>
    intro y3 y4 y5 y6 σ w z1 z2 h
    cases h
  | succ n ih =>
    intro y3 y4 y5 y6 σ w z1 z2 h
    rw [fM_move_L152] at h
    refine ev_s i209_152 (p := 154) rfl ?_
    refine ev_s i209_154 (p := 156) rfl ?_
    refine ev_cmpge i209_156 (t := 187) (by decide) (p := 159) rfl h (fun c37 h => ?_) (fun c37 h => ?_)
    · refine ev_s i209_187 (p := 189) rfl ?_
      obtain rfl := Option.some.inj h
      exact ev_iret i209_189 zr209
    · refine ev_s i209_159 (p := 160) rfl ?_
      refine ev_getf i209_160 zf8_43 (u := zR 41 0) rfl (p := 163) rfl ?_
      refine ev_s i209_163 (p := 165) (zib_24 _ _ _ _ _) ?_
      refine ev_s i209_165 (p := 166) rfl ?_
      refine ev_s i209_166 (p := 167) (t := [zI (24 * y3), zR 41 0]) rfl ?_
      refine ev_s i209_167 (p := 169) rfl ?_
      refine ev_s i209_169 (p := 170) (t := [zI ((24 * y3) + y4), zR 41 0]) rfl ?_
      refine ev_s i209_170 (p := 172) rfl ?_
      refine ev_s i209_172 (p := 173) (t := [zI (((24 * y3) + y4) + y6), zR 41 0]) rfl ?_
      refine ev_s i209_173 (p := 174) rfl ?_
      refine ev_getf i209_174 zf8_46 (u := zR 42 0) rfl (p := 177) rfl ?_
      refine ev_s i209_177 (p := 179) rfl ?_
      refine ev_iald i209_179 rfl (n := 24) rfl (p := 180) rfl h (fun g38 h => ?_)
      refine ev_iast i209_180 rfl (n := 96) rfl (p := 181) rfl h (fun g40 h => ?_)
      refine ev_lets h (fun s39 es39 h => ?_)
      refine ev_iinc i209_181 zii_1 rfl (l := [some (zR 8 0), z1, z2, some (zI y3), some (zI y4), some (zI y5), some (zI (y6 + 1))]) rfl (p := 184) rfl ?_
      refine ev_goto i209_184 (t := 152) (by decide) ?_
      exact ih y3 y4 y5 (y6 + 1) s39 w _ _ h
def fM_move_L115 (N : Nat) : Nat → Int32 → Int32 → Int32 → Int32 → Int32 → Int32 → zS → Option (Int32 × zS)
  | 0, _, _, _, _, _, _, _ => none
  | n + 1, y1, y2, y3, y4, y5, y6, σ => (if y5 ≤ y6 then fM_move_L152 N N y3 y4 y5 0 σ else zgd (zin (((24 * y1) + y2) + y6) 96) (zgd (zin y6 24) (zlt (zup σ 42 0 y6.toNatClampNeg (σ 41 0 (((24 * y1) + y2) + y6).toNatClampNeg)) fun s35 => fM_move_L115 N n y1 y2 y3 y4 y5 (y6 + 1) s35)))
set_option maxHeartbeats 4000000 in
theorem kM_move_L115 (N : Nat) (d : Nat) (hd : 2 ≤ d)  : ∀ n : Nat, ∀ (y1 : Int32) (y2 : Int32) (y3 : Int32) (y4 : Int32) (y5 : Int32) (y6 : Int32) (σ : zS) (w : Int32 × zS), fM_move_L115 N n y1 y2 y3 y4 y5 y6 σ = some w → zEv d 209 115 [some (zR 8 0), some (zI y1), some (zI y2), some (zI y3), some (zI y4), some (zI y5), some (zI y6)] [] σ (some (zI w.1), w.2) := by
  intro n
  induction n with
  | zero =>
    intro y1 y2 y3 y4 y5 y6 σ w h
    cases h
  | succ n ih =>
    intro y1 y2 y3 y4 y5 y6 σ w h
    rw [fM_move_L115] at h
    refine ev_s i209_115 (p := 117) rfl ?_
    refine ev_s i209_117 (p := 119) rfl ?_
    refine ev_cmpge i209_119 (t := 149) (by decide) (p := 122) rfl h (fun c33 h => ?_) (fun c33 h => ?_)
    · refine ev_s i209_149 (p := 150) (zic_0 _ _ _ _ _) ?_
      refine ev_s i209_150 (p := 152) (l := [some (zR 8 0), some (zI y1), some (zI y2), some (zI y3), some (zI y4), some (zI y5), some (zI 0)]) rfl ?_
      exact kM_move_L152 N d hd N y3 y4 y5 0 σ w _ _ h
    · refine ev_s i209_122 (p := 123) rfl ?_
      refine ev_getf i209_123 zf8_46 (u := zR 42 0) rfl (p := 126) rfl ?_
      refine ev_s i209_126 (p := 128) rfl ?_
      refine ev_s i209_128 (p := 129) rfl ?_
      refine ev_getf i209_129 zf8_43 (u := zR 41 0) rfl (p := 132) rfl ?_
      refine ev_s i209_132 (p := 134) (zib_24 _ _ _ _ _) ?_
      refine ev_s i209_134 (p := 135) rfl ?_
      refine ev_s i209_135 (p := 136) (t := [zI (24 * y1), zR 41 0, zI y6, zR 42 0]) rfl ?_
      refine ev_s i209_136 (p := 137) rfl ?_
      refine ev_s i209_137 (p := 138) (t := [zI ((24 * y1) + y2), zR 41 0, zI y6, zR 42 0]) rfl ?_
      refine ev_s i209_138 (p := 140) rfl ?_
      refine ev_s i209_140 (p := 141) (t := [zI (((24 * y1) + y2) + y6), zR 41 0, zI y6, zR 42 0]) rfl ?_
      refine ev_iald i209_141 rfl (n := 96) rfl (p := 142) rfl h (fun g34 h => ?_)
      refine ev_iast i209_142 rfl (n := 24) rfl (p := 143) rfl h (fun g36 h => ?_)
      refine ev_lets h (fun s35 es35 h => ?_)
      refine ev_iinc i209_143 zii_1 rfl (l := [some (zR 8 0), some (zI y1), some (zI y2), some (zI y3), some (zI y4), some (zI y5), some (zI (y6 + 1))]) rfl (p := 146) rfl ?_
      refine ev_goto i209_146 (t := 115) (by decide) ?_
      exact ih y1 y2 y3 y4 y5 (y6 + 1) s35 w h
def fM_move_J106 (N : Nat) (σ : zS) : Option (Int32 × zS) := zb2 (fM_error 1 σ) fun r32 s31 => some (r32, s31)
set_option maxHeartbeats 4000000 in
theorem kM_move_J106 (N : Nat) (d : Nat) (hd : 2 ≤ d)  : ∀ (σ : zS) (w : Int32 × zS) (z1 : Option zA) (z2 : Option zA) (z3 : Option zA) (z4 : Option zA) (z5 : Option zA) (hz5 : znl z5 = true) (z6 : Option zA), fM_move_J106 N σ = some w → zEv d 209 106 [some (zR 8 0), z1, z2, z3, z4, z5, z6] [] σ (some (zI w.1), w.2) := by
  intro σ w z1 z2 z3 z4 z5 hz5 z6 h
  unfold fM_move_J106 at h
  refine ev_s i209_106 (p := 107) rfl ?_
  refine ev_s i209_107 (p := 108) (zic_1 _ _ _ _ _) ?_
  obtain ⟨r32, s31, hr30, h⟩ := b2_some h
  refine ev_callV i209_108 zc8_58 zm110 zo110 (as' := [zI 1]) (rest := []) rfl rfl (Nat.le_of_ble_eq_true rfl) (Nat.le_of_ble_eq_true rfl) (Nat.le_of_ble_eq_true rfl) (by omega) (l0 := [some (zR 8 0), some (zI 1)]) rfl (p := 111) rfl (kM_error 1 σ (r32, s31) hr30 (d - 1) (by omega)) ?_
  change zEv d 209 111 [some (zR 8 0), z1, z2, z3, z4, z5, z6] [zI r32] s31 _
  obtain rfl := Option.some.inj h
  exact ev_iret i209_111 zr209
def fM_move_J38 (N : Nat) (σ : zS) : Option (Int32 × zS) := zb2 (fM_error 2 σ) fun r29 s28 => some (r29, s28)
set_option maxHeartbeats 4000000 in
theorem kM_move_J38 (N : Nat) (d : Nat) (hd : 2 ≤ d)  : ∀ (σ : zS) (w : Int32 × zS) (z1 : Option zA) (z2 : Option zA) (z3 : Option zA) (z4 : Option zA) (z5 : Option zA) (hz5 : znl z5 = true) (z6 : Option zA), fM_move_J38 N σ = some w → zEv d 209 38 [some (zR 8 0), z1, z2, z3, z4, z5, z6] [] σ (some (zI w.1), w.2) := by
  intro σ w z1 z2 z3 z4 z5 hz5 z6 h
  unfold fM_move_J38 at h
  refine ev_s i209_38 (p := 39) rfl ?_
  refine ev_s i209_39 (p := 40) (zic_2 _ _ _ _ _) ?_
  obtain ⟨r29, s28, hr27, h⟩ := b2_some h
  refine ev_callV i209_40 zc8_58 zm110 zo110 (as' := [zI 2]) (rest := []) rfl rfl (Nat.le_of_ble_eq_true rfl) (Nat.le_of_ble_eq_true rfl) (Nat.le_of_ble_eq_true rfl) (by omega) (l0 := [some (zR 8 0), some (zI 2)]) rfl (p := 43) rfl (kM_error 2 σ (r29, s28) hr27 (d - 1) (by omega)) ?_
  change zEv d 209 43 [some (zR 8 0), z1, z2, z3, z4, z5, z6] [zI r29] s28 _
  obtain rfl := Option.some.inj h
  exact ev_iret i209_43 zr209
def fM_move_J14 (N : Nat) (σ : zS) : Option (Int32 × zS) := zb2 (fM_error 1 σ) fun r26 s25 => some (r26, s25)
set_option maxHeartbeats 4000000 in
theorem kM_move_J14 (N : Nat) (d : Nat) (hd : 2 ≤ d)  : ∀ (σ : zS) (w : Int32 × zS) (z1 : Option zA) (z2 : Option zA) (z3 : Option zA) (z4 : Option zA) (z5 : Option zA) (hz5 : znl z5 = true) (z6 : Option zA), fM_move_J14 N σ = some w → zEv d 209 14 [some (zR 8 0), z1, z2, z3, z4, z5, z6] [] σ (some (zI w.1), w.2) := by
  intro σ w z1 z2 z3 z4 z5 hz5 z6 h
  unfold fM_move_J14 at h
  refine ev_s i209_14 (p := 15) rfl ?_
  refine ev_s i209_15 (p := 16) (zic_1 _ _ _ _ _) ?_
  obtain ⟨r26, s25, hr24, h⟩ := b2_some h
  refine ev_callV i209_16 zc8_58 zm110 zo110 (as' := [zI 1]) (rest := []) rfl rfl (Nat.le_of_ble_eq_true rfl) (Nat.le_of_ble_eq_true rfl) (Nat.le_of_ble_eq_true rfl) (by omega) (l0 := [some (zR 8 0), some (zI 1)]) rfl (p := 19) rfl (kM_error 1 σ (r26, s25) hr24 (d - 1) (by omega)) ?_
  change zEv d 209 19 [some (zR 8 0), z1, z2, z3, z4, z5, z6] [zI r26] s25 _
  obtain rfl := Option.some.inj h
  exact ev_iret i209_19 zr209
def fM_move (N : Nat) (x1 : Int32) (x2 : Int32) (x3 : Int32) (x4 : Int32) (x5 : Int32) (σ : zS) : Option (Int32 × zS) := (fM_isSheet x1).bind fun r2 => (if r2 = 0 then fM_move_J14 N σ else (fM_isSheet x3).bind fun r5 => (if r5 = 0 then fM_move_J14 N σ else zgd (zin x1 4) ((if (σ 39 0 x1.toNatClampNeg) = 0 then fM_move_J38 N σ else zgd (zin x3 4) ((if (σ 39 0 x3.toNatClampNeg) = 0 then fM_move_J38 N σ else zgd (zin x1 4) (zgd (zin x3 4) ((if (σ 39 0 x1.toNatClampNeg) = (σ 39 0 x3.toNatClampNeg) then (if x5 < 0 then fM_move_J106 N σ else (if x2 < 0 then fM_move_J106 N σ else (if x4 < 0 then fM_move_J106 N σ else zgd (zin x1 4) ((if ((σ 40 0 x1.toNatClampNeg) - x5) < x2 then fM_move_J106 N σ else zgd (zin x3 4) ((if x4 ≤ ((σ 40 0 x3.toNatClampNeg) - x5) then fM_move_L115 N N x1 x2 x3 x4 x5 0 σ else fM_move_J106 N σ))))))) else zb2 (fM_error 5 σ) fun r23 s22 => some (r23, s22))))))))))
set_option maxHeartbeats 4000000 in
theorem kM_move (N : Nat) (x1 : Int32) (x2 : Int32) (x3 : Int32) (x4 : Int32) (x5 : Int32) (σ : zS) (w : Int32 × zS) (h : fM_move N x1 x2 x3 x4 x5 σ = some w) (d : Nat) (hd : 2 ≤ d) : zEv d 209 0 [some (zR 8 0), some (zI x1), some (zI x2), some (zI x3), some (zI x4), some (zI x5), none] [] σ (some (zI w.1), w.2) := by
  unfold fM_move at h
  refine ev_s i209_0 (p := 1) rfl ?_
  obtain ⟨r2, hr1, h⟩ := bd_some h
  refine ev_callS i209_1 zn8_252 zc8_252 zm206 (as := [zI x1]) (rest := []) rfl rfl (Nat.le_of_ble_eq_true rfl) (Nat.le_of_ble_eq_true rfl) (Nat.le_of_ble_eq_true rfl) (by omega) (l0 := [some (zI x1)]) rfl (p := 4) rfl (kM_isSheet x1 σ r2 hr1 (d - 1) (by omega)) ?_
  change zEv d 209 4 [some (zR 8 0), some (zI x1), some (zI x2), some (zI x3), some (zI x4), some (zI x5), none] [zI r2] σ _
  refine ev_ifeq i209_4 (t := 14) (by decide) (p := 7) rfl h (fun c3 h => ?_) (fun c3 h => ?_)
  · exact kM_move_J14 N d hd σ w _ _ _ _ _ rfl _ h
  · refine ev_s i209_7 (p := 8) rfl ?_
    obtain ⟨r5, hr4, h⟩ := bd_some h
    refine ev_callS i209_8 zn8_252 zc8_252 zm206 (as := [zI x3]) (rest := []) rfl rfl (Nat.le_of_ble_eq_true rfl) (Nat.le_of_ble_eq_true rfl) (Nat.le_of_ble_eq_true rfl) (by omega) (l0 := [some (zI x3)]) rfl (p := 11) rfl (kM_isSheet x3 σ r5 hr4 (d - 1) (by omega)) ?_
    change zEv d 209 11 [some (zR 8 0), some (zI x1), some (zI x2), some (zI x3), some (zI x4), some (zI x5), none] [zI r5] σ _
    refine ev_ifne i209_11 (t := 20) (by decide) (p := 14) rfl h (fun c6 h => ?_) (fun c6 h => ?_)
    · exact kM_move_J14 N d hd σ w _ _ _ _ _ rfl _ h
    · refine ev_s i209_20 (p := 21) rfl ?_
      refine ev_getf i209_21 zf8_37 (u := zR 39 0) rfl (p := 24) rfl ?_
      refine ev_s i209_24 (p := 25) rfl ?_
      refine ev_iald i209_25 rfl (n := 4) rfl (p := 26) rfl h (fun g7 h => ?_)
      refine ev_ifeq i209_26 (t := 38) (by decide) (p := 29) rfl h (fun c8 h => ?_) (fun c8 h => ?_)
      · exact kM_move_J38 N d hd σ w _ _ _ _ _ rfl _ h
      · refine ev_s i209_29 (p := 30) rfl ?_
        refine ev_getf i209_30 zf8_37 (u := zR 39 0) rfl (p := 33) rfl ?_
        refine ev_s i209_33 (p := 34) rfl ?_
        refine ev_iald i209_34 rfl (n := 4) rfl (p := 35) rfl h (fun g9 h => ?_)
        refine ev_ifne i209_35 (t := 44) (by decide) (p := 38) rfl h (fun c10 h => ?_) (fun c10 h => ?_)
        · exact kM_move_J38 N d hd σ w _ _ _ _ _ rfl _ h
        · refine ev_s i209_44 (p := 45) rfl ?_
          refine ev_getf i209_45 zf8_37 (u := zR 39 0) rfl (p := 48) rfl ?_
          refine ev_s i209_48 (p := 49) rfl ?_
          refine ev_iald i209_49 rfl (n := 4) rfl (p := 50) rfl h (fun g11 h => ?_)
          refine ev_s i209_50 (p := 51) rfl ?_
          refine ev_getf i209_51 zf8_37 (u := zR 39 0) rfl (p := 54) rfl ?_
          refine ev_s i209_54 (p := 55) rfl ?_
          refine ev_iald i209_55 rfl (n := 4) rfl (p := 56) rfl h (fun g12 h => ?_)
          refine ev_cmpeq i209_56 (t := 65) (by decide) (p := 59) rfl h (fun c13 h => ?_) (fun c13 h => ?_)
          · refine ev_s i209_65 (p := 67) rfl ?_
            refine ev_iflt i209_67 (t := 106) (by decide) (p := 70) rfl h (fun c14 h => ?_) (fun c14 h => ?_)
            · exact kM_move_J106 N d hd σ w _ _ _ _ _ rfl _ h
            · refine ev_s i209_70 (p := 71) rfl ?_
              refine ev_iflt i209_71 (t := 106) (by decide) (p := 74) rfl h (fun c15 h => ?_) (fun c15 h => ?_)
              · exact kM_move_J106 N d hd σ w _ _ _ _ _ rfl _ h
              · refine ev_s i209_74 (p := 76) rfl ?_
                refine ev_iflt i209_76 (t := 106) (by decide) (p := 79) rfl h (fun c16 h => ?_) (fun c16 h => ?_)
                · exact kM_move_J106 N d hd σ w _ _ _ _ _ rfl _ h
                · refine ev_s i209_79 (p := 80) rfl ?_
                  refine ev_s i209_80 (p := 81) rfl ?_
                  refine ev_getf i209_81 zf8_40 (u := zR 40 0) rfl (p := 84) rfl ?_
                  refine ev_s i209_84 (p := 85) rfl ?_
                  refine ev_iald i209_85 rfl (n := 4) rfl (p := 86) rfl h (fun g17 h => ?_)
                  refine ev_s i209_86 (p := 88) rfl ?_
                  refine ev_s i209_88 (p := 89) (t := [zI ((σ 40 0 x1.toNatClampNeg) - x5), zI x2]) rfl ?_
                  refine ev_cmpgt i209_89 (t := 106) (by decide) (p := 92) rfl h (fun c18 h => ?_) (fun c18 h => ?_)
                  · exact kM_move_J106 N d hd σ w _ _ _ _ _ rfl _ h
                  · refine ev_s i209_92 (p := 94) rfl ?_
                    refine ev_s i209_94 (p := 95) rfl ?_
                    refine ev_getf i209_95 zf8_40 (u := zR 40 0) rfl (p := 98) rfl ?_
                    refine ev_s i209_98 (p := 99) rfl ?_
                    refine ev_iald i209_99 rfl (n := 4) rfl (p := 100) rfl h (fun g19 h => ?_)
                    refine ev_s i209_100 (p := 102) rfl ?_
                    refine ev_s i209_102 (p := 103) (t := [zI ((σ 40 0 x3.toNatClampNeg) - x5), zI x4]) rfl ?_
                    refine ev_cmple i209_103 (t := 112) (by decide) (p := 106) rfl h (fun c20 h => ?_) (fun c20 h => ?_)
                    · refine ev_s i209_112 (p := 113) (zic_0 _ _ _ _ _) ?_
                      refine ev_s i209_113 (p := 115) (l := [some (zR 8 0), some (zI x1), some (zI x2), some (zI x3), some (zI x4), some (zI x5), some (zI 0)]) rfl ?_
                      exact kM_move_L115 N d hd N x1 x2 x3 x4 x5 0 σ w h
                    · exact kM_move_J106 N d hd σ w _ _ _ _ _ rfl _ h
          · refine ev_s i209_59 (p := 60) rfl ?_
            refine ev_s i209_60 (p := 61) (zic_5 _ _ _ _ _) ?_
            obtain ⟨r23, s22, hr21, h⟩ := b2_some h
            refine ev_callV i209_61 zc8_58 zm110 zo110 (as' := [zI 5]) (rest := []) rfl rfl (Nat.le_of_ble_eq_true rfl) (Nat.le_of_ble_eq_true rfl) (Nat.le_of_ble_eq_true rfl) (by omega) (l0 := [some (zR 8 0), some (zI 5)]) rfl (p := 64) rfl (kM_error 5 σ (r23, s22) hr21 (d - 1) (by omega)) ?_
            change zEv d 209 64 [some (zR 8 0), some (zI x1), some (zI x2), some (zI x3), some (zI x4), some (zI x5), none] [zI r23] s22 _
            obtain rfl := Option.some.inj h
            exact ev_iret i209_64 zr209
/-! fA_reels -/
def fA_reels_L38 (N : Nat) : Nat → Nat → Int32 → Int32 → zS → Option (Int32 × zS)
  | 0, _, _, _, _ => none
  | n + 1, y2, y3, y4, σ => (if (σ 4 y2 1) ≤ y4 then some (y3, σ) else (if (σ 2 0 9) ≤ y4 then some (y3, σ) else zgd (zin y4 24) ((fA_within (σ 23 y2 y4.toNatClampNeg) 99).bind fun r18 => (if r18 = 0 then some (y3, σ) else (fR_isTied 0 y4 σ).bind fun r21 => (if r21 = 0 then fA_reels_L38 N n y2 (y3 + 1) (y4 + 1) σ else zgd (zin y4 24) (zgd (zin y4 8) (zlt (zup σ 19 0 y4.toNatClampNeg (σ 23 y2 y4.toNatClampNeg)) fun s24 => fA_reels_L38 N n y2 (y3 + 1) (y4 + 1) s24)))))))
set_option maxHeartbeats 4000000 in
theorem kA_reels_L38 (N : Nat) (d : Nat) (hd : 1 ≤ d)  : ∀ n : Nat, ∀ (y2 : Nat) (y3 : Int32) (y4 : Int32) (σ : zS) (w : Int32 × zS) (z1 : Option zA) (hz1 : znl z1 = true), fA_reels_L38 N n y2 y3 y4 σ = some w → zEv d 94 38 [some (zR 7 0), z1, some (zR 4 y2), some (zI y3), some (zI y4)] [] σ (some (zI w.1), w.2) := by
  intro n
  induction n with
  | zero =>
    intro y2 y3 y4 σ w z1 hz1 h
    cases h
  | succ n ih =>
    intro y2 y3 y4 σ w z1 hz1 h
    rw [fA_reels_L38] at h
    refine ev_s i94_38 (p := 40) rfl ?_
    refine ev_s i94_40 (p := 41) rfl ?_
    refine ev_getf i94_41 zf7_236 (u := zI (σ 4 y2 1)) rfl (p := 44) rfl ?_
    refine ev_cmpge i94_44 (t := 114) (by decide) (p := 47) rfl h (fun c14 h => ?_) (fun c14 h => ?_)
    · refine ev_s i94_114 (p := 115) rfl ?_
      obtain rfl := Option.some.inj h
      exact ev_iret i94_115 zr94
    · refine ev_s i94_47 (p := 49) rfl ?_
      refine ev_s i94_49 (p := 50) rfl ?_
      refine ev_getf i94_50 zf7_47 (u := zR 2 0) rfl (p := 53) rfl ?_
      refine ev_getf i94_53 zf7_76 (u := zI (σ 2 0 9)) rfl (p := 56) rfl ?_
      refine ev_cmpge i94_56 (t := 114) (by decide) (p := 59) rfl h (fun c15 h => ?_) (fun c15 h => ?_)
      · refine ev_s i94_114 (p := 115) rfl ?_
        obtain rfl := Option.some.inj h
        exact ev_iret i94_115 zr94
      · refine ev_s i94_59 (p := 60) rfl ?_
        refine ev_getf i94_60 zf7_246 (u := zR 23 y2) rfl (p := 63) rfl ?_
        refine ev_s i94_63 (p := 65) rfl ?_
        refine ev_iald i94_65 rfl (n := 24) rfl (p := 66) rfl h (fun g16 h => ?_)
        refine ev_s i94_66 (p := 68) (zib_99 _ _ _ _ _) ?_
        obtain ⟨r18, hr17, h⟩ := bd_some h
        refine ev_callS i94_68 zn7_64 zc7_64 zm103 (as := [zI (σ 23 y2 y4.toNatClampNeg), zI 99]) (rest := []) rfl rfl (Nat.le_of_ble_eq_true rfl) (Nat.le_of_ble_eq_true rfl) (Nat.le_of_ble_eq_true rfl) (by omega) (l0 := [some (zI (σ 23 y2 y4.toNatClampNeg)), some (zI 99)]) rfl (p := 71) rfl (kA_within (σ 23 y2 y4.toNatClampNeg) 99 σ r18 hr17 (d - 1) (by omega)) ?_
        change zEv d 94 71 [some (zR 7 0), z1, some (zR 4 y2), some (zI y3), some (zI y4)] [zI r18] σ _
        refine ev_ifne i94_71 (t := 76) (by decide) (p := 74) rfl h (fun c19 h => ?_) (fun c19 h => ?_)
        · refine ev_s i94_74 (p := 75) rfl ?_
          obtain rfl := Option.some.inj h
          exact ev_iret i94_75 zr94
        · refine ev_s i94_76 (p := 77) rfl ?_
          refine ev_getf i94_77 zf7_47 (u := zR 2 0) rfl (p := 80) rfl ?_
          refine ev_s i94_80 (p := 82) rfl ?_
          obtain ⟨r21, hr20, h⟩ := bd_some h
          refine ev_callV i94_82 zc7_114 zm19 zo19 (as' := [zI y4]) (rest := []) rfl rfl (Nat.le_of_ble_eq_true rfl) (Nat.le_of_ble_eq_true rfl) (Nat.le_of_ble_eq_true rfl) (by omega) (l0 := [some (zR 2 0), some (zI y4)]) rfl (p := 85) rfl (kR_isTied 0 y4 σ r21 hr20 (d - 1) (by omega)) ?_
          change zEv d 94 85 [some (zR 7 0), z1, some (zR 4 y2), some (zI y3), some (zI y4)] [zI r21] σ _
          refine ev_ifeq i94_85 (t := 105) (by decide) (p := 88) rfl h (fun c22 h => ?_) (fun c22 h => ?_)
          · refine ev_iinc i94_105 zii_1 rfl (l := [some (zR 7 0), z1, some (zR 4 y2), some (zI (y3 + 1)), some (zI y4)]) rfl (p := 108) rfl ?_
            refine ev_iinc i94_108 zii_1 rfl (l := [some (zR 7 0), z1, some (zR 4 y2), some (zI (y3 + 1)), some (zI (y4 + 1))]) rfl (p := 111) rfl ?_
            refine ev_goto i94_111 (t := 38) (by decide) ?_
            exact ih y2 (y3 + 1) (y4 + 1) σ w _ hz1 h
          · refine ev_s i94_88 (p := 89) rfl ?_
            refine ev_getf i94_89 zf7_47 (u := zR 2 0) rfl (p := 92) rfl ?_
            refine ev_getf i94_92 zf7_99 (u := zR 19 0) rfl (p := 95) rfl ?_
            refine ev_s i94_95 (p := 97) rfl ?_
            refine ev_s i94_97 (p := 98) rfl ?_
            refine ev_getf i94_98 zf7_246 (u := zR 23 y2) rfl (p := 101) rfl ?_
            refine ev_s i94_101 (p := 103) rfl ?_
            refine ev_iald i94_103 rfl (n := 24) rfl (p := 104) rfl h (fun g23 h => ?_)
            refine ev_iast i94_104 rfl (n := 8) rfl (p := 105) rfl h (fun g25 h => ?_)
            refine ev_lets h (fun s24 es24 h => ?_)
            refine ev_iinc i94_105 zii_1 rfl (l := [some (zR 7 0), z1, some (zR 4 y2), some (zI (y3 + 1)), some (zI y4)]) rfl (p := 108) rfl ?_
            refine ev_iinc i94_108 zii_1 rfl (l := [some (zR 7 0), z1, some (zR 4 y2), some (zI (y3 + 1)), some (zI (y4 + 1))]) rfl (p := 111) rfl ?_
            refine ev_goto i94_111 (t := 38) (by decide) ?_
            exact ih y2 (y3 + 1) (y4 + 1) s24 w _ hz1 h
def fA_reels (N : Nat) (x1 : Int32) (σ : zS) : Option (Int32 × zS) := (fA_isSheet x1).bind fun r2 => (if r2 = 0 then zb2 (fA_refuse 1 σ) fun r6 s5 => some (r6, s5) else zgd (zin x1 4) ((fH_isMissing x1.toNatClampNeg σ).bind fun r9 => (if r9 = 0 then fA_reels_L38 N N x1.toNatClampNeg 0 0 σ else zb2 (fA_refuse 2 σ) fun r13 s12 => some (r13, s12))))
set_option maxHeartbeats 4000000 in
theorem kA_reels (N : Nat) (x1 : Int32) (σ : zS) (w : Int32 × zS) (h : fA_reels N x1 σ = some w) (d : Nat) (hd : 1 ≤ d) : zEv d 94 0 [some (zR 7 0), some (zI x1), none, none, none] [] σ (some (zI w.1), w.2) := by
  unfold fA_reels at h
  refine ev_s i94_0 (p := 1) rfl ?_
  obtain ⟨r2, hr1, h⟩ := bd_some h
  refine ev_callS i94_1 zn7_209 zc7_209 zm105 (as := [zI x1]) (rest := []) rfl rfl (Nat.le_of_ble_eq_true rfl) (Nat.le_of_ble_eq_true rfl) (Nat.le_of_ble_eq_true rfl) (by omega) (l0 := [some (zI x1)]) rfl (p := 4) rfl (kA_isSheet x1 σ r2 hr1 (d - 1) (by omega)) ?_
  change zEv d 94 4 [some (zR 7 0), some (zI x1), none, none, none] [zI r2] σ _
  refine ev_ifne i94_4 (t := 13) (by decide) (p := 7) rfl h (fun c3 h => ?_) (fun c3 h => ?_)
  · refine ev_s i94_7 (p := 8) rfl ?_
    refine ev_s i94_8 (p := 9) (zic_1 _ _ _ _ _) ?_
    obtain ⟨r6, s5, hr4, h⟩ := b2_some h
    refine ev_callV i94_9 zc7_72 zm102 zo102 (as' := [zI 1]) (rest := []) rfl rfl (Nat.le_of_ble_eq_true rfl) (Nat.le_of_ble_eq_true rfl) (Nat.le_of_ble_eq_true rfl) (by omega) (l0 := [some (zR 7 0), some (zI 1)]) rfl (p := 12) rfl (kA_refuse 1 σ (r6, s5) hr4 (d - 1) (by omega)) ?_
    change zEv d 94 12 [some (zR 7 0), some (zI x1), none, none, none] [zI r6] s5 _
    obtain rfl := Option.some.inj h
    exact ev_iret i94_12 zr94
  · refine ev_s i94_13 (p := 14) rfl ?_
    refine ev_getf i94_14 zf7_35 (u := zR 25 0) rfl (p := 17) rfl ?_
    refine ev_s i94_17 (p := 18) rfl ?_
    refine ev_aald i94_18 (p := 19) rfl h (fun g7 h => ?_)
    refine ev_s i94_19 (p := 20) (l := [some (zR 7 0), some (zI x1), some (zR 4 x1.toNatClampNeg), none, none]) rfl ?_
    refine ev_s i94_20 (p := 21) rfl ?_
    obtain ⟨r9, hr8, h⟩ := bd_some h
    refine ev_callV i94_21 zc7_212 zm50 zo50 (as' := []) (rest := []) rfl rfl (Nat.le_of_ble_eq_true rfl) (Nat.le_of_ble_eq_true rfl) (Nat.le_of_ble_eq_true rfl) (by omega) (l0 := [some (zR 4 x1.toNatClampNeg)]) rfl (p := 24) rfl (kH_isMissing x1.toNatClampNeg σ r9 hr8 (d - 1) (by omega)) ?_
    change zEv d 94 24 [some (zR 7 0), some (zI x1), some (zR 4 x1.toNatClampNeg), none, none] [zI r9] σ _
    refine ev_ifeq i94_24 (t := 33) (by decide) (p := 27) rfl h (fun c10 h => ?_) (fun c10 h => ?_)
    · refine ev_s i94_33 (p := 34) (zic_0 _ _ _ _ _) ?_
      refine ev_s i94_34 (p := 35) (l := [some (zR 7 0), some (zI x1), some (zR 4 x1.toNatClampNeg), some (zI 0), none]) rfl ?_
      refine ev_s i94_35 (p := 36) (zic_0 _ _ _ _ _) ?_
      refine ev_s i94_36 (p := 38) (l := [some (zR 7 0), some (zI x1), some (zR 4 x1.toNatClampNeg), some (zI 0), some (zI 0)]) rfl ?_
      exact kA_reels_L38 N d hd N x1.toNatClampNeg 0 0 σ w _ rfl h
    · refine ev_s i94_27 (p := 28) rfl ?_
      refine ev_s i94_28 (p := 29) (zic_2 _ _ _ _ _) ?_
      obtain ⟨r13, s12, hr11, h⟩ := b2_some h
      refine ev_callV i94_29 zc7_72 zm102 zo102 (as' := [zI 2]) (rest := []) rfl rfl (Nat.le_of_ble_eq_true rfl) (Nat.le_of_ble_eq_true rfl) (Nat.le_of_ble_eq_true rfl) (by omega) (l0 := [some (zR 7 0), some (zI 2)]) rfl (p := 32) rfl (kA_refuse 2 σ (r13, s12) hr11 (d - 1) (by omega)) ?_
      change zEv d 94 32 [some (zR 7 0), some (zI x1), some (zR 4 x1.toNatClampNeg), none, none] [zI r13] s12 _
      obtain rfl := Option.some.inj h
      exact ev_iret i94_32 zr94
/-! fM_lacks -/
def fM_lacks (x1 : Int32) (σ : zS) : Option (Int32) := (fM_isSheet x1).bind fun r2 => (if r2 = 0 then some (1) else zgd (zin x1 4) ((if (σ 39 0 x1.toNatClampNeg) = 0 then some (2) else some (0))))
set_option maxHeartbeats 4000000 in
theorem kM_lacks (x1 : Int32) (σ : zS) (w : Int32) (h : fM_lacks x1 σ = some w) (d : Nat) (hd : 2 ≤ d) : zEv d 210 0 [some (zR 8 0), some (zI x1)] [] σ (some (zI w), σ) := by
  unfold fM_lacks at h
  refine ev_s i210_0 (p := 1) rfl ?_
  obtain ⟨r2, hr1, h⟩ := bd_some h
  refine ev_callS i210_1 zn8_252 zc8_252 zm206 (as := [zI x1]) (rest := []) rfl rfl (Nat.le_of_ble_eq_true rfl) (Nat.le_of_ble_eq_true rfl) (Nat.le_of_ble_eq_true rfl) (by omega) (l0 := [some (zI x1)]) rfl (p := 4) rfl (kM_isSheet x1 σ r2 hr1 (d - 1) (by omega)) ?_
  change zEv d 210 4 [some (zR 8 0), some (zI x1)] [zI r2] σ _
  refine ev_ifne i210_4 (t := 11) (by decide) (p := 7) rfl h (fun c3 h => ?_) (fun c3 h => ?_)
  · refine ev_s i210_7 (p := 8) (zic_1 _ _ _ _ _) ?_
    refine ev_goto i210_8 (t := 25) (by decide) ?_
    obtain rfl := Option.some.inj h
    exact ev_iret i210_25 zr210
  · refine ev_s i210_11 (p := 12) rfl ?_
    refine ev_getf i210_12 zf8_37 (u := zR 39 0) rfl (p := 15) rfl ?_
    refine ev_s i210_15 (p := 16) rfl ?_
    refine ev_iald i210_16 rfl (n := 4) rfl (p := 17) rfl h (fun g4 h => ?_)
    refine ev_ifne i210_17 (t := 24) (by decide) (p := 20) rfl h (fun c5 h => ?_) (fun c5 h => ?_)
    · refine ev_s i210_20 (p := 21) (zic_2 _ _ _ _ _) ?_
      refine ev_goto i210_21 (t := 25) (by decide) ?_
      obtain rfl := Option.some.inj h
      exact ev_iret i210_25 zr210
    · refine ev_s i210_24 (p := 25) (zic_0 _ _ _ _ _) ?_
      obtain rfl := Option.some.inj h
      exact ev_iret i210_25 zr210
/-! fM_reels -/
def fM_reels_J84 (N : Nat) (K18 : Int32 → Int32 → zS → Option (Int32 × zS)) (y1 : Int32) (y3 : Int32) (u0 : Int32) (u1 : Int32) (u2 : Int32) (σ : zS) : Option (Int32 × zS) := (fM_lays1 u2 u1 u0 σ).bind fun s19 => K18 y1 (y3 + 1) s19
set_option maxHeartbeats 4000000 in
theorem kM_reels_J84 (N : Nat) (d : Nat) (hd : 3 ≤ d) (K18 : Int32 → Int32 → zS → Option (Int32 × zS)) (hK18 : ∀ (y1 : Int32) (y3 : Int32) (σ : zS) (w : Int32 × zS) (z2 : Option zA) (hz2 : znl z2 = true), K18 y1 y3 σ = some w → zEv d 211 18 [some (zR 8 0), some (zI y1), z2, some (zI y3)] [] σ (some (zI w.1), w.2)) : ∀ (y1 : Int32) (y3 : Int32) (u0 : Int32) (u1 : Int32) (u2 : Int32) (σ : zS) (w : Int32 × zS) (z2 : Option zA) (hz2 : znl z2 = true), fM_reels_J84 N K18 y1 y3 u0 u1 u2 σ = some w → zEv d 211 84 [some (zR 8 0), some (zI y1), z2, some (zI y3)] [zI u0, zI u1, zI u2, zR 8 0] σ (some (zI w.1), w.2) := by
  intro y1 y3 u0 u1 u2 σ w z2 hz2 h
  unfold fM_reels_J84 at h
  obtain ⟨s19, hr18, h⟩ := bd_some h
  refine ev_callV i211_84 zc8_149 zm119 zo119 (as' := [zI u2, zI u1, zI u0]) (rest := []) rfl rfl (Nat.le_of_ble_eq_true rfl) (Nat.le_of_ble_eq_true rfl) (Nat.le_of_ble_eq_true rfl) (by omega) (l0 := [some (zR 8 0), some (zI u2), some (zI u1), some (zI u0)]) rfl (p := 87) rfl (kM_lays1 u2 u1 u0 σ s19 hr18 (d - 1) (by omega)) ?_
  change zEv d 211 87 [some (zR 8 0), some (zI y1), z2, some (zI y3)] [] s19 _
  refine ev_iinc i211_87 zii_1 rfl (l := [some (zR 8 0), some (zI y1), z2, some (zI (y3 + 1))]) (by rcases z2 with _ | _ | _ | _ <;> first | rfl | cases hz2) (p := 90) rfl ?_
  refine ev_goto i211_90 (t := 18) (by decide) ?_
  exact hK18 y1 (y3 + 1) s19 w _ hz2 h
def fM_reels_L18 (N : Nat) : Nat → Int32 → Int32 → zS → Option (Int32 × zS)
  | 0, _, _, _ => none
  | n + 1, y1, y3, σ => zgd (zin y1 4) ((if (σ 40 0 y1.toNatClampNeg) ≤ y3 then some (y3, σ) else (if (σ 30 0 4) ≤ y3 then some (y3, σ) else zgd (zin ((24 * y1) + y3) 96) ((fM_in (σ 41 0 ((24 * y1) + y3).toNatClampNeg) 0 99).bind fun r12 => (if r12 = 0 then some (y3, σ) else (fM_isTied y3 σ).bind fun r15 => (if r15 = 0 then fM_reels_J84 N (fun y1 y3 σ => fM_reels_L18 N n y1 y3 σ) y1 y3 0 5 y3 σ else zgd (zin ((24 * y1) + y3) 96) (fM_reels_J84 N (fun y1 y3 σ => fM_reels_L18 N n y1 y3 σ) y1 y3 (σ 41 0 ((24 * y1) + y3).toNatClampNeg) 5 y3 σ)))))))
set_option maxHeartbeats 4000000 in
theorem kM_reels_L18 (N : Nat) (d : Nat) (hd : 3 ≤ d)  : ∀ n : Nat, ∀ (y1 : Int32) (y3 : Int32) (σ : zS) (w : Int32 × zS) (z2 : Option zA) (hz2 : znl z2 = true), fM_reels_L18 N n y1 y3 σ = some w → zEv d 211 18 [some (zR 8 0), some (zI y1), z2, some (zI y3)] [] σ (some (zI w.1), w.2) := by
  intro n
  induction n with
  | zero =>
    intro y1 y3 σ w z2 hz2 h
    cases h
  | succ n ih =>
    intro y1 y3 σ w z2 hz2 h
    rw [fM_reels_L18] at h
    refine ev_s i211_18 (p := 19) rfl ?_
    refine ev_s i211_19 (p := 20) rfl ?_
    refine ev_getf i211_20 zf8_40 (u := zR 40 0) rfl (p := 23) rfl ?_
    refine ev_s i211_23 (p := 24) rfl ?_
    refine ev_iald i211_24 rfl (n := 4) rfl (p := 25) rfl h (fun g7 h => ?_)
    refine ev_cmpge i211_25 (t := 93) (by decide) (p := 28) rfl h (fun c8 h => ?_) (fun c8 h => ?_)
    · refine ev_s i211_93 (p := 94) rfl ?_
      obtain rfl := Option.some.inj h
      exact ev_iret i211_94 zr211
    · refine ev_s i211_28 (p := 29) rfl ?_
      refine ev_s i211_29 (p := 30) rfl ?_
      refine ev_getf i211_30 zf8_7 (u := zR 30 0) rfl (p := 33) rfl ?_
      refine ev_s i211_33 (p := 34) (zic_4 _ _ _ _ _) ?_
      refine ev_ialdK i211_34 rfl (n := 394) rfl (by decide) (p := 35) rfl ?_
      change zEv d 211 35 [some (zR 8 0), some (zI y1), z2, some (zI y3)] [zI (σ 30 0 4), zI y3] σ _
      refine ev_cmpge i211_35 (t := 93) (by decide) (p := 38) rfl h (fun c9 h => ?_) (fun c9 h => ?_)
      · refine ev_s i211_93 (p := 94) rfl ?_
        obtain rfl := Option.some.inj h
        exact ev_iret i211_94 zr211
      · refine ev_s i211_38 (p := 39) rfl ?_
        refine ev_getf i211_39 zf8_43 (u := zR 41 0) rfl (p := 42) rfl ?_
        refine ev_s i211_42 (p := 44) (zib_24 _ _ _ _ _) ?_
        refine ev_s i211_44 (p := 45) rfl ?_
        refine ev_s i211_45 (p := 46) (t := [zI (24 * y1), zR 41 0]) rfl ?_
        refine ev_s i211_46 (p := 47) rfl ?_
        refine ev_s i211_47 (p := 48) (t := [zI ((24 * y1) + y3), zR 41 0]) rfl ?_
        refine ev_iald i211_48 rfl (n := 96) rfl (p := 49) rfl h (fun g10 h => ?_)
        refine ev_s i211_49 (p := 50) (zic_0 _ _ _ _ _) ?_
        refine ev_s i211_50 (p := 52) (zib_99 _ _ _ _ _) ?_
        obtain ⟨r12, hr11, h⟩ := bd_some h
        refine ev_callS i211_52 zn8_50 zc8_50 zm111 (as := [zI (σ 41 0 ((24 * y1) + y3).toNatClampNeg), zI 0, zI 99]) (rest := []) rfl rfl (Nat.le_of_ble_eq_true rfl) (Nat.le_of_ble_eq_true rfl) (Nat.le_of_ble_eq_true rfl) (by omega) (l0 := [some (zI (σ 41 0 ((24 * y1) + y3).toNatClampNeg)), some (zI 0), some (zI 99)]) rfl (p := 55) rfl (kM_in (σ 41 0 ((24 * y1) + y3).toNatClampNeg) 0 99 σ r12 hr11 (d - 1) (by omega)) ?_
        change zEv d 211 55 [some (zR 8 0), some (zI y1), z2, some (zI y3)] [zI r12] σ _
        refine ev_ifeq i211_55 (t := 93) (by decide) (p := 58) rfl h (fun c13 h => ?_) (fun c13 h => ?_)
        · refine ev_s i211_93 (p := 94) rfl ?_
          obtain rfl := Option.some.inj h
          exact ev_iret i211_94 zr211
        · refine ev_s i211_58 (p := 59) rfl ?_
          refine ev_s i211_59 (p := 60) rfl ?_
          refine ev_s i211_60 (p := 61) (zic_5 _ _ _ _ _) ?_
          refine ev_s i211_61 (p := 62) rfl ?_
          refine ev_s i211_62 (p := 63) rfl ?_
          obtain ⟨r15, hr14, h⟩ := bd_some h
          refine ev_callV i211_63 zc8_140 zm121 zo121 (as' := [zI y3]) (rest := [zI 5, zI y3, zR 8 0]) rfl rfl (Nat.le_of_ble_eq_true rfl) (Nat.le_of_ble_eq_true rfl) (Nat.le_of_ble_eq_true rfl) (by omega) (l0 := [some (zR 8 0), some (zI y3)]) rfl (p := 66) rfl (kM_isTied y3 σ r15 hr14 (d - 1) (by omega)) ?_
          change zEv d 211 66 [some (zR 8 0), some (zI y1), z2, some (zI y3)] [zI r15, zI 5, zI y3, zR 8 0] σ _
          refine ev_ifeq i211_66 (t := 83) (by decide) (p := 69) rfl h (fun c16 h => ?_) (fun c16 h => ?_)
          · refine ev_s i211_83 (p := 84) (zic_0 _ _ _ _ _) ?_
            exact kM_reels_J84 N d hd (fun y1 y3 σ => fM_reels_L18 N n y1 y3 σ) ih y1 y3 0 5 y3 σ w _ hz2 h
          · refine ev_s i211_69 (p := 70) rfl ?_
            refine ev_getf i211_70 zf8_43 (u := zR 41 0) rfl (p := 73) rfl ?_
            refine ev_s i211_73 (p := 75) (zib_24 _ _ _ _ _) ?_
            refine ev_s i211_75 (p := 76) rfl ?_
            refine ev_s i211_76 (p := 77) (t := [zI (24 * y1), zR 41 0, zI 5, zI y3, zR 8 0]) rfl ?_
            refine ev_s i211_77 (p := 78) rfl ?_
            refine ev_s i211_78 (p := 79) (t := [zI ((24 * y1) + y3), zR 41 0, zI 5, zI y3, zR 8 0]) rfl ?_
            refine ev_iald i211_79 rfl (n := 96) rfl (p := 80) rfl h (fun g17 h => ?_)
            refine ev_goto i211_80 (t := 84) (by decide) ?_
            exact kM_reels_J84 N d hd (fun y1 y3 σ => fM_reels_L18 N n y1 y3 σ) ih y1 y3 (σ 41 0 ((24 * y1) + y3).toNatClampNeg) 5 y3 σ w _ hz2 h
def fM_reels (N : Nat) (x1 : Int32) (σ : zS) : Option (Int32 × zS) := (fM_lacks x1 σ).bind fun r2 => (if r2 = 0 then fM_reels_L18 N N x1 0 σ else zb2 (fM_error r2 σ) fun r6 s5 => some (r6, s5))
set_option maxHeartbeats 4000000 in
theorem kM_reels (N : Nat) (x1 : Int32) (σ : zS) (w : Int32 × zS) (h : fM_reels N x1 σ = some w) (d : Nat) (hd : 3 ≤ d) : zEv d 211 0 [some (zR 8 0), some (zI x1), none, none] [] σ (some (zI w.1), w.2) := by
  unfold fM_reels at h
  refine ev_s i211_0 (p := 1) rfl ?_
  refine ev_s i211_1 (p := 2) rfl ?_
  obtain ⟨r2, hr1, h⟩ := bd_some h
  refine ev_callV i211_2 zc8_286 zm210 zo210 (as' := [zI x1]) (rest := []) rfl rfl (Nat.le_of_ble_eq_true rfl) (Nat.le_of_ble_eq_true rfl) (Nat.le_of_ble_eq_true rfl) (by omega) (l0 := [some (zR 8 0), some (zI x1)]) rfl (p := 5) rfl (kM_lacks x1 σ r2 hr1 (d - 1) (by omega)) ?_
  change zEv d 211 5 [some (zR 8 0), some (zI x1), none, none] [zI r2] σ _
  refine ev_s i211_5 (p := 6) (l := [some (zR 8 0), some (zI x1), some (zI r2), none]) rfl ?_
  refine ev_s i211_6 (p := 7) rfl ?_
  refine ev_ifeq i211_7 (t := 16) (by decide) (p := 10) rfl h (fun c3 h => ?_) (fun c3 h => ?_)
  · refine ev_s i211_16 (p := 17) (zic_0 _ _ _ _ _) ?_
    refine ev_s i211_17 (p := 18) (l := [some (zR 8 0), some (zI x1), some (zI r2), some (zI 0)]) rfl ?_
    exact kM_reels_L18 N d hd N x1 0 σ w _ rfl h
  · refine ev_s i211_10 (p := 11) rfl ?_
    refine ev_s i211_11 (p := 12) rfl ?_
    obtain ⟨r6, s5, hr4, h⟩ := b2_some h
    refine ev_callV i211_12 zc8_58 zm110 zo110 (as' := [zI r2]) (rest := []) rfl rfl (Nat.le_of_ble_eq_true rfl) (Nat.le_of_ble_eq_true rfl) (Nat.le_of_ble_eq_true rfl) (by omega) (l0 := [some (zR 8 0), some (zI r2)]) rfl (p := 15) rfl (kM_error r2 σ (r6, s5) hr4 (d - 1) (by omega)) ?_
    change zEv d 211 15 [some (zR 8 0), some (zI x1), some (zI r2), none] [zI r6] s5 _
    obtain rfl := Option.some.inj h
    exact ev_iret i211_15 zr211
/-! fA_judge -/
def fA_judge_L38 (N : Nat) : Nat → Nat → Int32 → Int32 → zS → Option (Int32 × zS)
  | 0, _, _, _, _ => none
  | n + 1, y2, y3, y4, σ => (if (σ 4 y2 1) ≤ y4 then some (y3, σ) else (if (σ 2 0 9) ≤ y4 then some (y3, σ) else zgd (zin y4 24) (zgd (zin y4 8) ((if (σ 23 y2 y4.toNatClampNeg) = (σ 17 0 y4.toNatClampNeg) then fA_judge_L38 N n y2 (y3 + 1) (y4 + 1) σ else some (y3, σ))))))
set_option maxHeartbeats 4000000 in
theorem kA_judge_L38 (N : Nat) (d : Nat) (hd : 1 ≤ d)  : ∀ n : Nat, ∀ (y2 : Nat) (y3 : Int32) (y4 : Int32) (σ : zS) (w : Int32 × zS) (z1 : Option zA) (hz1 : znl z1 = true), fA_judge_L38 N n y2 y3 y4 σ = some w → zEv d 95 38 [some (zR 7 0), z1, some (zR 4 y2), some (zI y3), some (zI y4)] [] σ (some (zI w.1), w.2) := by
  intro n
  induction n with
  | zero =>
    intro y2 y3 y4 σ w z1 hz1 h
    cases h
  | succ n ih =>
    intro y2 y3 y4 σ w z1 hz1 h
    rw [fA_judge_L38] at h
    refine ev_s i95_38 (p := 40) rfl ?_
    refine ev_s i95_40 (p := 41) rfl ?_
    refine ev_getf i95_41 zf7_236 (u := zI (σ 4 y2 1)) rfl (p := 44) rfl ?_
    refine ev_cmpge i95_44 (t := 90) (by decide) (p := 47) rfl h (fun c14 h => ?_) (fun c14 h => ?_)
    · refine ev_s i95_90 (p := 91) rfl ?_
      obtain rfl := Option.some.inj h
      exact ev_iret i95_91 zr95
    · refine ev_s i95_47 (p := 49) rfl ?_
      refine ev_s i95_49 (p := 50) rfl ?_
      refine ev_getf i95_50 zf7_47 (u := zR 2 0) rfl (p := 53) rfl ?_
      refine ev_getf i95_53 zf7_76 (u := zI (σ 2 0 9)) rfl (p := 56) rfl ?_
      refine ev_cmpge i95_56 (t := 90) (by decide) (p := 59) rfl h (fun c15 h => ?_) (fun c15 h => ?_)
      · refine ev_s i95_90 (p := 91) rfl ?_
        obtain rfl := Option.some.inj h
        exact ev_iret i95_91 zr95
      · refine ev_s i95_59 (p := 60) rfl ?_
        refine ev_getf i95_60 zf7_246 (u := zR 23 y2) rfl (p := 63) rfl ?_
        refine ev_s i95_63 (p := 65) rfl ?_
        refine ev_iald i95_65 rfl (n := 24) rfl (p := 66) rfl h (fun g16 h => ?_)
        refine ev_s i95_66 (p := 67) rfl ?_
        refine ev_getf i95_67 zf7_47 (u := zR 2 0) rfl (p := 70) rfl ?_
        refine ev_getf i95_70 zf7_93 (u := zR 17 0) rfl (p := 73) rfl ?_
        refine ev_s i95_73 (p := 75) rfl ?_
        refine ev_iald i95_75 rfl (n := 8) rfl (p := 76) rfl h (fun g17 h => ?_)
        refine ev_cmpeq i95_76 (t := 81) (by decide) (p := 79) rfl h (fun c18 h => ?_) (fun c18 h => ?_)
        · refine ev_iinc i95_81 zii_1 rfl (l := [some (zR 7 0), z1, some (zR 4 y2), some (zI (y3 + 1)), some (zI y4)]) rfl (p := 84) rfl ?_
          refine ev_iinc i95_84 zii_1 rfl (l := [some (zR 7 0), z1, some (zR 4 y2), some (zI (y3 + 1)), some (zI (y4 + 1))]) rfl (p := 87) rfl ?_
          refine ev_goto i95_87 (t := 38) (by decide) ?_
          exact ih y2 (y3 + 1) (y4 + 1) σ w _ hz1 h
        · refine ev_s i95_79 (p := 80) rfl ?_
          obtain rfl := Option.some.inj h
          exact ev_iret i95_80 zr95
def fA_judge (N : Nat) (x1 : Int32) (σ : zS) : Option (Int32 × zS) := (fA_isSheet x1).bind fun r2 => (if r2 = 0 then zb2 (fA_refuse 1 σ) fun r6 s5 => some (r6, s5) else zgd (zin x1 4) ((fH_isMissing x1.toNatClampNeg σ).bind fun r9 => (if r9 = 0 then fA_judge_L38 N N x1.toNatClampNeg 0 0 σ else zb2 (fA_refuse 2 σ) fun r13 s12 => some (r13, s12))))
set_option maxHeartbeats 4000000 in
theorem kA_judge (N : Nat) (x1 : Int32) (σ : zS) (w : Int32 × zS) (h : fA_judge N x1 σ = some w) (d : Nat) (hd : 1 ≤ d) : zEv d 95 0 [some (zR 7 0), some (zI x1), none, none, none] [] σ (some (zI w.1), w.2) := by
  unfold fA_judge at h
  refine ev_s i95_0 (p := 1) rfl ?_
  obtain ⟨r2, hr1, h⟩ := bd_some h
  refine ev_callS i95_1 zn7_209 zc7_209 zm105 (as := [zI x1]) (rest := []) rfl rfl (Nat.le_of_ble_eq_true rfl) (Nat.le_of_ble_eq_true rfl) (Nat.le_of_ble_eq_true rfl) (by omega) (l0 := [some (zI x1)]) rfl (p := 4) rfl (kA_isSheet x1 σ r2 hr1 (d - 1) (by omega)) ?_
  change zEv d 95 4 [some (zR 7 0), some (zI x1), none, none, none] [zI r2] σ _
  refine ev_ifne i95_4 (t := 13) (by decide) (p := 7) rfl h (fun c3 h => ?_) (fun c3 h => ?_)
  · refine ev_s i95_7 (p := 8) rfl ?_
    refine ev_s i95_8 (p := 9) (zic_1 _ _ _ _ _) ?_
    obtain ⟨r6, s5, hr4, h⟩ := b2_some h
    refine ev_callV i95_9 zc7_72 zm102 zo102 (as' := [zI 1]) (rest := []) rfl rfl (Nat.le_of_ble_eq_true rfl) (Nat.le_of_ble_eq_true rfl) (Nat.le_of_ble_eq_true rfl) (by omega) (l0 := [some (zR 7 0), some (zI 1)]) rfl (p := 12) rfl (kA_refuse 1 σ (r6, s5) hr4 (d - 1) (by omega)) ?_
    change zEv d 95 12 [some (zR 7 0), some (zI x1), none, none, none] [zI r6] s5 _
    obtain rfl := Option.some.inj h
    exact ev_iret i95_12 zr95
  · refine ev_s i95_13 (p := 14) rfl ?_
    refine ev_getf i95_14 zf7_35 (u := zR 25 0) rfl (p := 17) rfl ?_
    refine ev_s i95_17 (p := 18) rfl ?_
    refine ev_aald i95_18 (p := 19) rfl h (fun g7 h => ?_)
    refine ev_s i95_19 (p := 20) (l := [some (zR 7 0), some (zI x1), some (zR 4 x1.toNatClampNeg), none, none]) rfl ?_
    refine ev_s i95_20 (p := 21) rfl ?_
    obtain ⟨r9, hr8, h⟩ := bd_some h
    refine ev_callV i95_21 zc7_212 zm50 zo50 (as' := []) (rest := []) rfl rfl (Nat.le_of_ble_eq_true rfl) (Nat.le_of_ble_eq_true rfl) (Nat.le_of_ble_eq_true rfl) (by omega) (l0 := [some (zR 4 x1.toNatClampNeg)]) rfl (p := 24) rfl (kH_isMissing x1.toNatClampNeg σ r9 hr8 (d - 1) (by omega)) ?_
    change zEv d 95 24 [some (zR 7 0), some (zI x1), some (zR 4 x1.toNatClampNeg), none, none] [zI r9] σ _
    refine ev_ifeq i95_24 (t := 33) (by decide) (p := 27) rfl h (fun c10 h => ?_) (fun c10 h => ?_)
    · refine ev_s i95_33 (p := 34) (zic_0 _ _ _ _ _) ?_
      refine ev_s i95_34 (p := 35) (l := [some (zR 7 0), some (zI x1), some (zR 4 x1.toNatClampNeg), some (zI 0), none]) rfl ?_
      refine ev_s i95_35 (p := 36) (zic_0 _ _ _ _ _) ?_
      refine ev_s i95_36 (p := 38) (l := [some (zR 7 0), some (zI x1), some (zR 4 x1.toNatClampNeg), some (zI 0), some (zI 0)]) rfl ?_
      exact kA_judge_L38 N d hd N x1.toNatClampNeg 0 0 σ w _ rfl h
    · refine ev_s i95_27 (p := 28) rfl ?_
      refine ev_s i95_28 (p := 29) (zic_2 _ _ _ _ _) ?_
      obtain ⟨r13, s12, hr11, h⟩ := b2_some h
      refine ev_callV i95_29 zc7_72 zm102 zo102 (as' := [zI 2]) (rest := []) rfl rfl (Nat.le_of_ble_eq_true rfl) (Nat.le_of_ble_eq_true rfl) (Nat.le_of_ble_eq_true rfl) (by omega) (l0 := [some (zR 7 0), some (zI 2)]) rfl (p := 32) rfl (kA_refuse 2 σ (r13, s12) hr11 (d - 1) (by omega)) ?_
      change zEv d 95 32 [some (zR 7 0), some (zI x1), some (zR 4 x1.toNatClampNeg), none, none] [zI r13] s12 _
      obtain rfl := Option.some.inj h
      exact ev_iret i95_32 zr95
/-! fM_judge -/
def fM_judge_L18 (N : Nat) : Nat → Int32 → Int32 → zS → Option (Int32 × zS)
  | 0, _, _, _ => none
  | n + 1, y1, y3, σ => zgd (zin y1 4) ((if (σ 40 0 y1.toNatClampNeg) ≤ y3 then some (y3, σ) else (if (σ 30 0 4) ≤ y3 then some (y3, σ) else zgd (zin ((24 * y1) + y3) 96) ((fM_its y3 3 σ).bind fun r12 => (if (σ 41 0 ((24 * y1) + y3).toNatClampNeg) = r12 then fM_judge_L18 N n y1 (y3 + 1) σ else some (y3, σ))))))
set_option maxHeartbeats 4000000 in
theorem kM_judge_L18 (N : Nat) (d : Nat) (hd : 3 ≤ d)  : ∀ n : Nat, ∀ (y1 : Int32) (y3 : Int32) (σ : zS) (w : Int32 × zS) (z2 : Option zA) (hz2 : znl z2 = true), fM_judge_L18 N n y1 y3 σ = some w → zEv d 212 18 [some (zR 8 0), some (zI y1), z2, some (zI y3)] [] σ (some (zI w.1), w.2) := by
  intro n
  induction n with
  | zero =>
    intro y1 y3 σ w z2 hz2 h
    cases h
  | succ n ih =>
    intro y1 y3 σ w z2 hz2 h
    rw [fM_judge_L18] at h
    refine ev_s i212_18 (p := 19) rfl ?_
    refine ev_s i212_19 (p := 20) rfl ?_
    refine ev_getf i212_20 zf8_40 (u := zR 40 0) rfl (p := 23) rfl ?_
    refine ev_s i212_23 (p := 24) rfl ?_
    refine ev_iald i212_24 rfl (n := 4) rfl (p := 25) rfl h (fun g7 h => ?_)
    refine ev_cmpge i212_25 (t := 64) (by decide) (p := 28) rfl h (fun c8 h => ?_) (fun c8 h => ?_)
    · refine ev_s i212_64 (p := 65) rfl ?_
      obtain rfl := Option.some.inj h
      exact ev_iret i212_65 zr212
    · refine ev_s i212_28 (p := 29) rfl ?_
      refine ev_s i212_29 (p := 30) rfl ?_
      refine ev_getf i212_30 zf8_7 (u := zR 30 0) rfl (p := 33) rfl ?_
      refine ev_s i212_33 (p := 34) (zic_4 _ _ _ _ _) ?_
      refine ev_ialdK i212_34 rfl (n := 394) rfl (by decide) (p := 35) rfl ?_
      change zEv d 212 35 [some (zR 8 0), some (zI y1), z2, some (zI y3)] [zI (σ 30 0 4), zI y3] σ _
      refine ev_cmpge i212_35 (t := 64) (by decide) (p := 38) rfl h (fun c9 h => ?_) (fun c9 h => ?_)
      · refine ev_s i212_64 (p := 65) rfl ?_
        obtain rfl := Option.some.inj h
        exact ev_iret i212_65 zr212
      · refine ev_s i212_38 (p := 39) rfl ?_
        refine ev_getf i212_39 zf8_43 (u := zR 41 0) rfl (p := 42) rfl ?_
        refine ev_s i212_42 (p := 44) (zib_24 _ _ _ _ _) ?_
        refine ev_s i212_44 (p := 45) rfl ?_
        refine ev_s i212_45 (p := 46) (t := [zI (24 * y1), zR 41 0]) rfl ?_
        refine ev_s i212_46 (p := 47) rfl ?_
        refine ev_s i212_47 (p := 48) (t := [zI ((24 * y1) + y3), zR 41 0]) rfl ?_
        refine ev_iald i212_48 rfl (n := 96) rfl (p := 49) rfl h (fun g10 h => ?_)
        refine ev_s i212_49 (p := 50) rfl ?_
        refine ev_s i212_50 (p := 51) rfl ?_
        refine ev_s i212_51 (p := 52) (zic_3 _ _ _ _ _) ?_
        obtain ⟨r12, hr11, h⟩ := bd_some h
        refine ev_callV i212_52 zc8_54 zm118 zo118 (as' := [zI y3, zI 3]) (rest := [zI (σ 41 0 ((24 * y1) + y3).toNatClampNeg)]) rfl rfl (Nat.le_of_ble_eq_true rfl) (Nat.le_of_ble_eq_true rfl) (Nat.le_of_ble_eq_true rfl) (by omega) (l0 := [some (zR 8 0), some (zI y3), some (zI 3)]) rfl (p := 55) rfl (kM_its y3 3 σ r12 hr11 (d - 1) (by omega)) ?_
        change zEv d 212 55 [some (zR 8 0), some (zI y1), z2, some (zI y3)] [zI r12, zI (σ 41 0 ((24 * y1) + y3).toNatClampNeg)] σ _
        refine ev_cmpne i212_55 (t := 64) (by decide) (p := 58) rfl h (fun c13 h => ?_) (fun c13 h => ?_)
        · refine ev_iinc i212_58 zii_1 rfl (l := [some (zR 8 0), some (zI y1), z2, some (zI (y3 + 1))]) (by rcases z2 with _ | _ | _ | _ <;> first | rfl | cases hz2) (p := 61) rfl ?_
          refine ev_goto i212_61 (t := 18) (by decide) ?_
          exact ih y1 (y3 + 1) σ w _ hz2 h
        · refine ev_s i212_64 (p := 65) rfl ?_
          obtain rfl := Option.some.inj h
          exact ev_iret i212_65 zr212
def fM_judge (N : Nat) (x1 : Int32) (σ : zS) : Option (Int32 × zS) := (fM_lacks x1 σ).bind fun r2 => (if r2 = 0 then fM_judge_L18 N N x1 0 σ else zb2 (fM_error r2 σ) fun r6 s5 => some (r6, s5))
set_option maxHeartbeats 4000000 in
theorem kM_judge (N : Nat) (x1 : Int32) (σ : zS) (w : Int32 × zS) (h : fM_judge N x1 σ = some w) (d : Nat) (hd : 3 ≤ d) : zEv d 212 0 [some (zR 8 0), some (zI x1), none, none] [] σ (some (zI w.1), w.2) := by
  unfold fM_judge at h
  refine ev_s i212_0 (p := 1) rfl ?_
  refine ev_s i212_1 (p := 2) rfl ?_
  obtain ⟨r2, hr1, h⟩ := bd_some h
  refine ev_callV i212_2 zc8_286 zm210 zo210 (as' := [zI x1]) (rest := []) rfl rfl (Nat.le_of_ble_eq_true rfl) (Nat.le_of_ble_eq_true rfl) (Nat.le_of_ble_eq_true rfl) (by omega) (l0 := [some (zR 8 0), some (zI x1)]) rfl (p := 5) rfl (kM_lacks x1 σ r2 hr1 (d - 1) (by omega)) ?_
  change zEv d 212 5 [some (zR 8 0), some (zI x1), none, none] [zI r2] σ _
  refine ev_s i212_5 (p := 6) (l := [some (zR 8 0), some (zI x1), some (zI r2), none]) rfl ?_
  refine ev_s i212_6 (p := 7) rfl ?_
  refine ev_ifeq i212_7 (t := 16) (by decide) (p := 10) rfl h (fun c3 h => ?_) (fun c3 h => ?_)
  · refine ev_s i212_16 (p := 17) (zic_0 _ _ _ _ _) ?_
    refine ev_s i212_17 (p := 18) (l := [some (zR 8 0), some (zI x1), some (zI r2), some (zI 0)]) rfl ?_
    exact kM_judge_L18 N d hd N x1 0 σ w _ rfl h
  · refine ev_s i212_10 (p := 11) rfl ?_
    refine ev_s i212_11 (p := 12) rfl ?_
    obtain ⟨r6, s5, hr4, h⟩ := b2_some h
    refine ev_callV i212_12 zc8_58 zm110 zo110 (as' := [zI r2]) (rest := []) rfl rfl (Nat.le_of_ble_eq_true rfl) (Nat.le_of_ble_eq_true rfl) (Nat.le_of_ble_eq_true rfl) (by omega) (l0 := [some (zR 8 0), some (zI r2)]) rfl (p := 15) rfl (kM_error r2 σ (r6, s5) hr4 (d - 1) (by omega)) ?_
    change zEv d 212 15 [some (zR 8 0), some (zI x1), some (zI r2), none] [zI r6] s5 _
    obtain rfl := Option.some.inj h
    exact ev_iret i212_15 zr212
/-! fL_take_10 -/
def fL_take_10_J34 (N : Nat) (b : Nat) (p1 : Nat) (y2 : Int32) (σ : zS) : Option (zS) := zlt (zup σ 0 b 1 y2) fun s7 => some s7
set_option maxHeartbeats 4000000 in
theorem kL_take_10_J34 (N : Nat) (b : Nat) (p1 : Nat) (d : Nat) (hd : 0 ≤ d)  : ∀ (y2 : Int32) (σ : zS) (w : zS) (z1 : Option zA) (z3 : Option zA), fL_take_10_J34 N b p1 y2 σ = some w → zEv d 0 34 [some (zR 0 b), z1, some (zI y2), z3] [] σ (none, w) := by
  intro y2 σ w z1 z3 h
  unfold fL_take_10_J34 at h
  refine ev_s i0_34 (p := 35) rfl ?_
  refine ev_s i0_35 (p := 36) rfl ?_
  refine ev_putf i0_36 zf0_22 rfl rfl rfl (p := 39) rfl ?_
  refine ev_lets h (fun s7 es7 h => ?_)
  obtain rfl := Option.some.inj h
  exact ev_vret i0_39 zr0
def fL_take_10_L2 (N : Nat) (b : Nat) (p1 : Nat) : Nat → Int32 → Int32 → zS → Option (zS)
  | 0, _, _, _ => none
  | n + 1, y2, y3, σ => (if y2 ≤ y3 then fL_take_10_J34 N b p1 y2 σ else (if 60 ≤ y3 then fL_take_10_J34 N b p1 y2 σ else (if 60 ≤ y3 then fL_take_10_J34 N b p1 y2 σ else zgd (zin y3 60) (zgd (zin y3 60) (zlt (zup σ 10 b y3.toNatClampNeg (σ 10 p1 y3.toNatClampNeg)) fun s5 => fL_take_10_L2 N b p1 n y2 (y3 + 1) s5)))))
set_option maxHeartbeats 4000000 in
theorem kL_take_10_L2 (N : Nat) (b : Nat) (p1 : Nat) (d : Nat) (hd : 0 ≤ d)  : ∀ n : Nat, ∀ (y2 : Int32) (y3 : Int32) (σ : zS) (w : zS), fL_take_10_L2 N b p1 n y2 y3 σ = some w → zEv d 0 2 [some (zR 0 b), some (zR 10 p1), some (zI y2), some (zI y3)] [] σ (none, w) := by
  intro n
  induction n with
  | zero =>
    intro y2 y3 σ w h
    cases h
  | succ n ih =>
    intro y2 y3 σ w h
    rw [fL_take_10_L2] at h
    refine ev_s i0_2 (p := 3) rfl ?_
    refine ev_s i0_3 (p := 4) rfl ?_
    refine ev_cmpge i0_4 (t := 34) (by decide) (p := 7) rfl h (fun c1 h => ?_) (fun c1 h => ?_)
    · exact kL_take_10_J34 N b p1 d hd y2 σ w _ _ h
    · refine ev_s i0_7 (p := 8) rfl ?_
      refine ev_s i0_8 (p := 10) (zib_60 _ _ _ _ _) ?_
      refine ev_cmpge i0_10 (t := 34) (by decide) (p := 13) rfl h (fun c2 h => ?_) (fun c2 h => ?_)
      · exact kL_take_10_J34 N b p1 d hd y2 σ w _ _ h
      · refine ev_s i0_13 (p := 14) rfl ?_
        refine ev_s i0_14 (p := 15) rfl ?_
        refine ev_alen i0_15 rfl (v := 60) rfl (p := 16) rfl ?_
        refine ev_cmpge i0_16 (t := 34) (by decide) (p := 19) rfl h (fun c3 h => ?_) (fun c3 h => ?_)
        · exact kL_take_10_J34 N b p1 d hd y2 σ w _ _ h
        · refine ev_s i0_19 (p := 20) rfl ?_
          refine ev_getf i0_20 zf0_9 (u := zR 10 b) rfl (p := 23) rfl ?_
          refine ev_s i0_23 (p := 24) rfl ?_
          refine ev_s i0_24 (p := 25) rfl ?_
          refine ev_s i0_25 (p := 26) rfl ?_
          refine ev_iald i0_26 rfl (n := 60) rfl (p := 27) rfl h (fun g4 h => ?_)
          refine ev_iast i0_27 rfl (n := 60) rfl (p := 28) rfl h (fun g6 h => ?_)
          refine ev_lets h (fun s5 es5 h => ?_)
          refine ev_iinc i0_28 zii_1 rfl (l := [some (zR 0 b), some (zR 10 p1), some (zI y2), some (zI (y3 + 1))]) rfl (p := 31) rfl ?_
          refine ev_goto i0_31 (t := 2) (by decide) ?_
          exact ih y2 (y3 + 1) s5 w h
def fL_take_10 (N : Nat) (b : Nat) (p1 : Nat) (x2 : Int32) (σ : zS) : Option (zS) := fL_take_10_L2 N b p1 N x2 0 σ
set_option maxHeartbeats 4000000 in
theorem kL_take_10 (N : Nat) (b : Nat) (p1 : Nat) (x2 : Int32) (σ : zS) (w : zS) (h : fL_take_10 N b p1 x2 σ = some w) (d : Nat) (hd : 0 ≤ d) : zEv d 0 0 [some (zR 0 b), some (zR 10 p1), some (zI x2), none] [] σ (none, w) := by
  unfold fL_take_10 at h
  refine ev_s i0_0 (p := 1) (zic_0 _ _ _ _ _) ?_
  refine ev_s i0_1 (p := 2) (l := [some (zR 0 b), some (zR 10 p1), some (zI x2), some (zI 0)]) rfl ?_
  exact kL_take_10_L2 N b p1 d hd N x2 0 σ w h
/-! fW_copy -/
def fW_copy_J37 (N : Nat) (b : Nat) (p1 : Nat) (σ : zS) : Option (zS) := zlt (zup σ 3 b 1 (σ 3 p1 1)) fun s6 => some s6
set_option maxHeartbeats 4000000 in
theorem kW_copy_J37 (N : Nat) (b : Nat) (p1 : Nat) (d : Nat) (hd : 0 ≤ d)  : ∀ (σ : zS) (w : zS) (z2 : Option zA), fW_copy_J37 N b p1 σ = some w → zEv d 49 37 [some (zR 3 b), some (zR 3 p1), z2] [] σ (none, w) := by
  intro σ w z2 h
  unfold fW_copy_J37 at h
  refine ev_s i49_37 (p := 38) rfl ?_
  refine ev_s i49_38 (p := 39) rfl ?_
  refine ev_getf i49_39 zf3_13 (u := zI (σ 3 p1 1)) rfl (p := 42) rfl ?_
  refine ev_putf i49_42 zf3_13 rfl rfl rfl (p := 45) rfl ?_
  refine ev_lets h (fun s6 es6 h => ?_)
  obtain rfl := Option.some.inj h
  exact ev_vret i49_45 zr49
def fW_copy_L2 (N : Nat) (b : Nat) (p1 : Nat) : Nat → Int32 → zS → Option (zS)
  | 0, _, _ => none
  | n + 1, y2, σ => (if (σ 3 p1 1) ≤ y2 then fW_copy_J37 N b p1 σ else (if (Int32.ofNat (if b % 2 = 0 then 60 else 24)) ≤ y2 then fW_copy_J37 N b p1 σ else zgd (zin y2 (if p1 % 2 = 0 then 60 else 24)) (zgd (zin y2 (if b % 2 = 0 then 60 else 24)) (zlt (zup σ 22 b y2.toNatClampNeg (σ 22 p1 y2.toNatClampNeg)) fun s4 => fW_copy_L2 N b p1 n (y2 + 1) s4))))
set_option maxHeartbeats 4000000 in
theorem kW_copy_L2 (N : Nat) (b : Nat) (p1 : Nat) (d : Nat) (hd : 0 ≤ d)  : ∀ n : Nat, ∀ (y2 : Int32) (σ : zS) (w : zS), fW_copy_L2 N b p1 n y2 σ = some w → zEv d 49 2 [some (zR 3 b), some (zR 3 p1), some (zI y2)] [] σ (none, w) := by
  intro n
  induction n with
  | zero =>
    intro y2 σ w h
    cases h
  | succ n ih =>
    intro y2 σ w h
    rw [fW_copy_L2] at h
    refine ev_s i49_2 (p := 3) rfl ?_
    refine ev_s i49_3 (p := 4) rfl ?_
    refine ev_getf i49_4 zf3_13 (u := zI (σ 3 p1 1)) rfl (p := 7) rfl ?_
    refine ev_cmpge i49_7 (t := 37) (by decide) (p := 10) rfl h (fun c1 h => ?_) (fun c1 h => ?_)
    · exact kW_copy_J37 N b p1 d hd σ w _ h
    · refine ev_s i49_10 (p := 11) rfl ?_
      refine ev_s i49_11 (p := 12) rfl ?_
      refine ev_getf i49_12 zf3_7 (u := zR 22 b) rfl (p := 15) rfl ?_
      refine ev_alen i49_15 rfl (v := Int32.ofNat (if b % 2 = 0 then 60 else 24)) rfl (p := 16) rfl ?_
      refine ev_cmpge i49_16 (t := 37) (by decide) (p := 19) rfl h (fun c2 h => ?_) (fun c2 h => ?_)
      · exact kW_copy_J37 N b p1 d hd σ w _ h
      · refine ev_s i49_19 (p := 20) rfl ?_
        refine ev_getf i49_20 zf3_7 (u := zR 22 b) rfl (p := 23) rfl ?_
        refine ev_s i49_23 (p := 24) rfl ?_
        refine ev_s i49_24 (p := 25) rfl ?_
        refine ev_getf i49_25 zf3_7 (u := zR 22 p1) rfl (p := 28) rfl ?_
        refine ev_s i49_28 (p := 29) rfl ?_
        refine ev_iald i49_29 rfl (n := (if p1 % 2 = 0 then 60 else 24)) rfl (p := 30) rfl h (fun g3 h => ?_)
        refine ev_iast i49_30 rfl (n := (if b % 2 = 0 then 60 else 24)) rfl (p := 31) rfl h (fun g5 h => ?_)
        refine ev_lets h (fun s4 es4 h => ?_)
        refine ev_iinc i49_31 zii_1 rfl (l := [some (zR 3 b), some (zR 3 p1), some (zI (y2 + 1))]) rfl (p := 34) rfl ?_
        refine ev_goto i49_34 (t := 2) (by decide) ?_
        exact ih (y2 + 1) s4 w h
def fW_copy (N : Nat) (b : Nat) (p1 : Nat) (σ : zS) : Option (zS) := fW_copy_L2 N b p1 N 0 σ
set_option maxHeartbeats 4000000 in
theorem kW_copy (N : Nat) (b : Nat) (p1 : Nat) (σ : zS) (w : zS) (h : fW_copy N b p1 σ = some w) (d : Nat) (hd : 0 ≤ d) : zEv d 49 0 [some (zR 3 b), some (zR 3 p1), none] [] σ (none, w) := by
  unfold fW_copy at h
  refine ev_s i49_0 (p := 1) (zic_0 _ _ _ _ _) ?_
  refine ev_s i49_1 (p := 2) (l := [some (zR 3 b), some (zR 3 p1), some (zI 0)]) rfl ?_
  exact kW_copy_L2 N b p1 d hd N 0 σ w h
/-! fT_copy -/
def fT_copy (N : Nat) (b : Nat) (p1 : Nat) (σ : zS) : Option (zS) := (fL_take_10 N (2 * b) (2 * p1) (σ 0 (2 * p1) 1) σ).bind fun s2 => (fL_take_10 N (2 * b + 1) (2 * p1 + 1) (s2 0 (2 * p1 + 1) 1) s2).bind fun s4 => (fR_copy b p1 s4).bind fun s6 => (fW_copy N (2 * b) (2 * p1) s6).bind fun s8 => (fW_copy N (2 * b + 1) (2 * p1 + 1) s8).bind fun s10 => some s10
set_option maxHeartbeats 4000000 in
theorem kT_copy (N : Nat) (b : Nat) (p1 : Nat) (σ : zS) (w : zS) (h : fT_copy N b p1 σ = some w) (d : Nat) (hd : 1 ≤ d) : zEv d 54 0 [some (zR 5 b), some (zR 5 p1)] [] σ (none, w) := by
  unfold fT_copy at h
  refine ev_s i54_0 (p := 1) rfl ?_
  refine ev_getf i54_1 zf5_14 (u := zR 0 (2 * b)) rfl (p := 4) rfl ?_
  refine ev_s i54_4 (p := 5) rfl ?_
  refine ev_getf i54_5 zf5_14 (u := zR 0 (2 * p1)) rfl (p := 8) rfl ?_
  refine ev_getf i54_8 zf5_42 (u := zR 10 (2 * p1)) rfl (p := 11) rfl ?_
  refine ev_s i54_11 (p := 12) rfl ?_
  refine ev_getf i54_12 zf5_14 (u := zR 0 (2 * p1)) rfl (p := 15) rfl ?_
  refine ev_getf i54_15 zf5_46 (u := zI (σ 0 (2 * p1) 1)) rfl (p := 18) rfl ?_
  obtain ⟨s2, hr1, h⟩ := bd_some h
  refine ev_callV i54_18 zc5_50 zm0 zo0 (as' := [zR 10 (2 * p1), zI (σ 0 (2 * p1) 1)]) (rest := []) rfl rfl (Nat.le_of_ble_eq_true rfl) (Nat.le_of_ble_eq_true rfl) (Nat.le_of_ble_eq_true rfl) (by omega) (l0 := [some (zR 0 (2 * b)), some (zR 10 (2 * p1)), some (zI (σ 0 (2 * p1) 1)), none]) rfl (p := 21) rfl (kL_take_10 N (2 * b) (2 * p1) (σ 0 (2 * p1) 1) σ s2 hr1 (d - 1) (by omega)) ?_
  change zEv d 54 21 [some (zR 5 b), some (zR 5 p1)] [] s2 _
  refine ev_s i54_21 (p := 22) rfl ?_
  refine ev_getf i54_22 zf5_20 (u := zR 0 (2 * b + 1)) rfl (p := 25) rfl ?_
  refine ev_s i54_25 (p := 26) rfl ?_
  refine ev_getf i54_26 zf5_20 (u := zR 0 (2 * p1 + 1)) rfl (p := 29) rfl ?_
  refine ev_getf i54_29 zf5_42 (u := zR 10 (2 * p1 + 1)) rfl (p := 32) rfl ?_
  refine ev_s i54_32 (p := 33) rfl ?_
  refine ev_getf i54_33 zf5_20 (u := zR 0 (2 * p1 + 1)) rfl (p := 36) rfl ?_
  refine ev_getf i54_36 zf5_46 (u := zI (s2 0 (2 * p1 + 1) 1)) rfl (p := 39) rfl ?_
  obtain ⟨s4, hr3, h⟩ := bd_some h
  refine ev_callV i54_39 zc5_50 zm0 zo0 (as' := [zR 10 (2 * p1 + 1), zI (s2 0 (2 * p1 + 1) 1)]) (rest := []) rfl rfl (Nat.le_of_ble_eq_true rfl) (Nat.le_of_ble_eq_true rfl) (Nat.le_of_ble_eq_true rfl) (by omega) (l0 := [some (zR 0 (2 * b + 1)), some (zR 10 (2 * p1 + 1)), some (zI (s2 0 (2 * p1 + 1) 1)), none]) rfl (p := 42) rfl (kL_take_10 N (2 * b + 1) (2 * p1 + 1) (s2 0 (2 * p1 + 1) 1) s2 s4 hr3 (d - 1) (by omega)) ?_
  change zEv d 54 42 [some (zR 5 b), some (zR 5 p1)] [] s4 _
  refine ev_s i54_42 (p := 43) rfl ?_
  refine ev_getf i54_43 zf5_28 (u := zR 2 b) rfl (p := 46) rfl ?_
  refine ev_s i54_46 (p := 47) rfl ?_
  refine ev_getf i54_47 zf5_28 (u := zR 2 p1) rfl (p := 50) rfl ?_
  obtain ⟨s6, hr5, h⟩ := bd_some h
  refine ev_callV i54_50 zc5_54 zm17 zo17 (as' := [zR 2 p1]) (rest := []) rfl rfl (Nat.le_of_ble_eq_true rfl) (Nat.le_of_ble_eq_true rfl) (Nat.le_of_ble_eq_true rfl) (by omega) (l0 := [some (zR 2 b), some (zR 2 p1)]) rfl (p := 53) rfl (kR_copy b p1 s4 s6 hr5 (d - 1) (by omega)) ?_
  change zEv d 54 53 [some (zR 5 b), some (zR 5 p1)] [] s6 _
  refine ev_s i54_53 (p := 54) rfl ?_
  refine ev_getf i54_54 zf5_35 (u := zR 3 (2 * b)) rfl (p := 57) rfl ?_
  refine ev_s i54_57 (p := 58) rfl ?_
  refine ev_getf i54_58 zf5_35 (u := zR 3 (2 * p1)) rfl (p := 61) rfl ?_
  obtain ⟨s8, hr7, h⟩ := bd_some h
  refine ev_callV i54_61 zc5_58 zm49 zo49 (as' := [zR 3 (2 * p1)]) (rest := []) rfl rfl (Nat.le_of_ble_eq_true rfl) (Nat.le_of_ble_eq_true rfl) (Nat.le_of_ble_eq_true rfl) (by omega) (l0 := [some (zR 3 (2 * b)), some (zR 3 (2 * p1)), none]) rfl (p := 64) rfl (kW_copy N (2 * b) (2 * p1) s6 s8 hr7 (d - 1) (by omega)) ?_
  change zEv d 54 64 [some (zR 5 b), some (zR 5 p1)] [] s8 _
  refine ev_s i54_64 (p := 65) rfl ?_
  refine ev_getf i54_65 zf5_39 (u := zR 3 (2 * b + 1)) rfl (p := 68) rfl ?_
  refine ev_s i54_68 (p := 69) rfl ?_
  refine ev_getf i54_69 zf5_39 (u := zR 3 (2 * p1 + 1)) rfl (p := 72) rfl ?_
  obtain ⟨s10, hr9, h⟩ := bd_some h
  refine ev_callV i54_72 zc5_58 zm49 zo49 (as' := [zR 3 (2 * p1 + 1)]) (rest := []) rfl rfl (Nat.le_of_ble_eq_true rfl) (Nat.le_of_ble_eq_true rfl) (Nat.le_of_ble_eq_true rfl) (by omega) (l0 := [some (zR 3 (2 * b + 1)), some (zR 3 (2 * p1 + 1)), none]) rfl (p := 75) rfl (kW_copy N (2 * b + 1) (2 * p1 + 1) s8 s10 hr9 (d - 1) (by omega)) ?_
  change zEv d 54 75 [some (zR 5 b), some (zR 5 p1)] [] s10 _
  obtain rfl := Option.some.inj h
  exact ev_vret i54_75 zr54
/-! fA_image -/
def fA_image (N : Nat) (σ : zS) : Option (Int32 × zS) := (fT_copy N 1 0 σ).bind fun s2 => zlt (zup s2 7 0 8 ((s2 7 0 8) + 1)) fun s3 => some (s3 7 0 8, s3)
set_option maxHeartbeats 4000000 in
theorem kA_image (N : Nat) (σ : zS) (w : Int32 × zS) (h : fA_image N σ = some w) (d : Nat) (hd : 2 ≤ d) : zEv d 96 0 [some (zR 7 0)] [] σ (some (zI w.1), w.2) := by
  unfold fA_image at h
  refine ev_s i96_0 (p := 1) rfl ?_
  refine ev_getf i96_1 zf7_16 (u := zR 5 1) rfl (p := 4) rfl ?_
  refine ev_s i96_4 (p := 5) rfl ?_
  refine ev_getf i96_5 zf7_10 (u := zR 5 0) rfl (p := 8) rfl ?_
  obtain ⟨s2, hr1, h⟩ := bd_some h
  refine ev_callV i96_8 zc7_255 zm54 zo54 (as' := [zR 5 0]) (rest := []) rfl rfl (Nat.le_of_ble_eq_true rfl) (Nat.le_of_ble_eq_true rfl) (Nat.le_of_ble_eq_true rfl) (by omega) (l0 := [some (zR 5 1), some (zR 5 0)]) rfl (p := 11) rfl (kT_copy N 1 0 σ s2 hr1 (d - 1) (by omega)) ?_
  change zEv d 96 11 [some (zR 7 0)] [] s2 _
  refine ev_s i96_11 (p := 12) rfl ?_
  refine ev_s i96_12 (p := 13) rfl ?_
  refine ev_getf i96_13 zf7_258 (u := zI (s2 7 0 8)) rfl (p := 16) rfl ?_
  refine ev_s i96_16 (p := 17) (zic_1 _ _ _ _ _) ?_
  refine ev_s i96_17 (p := 18) (t := [zI ((s2 7 0 8) + 1), zR 7 0]) rfl ?_
  refine ev_putf i96_18 zf7_258 rfl rfl rfl (p := 21) rfl ?_
  refine ev_lets h (fun s3 es3 h => ?_)
  refine ev_s i96_21 (p := 22) rfl ?_
  refine ev_getf i96_22 zf7_258 (u := zI (s3 7 0 8)) rfl (p := 25) rfl ?_
  obtain rfl := Option.some.inj h
  exact ev_iret i96_25 zr96
/-! fM_copyAll_30_31 -/
def fM_copyAll_30_31_L2 (N : Nat) : Nat → Int32 → zS → Option (zS)
  | 0, _, _ => none
  | n + 1, y2, σ => (if 394 ≤ y2 then some σ else zgd (zin y2 394) (zgd (zin y2 394) (zlt (zup σ 31 0 y2.toNatClampNeg (σ 30 0 y2.toNatClampNeg)) fun s3 => fM_copyAll_30_31_L2 N n (y2 + 1) s3)))
set_option maxHeartbeats 4000000 in
theorem kM_copyAll_30_31_L2 (N : Nat) (d : Nat) (hd : 0 ≤ d)  : ∀ n : Nat, ∀ (y2 : Int32) (σ : zS) (w : zS), fM_copyAll_30_31_L2 N n y2 σ = some w → zEv d 113 2 [some (zR 30 0), some (zR 31 0), some (zI y2)] [] σ (none, w) := by
  intro n
  induction n with
  | zero =>
    intro y2 σ w h
    cases h
  | succ n ih =>
    intro y2 σ w h
    rw [fM_copyAll_30_31_L2] at h
    refine ev_s i113_2 (p := 3) rfl ?_
    refine ev_s i113_3 (p := 6) (zis_394 _ _ _ _ _) ?_
    refine ev_cmpge i113_6 (t := 21) (by decide) (p := 9) rfl h (fun c1 h => ?_) (fun c1 h => ?_)
    · obtain rfl := Option.some.inj h
      exact ev_vret i113_21 zr113
    · refine ev_s i113_9 (p := 10) rfl ?_
      refine ev_s i113_10 (p := 11) rfl ?_
      refine ev_s i113_11 (p := 12) rfl ?_
      refine ev_s i113_12 (p := 13) rfl ?_
      refine ev_iald i113_13 rfl (n := 394) rfl (p := 14) rfl h (fun g2 h => ?_)
      refine ev_iast i113_14 rfl (n := 394) rfl (p := 15) rfl h (fun g4 h => ?_)
      refine ev_lets h (fun s3 es3 h => ?_)
      refine ev_iinc i113_15 zii_1 rfl (l := [some (zR 30 0), some (zR 31 0), some (zI (y2 + 1))]) rfl (p := 18) rfl ?_
      refine ev_goto i113_18 (t := 2) (by decide) ?_
      exact ih (y2 + 1) s3 w h
def fM_copyAll_30_31 (N : Nat) (σ : zS) : Option (zS) := fM_copyAll_30_31_L2 N N 0 σ
set_option maxHeartbeats 4000000 in
theorem kM_copyAll_30_31 (N : Nat) (σ : zS) (w : zS) (h : fM_copyAll_30_31 N σ = some w) (d : Nat) (hd : 0 ≤ d) : zEv d 113 0 [some (zR 30 0), some (zR 31 0), none] [] σ (none, w) := by
  unfold fM_copyAll_30_31 at h
  refine ev_s i113_0 (p := 1) (zic_0 _ _ _ _ _) ?_
  refine ev_s i113_1 (p := 2) (l := [some (zR 30 0), some (zR 31 0), some (zI 0)]) rfl ?_
  exact kM_copyAll_30_31_L2 N d hd N 0 σ w h
/-! fM_image -/
def fM_image (N : Nat) (σ : zS) : Option (Int32 × zS) := (fM_copyAll_30_31 N σ).bind fun s2 => zlt (zup s2 8 0 4 ((s2 8 0 4) + 1)) fun s3 => some (s3 8 0 4, s3)
set_option maxHeartbeats 4000000 in
theorem kM_image (N : Nat) (σ : zS) (w : Int32 × zS) (h : fM_image N σ = some w) (d : Nat) (hd : 1 ≤ d) : zEv d 213 0 [some (zR 8 0)] [] σ (some (zI w.1), w.2) := by
  unfold fM_image at h
  refine ev_s i213_0 (p := 1) rfl ?_
  refine ev_getf i213_1 zf8_7 (u := zR 30 0) rfl (p := 4) rfl ?_
  refine ev_s i213_4 (p := 5) rfl ?_
  refine ev_getf i213_5 zf8_13 (u := zR 31 0) rfl (p := 8) rfl ?_
  obtain ⟨s2, hr1, h⟩ := bd_some h
  refine ev_callS i213_8 zn8_289 zc8_289 zm113 (as := [zR 30 0, zR 31 0]) (rest := []) rfl rfl (Nat.le_of_ble_eq_true rfl) (Nat.le_of_ble_eq_true rfl) (Nat.le_of_ble_eq_true rfl) (by omega) (l0 := [some (zR 30 0), some (zR 31 0), none]) rfl (p := 11) rfl (kM_copyAll_30_31 N σ s2 hr1 (d - 1) (by omega)) ?_
  change zEv d 213 11 [some (zR 8 0)] [] s2 _
  refine ev_s i213_11 (p := 12) rfl ?_
  refine ev_s i213_12 (p := 13) rfl ?_
  refine ev_getf i213_13 zf8_293 (u := zI (s2 8 0 4)) rfl (p := 16) rfl ?_
  refine ev_s i213_16 (p := 17) (zic_1 _ _ _ _ _) ?_
  refine ev_s i213_17 (p := 18) (t := [zI ((s2 8 0 4) + 1), zR 8 0]) rfl ?_
  refine ev_putf i213_18 zf8_293 rfl rfl rfl (p := 21) rfl ?_
  refine ev_lets h (fun s3 es3 h => ?_)
  refine ev_s i213_21 (p := 22) rfl ?_
  refine ev_getf i213_22 zf8_293 (u := zI (s3 8 0 4)) rfl (p := 25) rfl ?_
  obtain rfl := Option.some.inj h
  exact ev_iret i213_25 zr213
/-! fA_restore -/
def fA_restore (N : Nat) (σ : zS) : Option (Int32 × zS) := (if (σ 7 0 8) = 0 then zb2 (fA_refuse 2 σ) fun r4 s3 => some (r4, s3) else (fT_copy N 0 1 σ).bind fun s6 => some (s6 2 0 10, s6))
set_option maxHeartbeats 4000000 in
theorem kA_restore (N : Nat) (σ : zS) (w : Int32 × zS) (h : fA_restore N σ = some w) (d : Nat) (hd : 2 ≤ d) : zEv d 97 0 [some (zR 7 0)] [] σ (some (zI w.1), w.2) := by
  unfold fA_restore at h
  refine ev_s i97_0 (p := 1) rfl ?_
  refine ev_getf i97_1 zf7_258 (u := zI (σ 7 0 8)) rfl (p := 4) rfl ?_
  refine ev_ifne i97_4 (t := 13) (by decide) (p := 7) rfl h (fun c1 h => ?_) (fun c1 h => ?_)
  · refine ev_s i97_7 (p := 8) rfl ?_
    refine ev_s i97_8 (p := 9) (zic_2 _ _ _ _ _) ?_
    obtain ⟨r4, s3, hr2, h⟩ := b2_some h
    refine ev_callV i97_9 zc7_72 zm102 zo102 (as' := [zI 2]) (rest := []) rfl rfl (Nat.le_of_ble_eq_true rfl) (Nat.le_of_ble_eq_true rfl) (Nat.le_of_ble_eq_true rfl) (by omega) (l0 := [some (zR 7 0), some (zI 2)]) rfl (p := 12) rfl (kA_refuse 2 σ (r4, s3) hr2 (d - 1) (by omega)) ?_
    change zEv d 97 12 [some (zR 7 0)] [zI r4] s3 _
    obtain rfl := Option.some.inj h
    exact ev_iret i97_12 zr97
  · refine ev_s i97_13 (p := 14) rfl ?_
    refine ev_getf i97_14 zf7_10 (u := zR 5 0) rfl (p := 17) rfl ?_
    refine ev_s i97_17 (p := 18) rfl ?_
    refine ev_getf i97_18 zf7_16 (u := zR 5 1) rfl (p := 21) rfl ?_
    obtain ⟨s6, hr5, h⟩ := bd_some h
    refine ev_callV i97_21 zc7_255 zm54 zo54 (as' := [zR 5 1]) (rest := []) rfl rfl (Nat.le_of_ble_eq_true rfl) (Nat.le_of_ble_eq_true rfl) (Nat.le_of_ble_eq_true rfl) (by omega) (l0 := [some (zR 5 0), some (zR 5 1)]) rfl (p := 24) rfl (kT_copy N 0 1 σ s6 hr5 (d - 1) (by omega)) ?_
    change zEv d 97 24 [some (zR 7 0)] [] s6 _
    refine ev_s i97_24 (p := 25) rfl ?_
    refine ev_getf i97_25 zf7_47 (u := zR 2 0) rfl (p := 28) rfl ?_
    refine ev_getf i97_28 zf7_158 (u := zI (s6 2 0 10)) rfl (p := 31) rfl ?_
    obtain rfl := Option.some.inj h
    exact ev_iret i97_31 zr97
/-! fM_copyAll_31_30 -/
def fM_copyAll_31_30_L2 (N : Nat) : Nat → Int32 → zS → Option (zS)
  | 0, _, _ => none
  | n + 1, y2, σ => (if 394 ≤ y2 then some σ else zgd (zin y2 394) (zgd (zin y2 394) (zlt (zup σ 30 0 y2.toNatClampNeg (σ 31 0 y2.toNatClampNeg)) fun s3 => fM_copyAll_31_30_L2 N n (y2 + 1) s3)))
set_option maxHeartbeats 4000000 in
theorem kM_copyAll_31_30_L2 (N : Nat) (d : Nat) (hd : 0 ≤ d)  : ∀ n : Nat, ∀ (y2 : Int32) (σ : zS) (w : zS), fM_copyAll_31_30_L2 N n y2 σ = some w → zEv d 113 2 [some (zR 31 0), some (zR 30 0), some (zI y2)] [] σ (none, w) := by
  intro n
  induction n with
  | zero =>
    intro y2 σ w h
    cases h
  | succ n ih =>
    intro y2 σ w h
    rw [fM_copyAll_31_30_L2] at h
    refine ev_s i113_2 (p := 3) rfl ?_
    refine ev_s i113_3 (p := 6) (zis_394 _ _ _ _ _) ?_
    refine ev_cmpge i113_6 (t := 21) (by decide) (p := 9) rfl h (fun c1 h => ?_) (fun c1 h => ?_)
    · obtain rfl := Option.some.inj h
      exact ev_vret i113_21 zr113
    · refine ev_s i113_9 (p := 10) rfl ?_
      refine ev_s i113_10 (p := 11) rfl ?_
      refine ev_s i113_11 (p := 12) rfl ?_
      refine ev_s i113_12 (p := 13) rfl ?_
      refine ev_iald i113_13 rfl (n := 394) rfl (p := 14) rfl h (fun g2 h => ?_)
      refine ev_iast i113_14 rfl (n := 394) rfl (p := 15) rfl h (fun g4 h => ?_)
      refine ev_lets h (fun s3 es3 h => ?_)
      refine ev_iinc i113_15 zii_1 rfl (l := [some (zR 31 0), some (zR 30 0), some (zI (y2 + 1))]) rfl (p := 18) rfl ?_
      refine ev_goto i113_18 (t := 2) (by decide) ?_
      exact ih (y2 + 1) s3 w h
def fM_copyAll_31_30 (N : Nat) (σ : zS) : Option (zS) := fM_copyAll_31_30_L2 N N 0 σ
set_option maxHeartbeats 4000000 in
theorem kM_copyAll_31_30 (N : Nat) (σ : zS) (w : zS) (h : fM_copyAll_31_30 N σ = some w) (d : Nat) (hd : 0 ≤ d) : zEv d 113 0 [some (zR 31 0), some (zR 30 0), none] [] σ (none, w) := by
  unfold fM_copyAll_31_30 at h
  refine ev_s i113_0 (p := 1) (zic_0 _ _ _ _ _) ?_
  refine ev_s i113_1 (p := 2) (l := [some (zR 31 0), some (zR 30 0), some (zI 0)]) rfl ?_
  exact kM_copyAll_31_30_L2 N d hd N 0 σ w h
