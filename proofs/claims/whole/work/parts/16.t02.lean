/-! fM_law -/
def fM_law (N : Nat) (x1 : Int32) (x2 : Int32) (x3 : Int32) (x4 : Int32) (σ : zS) : Option (Int32 × zS) := (fM_in x1 0 1).bind fun r2 => (if r2 = 0 then zb2 (fM_error 1 σ) fun r6 s5 => some (r6, s5) else zb2 (fM_givenBy N x1 x2 x3 x4 σ) fun r9 s8 => some (r9, s8))
set_option maxHeartbeats 4000000 in
theorem kM_law (N : Nat) (x1 : Int32) (x2 : Int32) (x3 : Int32) (x4 : Int32) (σ : zS) (w : Int32 × zS) (h : fM_law N x1 x2 x3 x4 σ = some w) (d : Nat) (hd : 3 ≤ d) : zEv d 168 0 [some (zR 8 0), some (zI x1), some (zI x2), some (zI x3), some (zI x4)] [] σ (some (zI w.1), w.2) := by
  unfold fM_law at h
  refine ev_s i168_0 (p := 1) rfl ?_
  refine ev_s i168_1 (p := 2) (zic_0 _ _ _ _ _) ?_
  refine ev_s i168_2 (p := 3) (zic_1 _ _ _ _ _) ?_
  obtain ⟨r2, hr1, h⟩ := bd_some h
  refine ev_callS i168_3 zn8_50 zc8_50 zm111 (as := [zI x1, zI 0, zI 1]) (rest := []) rfl rfl (Nat.le_of_ble_eq_true rfl) (Nat.le_of_ble_eq_true rfl) (Nat.le_of_ble_eq_true rfl) (by omega) (l0 := [some (zI x1), some (zI 0), some (zI 1)]) rfl (p := 6) rfl (kM_in x1 0 1 σ r2 hr1 (d - 1) (by omega)) ?_
  change zEv d 168 6 [some (zR 8 0), some (zI x1), some (zI x2), some (zI x3), some (zI x4)] [zI r2] σ _
  refine ev_ifeq i168_6 (t := 21) (by decide) (p := 9) rfl h (fun c3 h => ?_) (fun c3 h => ?_)
  · refine ev_s i168_21 (p := 22) rfl ?_
    refine ev_s i168_22 (p := 23) (zic_1 _ _ _ _ _) ?_
    obtain ⟨r6, s5, hr4, h⟩ := b2_some h
    refine ev_callV i168_23 zc8_58 zm110 zo110 (as' := [zI 1]) (rest := []) rfl rfl (Nat.le_of_ble_eq_true rfl) (Nat.le_of_ble_eq_true rfl) (Nat.le_of_ble_eq_true rfl) (by omega) (l0 := [some (zR 8 0), some (zI 1)]) rfl (p := 26) rfl (kM_error 1 σ (r6, s5) hr4 (d - 1) (by omega)) ?_
    change zEv d 168 26 [some (zR 8 0), some (zI x1), some (zI x2), some (zI x3), some (zI x4)] [zI r6] s5 _
    obtain rfl := Option.some.inj h
    exact ev_iret i168_26 zr168
  · refine ev_s i168_9 (p := 10) rfl ?_
    refine ev_s i168_10 (p := 11) rfl ?_
    refine ev_s i168_11 (p := 12) rfl ?_
    refine ev_s i168_12 (p := 13) rfl ?_
    refine ev_s i168_13 (p := 15) rfl ?_
    obtain ⟨r9, s8, hr7, h⟩ := b2_some h
    refine ev_callV i168_15 zc8_133 zm142 zo142 (as' := [zI x1, zI x2, zI x3, zI x4]) (rest := []) rfl rfl (Nat.le_of_ble_eq_true rfl) (Nat.le_of_ble_eq_true rfl) (Nat.le_of_ble_eq_true rfl) (by omega) (l0 := [some (zR 8 0), some (zI x1), some (zI x2), some (zI x3), some (zI x4), none]) rfl (p := 18) rfl (kM_givenBy N x1 x2 x3 x4 σ (r9, s8) hr7 (d - 1) (by omega)) ?_
    change zEv d 168 18 [some (zR 8 0), some (zI x1), some (zI x2), some (zI x3), some (zI x4)] [zI r9] s8 _
    refine ev_goto i168_18 (t := 26) (by decide) ?_
    obtain rfl := Option.some.inj h
    exact ev_iret i168_26 zr168
/-! fR_keep -/
def fR_keep (b : Nat) (σ : zS) : Option (zS) := zgd (¬ (0 : Int32) < 0 ∧ ¬ (0 : Int32) < 0 ∧ ¬ (8 : Int32) < 0 ∧ (0 : Int32).toNatClampNeg + (8 : Int32).toNatClampNeg ≤ 8 ∧ (0 : Int32).toNatClampNeg + (8 : Int32).toNatClampNeg ≤ 33) (zlt (zcp σ 16 b 21 b (0 : Int32).toNatClampNeg (0 : Int32).toNatClampNeg (8 : Int32).toNatClampNeg) fun s1 => zgd (¬ (0 : Int32) < 0 ∧ ¬ (8 : Int32) < 0 ∧ ¬ (8 : Int32) < 0 ∧ (0 : Int32).toNatClampNeg + (8 : Int32).toNatClampNeg ≤ 8 ∧ (8 : Int32).toNatClampNeg + (8 : Int32).toNatClampNeg ≤ 33) (zlt (zcp s1 17 b 21 b (0 : Int32).toNatClampNeg (8 : Int32).toNatClampNeg (8 : Int32).toNatClampNeg) fun s2 => zgd (¬ (0 : Int32) < 0 ∧ ¬ (16 : Int32) < 0 ∧ ¬ (8 : Int32) < 0 ∧ (0 : Int32).toNatClampNeg + (8 : Int32).toNatClampNeg ≤ 8 ∧ (16 : Int32).toNatClampNeg + (8 : Int32).toNatClampNeg ≤ 33) (zlt (zcp s2 18 b 21 b (0 : Int32).toNatClampNeg (16 : Int32).toNatClampNeg (8 : Int32).toNatClampNeg) fun s3 => zgd (¬ (0 : Int32) < 0 ∧ ¬ (24 : Int32) < 0 ∧ ¬ (8 : Int32) < 0 ∧ (0 : Int32).toNatClampNeg + (8 : Int32).toNatClampNeg ≤ 8 ∧ (24 : Int32).toNatClampNeg + (8 : Int32).toNatClampNeg ≤ 33) (zlt (zcp s3 19 b 21 b (0 : Int32).toNatClampNeg (24 : Int32).toNatClampNeg (8 : Int32).toNatClampNeg) fun s4 => zlt (zup s4 21 b 32 (s4 2 b 11)) fun s5 => some s5))))
set_option maxHeartbeats 4000000 in
theorem kR_keep (b : Nat) (σ : zS) (w : zS) (h : fR_keep b σ = some w) (d : Nat) (hd : 0 ≤ d) : zEv d 40 0 [some (zR 2 b)] [] σ (none, w) := by
  unfold fR_keep at h
  refine ev_s i40_0 (p := 1) rfl ?_
  refine ev_getf i40_1 zf2_18 (u := zR 16 b) rfl (p := 4) rfl ?_
  refine ev_s i40_4 (p := 5) (zic_0 _ _ _ _ _) ?_
  refine ev_s i40_5 (p := 6) rfl ?_
  refine ev_getf i40_6 zf2_37 (u := zR 21 b) rfl (p := 9) rfl ?_
  refine ev_s i40_9 (p := 10) (zic_0 _ _ _ _ _) ?_
  refine ev_s i40_10 (p := 12) (zib_8 _ _ _ _ _) ?_
  refine ev_copy i40_12 za2_47 rfl rfl (n1 := 8) (n2 := 33) rfl rfl (Nat.le_of_ble_eq_true rfl) (p := 15) rfl h (fun h => ?_)
  refine ev_lets h (fun s1 es1 h => ?_)
  refine ev_s i40_15 (p := 16) rfl ?_
  refine ev_getf i40_16 zf2_21 (u := zR 17 b) rfl (p := 19) rfl ?_
  refine ev_s i40_19 (p := 20) (zic_0 _ _ _ _ _) ?_
  refine ev_s i40_20 (p := 21) rfl ?_
  refine ev_getf i40_21 zf2_37 (u := zR 21 b) rfl (p := 24) rfl ?_
  refine ev_s i40_24 (p := 26) (zib_8 _ _ _ _ _) ?_
  refine ev_s i40_26 (p := 28) (zib_8 _ _ _ _ _) ?_
  refine ev_copy i40_28 za2_47 rfl rfl (n1 := 8) (n2 := 33) rfl rfl (Nat.le_of_ble_eq_true rfl) (p := 31) rfl h (fun h => ?_)
  refine ev_lets h (fun s2 es2 h => ?_)
  refine ev_s i40_31 (p := 32) rfl ?_
  refine ev_getf i40_32 zf2_24 (u := zR 18 b) rfl (p := 35) rfl ?_
  refine ev_s i40_35 (p := 36) (zic_0 _ _ _ _ _) ?_
  refine ev_s i40_36 (p := 37) rfl ?_
  refine ev_getf i40_37 zf2_37 (u := zR 21 b) rfl (p := 40) rfl ?_
  refine ev_s i40_40 (p := 42) (zib_16 _ _ _ _ _) ?_
  refine ev_s i40_42 (p := 44) (zib_8 _ _ _ _ _) ?_
  refine ev_copy i40_44 za2_47 rfl rfl (n1 := 8) (n2 := 33) rfl rfl (Nat.le_of_ble_eq_true rfl) (p := 47) rfl h (fun h => ?_)
  refine ev_lets h (fun s3 es3 h => ?_)
  refine ev_s i40_47 (p := 48) rfl ?_
  refine ev_getf i40_48 zf2_27 (u := zR 19 b) rfl (p := 51) rfl ?_
  refine ev_s i40_51 (p := 52) (zic_0 _ _ _ _ _) ?_
  refine ev_s i40_52 (p := 53) rfl ?_
  refine ev_getf i40_53 zf2_37 (u := zR 21 b) rfl (p := 56) rfl ?_
  refine ev_s i40_56 (p := 58) (zib_24 _ _ _ _ _) ?_
  refine ev_s i40_58 (p := 60) (zib_8 _ _ _ _ _) ?_
  refine ev_copy i40_60 za2_47 rfl rfl (n1 := 8) (n2 := 33) rfl rfl (Nat.le_of_ble_eq_true rfl) (p := 63) rfl h (fun h => ?_)
  refine ev_lets h (fun s4 es4 h => ?_)
  refine ev_s i40_63 (p := 64) rfl ?_
  refine ev_getf i40_64 zf2_37 (u := zR 21 b) rfl (p := 67) rfl ?_
  refine ev_s i40_67 (p := 69) (zib_32 _ _ _ _ _) ?_
  refine ev_s i40_69 (p := 70) rfl ?_
  refine ev_getf i40_70 zf2_59 (u := zI (s4 2 b 11)) rfl (p := 73) rfl ?_
  refine ev_iastK i40_73 rfl (n := 33) rfl (by decide) (p := 74) rfl ?_
  change zEv d 40 74 [some (zR 2 b)] [] (zup s4 21 b 32 (s4 2 b 11)) _
  refine ev_lets h (fun s5 es5 h => ?_)
  obtain rfl := Option.some.inj h
  exact ev_vret i40_74 zr40
/-! fR_leastTooShort -/
def fR_leastTooShort_L2 (N : Nat) (b : Nat) : Nat → Int32 → zS → Option (Int32)
  | 0, _, _ => none
  | n + 1, y1, σ => (if (σ 2 b 9) ≤ y1 then some ((-1)) else zgd (zin y1 8) (zlt (σ 16 b y1.toNatClampNeg) fun v3 => (if v3 < 0 then fR_leastTooShort_L2 N b n (y1 + 1) σ else zgd (zin y1 8) (zgd (zin v3 8) ((fJ_abs ((σ 17 b y1.toNatClampNeg) - (σ 17 b v3.toNatClampNeg))).bind fun r8 => zgd (zin y1 8) ((if r8 ≤ (σ 18 b y1.toNatClampNeg) then fR_leastTooShort_L2 N b n (y1 + 1) σ else some (y1))))))))
set_option maxHeartbeats 4000000 in
theorem kR_leastTooShort_L2 (N : Nat) (b : Nat) (d : Nat) (hd : 1 ≤ d)  : ∀ n : Nat, ∀ (y1 : Int32) (σ : zS) (w : Int32) (z2 : Option zA), fR_leastTooShort_L2 N b n y1 σ = some w → zEv d 42 2 [some (zR 2 b), some (zI y1), z2] [] σ (some (zI w), σ) := by
  intro n
  induction n with
  | zero =>
    intro y1 σ w z2 h
    cases h
  | succ n ih =>
    intro y1 σ w z2 h
    rw [fR_leastTooShort_L2] at h
    refine ev_s i42_2 (p := 3) rfl ?_
    refine ev_s i42_3 (p := 4) rfl ?_
    refine ev_getf i42_4 zf2_53 (u := zI (σ 2 b 9)) rfl (p := 7) rfl ?_
    refine ev_cmpge i42_7 (t := 54) (by decide) (p := 10) rfl h (fun c1 h => ?_) (fun c1 h => ?_)
    · refine ev_s i42_54 (p := 55) (zic_m1 _ _ _ _ _) ?_
      obtain rfl := Option.some.inj h
      exact ev_iret i42_55 zr42
    · refine ev_s i42_10 (p := 11) rfl ?_
      refine ev_getf i42_11 zf2_18 (u := zR 16 b) rfl (p := 14) rfl ?_
      refine ev_s i42_14 (p := 15) rfl ?_
      refine ev_iald i42_15 rfl (n := 8) rfl (p := 16) rfl h (fun g2 h => ?_)
      refine ev_let h (fun v3 ev3 h => ?_)
      refine ev_s i42_16 (p := 17) (l := [some (zR 2 b), some (zI y1), some (zI v3)]) rfl ?_
      refine ev_s i42_17 (p := 18) rfl ?_
      refine ev_iflt i42_18 (t := 48) (by decide) (p := 21) rfl h (fun c4 h => ?_) (fun c4 h => ?_)
      · refine ev_iinc i42_48 zii_1 rfl (l := [some (zR 2 b), some (zI (y1 + 1)), some (zI v3)]) rfl (p := 51) rfl ?_
        refine ev_goto i42_51 (t := 2) (by decide) ?_
        exact ih (y1 + 1) σ w _ h
      · refine ev_s i42_21 (p := 22) rfl ?_
        refine ev_getf i42_22 zf2_21 (u := zR 17 b) rfl (p := 25) rfl ?_
        refine ev_s i42_25 (p := 26) rfl ?_
        refine ev_iald i42_26 rfl (n := 8) rfl (p := 27) rfl h (fun g5 h => ?_)
        refine ev_s i42_27 (p := 28) rfl ?_
        refine ev_getf i42_28 zf2_21 (u := zR 17 b) rfl (p := 31) rfl ?_
        refine ev_s i42_31 (p := 32) rfl ?_
        refine ev_iald i42_32 rfl (n := 8) rfl (p := 33) rfl h (fun g6 h => ?_)
        refine ev_s i42_33 (p := 34) (t := [zI ((σ 17 b y1.toNatClampNeg) - (σ 17 b v3.toNatClampNeg))]) rfl ?_
        obtain ⟨r8, hr7, h⟩ := bd_some h
        refine ev_callS i42_34 zn2_70 zc2_70 zm221 (as := [zI ((σ 17 b y1.toNatClampNeg) - (σ 17 b v3.toNatClampNeg))]) (rest := []) rfl rfl (Nat.le_of_ble_eq_true rfl) (Nat.le_of_ble_eq_true rfl) (Nat.le_of_ble_eq_true rfl) (by omega) (l0 := [some (zI ((σ 17 b y1.toNatClampNeg) - (σ 17 b v3.toNatClampNeg)))]) rfl (p := 37) rfl (kJ_abs ((σ 17 b y1.toNatClampNeg) - (σ 17 b v3.toNatClampNeg)) σ r8 hr7 (d - 1) (by omega)) ?_
        change zEv d 42 37 [some (zR 2 b), some (zI y1), some (zI v3)] [zI r8] σ _
        refine ev_s i42_37 (p := 38) rfl ?_
        refine ev_getf i42_38 zf2_24 (u := zR 18 b) rfl (p := 41) rfl ?_
        refine ev_s i42_41 (p := 42) rfl ?_
        refine ev_iald i42_42 rfl (n := 8) rfl (p := 43) rfl h (fun g9 h => ?_)
        refine ev_cmple i42_43 (t := 48) (by decide) (p := 46) rfl h (fun c10 h => ?_) (fun c10 h => ?_)
        · refine ev_iinc i42_48 zii_1 rfl (l := [some (zR 2 b), some (zI (y1 + 1)), some (zI v3)]) rfl (p := 51) rfl ?_
          refine ev_goto i42_51 (t := 2) (by decide) ?_
          exact ih (y1 + 1) σ w _ h
        · refine ev_s i42_46 (p := 47) rfl ?_
          obtain rfl := Option.some.inj h
          exact ev_iret i42_47 zr42
def fR_leastTooShort (N : Nat) (b : Nat) (σ : zS) : Option (Int32) := fR_leastTooShort_L2 N b N 0 σ
set_option maxHeartbeats 4000000 in
theorem kR_leastTooShort (N : Nat) (b : Nat) (σ : zS) (w : Int32) (h : fR_leastTooShort N b σ = some w) (d : Nat) (hd : 1 ≤ d) : zEv d 42 0 [some (zR 2 b), none, none] [] σ (some (zI w), σ) := by
  unfold fR_leastTooShort at h
  refine ev_s i42_0 (p := 1) (zic_0 _ _ _ _ _) ?_
  refine ev_s i42_1 (p := 2) (l := [some (zR 2 b), some (zI 0), none]) rfl ?_
  exact kR_leastTooShort_L2 N b d hd N 0 σ w _ h
/-! fR_unmovedEnd -/
def fR_unmovedEnd (b : Nat) (x1 : Int32) (σ : zS) : Option (Int32) := (if (((σ 2 b 14) >>> (x1 &&& 31)) &&& 1) = 0 then some (x1) else zgd (zin x1 8) (zlt (σ 16 b x1.toNatClampNeg) fun v3 => (if (((σ 2 b 14) >>> (v3 &&& 31)) &&& 1) = 0 then some (v3) else some ((-1)))))
set_option maxHeartbeats 4000000 in
theorem kR_unmovedEnd (b : Nat) (x1 : Int32) (σ : zS) (w : Int32) (h : fR_unmovedEnd b x1 σ = some w) (d : Nat) (hd : 0 ≤ d) : zEv d 43 0 [some (zR 2 b), some (zI x1), none] [] σ (some (zI w), σ) := by
  unfold fR_unmovedEnd at h
  refine ev_s i43_0 (p := 1) rfl ?_
  refine ev_getf i43_1 zf2_118 (u := zI (σ 2 b 14)) rfl (p := 4) rfl ?_
  refine ev_s i43_4 (p := 5) rfl ?_
  refine ev_s i43_5 (p := 6) (t := [zI ((σ 2 b 14) >>> (x1 &&& 31))]) rfl ?_
  refine ev_s i43_6 (p := 7) (zic_1 _ _ _ _ _) ?_
  refine ev_s i43_7 (p := 8) (t := [zI (((σ 2 b 14) >>> (x1 &&& 31)) &&& 1)]) rfl ?_
  refine ev_ifne i43_8 (t := 13) (by decide) (p := 11) rfl h (fun c1 h => ?_) (fun c1 h => ?_)
  · refine ev_s i43_11 (p := 12) rfl ?_
    obtain rfl := Option.some.inj h
    exact ev_iret i43_12 zr43
  · refine ev_s i43_13 (p := 14) rfl ?_
    refine ev_getf i43_14 zf2_18 (u := zR 16 b) rfl (p := 17) rfl ?_
    refine ev_s i43_17 (p := 18) rfl ?_
    refine ev_iald i43_18 rfl (n := 8) rfl (p := 19) rfl h (fun g2 h => ?_)
    refine ev_let h (fun v3 ev3 h => ?_)
    refine ev_s i43_19 (p := 20) (l := [some (zR 2 b), some (zI x1), some (zI v3)]) rfl ?_
    refine ev_s i43_20 (p := 21) rfl ?_
    refine ev_getf i43_21 zf2_118 (u := zI (σ 2 b 14)) rfl (p := 24) rfl ?_
    refine ev_s i43_24 (p := 25) rfl ?_
    refine ev_s i43_25 (p := 26) (t := [zI ((σ 2 b 14) >>> (v3 &&& 31))]) rfl ?_
    refine ev_s i43_26 (p := 27) (zic_1 _ _ _ _ _) ?_
    refine ev_s i43_27 (p := 28) (t := [zI (((σ 2 b 14) >>> (v3 &&& 31)) &&& 1)]) rfl ?_
    refine ev_ifne i43_28 (t := 35) (by decide) (p := 31) rfl h (fun c4 h => ?_) (fun c4 h => ?_)
    · refine ev_s i43_31 (p := 32) rfl ?_
      refine ev_goto i43_32 (t := 36) (by decide) ?_
      obtain rfl := Option.some.inj h
      exact ev_iret i43_36 zr43
    · refine ev_s i43_35 (p := 36) (zic_m1 _ _ _ _ _) ?_
      obtain rfl := Option.some.inj h
      exact ev_iret i43_36 zr43
/-! fR_letOut -/
def fR_letOut (b : Nat) (x1 : Int32) (x2 : Int32) (σ : zS) : Option (zS) := zgd (zin x2 8) (zgd (zin x2 8) (zlt (zup σ 19 b x2.toNatClampNeg ((σ 19 b x2.toNatClampNeg) - 1)) fun s2 => zgd (zin x1 8) (zgd (zin x1 8) (zlt (zup s2 18 b x1.toNatClampNeg ((s2 18 b x1.toNatClampNeg) + 1)) fun s5 => some s5))))
set_option maxHeartbeats 4000000 in
theorem kR_letOut (b : Nat) (x1 : Int32) (x2 : Int32) (σ : zS) (w : zS) (h : fR_letOut b x1 x2 σ = some w) (d : Nat) (hd : 0 ≤ d) : zEv d 45 0 [some (zR 2 b), some (zI x1), some (zI x2)] [] σ (none, w) := by
  unfold fR_letOut at h
  refine ev_s i45_0 (p := 1) rfl ?_
  refine ev_getf i45_1 zf2_27 (u := zR 19 b) rfl (p := 4) rfl ?_
  refine ev_s i45_4 (p := 5) rfl ?_
  refine ev_s i45_5 (p := 6) rfl ?_
  refine ev_iald i45_6 rfl (n := 8) rfl (p := 7) rfl h (fun g1 h => ?_)
  refine ev_s i45_7 (p := 8) (zic_1 _ _ _ _ _) ?_
  refine ev_s i45_8 (p := 9) (t := [zI ((σ 19 b x2.toNatClampNeg) - 1), zI x2, zR 19 b]) rfl ?_
  refine ev_iast i45_9 rfl (n := 8) rfl (p := 10) rfl h (fun g3 h => ?_)
  refine ev_lets h (fun s2 es2 h => ?_)
  refine ev_s i45_10 (p := 11) rfl ?_
  refine ev_getf i45_11 zf2_24 (u := zR 18 b) rfl (p := 14) rfl ?_
  refine ev_s i45_14 (p := 15) rfl ?_
  refine ev_s i45_15 (p := 16) rfl ?_
  refine ev_iald i45_16 rfl (n := 8) rfl (p := 17) rfl h (fun g4 h => ?_)
  refine ev_s i45_17 (p := 18) (zic_1 _ _ _ _ _) ?_
  refine ev_s i45_18 (p := 19) (t := [zI ((s2 18 b x1.toNatClampNeg) + 1), zI x1, zR 18 b]) rfl ?_
  refine ev_iast i45_19 rfl (n := 8) rfl (p := 20) rfl h (fun g6 h => ?_)
  refine ev_lets h (fun s5 es5 h => ?_)
  obtain rfl := Option.some.inj h
  exact ev_vret i45_20 zr45
/-! fR_putBack -/
def fR_putBack (b : Nat) (σ : zS) : Option (zS) := zgd (¬ (0 : Int32) < 0 ∧ ¬ (0 : Int32) < 0 ∧ ¬ (8 : Int32) < 0 ∧ (0 : Int32).toNatClampNeg + (8 : Int32).toNatClampNeg ≤ 33 ∧ (0 : Int32).toNatClampNeg + (8 : Int32).toNatClampNeg ≤ 8) (zlt (zcp σ 21 b 16 b (0 : Int32).toNatClampNeg (0 : Int32).toNatClampNeg (8 : Int32).toNatClampNeg) fun s1 => zgd (¬ (8 : Int32) < 0 ∧ ¬ (0 : Int32) < 0 ∧ ¬ (8 : Int32) < 0 ∧ (8 : Int32).toNatClampNeg + (8 : Int32).toNatClampNeg ≤ 33 ∧ (0 : Int32).toNatClampNeg + (8 : Int32).toNatClampNeg ≤ 8) (zlt (zcp s1 21 b 17 b (8 : Int32).toNatClampNeg (0 : Int32).toNatClampNeg (8 : Int32).toNatClampNeg) fun s2 => zgd (¬ (16 : Int32) < 0 ∧ ¬ (0 : Int32) < 0 ∧ ¬ (8 : Int32) < 0 ∧ (16 : Int32).toNatClampNeg + (8 : Int32).toNatClampNeg ≤ 33 ∧ (0 : Int32).toNatClampNeg + (8 : Int32).toNatClampNeg ≤ 8) (zlt (zcp s2 21 b 18 b (16 : Int32).toNatClampNeg (0 : Int32).toNatClampNeg (8 : Int32).toNatClampNeg) fun s3 => zgd (¬ (24 : Int32) < 0 ∧ ¬ (0 : Int32) < 0 ∧ ¬ (8 : Int32) < 0 ∧ (24 : Int32).toNatClampNeg + (8 : Int32).toNatClampNeg ≤ 33 ∧ (0 : Int32).toNatClampNeg + (8 : Int32).toNatClampNeg ≤ 8) (zlt (zcp s3 21 b 19 b (24 : Int32).toNatClampNeg (0 : Int32).toNatClampNeg (8 : Int32).toNatClampNeg) fun s4 => zlt (zup s4 2 b 11 (s4 21 b 32)) fun s5 => some s5))))
set_option maxHeartbeats 4000000 in
theorem kR_putBack (b : Nat) (σ : zS) (w : zS) (h : fR_putBack b σ = some w) (d : Nat) (hd : 0 ≤ d) : zEv d 41 0 [some (zR 2 b)] [] σ (none, w) := by
  unfold fR_putBack at h
  refine ev_s i41_0 (p := 1) rfl ?_
  refine ev_getf i41_1 zf2_37 (u := zR 21 b) rfl (p := 4) rfl ?_
  refine ev_s i41_4 (p := 5) (zic_0 _ _ _ _ _) ?_
  refine ev_s i41_5 (p := 6) rfl ?_
  refine ev_getf i41_6 zf2_18 (u := zR 16 b) rfl (p := 9) rfl ?_
  refine ev_s i41_9 (p := 10) (zic_0 _ _ _ _ _) ?_
  refine ev_s i41_10 (p := 12) (zib_8 _ _ _ _ _) ?_
  refine ev_copy i41_12 za2_47 rfl rfl (n1 := 33) (n2 := 8) rfl rfl (Nat.le_of_ble_eq_true rfl) (p := 15) rfl h (fun h => ?_)
  refine ev_lets h (fun s1 es1 h => ?_)
  refine ev_s i41_15 (p := 16) rfl ?_
  refine ev_getf i41_16 zf2_37 (u := zR 21 b) rfl (p := 19) rfl ?_
  refine ev_s i41_19 (p := 21) (zib_8 _ _ _ _ _) ?_
  refine ev_s i41_21 (p := 22) rfl ?_
  refine ev_getf i41_22 zf2_21 (u := zR 17 b) rfl (p := 25) rfl ?_
  refine ev_s i41_25 (p := 26) (zic_0 _ _ _ _ _) ?_
  refine ev_s i41_26 (p := 28) (zib_8 _ _ _ _ _) ?_
  refine ev_copy i41_28 za2_47 rfl rfl (n1 := 33) (n2 := 8) rfl rfl (Nat.le_of_ble_eq_true rfl) (p := 31) rfl h (fun h => ?_)
  refine ev_lets h (fun s2 es2 h => ?_)
  refine ev_s i41_31 (p := 32) rfl ?_
  refine ev_getf i41_32 zf2_37 (u := zR 21 b) rfl (p := 35) rfl ?_
  refine ev_s i41_35 (p := 37) (zib_16 _ _ _ _ _) ?_
  refine ev_s i41_37 (p := 38) rfl ?_
  refine ev_getf i41_38 zf2_24 (u := zR 18 b) rfl (p := 41) rfl ?_
  refine ev_s i41_41 (p := 42) (zic_0 _ _ _ _ _) ?_
  refine ev_s i41_42 (p := 44) (zib_8 _ _ _ _ _) ?_
  refine ev_copy i41_44 za2_47 rfl rfl (n1 := 33) (n2 := 8) rfl rfl (Nat.le_of_ble_eq_true rfl) (p := 47) rfl h (fun h => ?_)
  refine ev_lets h (fun s3 es3 h => ?_)
  refine ev_s i41_47 (p := 48) rfl ?_
  refine ev_getf i41_48 zf2_37 (u := zR 21 b) rfl (p := 51) rfl ?_
  refine ev_s i41_51 (p := 53) (zib_24 _ _ _ _ _) ?_
  refine ev_s i41_53 (p := 54) rfl ?_
  refine ev_getf i41_54 zf2_27 (u := zR 19 b) rfl (p := 57) rfl ?_
  refine ev_s i41_57 (p := 58) (zic_0 _ _ _ _ _) ?_
  refine ev_s i41_58 (p := 60) (zib_8 _ _ _ _ _) ?_
  refine ev_copy i41_60 za2_47 rfl rfl (n1 := 33) (n2 := 8) rfl rfl (Nat.le_of_ble_eq_true rfl) (p := 63) rfl h (fun h => ?_)
  refine ev_lets h (fun s4 es4 h => ?_)
  refine ev_s i41_63 (p := 64) rfl ?_
  refine ev_s i41_64 (p := 65) rfl ?_
  refine ev_getf i41_65 zf2_37 (u := zR 21 b) rfl (p := 68) rfl ?_
  refine ev_s i41_68 (p := 70) (zib_32 _ _ _ _ _) ?_
  refine ev_ialdK i41_70 rfl (n := 33) rfl (by decide) (p := 71) rfl ?_
  change zEv d 41 71 [some (zR 2 b)] [zI (s4 21 b 32), zR 2 b] s4 _
  refine ev_putf i41_71 zf2_59 rfl rfl rfl (p := 74) rfl ?_
  refine ev_lets h (fun s5 es5 h => ?_)
  obtain rfl := Option.some.inj h
  exact ev_vret i41_74 zr41
/-! fR_sever -/
def fR_sever (b : Nat) (x1 : Int32) (σ : zS) : Option (zS) := (fR_untie b x1 σ).bind fun s2 => (if 9999 ≤ (s2 2 b 11) then some s2 else zlt (zup s2 2 b 11 ((s2 2 b 11) + 1)) fun s4 => some s4)
set_option maxHeartbeats 4000000 in
theorem kR_sever (b : Nat) (x1 : Int32) (σ : zS) (w : zS) (h : fR_sever b x1 σ = some w) (d : Nat) (hd : 1 ≤ d) : zEv d 46 0 [some (zR 2 b), some (zI x1)] [] σ (none, w) := by
  unfold fR_sever at h
  refine ev_s i46_0 (p := 1) rfl ?_
  refine ev_s i46_1 (p := 2) rfl ?_
  obtain ⟨s2, hr1, h⟩ := bd_some h
  refine ev_callV i46_2 zc2_148 zm21 zo21 (as' := [zI x1]) (rest := []) rfl rfl (Nat.le_of_ble_eq_true rfl) (Nat.le_of_ble_eq_true rfl) (Nat.le_of_ble_eq_true rfl) (by omega) (l0 := [some (zR 2 b), some (zI x1)]) rfl (p := 5) rfl (kR_untie b x1 σ s2 hr1 (d - 1) (by omega)) ?_
  change zEv d 46 5 [some (zR 2 b), some (zI x1)] [] s2 _
  refine ev_s i46_5 (p := 6) rfl ?_
  refine ev_getf i46_6 zf2_59 (u := zI (s2 2 b 11)) rfl (p := 9) rfl ?_
  refine ev_s i46_9 (p := 12) (zis_9999 _ _ _ _ _) ?_
  refine ev_cmpge i46_12 (t := 25) (by decide) (p := 15) rfl h (fun c3 h => ?_) (fun c3 h => ?_)
  · obtain rfl := Option.some.inj h
    exact ev_vret i46_25 zr46
  · refine ev_s i46_15 (p := 16) rfl ?_
    refine ev_s i46_16 (p := 17) rfl ?_
    refine ev_getf i46_17 zf2_59 (u := zI (s2 2 b 11)) rfl (p := 20) rfl ?_
    refine ev_s i46_20 (p := 21) (zic_1 _ _ _ _ _) ?_
    refine ev_s i46_21 (p := 22) (t := [zI ((s2 2 b 11) + 1), zR 2 b]) rfl ?_
    refine ev_putf i46_22 zf2_59 rfl rfl rfl (p := 25) rfl ?_
    refine ev_lets h (fun s4 es4 h => ?_)
    obtain rfl := Option.some.inj h
    exact ev_vret i46_25 zr46
/-! fR_come -/
def fR_come_J38 (b : Nat) (y1 : Int32) (σ : zS) : Option (zS) := zlt (zup σ 2 b 14 ((σ 2 b 14) ||| (1 <<< (y1 &&& 31)))) fun s10 => some s10
set_option maxHeartbeats 4000000 in
theorem kR_come_J38 (b : Nat) (d : Nat) (hd : 0 ≤ d)  : ∀ (y1 : Int32) (σ : zS) (w : zS) (z2 : Option zA), fR_come_J38 b y1 σ = some w → zEv d 47 38 [some (zR 2 b), some (zI y1), z2] [] σ (none, w) := by
  intro y1 σ w z2 h
  unfold fR_come_J38 at h
  refine ev_s i47_38 (p := 39) rfl ?_
  refine ev_s i47_39 (p := 40) rfl ?_
  refine ev_getf i47_40 zf2_118 (u := zI (σ 2 b 14)) rfl (p := 43) rfl ?_
  refine ev_s i47_43 (p := 44) (zic_1 _ _ _ _ _) ?_
  refine ev_s i47_44 (p := 45) rfl ?_
  refine ev_s i47_45 (p := 46) (t := [zI (1 <<< (y1 &&& 31)), zI (σ 2 b 14), zR 2 b]) rfl ?_
  refine ev_s i47_46 (p := 47) (t := [zI ((σ 2 b 14) ||| (1 <<< (y1 &&& 31))), zR 2 b]) rfl ?_
  refine ev_putf i47_47 zf2_118 rfl rfl rfl (p := 50) rfl ?_
  refine ev_lets h (fun s10 es10 h => ?_)
  obtain rfl := Option.some.inj h
  exact ev_vret i47_50 zr47
def fR_come (b : Nat) (x1 : Int32) (x2 : Int32) (σ : zS) : Option (zS) := zgd (zin x1 8) (zgd (zin x2 8) ((if (σ 17 b x2.toNatClampNeg) ≤ (σ 17 b x1.toNatClampNeg) then zgd (zin x1 8) (zgd (zin x1 8) (zlt (zup σ 17 b x1.toNatClampNeg ((σ 17 b x1.toNatClampNeg) - 1)) fun s5 => fR_come_J38 b x1 s5)) else zgd (zin x1 8) (zgd (zin x1 8) (zlt (zup σ 17 b x1.toNatClampNeg ((σ 17 b x1.toNatClampNeg) + 1)) fun s8 => fR_come_J38 b x1 s8)))))
set_option maxHeartbeats 4000000 in
theorem kR_come (b : Nat) (x1 : Int32) (x2 : Int32) (σ : zS) (w : zS) (h : fR_come b x1 x2 σ = some w) (d : Nat) (hd : 0 ≤ d) : zEv d 47 0 [some (zR 2 b), some (zI x1), some (zI x2)] [] σ (none, w) := by
  unfold fR_come at h
  refine ev_s i47_0 (p := 1) rfl ?_
  refine ev_getf i47_1 zf2_21 (u := zR 17 b) rfl (p := 4) rfl ?_
  refine ev_s i47_4 (p := 5) rfl ?_
  refine ev_iald i47_5 rfl (n := 8) rfl (p := 6) rfl h (fun g1 h => ?_)
  refine ev_s i47_6 (p := 7) rfl ?_
  refine ev_getf i47_7 zf2_21 (u := zR 17 b) rfl (p := 10) rfl ?_
  refine ev_s i47_10 (p := 11) rfl ?_
  refine ev_iald i47_11 rfl (n := 8) rfl (p := 12) rfl h (fun g2 h => ?_)
  refine ev_cmpge i47_12 (t := 28) (by decide) (p := 15) rfl h (fun c3 h => ?_) (fun c3 h => ?_)
  · refine ev_s i47_28 (p := 29) rfl ?_
    refine ev_getf i47_29 zf2_21 (u := zR 17 b) rfl (p := 32) rfl ?_
    refine ev_s i47_32 (p := 33) rfl ?_
    refine ev_s i47_33 (p := 34) rfl ?_
    refine ev_iald i47_34 rfl (n := 8) rfl (p := 35) rfl h (fun g4 h => ?_)
    refine ev_s i47_35 (p := 36) (zic_1 _ _ _ _ _) ?_
    refine ev_s i47_36 (p := 37) (t := [zI ((σ 17 b x1.toNatClampNeg) - 1), zI x1, zR 17 b]) rfl ?_
    refine ev_iast i47_37 rfl (n := 8) rfl (p := 38) rfl h (fun g6 h => ?_)
    refine ev_lets h (fun s5 es5 h => ?_)
    exact kR_come_J38 b d hd x1 s5 w _ h
  · refine ev_s i47_15 (p := 16) rfl ?_
    refine ev_getf i47_16 zf2_21 (u := zR 17 b) rfl (p := 19) rfl ?_
    refine ev_s i47_19 (p := 20) rfl ?_
    refine ev_s i47_20 (p := 21) rfl ?_
    refine ev_iald i47_21 rfl (n := 8) rfl (p := 22) rfl h (fun g7 h => ?_)
    refine ev_s i47_22 (p := 23) (zic_1 _ _ _ _ _) ?_
    refine ev_s i47_23 (p := 24) (t := [zI ((σ 17 b x1.toNatClampNeg) + 1), zI x1, zR 17 b]) rfl ?_
    refine ev_iast i47_24 rfl (n := 8) rfl (p := 25) rfl h (fun g9 h => ?_)
    refine ev_lets h (fun s8 es8 h => ?_)
    refine ev_goto i47_25 (t := 38) (by decide) ?_
    exact kR_come_J38 b d hd x1 s8 w _ h
/-! fR_pull -/
def fR_pull_J58 (b : Nat) (u0 : Int32) (u1 : Int32) (σ : zS) : Option (zS) := (fR_come b u1 u0 σ).bind fun s13 => some s13
set_option maxHeartbeats 4000000 in
theorem kR_pull_J58 (b : Nat) (d : Nat) (hd : 2 ≤ d)  : ∀ (u0 : Int32) (u1 : Int32) (σ : zS) (w : zS) (z0 : Option zA) (z1 : Option zA) (z2 : Option zA) (z3 : Option zA), fR_pull_J58 b u0 u1 σ = some w → zEv d 44 58 [z0, z1, z2, z3] [zI u0, zI u1, zR 2 b] σ (none, w) := by
  intro u0 u1 σ w z0 z1 z2 z3 h
  unfold fR_pull_J58 at h
  obtain ⟨s13, hr12, h⟩ := bd_some h
  refine ev_callV i44_58 zc2_145 zm47 zo47 (as' := [zI u1, zI u0]) (rest := []) rfl rfl (Nat.le_of_ble_eq_true rfl) (Nat.le_of_ble_eq_true rfl) (Nat.le_of_ble_eq_true rfl) (by omega) (l0 := [some (zR 2 b), some (zI u1), some (zI u0)]) rfl (p := 61) rfl (kR_come b u1 u0 σ s13 hr12 (d - 1) (by omega)) ?_
  change zEv d 44 61 [z0, z1, z2, z3] [] s13 _
  obtain rfl := Option.some.inj h
  exact ev_vret i44_61 zr44
def fR_pull_J41 (b : Nat) (y1 : Int32) (y2 : Int32) (σ : zS) : Option (zS) := (if y2 = y1 then zgd (zin y1 8) (fR_pull_J58 b (σ 16 b y1.toNatClampNeg) y2 σ) else fR_pull_J58 b y1 y2 σ)
set_option maxHeartbeats 4000000 in
theorem kR_pull_J41 (b : Nat) (d : Nat) (hd : 2 ≤ d)  : ∀ (y1 : Int32) (y2 : Int32) (σ : zS) (w : zS) (z3 : Option zA), fR_pull_J41 b y1 y2 σ = some w → zEv d 44 41 [some (zR 2 b), some (zI y1), some (zI y2), z3] [] σ (none, w) := by
  intro y1 y2 σ w z3 h
  unfold fR_pull_J41 at h
  refine ev_s i44_41 (p := 42) rfl ?_
  refine ev_s i44_42 (p := 43) rfl ?_
  refine ev_s i44_43 (p := 44) rfl ?_
  refine ev_s i44_44 (p := 45) rfl ?_
  refine ev_cmpne i44_45 (t := 57) (by decide) (p := 48) rfl h (fun c10 h => ?_) (fun c10 h => ?_)
  · refine ev_s i44_48 (p := 49) rfl ?_
    refine ev_getf i44_49 zf2_18 (u := zR 16 b) rfl (p := 52) rfl ?_
    refine ev_s i44_52 (p := 53) rfl ?_
    refine ev_iald i44_53 rfl (n := 8) rfl (p := 54) rfl h (fun g11 h => ?_)
    refine ev_goto i44_54 (t := 58) (by decide) ?_
    exact kR_pull_J58 b d hd (σ 16 b y1.toNatClampNeg) y2 σ w _ _ _ _ h
  · refine ev_s i44_57 (p := 58) rfl ?_
    exact kR_pull_J58 b d hd y1 y2 σ w _ _ _ _ h
def fR_pull (b : Nat) (x1 : Int32) (x2 : Int32) (x3 : Int32) (σ : zS) : Option (zS) := (if x3 = 1 then (fR_sever b x1 σ).bind fun s3 => some s3 else (if x3 = 3 then (if x2 = x1 then fR_pull_J41 b x1 x2 σ else zgd (zin x2 8) ((if (σ 19 b x2.toNatClampNeg) ≤ 0 then fR_pull_J41 b x1 x2 σ else (fR_letOut b x1 x2 σ).bind fun s9 => some s9))) else fR_pull_J41 b x1 x2 σ))
set_option maxHeartbeats 4000000 in
theorem kR_pull (b : Nat) (x1 : Int32) (x2 : Int32) (x3 : Int32) (σ : zS) (w : zS) (h : fR_pull b x1 x2 x3 σ = some w) (d : Nat) (hd : 2 ≤ d) : zEv d 44 0 [some (zR 2 b), some (zI x1), some (zI x2), some (zI x3)] [] σ (none, w) := by
  unfold fR_pull at h
  refine ev_s i44_0 (p := 1) rfl ?_
  refine ev_s i44_1 (p := 2) (zic_1 _ _ _ _ _) ?_
  refine ev_cmpne i44_2 (t := 13) (by decide) (p := 5) rfl h (fun c1 h => ?_) (fun c1 h => ?_)
  · refine ev_s i44_5 (p := 6) rfl ?_
    refine ev_s i44_6 (p := 7) rfl ?_
    obtain ⟨s3, hr2, h⟩ := bd_some h
    refine ev_callV i44_7 zc2_141 zm46 zo46 (as' := [zI x1]) (rest := []) rfl rfl (Nat.le_of_ble_eq_true rfl) (Nat.le_of_ble_eq_true rfl) (Nat.le_of_ble_eq_true rfl) (by omega) (l0 := [some (zR 2 b), some (zI x1)]) rfl (p := 10) rfl (kR_sever b x1 σ s3 hr2 (d - 1) (by omega)) ?_
    change zEv d 44 10 [some (zR 2 b), some (zI x1), some (zI x2), some (zI x3)] [] s3 _
    refine ev_goto i44_10 (t := 61) (by decide) ?_
    obtain rfl := Option.some.inj h
    exact ev_vret i44_61 zr44
  · refine ev_s i44_13 (p := 14) rfl ?_
    refine ev_s i44_14 (p := 15) (zic_3 _ _ _ _ _) ?_
    refine ev_cmpne i44_15 (t := 41) (by decide) (p := 18) rfl h (fun c4 h => ?_) (fun c4 h => ?_)
    · refine ev_s i44_18 (p := 19) rfl ?_
      refine ev_s i44_19 (p := 20) rfl ?_
      refine ev_cmpeq i44_20 (t := 41) (by decide) (p := 23) rfl h (fun c5 h => ?_) (fun c5 h => ?_)
      · exact kR_pull_J41 b d hd x1 x2 σ w _ h
      · refine ev_s i44_23 (p := 24) rfl ?_
        refine ev_getf i44_24 zf2_27 (u := zR 19 b) rfl (p := 27) rfl ?_
        refine ev_s i44_27 (p := 28) rfl ?_
        refine ev_iald i44_28 rfl (n := 8) rfl (p := 29) rfl h (fun g6 h => ?_)
        refine ev_ifle i44_29 (t := 41) (by decide) (p := 32) rfl h (fun c7 h => ?_) (fun c7 h => ?_)
        · exact kR_pull_J41 b d hd x1 x2 σ w _ h
        · refine ev_s i44_32 (p := 33) rfl ?_
          refine ev_s i44_33 (p := 34) rfl ?_
          refine ev_s i44_34 (p := 35) rfl ?_
          obtain ⟨s9, hr8, h⟩ := bd_some h
          refine ev_callV i44_35 zc2_124 zm45 zo45 (as' := [zI x1, zI x2]) (rest := []) rfl rfl (Nat.le_of_ble_eq_true rfl) (Nat.le_of_ble_eq_true rfl) (Nat.le_of_ble_eq_true rfl) (by omega) (l0 := [some (zR 2 b), some (zI x1), some (zI x2)]) rfl (p := 38) rfl (kR_letOut b x1 x2 σ s9 hr8 (d - 1) (by omega)) ?_
          change zEv d 44 38 [some (zR 2 b), some (zI x1), some (zI x2), some (zI x3)] [] s9 _
          refine ev_goto i44_38 (t := 61) (by decide) ?_
          obtain rfl := Option.some.inj h
          exact ev_vret i44_61 zr44
    · exact kR_pull_J41 b d hd x1 x2 σ w _ h
/-! fR_step -/
def fR_step_J122 (N : Nat) (b : Nat) (K57 : Int32 → zS → Option (Int32 × zS)) (y4 : Int32) (y5 : Int32) (y6 : Int32) (u0 : Int32) (σ : zS) : Option (Int32 × zS) := (if u0 = 2 then (fR_putBack b σ).bind fun s27 => some (0, s27) else (fR_pull b y5 y6 u0 σ).bind fun s29 => K57 (y4 + 1) s29)
set_option maxHeartbeats 4000000 in
theorem kR_step_J122 (N : Nat) (b : Nat) (d : Nat) (hd : 3 ≤ d) (K57 : Int32 → zS → Option (Int32 × zS)) (hK57 : ∀ (y4 : Int32) (σ : zS) (w : Int32 × zS) (z1 : Option zA) (z2 : Option zA) (hz2 : znl z2 = true) (z3 : Option zA) (hz3 : znl z3 = true) (z5 : Option zA) (hz5 : znl z5 = true) (z6 : Option zA) (hz6 : znl z6 = true) (z7 : Option zA), K57 y4 σ = some w → zEv d 39 57 [some (zR 2 b), z1, z2, z3, some (zI y4), z5, z6, z7] [] σ (some (zI w.1), w.2)) : ∀ (y4 : Int32) (y5 : Int32) (y6 : Int32) (u0 : Int32) (σ : zS) (w : Int32 × zS) (z1 : Option zA) (z2 : Option zA) (hz2 : znl z2 = true) (z3 : Option zA) (hz3 : znl z3 = true) (z7 : Option zA), fR_step_J122 N b K57 y4 y5 y6 u0 σ = some w → zEv d 39 122 [some (zR 2 b), z1, z2, z3, some (zI y4), some (zI y5), some (zI y6), z7] [zI u0] σ (some (zI w.1), w.2) := by
  intro y4 y5 y6 u0 σ w z1 z2 hz2 z3 hz3 z7 h
  unfold fR_step_J122 at h
  refine ev_s i39_122 (p := 124) (l := [some (zR 2 b), z1, z2, z3, some (zI y4), some (zI y5), some (zI y6), some (zI u0)]) rfl ?_
  refine ev_s i39_124 (p := 126) rfl ?_
  refine ev_s i39_126 (p := 127) (zic_2 _ _ _ _ _) ?_
  refine ev_cmpne i39_127 (t := 136) (by decide) (p := 130) rfl h (fun c25 h => ?_) (fun c25 h => ?_)
  · refine ev_s i39_130 (p := 131) rfl ?_
    obtain ⟨s27, hr26, h⟩ := bd_some h
    refine ev_callV i39_131 zc2_134 zm41 zo41 (as' := []) (rest := []) rfl rfl (Nat.le_of_ble_eq_true rfl) (Nat.le_of_ble_eq_true rfl) (Nat.le_of_ble_eq_true rfl) (by omega) (l0 := [some (zR 2 b)]) rfl (p := 134) rfl (kR_putBack b σ s27 hr26 (d - 1) (by omega)) ?_
    change zEv d 39 134 [some (zR 2 b), z1, z2, z3, some (zI y4), some (zI y5), some (zI y6), some (zI u0)] [] s27 _
    refine ev_s i39_134 (p := 135) (zic_0 _ _ _ _ _) ?_
    obtain rfl := Option.some.inj h
    exact ev_zret i39_135 zr39 (by decide)
  · refine ev_s i39_136 (p := 137) rfl ?_
    refine ev_s i39_137 (p := 139) rfl ?_
    refine ev_s i39_139 (p := 141) rfl ?_
    refine ev_s i39_141 (p := 143) rfl ?_
    obtain ⟨s29, hr28, h⟩ := bd_some h
    refine ev_callV i39_143 zc2_137 zm44 zo44 (as' := [zI y5, zI y6, zI u0]) (rest := []) rfl rfl (Nat.le_of_ble_eq_true rfl) (Nat.le_of_ble_eq_true rfl) (Nat.le_of_ble_eq_true rfl) (by omega) (l0 := [some (zR 2 b), some (zI y5), some (zI y6), some (zI u0)]) rfl (p := 146) rfl (kR_pull b y5 y6 u0 σ s29 hr28 (d - 1) (by omega)) ?_
    change zEv d 39 146 [some (zR 2 b), z1, z2, z3, some (zI y4), some (zI y5), some (zI y6), some (zI u0)] [] s29 _
    refine ev_iinc i39_146 zii_1 rfl (l := [some (zR 2 b), z1, z2, z3, some (zI (y4 + 1)), some (zI y5), some (zI y6), some (zI u0)]) (by rcases z3 with _ | _ | _ | _ <;> first | rfl | cases hz3) (p := 149) rfl ?_
    refine ev_goto i39_149 (t := 57) (by decide) ?_
    exact hK57 (y4 + 1) s29 w _ _ hz2 _ hz3 _ rfl _ rfl _ h
def fR_step_L57 (N : Nat) (b : Nat) : Nat → Int32 → zS → Option (Int32 × zS)
  | 0, _, _ => none
  | n + 1, y4, σ => (if 10000 ≤ y4 then some (1, σ) else (fR_leastTooShort N b σ).bind fun r13 => (if 0 ≤ r13 then zgd (zin r13 8) ((if (σ 19 b r13.toNatClampNeg) ≤ 0 then (fR_unmovedEnd b r13 σ).bind fun r18 => (if 0 ≤ r18 then zb2 (fR_doesNow N b r18 σ) fun r22 s21 => fR_step_J122 N b (fun y4 σ => fR_step_L57 N b n y4 σ) y4 r13 r18 r22 s21 else fR_step_J122 N b (fun y4 σ => fR_step_L57 N b n y4 σ) y4 r13 r18 1 σ) else (fR_letOut b r13 r13 σ).bind fun s24 => fR_step_L57 N b n (y4 + 1) s24)) else some (1, σ)))
set_option maxHeartbeats 4000000 in
theorem kR_step_L57 (N : Nat) (b : Nat) (d : Nat) (hd : 3 ≤ d)  : ∀ n : Nat, ∀ (y4 : Int32) (σ : zS) (w : Int32 × zS) (z1 : Option zA) (z2 : Option zA) (hz2 : znl z2 = true) (z3 : Option zA) (hz3 : znl z3 = true) (z5 : Option zA) (hz5 : znl z5 = true) (z6 : Option zA) (hz6 : znl z6 = true) (z7 : Option zA), fR_step_L57 N b n y4 σ = some w → zEv d 39 57 [some (zR 2 b), z1, z2, z3, some (zI y4), z5, z6, z7] [] σ (some (zI w.1), w.2) := by
  intro n
  induction n with
  | zero =>
    intro y4 σ w z1 z2 hz2 z3 hz3 z5 hz5 z6 hz6 z7 h
    cases h
  | succ n ih =>
    intro y4 σ w z1 z2 hz2 z3 hz3 z5 hz5 z6 hz6 z7 h
    rw [fR_step_L57] at h
    refine ev_s i39_57 (p := 59) rfl ?_
    refine ev_s i39_59 (p := 62) (zis_10000 _ _ _ _ _) ?_
    refine ev_cmpge i39_62 (t := 152) (by decide) (p := 65) rfl h (fun c11 h => ?_) (fun c11 h => ?_)
    · refine ev_s i39_152 (p := 153) (zic_1 _ _ _ _ _) ?_
      obtain rfl := Option.some.inj h
      exact ev_zret i39_153 zr39 (by decide)
    · refine ev_s i39_65 (p := 66) rfl ?_
      obtain ⟨r13, hr12, h⟩ := bd_some h
      refine ev_callV i39_66 zc2_121 zm42 zo42 (as' := []) (rest := []) rfl rfl (Nat.le_of_ble_eq_true rfl) (Nat.le_of_ble_eq_true rfl) (Nat.le_of_ble_eq_true rfl) (by omega) (l0 := [some (zR 2 b), none, none]) rfl (p := 69) rfl (kR_leastTooShort N b σ r13 hr12 (d - 1) (by omega)) ?_
      change zEv d 39 69 [some (zR 2 b), z1, z2, z3, some (zI y4), z5, z6, z7] [zI r13] σ _
      refine ev_s i39_69 (p := 71) (l := [some (zR 2 b), z1, z2, z3, some (zI y4), some (zI r13), z6, z7]) rfl ?_
      refine ev_s i39_71 (p := 73) rfl ?_
      refine ev_ifge i39_73 (t := 78) (by decide) (p := 76) rfl h (fun c14 h => ?_) (fun c14 h => ?_)
      · refine ev_s i39_78 (p := 79) rfl ?_
        refine ev_getf i39_79 zf2_27 (u := zR 19 b) rfl (p := 82) rfl ?_
        refine ev_s i39_82 (p := 84) rfl ?_
        refine ev_iald i39_84 rfl (n := 8) rfl (p := 85) rfl h (fun g15 h => ?_)
        refine ev_ifle i39_85 (t := 99) (by decide) (p := 88) rfl h (fun c16 h => ?_) (fun c16 h => ?_)
        · refine ev_s i39_99 (p := 100) rfl ?_
          refine ev_s i39_100 (p := 102) rfl ?_
          obtain ⟨r18, hr17, h⟩ := bd_some h
          refine ev_callV i39_102 zc2_128 zm43 zo43 (as' := [zI r13]) (rest := []) rfl rfl (Nat.le_of_ble_eq_true rfl) (Nat.le_of_ble_eq_true rfl) (Nat.le_of_ble_eq_true rfl) (by omega) (l0 := [some (zR 2 b), some (zI r13), none]) rfl (p := 105) rfl (kR_unmovedEnd b r13 σ r18 hr17 (d - 1) (by omega)) ?_
          change zEv d 39 105 [some (zR 2 b), z1, z2, z3, some (zI y4), some (zI r13), z6, z7] [zI r18] σ _
          refine ev_s i39_105 (p := 107) (l := [some (zR 2 b), z1, z2, z3, some (zI y4), some (zI r13), some (zI r18), z7]) rfl ?_
          refine ev_s i39_107 (p := 109) rfl ?_
          refine ev_ifge i39_109 (t := 116) (by decide) (p := 112) rfl h (fun c19 h => ?_) (fun c19 h => ?_)
          · refine ev_s i39_116 (p := 117) rfl ?_
            refine ev_s i39_117 (p := 119) rfl ?_
            obtain ⟨r22, s21, hr20, h⟩ := b2_some h
            refine ev_callV i39_119 zc2_131 zm30 zo30 (as' := [zI r18]) (rest := []) rfl rfl (Nat.le_of_ble_eq_true rfl) (Nat.le_of_ble_eq_true rfl) (Nat.le_of_ble_eq_true rfl) (by omega) (l0 := [some (zR 2 b), some (zI r18)]) rfl (p := 122) rfl (kR_doesNow N b r18 σ (r22, s21) hr20 (d - 1) (by omega)) ?_
            change zEv d 39 122 [some (zR 2 b), z1, z2, z3, some (zI y4), some (zI r13), some (zI r18), z7] [zI r22] s21 _
            exact kR_step_J122 N b d hd (fun y4 σ => fR_step_L57 N b n y4 σ) ih y4 r13 r18 r22 s21 w _ _ hz2 _ hz3 _ h
          · refine ev_s i39_112 (p := 113) (zic_1 _ _ _ _ _) ?_
            refine ev_goto i39_113 (t := 122) (by decide) ?_
            exact kR_step_J122 N b d hd (fun y4 σ => fR_step_L57 N b n y4 σ) ih y4 r13 r18 1 σ w _ _ hz2 _ hz3 _ h
        · refine ev_s i39_88 (p := 89) rfl ?_
          refine ev_s i39_89 (p := 91) rfl ?_
          refine ev_s i39_91 (p := 93) rfl ?_
          obtain ⟨s24, hr23, h⟩ := bd_some h
          refine ev_callV i39_93 zc2_124 zm45 zo45 (as' := [zI r13, zI r13]) (rest := []) rfl rfl (Nat.le_of_ble_eq_true rfl) (Nat.le_of_ble_eq_true rfl) (Nat.le_of_ble_eq_true rfl) (by omega) (l0 := [some (zR 2 b), some (zI r13), some (zI r13)]) rfl (p := 96) rfl (kR_letOut b r13 r13 σ s24 hr23 (d - 1) (by omega)) ?_
          change zEv d 39 96 [some (zR 2 b), z1, z2, z3, some (zI y4), some (zI r13), z6, z7] [] s24 _
          refine ev_goto i39_96 (t := 146) (by decide) ?_
          refine ev_iinc i39_146 zii_1 rfl (l := [some (zR 2 b), z1, z2, z3, some (zI (y4 + 1)), some (zI r13), z6, z7]) (by rcases z3 with _ | _ | _ | _ <;> first | rfl | cases hz3) (p := 149) rfl ?_
          refine ev_goto i39_149 (t := 57) (by decide) ?_
          exact ih (y4 + 1) s24 w _ _ hz2 _ hz3 _ rfl _ hz6 _ h
      · refine ev_s i39_76 (p := 77) (zic_1 _ _ _ _ _) ?_
        obtain rfl := Option.some.inj h
        exact ev_zret i39_77 zr39 (by decide)
def fR_step_J23 (N : Nat) (b : Nat) (y1 : Int32) (u0 : Int32) (σ : zS) : Option (Int32 × zS) := (if u0 < 0 then some (0, σ) else (if u0 ≤ 63 then (fR_keep b σ).bind fun s7 => zgd (zin y1 8) (zlt (zup s7 17 b y1.toNatClampNeg u0) fun s8 => zlt (zup s8 2 b 14 (1 <<< (y1 &&& 31))) fun s10 => fR_step_L57 N b N 0 s10) else some (0, σ)))
set_option maxHeartbeats 4000000 in
theorem kR_step_J23 (N : Nat) (b : Nat) (d : Nat) (hd : 3 ≤ d)  : ∀ (y1 : Int32) (u0 : Int32) (σ : zS) (w : Int32 × zS) (z2 : Option zA) (hz2 : znl z2 = true) (z3 : Option zA) (hz3 : znl z3 = true) (z4 : Option zA) (hz4 : znl z4 = true) (z5 : Option zA) (hz5 : znl z5 = true) (z6 : Option zA) (hz6 : znl z6 = true) (z7 : Option zA), fR_step_J23 N b y1 u0 σ = some w → zEv d 39 23 [some (zR 2 b), some (zI y1), z2, z3, z4, z5, z6, z7] [zI u0] σ (some (zI w.1), w.2) := by
  intro y1 u0 σ w z2 hz2 z3 hz3 z4 hz4 z5 hz5 z6 hz6 z7 h
  unfold fR_step_J23 at h
  refine ev_s i39_23 (p := 24) (l := [some (zR 2 b), some (zI y1), z2, some (zI u0), z4, z5, z6, z7]) (t := []) (s := σ) (by rcases z2 with _ | _ | _ | _ <;> first | rfl | cases hz2) ?_
  refine ev_s i39_24 (p := 25) rfl ?_
  refine ev_iflt i39_25 (t := 34) (by decide) (p := 28) rfl h (fun c4 h => ?_) (fun c4 h => ?_)
  · refine ev_s i39_34 (p := 35) (zic_0 _ _ _ _ _) ?_
    obtain rfl := Option.some.inj h
    exact ev_zret i39_35 zr39 (by decide)
  · refine ev_s i39_28 (p := 29) rfl ?_
    refine ev_s i39_29 (p := 31) (zib_63 _ _ _ _ _) ?_
    refine ev_cmple i39_31 (t := 36) (by decide) (p := 34) rfl h (fun c5 h => ?_) (fun c5 h => ?_)
    · refine ev_s i39_36 (p := 37) rfl ?_
      obtain ⟨s7, hr6, h⟩ := bd_some h
      refine ev_callV i39_37 zc2_115 zm40 zo40 (as' := []) (rest := []) rfl rfl (Nat.le_of_ble_eq_true rfl) (Nat.le_of_ble_eq_true rfl) (Nat.le_of_ble_eq_true rfl) (by omega) (l0 := [some (zR 2 b)]) rfl (p := 40) rfl (kR_keep b σ s7 hr6 (d - 1) (by omega)) ?_
      change zEv d 39 40 [some (zR 2 b), some (zI y1), z2, some (zI u0), z4, z5, z6, z7] [] s7 _
      refine ev_s i39_40 (p := 41) rfl ?_
      refine ev_getf i39_41 zf2_21 (u := zR 17 b) rfl (p := 44) rfl ?_
      refine ev_s i39_44 (p := 45) rfl ?_
      refine ev_s i39_45 (p := 46) rfl ?_
      refine ev_iast i39_46 rfl (n := 8) rfl (p := 47) rfl h (fun g9 h => ?_)
      refine ev_lets h (fun s8 es8 h => ?_)
      refine ev_s i39_47 (p := 48) rfl ?_
      refine ev_s i39_48 (p := 49) (zic_1 _ _ _ _ _) ?_
      refine ev_s i39_49 (p := 50) rfl ?_
      refine ev_s i39_50 (p := 51) (t := [zI (1 <<< (y1 &&& 31)), zR 2 b]) rfl ?_
      refine ev_putf i39_51 zf2_118 rfl rfl rfl (p := 54) rfl ?_
      refine ev_lets h (fun s10 es10 h => ?_)
      refine ev_s i39_54 (p := 55) (zic_0 _ _ _ _ _) ?_
      refine ev_s i39_55 (p := 57) (l := [some (zR 2 b), some (zI y1), z2, some (zI u0), some (zI 0), z5, z6, z7]) rfl ?_
      exact kR_step_L57 N b d hd N 0 s10 w _ _ hz2 _ rfl _ hz5 _ hz6 _ h
    · refine ev_s i39_34 (p := 35) (zic_0 _ _ _ _ _) ?_
      obtain rfl := Option.some.inj h
      exact ev_zret i39_35 zr39 (by decide)
def fR_step (N : Nat) (b : Nat) (x1 : Int32) (x2 : Int32) (σ : zS) : Option (Int32 × zS) := (if x2 = 0 then zgd (zin x1 8) (fR_step_J23 N b x1 ((σ 17 b x1.toNatClampNeg) - 1) σ) else zgd (zin x1 8) (fR_step_J23 N b x1 ((σ 17 b x1.toNatClampNeg) + 1) σ))
set_option maxHeartbeats 4000000 in
theorem kR_step (N : Nat) (b : Nat) (x1 : Int32) (x2 : Int32) (σ : zS) (w : Int32 × zS) (h : fR_step N b x1 x2 σ = some w) (d : Nat) (hd : 3 ≤ d) : zEv d 39 0 [some (zR 2 b), some (zI x1), some (zI x2), none, none, none, none, none] [] σ (some (zI w.1), w.2) := by
  unfold fR_step at h
  refine ev_s i39_0 (p := 1) rfl ?_
  refine ev_ifne i39_1 (t := 15) (by decide) (p := 4) rfl h (fun c1 h => ?_) (fun c1 h => ?_)
  · refine ev_s i39_4 (p := 5) rfl ?_
    refine ev_getf i39_5 zf2_21 (u := zR 17 b) rfl (p := 8) rfl ?_
    refine ev_s i39_8 (p := 9) rfl ?_
    refine ev_iald i39_9 rfl (n := 8) rfl (p := 10) rfl h (fun g2 h => ?_)
    refine ev_s i39_10 (p := 11) (zic_1 _ _ _ _ _) ?_
    refine ev_s i39_11 (p := 12) (t := [zI ((σ 17 b x1.toNatClampNeg) - 1)]) rfl ?_
    refine ev_goto i39_12 (t := 23) (by decide) ?_
    exact kR_step_J23 N b d hd x1 ((σ 17 b x1.toNatClampNeg) - 1) σ w _ rfl _ rfl _ rfl _ rfl _ rfl _ h
  · refine ev_s i39_15 (p := 16) rfl ?_
    refine ev_getf i39_16 zf2_21 (u := zR 17 b) rfl (p := 19) rfl ?_
    refine ev_s i39_19 (p := 20) rfl ?_
    refine ev_iald i39_20 rfl (n := 8) rfl (p := 21) rfl h (fun g3 h => ?_)
    refine ev_s i39_21 (p := 22) (zic_1 _ _ _ _ _) ?_
    refine ev_s i39_22 (p := 23) (t := [zI ((σ 17 b x1.toNatClampNeg) + 1)]) rfl ?_
    exact kR_step_J23 N b d hd x1 ((σ 17 b x1.toNatClampNeg) + 1) σ w _ rfl _ rfl _ rfl _ rfl _ rfl _ h
/-! fR_passDay -/
def fR_passDay_J66 (N : Nat) (b : Nat) (σ : zS) : Option (zS) := zlt (zup σ 2 b 10 ((σ 2 b 10) + 1)) fun s13 => some s13
set_option maxHeartbeats 4000000 in
theorem kR_passDay_J66 (N : Nat) (b : Nat) (d : Nat) (hd : 4 ≤ d)  : ∀ (σ : zS) (w : zS) (z1 : Option zA) (hz1 : znl z1 = true) (z2 : Option zA) (hz2 : znl z2 = true) (z3 : Option zA) (hz3 : znl z3 = true) (z4 : Option zA) (hz4 : znl z4 = true) (z5 : Option zA), fR_passDay_J66 N b σ = some w → zEv d 36 66 [some (zR 2 b), z1, z2, z3, z4, z5] [] σ (none, w) := by
  intro σ w z1 hz1 z2 hz2 z3 hz3 z4 hz4 z5 h
  unfold fR_passDay_J66 at h
  refine ev_s i36_66 (p := 67) rfl ?_
  refine ev_s i36_67 (p := 68) rfl ?_
  refine ev_getf i36_68 zf2_56 (u := zI (σ 2 b 10)) rfl (p := 71) rfl ?_
  refine ev_s i36_71 (p := 72) (zic_1 _ _ _ _ _) ?_
  refine ev_s i36_72 (p := 73) (t := [zI ((σ 2 b 10) + 1), zR 2 b]) rfl ?_
  refine ev_putf i36_73 zf2_56 rfl rfl rfl (p := 76) rfl ?_
  refine ev_lets h (fun s13 es13 h => ?_)
  obtain rfl := Option.some.inj h
  exact ev_vret i36_76 zr36
def fR_passDay_L38 (N : Nat) (b : Nat) : Nat → Int32 → Int32 → Int32 → Int32 → Int32 → zS → Option (zS)
  | 0, _, _, _, _, _, _ => none
  | n + 1, y1, y2, y3, y4, y5, σ => (if y3 ≤ y5 then fR_passDay_J66 N b σ else (if y4 = 0 then fR_passDay_J66 N b σ else zb2 (fR_step N b y2 (y1 - y1 / 10 * 10) σ) fun r12 s11 => fR_passDay_L38 N b n y1 y2 y3 r12 (y5 + 1) s11))
set_option maxHeartbeats 4000000 in
theorem kR_passDay_L38 (N : Nat) (b : Nat) (d : Nat) (hd : 4 ≤ d)  : ∀ n : Nat, ∀ (y1 : Int32) (y2 : Int32) (y3 : Int32) (y4 : Int32) (y5 : Int32) (σ : zS) (w : zS), fR_passDay_L38 N b n y1 y2 y3 y4 y5 σ = some w → zEv d 36 38 [some (zR 2 b), some (zI y1), some (zI y2), some (zI y3), some (zI y4), some (zI y5)] [] σ (none, w) := by
  intro n
  induction n with
  | zero =>
    intro y1 y2 y3 y4 y5 σ w h
    cases h
  | succ n ih =>
    intro y1 y2 y3 y4 y5 σ w h
    rw [fR_passDay_L38] at h
    refine ev_s i36_38 (p := 40) rfl ?_
    refine ev_s i36_40 (p := 41) rfl ?_
    refine ev_cmpge i36_41 (t := 66) (by decide) (p := 44) rfl h (fun c8 h => ?_) (fun c8 h => ?_)
    · exact kR_passDay_J66 N b d hd σ w _ rfl _ rfl _ rfl _ rfl _ h
    · refine ev_s i36_44 (p := 46) rfl ?_
      refine ev_ifeq i36_46 (t := 66) (by decide) (p := 49) rfl h (fun c9 h => ?_) (fun c9 h => ?_)
      · exact kR_passDay_J66 N b d hd σ w _ rfl _ rfl _ rfl _ rfl _ h
      · refine ev_s i36_49 (p := 50) rfl ?_
        refine ev_s i36_50 (p := 51) rfl ?_
        refine ev_s i36_51 (p := 52) rfl ?_
        refine ev_s i36_52 (p := 54) (zib_10 _ _ _ _ _) ?_
        refine ev_iremK i36_54 (p := 55) rfl (by decide) ?_
        obtain ⟨r12, s11, hr10, h⟩ := b2_some h
        refine ev_callV i36_55 zc2_106 zm39 zo39 (as' := [zI y2, zI (y1 - y1 / 10 * 10)]) (rest := []) rfl rfl (Nat.le_of_ble_eq_true rfl) (Nat.le_of_ble_eq_true rfl) (Nat.le_of_ble_eq_true rfl) (by omega) (l0 := [some (zR 2 b), some (zI y2), some (zI (y1 - y1 / 10 * 10)), none, none, none, none, none]) rfl (p := 58) rfl (kR_step N b y2 (y1 - y1 / 10 * 10) σ (r12, s11) hr10 (d - 1) (by omega)) ?_
        change zEv d 36 58 [some (zR 2 b), some (zI y1), some (zI y2), some (zI y3), some (zI y4), some (zI y5)] [zI r12] s11 _
        refine ev_s i36_58 (p := 60) (l := [some (zR 2 b), some (zI y1), some (zI y2), some (zI y3), some (zI r12), some (zI y5)]) rfl ?_
        refine ev_iinc i36_60 zii_1 rfl (l := [some (zR 2 b), some (zI y1), some (zI y2), some (zI y3), some (zI r12), some (zI (y5 + 1))]) rfl (p := 63) rfl ?_
        refine ev_goto i36_63 (t := 38) (by decide) ?_
        exact ih y1 y2 y3 r12 (y5 + 1) s11 w h
def fR_passDay (N : Nat) (b : Nat) (σ : zS) : Option (zS) := zgd (zin ((σ 2 b 10) - (σ 2 b 10) / 6 * 6) 6) (zlt (σ 20 b ((σ 2 b 10) - (σ 2 b 10) / 6 * 6).toNatClampNeg) fun v2 => zlt (v2 / 10) fun v3 => (if (σ 2 b 9) ≤ v3 then fR_passDay_J66 N b σ else zb2 (fR_goesNow N b v3 σ) fun r7 s6 => fR_passDay_L38 N b N v2 v3 r7 1 0 s6))
set_option maxHeartbeats 4000000 in
theorem kR_passDay (N : Nat) (b : Nat) (σ : zS) (w : zS) (h : fR_passDay N b σ = some w) (d : Nat) (hd : 4 ≤ d) : zEv d 36 0 [some (zR 2 b), none, none, none, none, none] [] σ (none, w) := by
  unfold fR_passDay at h
  refine ev_s i36_0 (p := 1) rfl ?_
  refine ev_getf i36_1 zf2_30 (u := zR 20 b) rfl (p := 4) rfl ?_
  refine ev_s i36_4 (p := 5) rfl ?_
  refine ev_getf i36_5 zf2_56 (u := zI (σ 2 b 10)) rfl (p := 8) rfl ?_
  refine ev_s i36_8 (p := 10) (zib_6 _ _ _ _ _) ?_
  refine ev_iremK i36_10 (p := 11) rfl (by decide) ?_
  refine ev_iald i36_11 rfl (n := 6) rfl (p := 12) rfl h (fun g1 h => ?_)
  refine ev_let h (fun v2 ev2 h => ?_)
  refine ev_s i36_12 (p := 13) (l := [some (zR 2 b), some (zI v2), none, none, none, none]) rfl ?_
  refine ev_s i36_13 (p := 14) rfl ?_
  refine ev_s i36_14 (p := 16) (zib_10 _ _ _ _ _) ?_
  refine ev_idivK i36_16 (p := 17) rfl (by decide) ?_
  refine ev_let h (fun v3 ev3 h => ?_)
  refine ev_s i36_17 (p := 18) (l := [some (zR 2 b), some (zI v2), some (zI v3), none, none, none]) rfl ?_
  refine ev_s i36_18 (p := 19) rfl ?_
  refine ev_s i36_19 (p := 20) rfl ?_
  refine ev_getf i36_20 zf2_53 (u := zI (σ 2 b 9)) rfl (p := 23) rfl ?_
  refine ev_cmpge i36_23 (t := 66) (by decide) (p := 26) rfl h (fun c4 h => ?_) (fun c4 h => ?_)
  · exact kR_passDay_J66 N b d hd σ w _ rfl _ rfl _ rfl _ rfl _ h
  · refine ev_s i36_26 (p := 27) rfl ?_
    refine ev_s i36_27 (p := 28) rfl ?_
    obtain ⟨r7, s6, hr5, h⟩ := b2_some h
    refine ev_callV i36_28 zc2_103 zm31 zo31 (as' := [zI v3]) (rest := []) rfl rfl (Nat.le_of_ble_eq_true rfl) (Nat.le_of_ble_eq_true rfl) (Nat.le_of_ble_eq_true rfl) (by omega) (l0 := [some (zR 2 b), some (zI v3)]) rfl (p := 31) rfl (kR_goesNow N b v3 σ (r7, s6) hr5 (d - 1) (by omega)) ?_
    change zEv d 36 31 [some (zR 2 b), some (zI v2), some (zI v3), none, none, none] [zI r7] s6 _
    refine ev_s i36_31 (p := 32) (l := [some (zR 2 b), some (zI v2), some (zI v3), some (zI r7), none, none]) rfl ?_
    refine ev_s i36_32 (p := 33) (zic_1 _ _ _ _ _) ?_
    refine ev_s i36_33 (p := 35) (l := [some (zR 2 b), some (zI v2), some (zI v3), some (zI r7), some (zI 1), none]) rfl ?_
    refine ev_s i36_35 (p := 36) (zic_0 _ _ _ _ _) ?_
    refine ev_s i36_36 (p := 38) (l := [some (zR 2 b), some (zI v2), some (zI v3), some (zI r7), some (zI 1), some (zI 0)]) rfl ?_
    exact kR_passDay_L38 N b d hd N v2 v3 r7 1 0 s6 w h
/-! fR_pass -/
def fR_pass_L2 (N : Nat) (b : Nat) : Nat → Int32 → Int32 → zS → Option (zS)
  | 0, _, _, _ => none
  | n + 1, y1, y2, σ => (if y1 ≤ y2 then some σ else (fR_passDay N b σ).bind fun s3 => fR_pass_L2 N b n y1 (y2 + 1) s3)
set_option maxHeartbeats 4000000 in
theorem kR_pass_L2 (N : Nat) (b : Nat) (d : Nat) (hd : 5 ≤ d)  : ∀ n : Nat, ∀ (y1 : Int32) (y2 : Int32) (σ : zS) (w : zS), fR_pass_L2 N b n y1 y2 σ = some w → zEv d 35 2 [some (zR 2 b), some (zI y1), some (zI y2)] [] σ (none, w) := by
  intro n
  induction n with
  | zero =>
    intro y1 y2 σ w h
    cases h
  | succ n ih =>
    intro y1 y2 σ w h
    rw [fR_pass_L2] at h
    refine ev_s i35_2 (p := 3) rfl ?_
    refine ev_s i35_3 (p := 4) rfl ?_
    refine ev_cmpge i35_4 (t := 17) (by decide) (p := 7) rfl h (fun c1 h => ?_) (fun c1 h => ?_)
    · obtain rfl := Option.some.inj h
      exact ev_vret i35_17 zr35
    · refine ev_s i35_7 (p := 8) rfl ?_
      obtain ⟨s3, hr2, h⟩ := bd_some h
      refine ev_callV i35_8 zc2_100 zm36 zo36 (as' := []) (rest := []) rfl rfl (Nat.le_of_ble_eq_true rfl) (Nat.le_of_ble_eq_true rfl) (Nat.le_of_ble_eq_true rfl) (by omega) (l0 := [some (zR 2 b), none, none, none, none, none]) rfl (p := 11) rfl (kR_passDay N b σ s3 hr2 (d - 1) (by omega)) ?_
      change zEv d 35 11 [some (zR 2 b), some (zI y1), some (zI y2)] [] s3 _
      refine ev_iinc i35_11 zii_1 rfl (l := [some (zR 2 b), some (zI y1), some (zI (y2 + 1))]) rfl (p := 14) rfl ?_
      refine ev_goto i35_14 (t := 2) (by decide) ?_
      exact ih y1 (y2 + 1) s3 w h
def fR_pass (N : Nat) (b : Nat) (x1 : Int32) (σ : zS) : Option (zS) := fR_pass_L2 N b N x1 0 σ
set_option maxHeartbeats 4000000 in
theorem kR_pass (N : Nat) (b : Nat) (x1 : Int32) (σ : zS) (w : zS) (h : fR_pass N b x1 σ = some w) (d : Nat) (hd : 5 ≤ d) : zEv d 35 0 [some (zR 2 b), some (zI x1), none] [] σ (none, w) := by
  unfold fR_pass at h
  refine ev_s i35_0 (p := 1) (zic_0 _ _ _ _ _) ?_
  refine ev_s i35_1 (p := 2) (l := [some (zR 2 b), some (zI x1), some (zI 0)]) rfl ?_
  exact kR_pass_L2 N b d hd N x1 0 σ w h
/-! fA_days -/
def fA_days_J11 (N : Nat) (σ : zS) : Option (Int32 × zS) := zb2 (fA_refuse 1 σ) fun r11 s10 => some (r11, s10)
set_option maxHeartbeats 4000000 in
theorem kA_days_J11 (N : Nat) (d : Nat) (hd : 6 ≤ d)  : ∀ (σ : zS) (w : Int32 × zS) (z1 : Option zA), fA_days_J11 N σ = some w → zEv d 73 11 [some (zR 7 0), z1] [] σ (some (zI w.1), w.2) := by
  intro σ w z1 h
  unfold fA_days_J11 at h
  refine ev_s i73_11 (p := 12) rfl ?_
  refine ev_s i73_12 (p := 13) (zic_1 _ _ _ _ _) ?_
  obtain ⟨r11, s10, hr9, h⟩ := b2_some h
  refine ev_callV i73_13 zc7_72 zm102 zo102 (as' := [zI 1]) (rest := []) rfl rfl (Nat.le_of_ble_eq_true rfl) (Nat.le_of_ble_eq_true rfl) (Nat.le_of_ble_eq_true rfl) (by omega) (l0 := [some (zR 7 0), some (zI 1)]) rfl (p := 16) rfl (kA_refuse 1 σ (r11, s10) hr9 (d - 1) (by omega)) ?_
  change zEv d 73 16 [some (zR 7 0), z1] [zI r11] s10 _
  obtain rfl := Option.some.inj h
  exact ev_iret i73_16 zr73
def fA_days (N : Nat) (x1 : Int32) (σ : zS) : Option (Int32 × zS) := (if x1 < 1 then fA_days_J11 N σ else (if x1 ≤ 60 then (if ((σ 2 0 10) + x1) ≤ 9999 then (fR_pass N 0 x1 σ).bind fun s5 => some (s5 2 0 11, s5) else zb2 (fA_refuse 3 σ) fun r8 s7 => some (r8, s7)) else fA_days_J11 N σ))
set_option maxHeartbeats 4000000 in
theorem kA_days (N : Nat) (x1 : Int32) (σ : zS) (w : Int32 × zS) (h : fA_days N x1 σ = some w) (d : Nat) (hd : 6 ≤ d) : zEv d 73 0 [some (zR 7 0), some (zI x1)] [] σ (some (zI w.1), w.2) := by
  unfold fA_days at h
  refine ev_s i73_0 (p := 1) rfl ?_
  refine ev_s i73_1 (p := 2) (zic_1 _ _ _ _ _) ?_
  refine ev_cmplt i73_2 (t := 11) (by decide) (p := 5) rfl h (fun c1 h => ?_) (fun c1 h => ?_)
  · exact kA_days_J11 N d hd σ w _ h
  · refine ev_s i73_5 (p := 6) rfl ?_
    refine ev_s i73_6 (p := 8) (zib_60 _ _ _ _ _) ?_
    refine ev_cmple i73_8 (t := 17) (by decide) (p := 11) rfl h (fun c2 h => ?_) (fun c2 h => ?_)
    · refine ev_s i73_17 (p := 18) rfl ?_
      refine ev_getf i73_18 zf7_47 (u := zR 2 0) rfl (p := 21) rfl ?_
      refine ev_getf i73_21 zf7_158 (u := zI (σ 2 0 10)) rfl (p := 24) rfl ?_
      refine ev_s i73_24 (p := 25) rfl ?_
      refine ev_s i73_25 (p := 26) (t := [zI ((σ 2 0 10) + x1)]) rfl ?_
      refine ev_s i73_26 (p := 29) (zis_9999 _ _ _ _ _) ?_
      refine ev_cmple i73_29 (t := 38) (by decide) (p := 32) rfl h (fun c3 h => ?_) (fun c3 h => ?_)
      · refine ev_s i73_38 (p := 39) rfl ?_
        refine ev_getf i73_39 zf7_47 (u := zR 2 0) rfl (p := 42) rfl ?_
        refine ev_s i73_42 (p := 43) rfl ?_
        obtain ⟨s5, hr4, h⟩ := bd_some h
        refine ev_callV i73_43 zc7_161 zm35 zo35 (as' := [zI x1]) (rest := []) rfl rfl (Nat.le_of_ble_eq_true rfl) (Nat.le_of_ble_eq_true rfl) (Nat.le_of_ble_eq_true rfl) (by omega) (l0 := [some (zR 2 0), some (zI x1), none]) rfl (p := 46) rfl (kR_pass N 0 x1 σ s5 hr4 (d - 1) (by omega)) ?_
        change zEv d 73 46 [some (zR 7 0), some (zI x1)] [] s5 _
        refine ev_s i73_46 (p := 47) rfl ?_
        refine ev_getf i73_47 zf7_47 (u := zR 2 0) rfl (p := 50) rfl ?_
        refine ev_getf i73_50 zf7_164 (u := zI (s5 2 0 11)) rfl (p := 53) rfl ?_
        obtain rfl := Option.some.inj h
        exact ev_iret i73_53 zr73
      · refine ev_s i73_32 (p := 33) rfl ?_
        refine ev_s i73_33 (p := 34) (zic_3 _ _ _ _ _) ?_
        obtain ⟨r8, s7, hr6, h⟩ := b2_some h
        refine ev_callV i73_34 zc7_72 zm102 zo102 (as' := [zI 3]) (rest := []) rfl rfl (Nat.le_of_ble_eq_true rfl) (Nat.le_of_ble_eq_true rfl) (Nat.le_of_ble_eq_true rfl) (by omega) (l0 := [some (zR 7 0), some (zI 3)]) rfl (p := 37) rfl (kA_refuse 3 σ (r8, s7) hr6 (d - 1) (by omega)) ?_
        change zEv d 73 37 [some (zR 7 0), some (zI x1)] [zI r8] s7 _
        obtain rfl := Option.some.inj h
        exact ev_iret i73_37 zr73
    · exact kA_days_J11 N d hd σ w _ h
/-! fM_tooShort -/
def fM_tooShort_L2 (N : Nat) : Nat → Int32 → zS → Option (Int32)
  | 0, _, _ => none
  | n + 1, y1, σ => (if (σ 30 0 4) ≤ y1 then some ((-1)) else (fM_apartOf y1 σ).bind fun r3 => (fM_its y1 4 σ).bind fun r5 => (if r3 ≤ r5 then fM_tooShort_L2 N n (y1 + 1) σ else some (y1)))
set_option maxHeartbeats 4000000 in
theorem kM_tooShort_L2 (N : Nat) (d : Nat) (hd : 3 ≤ d)  : ∀ n : Nat, ∀ (y1 : Int32) (σ : zS) (w : Int32), fM_tooShort_L2 N n y1 σ = some w → zEv d 147 2 [some (zR 8 0), some (zI y1)] [] σ (some (zI w), σ) := by
  intro n
  induction n with
  | zero =>
    intro y1 σ w h
    cases h
  | succ n ih =>
    intro y1 σ w h
    rw [fM_tooShort_L2] at h
    refine ev_s i147_2 (p := 3) rfl ?_
    refine ev_s i147_3 (p := 4) rfl ?_
    refine ev_getf i147_4 zf8_7 (u := zR 30 0) rfl (p := 7) rfl ?_
    refine ev_s i147_7 (p := 8) (zic_4 _ _ _ _ _) ?_
    refine ev_ialdK i147_8 rfl (n := 394) rfl (by decide) (p := 9) rfl ?_
    change zEv d 147 9 [some (zR 8 0), some (zI y1)] [zI (σ 30 0 4), zI y1] σ _
    refine ev_cmpge i147_9 (t := 34) (by decide) (p := 12) rfl h (fun c1 h => ?_) (fun c1 h => ?_)
    · refine ev_s i147_34 (p := 35) (zic_m1 _ _ _ _ _) ?_
      obtain rfl := Option.some.inj h
      exact ev_iret i147_35 zr147
    · refine ev_s i147_12 (p := 13) rfl ?_
      refine ev_s i147_13 (p := 14) rfl ?_
      obtain ⟨r3, hr2, h⟩ := bd_some h
      refine ev_callV i147_14 zc8_146 zm146 zo146 (as' := [zI y1]) (rest := []) rfl rfl (Nat.le_of_ble_eq_true rfl) (Nat.le_of_ble_eq_true rfl) (Nat.le_of_ble_eq_true rfl) (by omega) (l0 := [some (zR 8 0), some (zI y1)]) rfl (p := 17) rfl (kM_apartOf y1 σ r3 hr2 (d - 1) (by omega)) ?_
      change zEv d 147 17 [some (zR 8 0), some (zI y1)] [zI r3] σ _
      refine ev_s i147_17 (p := 18) rfl ?_
      refine ev_s i147_18 (p := 19) rfl ?_
      refine ev_s i147_19 (p := 20) (zic_4 _ _ _ _ _) ?_
      obtain ⟨r5, hr4, h⟩ := bd_some h
      refine ev_callV i147_20 zc8_54 zm118 zo118 (as' := [zI y1, zI 4]) (rest := [zI r3]) rfl rfl (Nat.le_of_ble_eq_true rfl) (Nat.le_of_ble_eq_true rfl) (Nat.le_of_ble_eq_true rfl) (by omega) (l0 := [some (zR 8 0), some (zI y1), some (zI 4)]) rfl (p := 23) rfl (kM_its y1 4 σ r5 hr4 (d - 1) (by omega)) ?_
      change zEv d 147 23 [some (zR 8 0), some (zI y1)] [zI r5, zI r3] σ _
      refine ev_cmple i147_23 (t := 28) (by decide) (p := 26) rfl h (fun c6 h => ?_) (fun c6 h => ?_)
      · refine ev_iinc i147_28 zii_1 rfl (l := [some (zR 8 0), some (zI (y1 + 1))]) rfl (p := 31) rfl ?_
        refine ev_goto i147_31 (t := 2) (by decide) ?_
        exact ih (y1 + 1) σ w h
      · refine ev_s i147_26 (p := 27) rfl ?_
        obtain rfl := Option.some.inj h
        exact ev_iret i147_27 zr147
def fM_tooShort (N : Nat) (σ : zS) : Option (Int32) := fM_tooShort_L2 N N 0 σ
set_option maxHeartbeats 4000000 in
theorem kM_tooShort (N : Nat) (σ : zS) (w : Int32) (h : fM_tooShort N σ = some w) (d : Nat) (hd : 3 ≤ d) : zEv d 147 0 [some (zR 8 0), none] [] σ (some (zI w), σ) := by
  unfold fM_tooShort at h
  refine ev_s i147_0 (p := 1) (zic_0 _ _ _ _ _) ?_
  refine ev_s i147_1 (p := 2) (l := [some (zR 8 0), some (zI 0)]) rfl ?_
  exact kM_tooShort_L2 N d hd N 0 σ w h
/-! fM_cutsIt -/
def fM_cutsIt (x1 : Int32) (σ : zS) : Option (zS) := (fM_unties x1 σ).bind fun s2 => (fM_held ((s2 30 0 5) + 1) 0 9999).bind fun r4 => zlt (zup s2 30 0 5 r4) fun s5 => some s5
set_option maxHeartbeats 4000000 in
theorem kM_cutsIt (x1 : Int32) (σ : zS) (w : zS) (h : fM_cutsIt x1 σ = some w) (d : Nat) (hd : 2 ≤ d) : zEv d 149 0 [some (zR 8 0), some (zI x1)] [] σ (none, w) := by
  unfold fM_cutsIt at h
  refine ev_s i149_0 (p := 1) rfl ?_
  refine ev_s i149_1 (p := 2) rfl ?_
  obtain ⟨s2, hr1, h⟩ := bd_some h
  refine ev_callV i149_2 zc8_153 zm148 zo148 (as' := [zI x1]) (rest := []) rfl rfl (Nat.le_of_ble_eq_true rfl) (Nat.le_of_ble_eq_true rfl) (Nat.le_of_ble_eq_true rfl) (by omega) (l0 := [some (zR 8 0), some (zI x1)]) rfl (p := 5) rfl (kM_unties x1 σ s2 hr1 (d - 1) (by omega)) ?_
  change zEv d 149 5 [some (zR 8 0), some (zI x1)] [] s2 _
  refine ev_s i149_5 (p := 6) rfl ?_
  refine ev_getf i149_6 zf8_7 (u := zR 30 0) rfl (p := 9) rfl ?_
  refine ev_s i149_9 (p := 10) (zic_5 _ _ _ _ _) ?_
  refine ev_s i149_10 (p := 11) rfl ?_
  refine ev_getf i149_11 zf8_7 (u := zR 30 0) rfl (p := 14) rfl ?_
  refine ev_s i149_14 (p := 15) (zic_5 _ _ _ _ _) ?_
  refine ev_ialdK i149_15 rfl (n := 394) rfl (by decide) (p := 16) rfl ?_
  change zEv d 149 16 [some (zR 8 0), some (zI x1)] [zI (s2 30 0 5), zI 5, zR 30 0] s2 _
  refine ev_s i149_16 (p := 17) (zic_1 _ _ _ _ _) ?_
  refine ev_s i149_17 (p := 18) (t := [zI ((s2 30 0 5) + 1), zI 5, zR 30 0]) rfl ?_
  refine ev_s i149_18 (p := 19) (zic_0 _ _ _ _ _) ?_
  refine ev_s i149_19 (p := 22) (zis_9999 _ _ _ _ _) ?_
  obtain ⟨r4, hr3, h⟩ := bd_some h
  refine ev_callS i149_22 zn8_127 zc8_127 zm112 (as := [zI ((s2 30 0 5) + 1), zI 0, zI 9999]) (rest := [zI 5, zR 30 0]) rfl rfl (Nat.le_of_ble_eq_true rfl) (Nat.le_of_ble_eq_true rfl) (Nat.le_of_ble_eq_true rfl) (by omega) (l0 := [some (zI ((s2 30 0 5) + 1)), some (zI 0), some (zI 9999)]) rfl (p := 25) rfl (kM_held ((s2 30 0 5) + 1) 0 9999 s2 r4 hr3 (d - 1) (by omega)) ?_
  change zEv d 149 25 [some (zR 8 0), some (zI x1)] [zI r4, zI 5, zR 30 0] s2 _
  refine ev_iastK i149_25 rfl (n := 394) rfl (by decide) (p := 26) rfl ?_
  change zEv d 149 26 [some (zR 8 0), some (zI x1)] [] (zup s2 30 0 5 r4) _
  refine ev_lets h (fun s5 es5 h => ?_)
  obtain rfl := Option.some.inj h
  exact ev_vret i149_26 zr149
/-! fM_spares -/
def fM_spares (x1 : Int32) (x2 : Int32) (σ : zS) : Option (zS) := (fM_its x1 5 σ).bind fun r2 => (fM_lays1 x1 5 (r2 - 1) σ).bind fun s4 => (fM_its x2 4 s4).bind fun r6 => (fM_lays1 x2 4 (r6 + 1) s4).bind fun s8 => some s8
set_option maxHeartbeats 4000000 in
theorem kM_spares (x1 : Int32) (x2 : Int32) (σ : zS) (w : zS) (h : fM_spares x1 x2 σ = some w) (d : Nat) (hd : 1 ≤ d) : zEv d 150 0 [some (zR 8 0), some (zI x1), some (zI x2)] [] σ (none, w) := by
  unfold fM_spares at h
  refine ev_s i150_0 (p := 1) rfl ?_
  refine ev_s i150_1 (p := 2) rfl ?_
  refine ev_s i150_2 (p := 3) (zic_5 _ _ _ _ _) ?_
  refine ev_s i150_3 (p := 4) rfl ?_
  refine ev_s i150_4 (p := 5) rfl ?_
  refine ev_s i150_5 (p := 6) (zic_5 _ _ _ _ _) ?_
  obtain ⟨r2, hr1, h⟩ := bd_some h
  refine ev_callV i150_6 zc8_54 zm118 zo118 (as' := [zI x1, zI 5]) (rest := [zI 5, zI x1, zR 8 0]) rfl rfl (Nat.le_of_ble_eq_true rfl) (Nat.le_of_ble_eq_true rfl) (Nat.le_of_ble_eq_true rfl) (by omega) (l0 := [some (zR 8 0), some (zI x1), some (zI 5)]) rfl (p := 9) rfl (kM_its x1 5 σ r2 hr1 (d - 1) (by omega)) ?_
  change zEv d 150 9 [some (zR 8 0), some (zI x1), some (zI x2)] [zI r2, zI 5, zI x1, zR 8 0] σ _
  refine ev_s i150_9 (p := 10) (zic_1 _ _ _ _ _) ?_
  refine ev_s i150_10 (p := 11) (t := [zI (r2 - 1), zI 5, zI x1, zR 8 0]) rfl ?_
  obtain ⟨s4, hr3, h⟩ := bd_some h
  refine ev_callV i150_11 zc8_149 zm119 zo119 (as' := [zI x1, zI 5, zI (r2 - 1)]) (rest := []) rfl rfl (Nat.le_of_ble_eq_true rfl) (Nat.le_of_ble_eq_true rfl) (Nat.le_of_ble_eq_true rfl) (by omega) (l0 := [some (zR 8 0), some (zI x1), some (zI 5), some (zI (r2 - 1))]) rfl (p := 14) rfl (kM_lays1 x1 5 (r2 - 1) σ s4 hr3 (d - 1) (by omega)) ?_
  change zEv d 150 14 [some (zR 8 0), some (zI x1), some (zI x2)] [] s4 _
  refine ev_s i150_14 (p := 15) rfl ?_
  refine ev_s i150_15 (p := 16) rfl ?_
  refine ev_s i150_16 (p := 17) (zic_4 _ _ _ _ _) ?_
  refine ev_s i150_17 (p := 18) rfl ?_
  refine ev_s i150_18 (p := 19) rfl ?_
  refine ev_s i150_19 (p := 20) (zic_4 _ _ _ _ _) ?_
  obtain ⟨r6, hr5, h⟩ := bd_some h
  refine ev_callV i150_20 zc8_54 zm118 zo118 (as' := [zI x2, zI 4]) (rest := [zI 4, zI x2, zR 8 0]) rfl rfl (Nat.le_of_ble_eq_true rfl) (Nat.le_of_ble_eq_true rfl) (Nat.le_of_ble_eq_true rfl) (by omega) (l0 := [some (zR 8 0), some (zI x2), some (zI 4)]) rfl (p := 23) rfl (kM_its x2 4 s4 r6 hr5 (d - 1) (by omega)) ?_
  change zEv d 150 23 [some (zR 8 0), some (zI x1), some (zI x2)] [zI r6, zI 4, zI x2, zR 8 0] s4 _
  refine ev_s i150_23 (p := 24) (zic_1 _ _ _ _ _) ?_
  refine ev_s i150_24 (p := 25) (t := [zI (r6 + 1), zI 4, zI x2, zR 8 0]) rfl ?_
  obtain ⟨s8, hr7, h⟩ := bd_some h
  refine ev_callV i150_25 zc8_149 zm119 zo119 (as' := [zI x2, zI 4, zI (r6 + 1)]) (rest := []) rfl rfl (Nat.le_of_ble_eq_true rfl) (Nat.le_of_ble_eq_true rfl) (Nat.le_of_ble_eq_true rfl) (by omega) (l0 := [some (zR 8 0), some (zI x2), some (zI 4), some (zI (r6 + 1))]) rfl (p := 28) rfl (kM_lays1 x2 4 (r6 + 1) s4 s8 hr7 (d - 1) (by omega)) ?_
  change zEv d 150 28 [some (zR 8 0), some (zI x1), some (zI x2)] [] s8 _
  obtain rfl := Option.some.inj h
  exact ev_vret i150_28 zr150
/-! fM_comesNearer -/
def fM_comesNearer_J29 (y1 : Int32) (u0 : Int32) (u1 : Int32) (u2 : Int32) (u3 : Int32) (σ : zS) : Option (zS) := (fM_lays1 u3 u2 (u1 + u0) σ).bind fun s9 => zlt (zup s9 8 0 13 ((s9 8 0 13) ||| (1 <<< (y1 &&& 31)))) fun s10 => some s10
set_option maxHeartbeats 4000000 in
theorem kM_comesNearer_J29  (d : Nat) (hd : 1 ≤ d)  : ∀ (y1 : Int32) (u0 : Int32) (u1 : Int32) (u2 : Int32) (u3 : Int32) (σ : zS) (w : zS) (z2 : Option zA), fM_comesNearer_J29 y1 u0 u1 u2 u3 σ = some w → zEv d 151 29 [some (zR 8 0), some (zI y1), z2] [zI u0, zI u1, zI u2, zI u3, zR 8 0] σ (none, w) := by
  intro y1 u0 u1 u2 u3 σ w z2 h
  unfold fM_comesNearer_J29 at h
  refine ev_s i151_29 (p := 30) (t := [zI (u1 + u0), zI u2, zI u3, zR 8 0]) rfl ?_
  obtain ⟨s9, hr8, h⟩ := bd_some h
  refine ev_callV i151_30 zc8_149 zm119 zo119 (as' := [zI u3, zI u2, zI (u1 + u0)]) (rest := []) rfl rfl (Nat.le_of_ble_eq_true rfl) (Nat.le_of_ble_eq_true rfl) (Nat.le_of_ble_eq_true rfl) (by omega) (l0 := [some (zR 8 0), some (zI u3), some (zI u2), some (zI (u1 + u0))]) rfl (p := 33) rfl (kM_lays1 u3 u2 (u1 + u0) σ s9 hr8 (d - 1) (by omega)) ?_
  change zEv d 151 33 [some (zR 8 0), some (zI y1), z2] [] s9 _
  refine ev_s i151_33 (p := 34) rfl ?_
  refine ev_s i151_34 (p := 35) rfl ?_
  refine ev_getf i151_35 zf8_157 (u := zI (s9 8 0 13)) rfl (p := 38) rfl ?_
  refine ev_s i151_38 (p := 39) (zic_1 _ _ _ _ _) ?_
  refine ev_s i151_39 (p := 40) rfl ?_
  refine ev_s i151_40 (p := 41) (t := [zI (1 <<< (y1 &&& 31)), zI (s9 8 0 13), zR 8 0]) rfl ?_
  refine ev_s i151_41 (p := 42) (t := [zI ((s9 8 0 13) ||| (1 <<< (y1 &&& 31))), zR 8 0]) rfl ?_
  refine ev_putf i151_42 zf8_157 rfl rfl rfl (p := 45) rfl ?_
  refine ev_lets h (fun s10 es10 h => ?_)
  obtain rfl := Option.some.inj h
  exact ev_vret i151_45 zr151
def fM_comesNearer (x1 : Int32) (x2 : Int32) (σ : zS) : Option (zS) := (fM_its x1 3 σ).bind fun r2 => (fM_its x1 3 σ).bind fun r4 => (fM_its x2 3 σ).bind fun r6 => (if r6 ≤ r4 then fM_comesNearer_J29 x1 (-1) r2 3 x1 σ else fM_comesNearer_J29 x1 1 r2 3 x1 σ)
set_option maxHeartbeats 4000000 in
theorem kM_comesNearer (x1 : Int32) (x2 : Int32) (σ : zS) (w : zS) (h : fM_comesNearer x1 x2 σ = some w) (d : Nat) (hd : 1 ≤ d) : zEv d 151 0 [some (zR 8 0), some (zI x1), some (zI x2)] [] σ (none, w) := by
  unfold fM_comesNearer at h
  refine ev_s i151_0 (p := 1) rfl ?_
  refine ev_s i151_1 (p := 2) rfl ?_
  refine ev_s i151_2 (p := 3) (zic_3 _ _ _ _ _) ?_
  refine ev_s i151_3 (p := 4) rfl ?_
  refine ev_s i151_4 (p := 5) rfl ?_
  refine ev_s i151_5 (p := 6) (zic_3 _ _ _ _ _) ?_
  obtain ⟨r2, hr1, h⟩ := bd_some h
  refine ev_callV i151_6 zc8_54 zm118 zo118 (as' := [zI x1, zI 3]) (rest := [zI 3, zI x1, zR 8 0]) rfl rfl (Nat.le_of_ble_eq_true rfl) (Nat.le_of_ble_eq_true rfl) (Nat.le_of_ble_eq_true rfl) (by omega) (l0 := [some (zR 8 0), some (zI x1), some (zI 3)]) rfl (p := 9) rfl (kM_its x1 3 σ r2 hr1 (d - 1) (by omega)) ?_
  change zEv d 151 9 [some (zR 8 0), some (zI x1), some (zI x2)] [zI r2, zI 3, zI x1, zR 8 0] σ _
  refine ev_s i151_9 (p := 10) rfl ?_
  refine ev_s i151_10 (p := 11) rfl ?_
  refine ev_s i151_11 (p := 12) (zic_3 _ _ _ _ _) ?_
  obtain ⟨r4, hr3, h⟩ := bd_some h
  refine ev_callV i151_12 zc8_54 zm118 zo118 (as' := [zI x1, zI 3]) (rest := [zI r2, zI 3, zI x1, zR 8 0]) rfl rfl (Nat.le_of_ble_eq_true rfl) (Nat.le_of_ble_eq_true rfl) (Nat.le_of_ble_eq_true rfl) (by omega) (l0 := [some (zR 8 0), some (zI x1), some (zI 3)]) rfl (p := 15) rfl (kM_its x1 3 σ r4 hr3 (d - 1) (by omega)) ?_
  change zEv d 151 15 [some (zR 8 0), some (zI x1), some (zI x2)] [zI r4, zI r2, zI 3, zI x1, zR 8 0] σ _
  refine ev_s i151_15 (p := 16) rfl ?_
  refine ev_s i151_16 (p := 17) rfl ?_
  refine ev_s i151_17 (p := 18) (zic_3 _ _ _ _ _) ?_
  obtain ⟨r6, hr5, h⟩ := bd_some h
  refine ev_callV i151_18 zc8_54 zm118 zo118 (as' := [zI x2, zI 3]) (rest := [zI r4, zI r2, zI 3, zI x1, zR 8 0]) rfl rfl (Nat.le_of_ble_eq_true rfl) (Nat.le_of_ble_eq_true rfl) (Nat.le_of_ble_eq_true rfl) (by omega) (l0 := [some (zR 8 0), some (zI x2), some (zI 3)]) rfl (p := 21) rfl (kM_its x2 3 σ r6 hr5 (d - 1) (by omega)) ?_
  change zEv d 151 21 [some (zR 8 0), some (zI x1), some (zI x2)] [zI r6, zI r4, zI r2, zI 3, zI x1, zR 8 0] σ _
  refine ev_cmpge i151_21 (t := 28) (by decide) (p := 24) rfl h (fun c7 h => ?_) (fun c7 h => ?_)
  · refine ev_s i151_28 (p := 29) (zic_m1 _ _ _ _ _) ?_
    exact kM_comesNearer_J29 d hd x1 (-1) r2 3 x1 σ w _ h
  · refine ev_s i151_24 (p := 25) (zic_1 _ _ _ _ _) ?_
    refine ev_goto i151_25 (t := 29) (by decide) ?_
    exact kM_comesNearer_J29 d hd x1 1 r2 3 x1 σ w _ h
/-! fM_seesTo -/
def fM_seesTo_J161 (N : Nat) (y6 : Int32) (σ : zS) : Option (Int32 × zS) := (if y6 = 2 then some (0, σ) else some (1, σ))
set_option maxHeartbeats 4000000 in
theorem kM_seesTo_J161 (N : Nat) (d : Nat) (hd : 4 ≤ d)  : ∀ (y6 : Int32) (σ : zS) (w : Int32 × zS) (z0 : Option zA) (z1 : Option zA) (hz1 : znl z1 = true) (z2 : Option zA) (hz2 : znl z2 = true) (z3 : Option zA) (hz3 : znl z3 = true) (z4 : Option zA) (hz4 : znl z4 = true) (z5 : Option zA) (hz5 : znl z5 = true), fM_seesTo_J161 N y6 σ = some w → zEv d 152 161 [z0, z1, z2, z3, z4, z5, some (zI y6)] [] σ (some (zI w.1), w.2) := by
  intro y6 σ w z0 z1 hz1 z2 hz2 z3 hz3 z4 hz4 z5 hz5 h
  unfold fM_seesTo_J161 at h
  refine ev_s i152_161 (p := 163) rfl ?_
  refine ev_s i152_163 (p := 164) (zic_2 _ _ _ _ _) ?_
  refine ev_cmpeq i152_164 (t := 171) (by decide) (p := 167) rfl h (fun c30 h => ?_) (fun c30 h => ?_)
  · refine ev_s i152_171 (p := 172) (zic_0 _ _ _ _ _) ?_
    obtain rfl := Option.some.inj h
    exact ev_zret i152_172 zr152 (by decide)
  · refine ev_s i152_167 (p := 168) (zic_1 _ _ _ _ _) ?_
    refine ev_goto i152_168 (t := 172) (by decide) ?_
    obtain rfl := Option.some.inj h
    exact ev_zret i152_172 zr152 (by decide)
def fM_seesTo_J158 (N : Nat) (y6 : Int32) (u0 : Int32) (u1 : Int32) (σ : zS) : Option (Int32 × zS) := (fM_comesNearer u1 u0 σ).bind fun s32 => fM_seesTo_J161 N y6 s32
set_option maxHeartbeats 4000000 in
theorem kM_seesTo_J158 (N : Nat) (d : Nat) (hd : 4 ≤ d)  : ∀ (y6 : Int32) (u0 : Int32) (u1 : Int32) (σ : zS) (w : Int32 × zS) (z0 : Option zA) (z1 : Option zA) (hz1 : znl z1 = true) (z2 : Option zA) (hz2 : znl z2 = true) (z3 : Option zA) (hz3 : znl z3 = true) (z4 : Option zA) (hz4 : znl z4 = true) (z5 : Option zA) (hz5 : znl z5 = true), fM_seesTo_J158 N y6 u0 u1 σ = some w → zEv d 152 158 [z0, z1, z2, z3, z4, z5, some (zI y6)] [zI u0, zI u1, zR 8 0] σ (some (zI w.1), w.2) := by
  intro y6 u0 u1 σ w z0 z1 hz1 z2 hz2 z3 hz3 z4 hz4 z5 hz5 h
  unfold fM_seesTo_J158 at h
  obtain ⟨s32, hr31, h⟩ := bd_some h
  refine ev_callV i152_158 zc8_169 zm151 zo151 (as' := [zI u1, zI u0]) (rest := []) rfl rfl (Nat.le_of_ble_eq_true rfl) (Nat.le_of_ble_eq_true rfl) (Nat.le_of_ble_eq_true rfl) (by omega) (l0 := [some (zR 8 0), some (zI u1), some (zI u0)]) rfl (p := 161) rfl (kM_comesNearer u1 u0 σ s32 hr31 (d - 1) (by omega)) ?_
  change zEv d 152 161 [z0, z1, z2, z3, z4, z5, some (zI y6)] [] s32 _
  exact kM_seesTo_J161 N d hd y6 s32 w _ _ hz1 _ hz2 _ hz3 _ hz4 _ hz5 h
def fM_seesTo_J140 (N : Nat) (y1 : Int32) (y2 : Int32) (y3 : Int32) (y5 : Int32) (y6 : Int32) (σ : zS) : Option (Int32 × zS) := (if y6 = 2 then fM_seesTo_J161 N y6 σ else (if y3 = 0 then fM_seesTo_J158 N y6 y2 y5 σ else fM_seesTo_J158 N y6 y1 y5 σ))
set_option maxHeartbeats 4000000 in
theorem kM_seesTo_J140 (N : Nat) (d : Nat) (hd : 4 ≤ d)  : ∀ (y1 : Int32) (y2 : Int32) (y3 : Int32) (y5 : Int32) (y6 : Int32) (σ : zS) (w : Int32 × zS) (z4 : Option zA) (hz4 : znl z4 = true), fM_seesTo_J140 N y1 y2 y3 y5 y6 σ = some w → zEv d 152 140 [some (zR 8 0), some (zI y1), some (zI y2), some (zI y3), z4, some (zI y5), some (zI y6)] [] σ (some (zI w.1), w.2) := by
  intro y1 y2 y3 y5 y6 σ w z4 hz4 h
  unfold fM_seesTo_J140 at h
  refine ev_s i152_140 (p := 142) rfl ?_
  refine ev_s i152_142 (p := 143) (zic_2 _ _ _ _ _) ?_
  refine ev_cmpeq i152_143 (t := 161) (by decide) (p := 146) rfl h (fun c28 h => ?_) (fun c28 h => ?_)
  · exact kM_seesTo_J161 N d hd y6 σ w _ _ rfl _ rfl _ rfl _ hz4 _ rfl h
  · refine ev_s i152_146 (p := 147) rfl ?_
    refine ev_s i152_147 (p := 149) rfl ?_
    refine ev_s i152_149 (p := 150) rfl ?_
    refine ev_ifeq i152_150 (t := 157) (by decide) (p := 153) rfl h (fun c29 h => ?_) (fun c29 h => ?_)
    · refine ev_s i152_157 (p := 158) rfl ?_
      exact kM_seesTo_J158 N d hd y6 y2 y5 σ w _ _ rfl _ rfl _ rfl _ hz4 _ rfl h
    · refine ev_s i152_153 (p := 154) rfl ?_
      refine ev_goto i152_154 (t := 158) (by decide) ?_
      exact kM_seesTo_J158 N d hd y6 y1 y5 σ w _ _ rfl _ rfl _ rfl _ hz4 _ rfl h
def fM_seesTo_J86 (N : Nat) (y1 : Int32) (y2 : Int32) (y3 : Int32) (u0 : Int32) (σ : zS) : Option (Int32 × zS) := zb2 (fM_doesNow N u0 σ) fun r17 s16 => (if r17 = 1 then (fM_cutsIt y1 s16).bind fun s20 => fM_seesTo_J161 N r17 s20 else (if r17 = 3 then (if u0 = y2 then (fM_its y2 5 s16).bind fun r24 => (if r24 ≤ 0 then fM_seesTo_J140 N y1 y2 y3 u0 r17 s16 else (fM_spares y2 y1 s16).bind fun s27 => fM_seesTo_J161 N r17 s27) else fM_seesTo_J140 N y1 y2 y3 u0 r17 s16) else fM_seesTo_J140 N y1 y2 y3 u0 r17 s16))
set_option maxHeartbeats 4000000 in
theorem kM_seesTo_J86 (N : Nat) (d : Nat) (hd : 4 ≤ d)  : ∀ (y1 : Int32) (y2 : Int32) (y3 : Int32) (u0 : Int32) (σ : zS) (w : Int32 × zS) (z4 : Option zA) (hz4 : znl z4 = true) (z5 : Option zA) (hz5 : znl z5 = true) (z6 : Option zA), fM_seesTo_J86 N y1 y2 y3 u0 σ = some w → zEv d 152 86 [some (zR 8 0), some (zI y1), some (zI y2), some (zI y3), z4, z5, z6] [zI u0] σ (some (zI w.1), w.2) := by
  intro y1 y2 y3 u0 σ w z4 hz4 z5 hz5 z6 h
  unfold fM_seesTo_J86 at h
  refine ev_s i152_86 (p := 88) (l := [some (zR 8 0), some (zI y1), some (zI y2), some (zI y3), z4, some (zI u0), z6]) (t := []) (s := σ) (by rcases z4 with _ | _ | _ | _ <;> first | rfl | cases hz4) ?_
  refine ev_s i152_88 (p := 89) rfl ?_
  refine ev_s i152_89 (p := 91) rfl ?_
  obtain ⟨r17, s16, hr15, h⟩ := b2_some h
  refine ev_callV i152_91 zc8_166 zm143 zo143 (as' := [zI u0]) (rest := []) rfl rfl (Nat.le_of_ble_eq_true rfl) (Nat.le_of_ble_eq_true rfl) (Nat.le_of_ble_eq_true rfl) (by omega) (l0 := [some (zR 8 0), some (zI u0)]) rfl (p := 94) rfl (kM_doesNow N u0 σ (r17, s16) hr15 (d - 1) (by omega)) ?_
  change zEv d 152 94 [some (zR 8 0), some (zI y1), some (zI y2), some (zI y3), z4, some (zI u0), z6] [zI r17] s16 _
  refine ev_s i152_94 (p := 96) (l := [some (zR 8 0), some (zI y1), some (zI y2), some (zI y3), z4, some (zI u0), some (zI r17)]) rfl ?_
  refine ev_s i152_96 (p := 98) rfl ?_
  refine ev_s i152_98 (p := 99) (zic_1 _ _ _ _ _) ?_
  refine ev_cmpne i152_99 (t := 110) (by decide) (p := 102) rfl h (fun c18 h => ?_) (fun c18 h => ?_)
  · refine ev_s i152_102 (p := 103) rfl ?_
    refine ev_s i152_103 (p := 104) rfl ?_
    obtain ⟨s20, hr19, h⟩ := bd_some h
    refine ev_callV i152_104 zc8_163 zm149 zo149 (as' := [zI y1]) (rest := []) rfl rfl (Nat.le_of_ble_eq_true rfl) (Nat.le_of_ble_eq_true rfl) (Nat.le_of_ble_eq_true rfl) (by omega) (l0 := [some (zR 8 0), some (zI y1)]) rfl (p := 107) rfl (kM_cutsIt y1 s16 s20 hr19 (d - 1) (by omega)) ?_
    change zEv d 152 107 [some (zR 8 0), some (zI y1), some (zI y2), some (zI y3), z4, some (zI u0), some (zI r17)] [] s20 _
    refine ev_goto i152_107 (t := 161) (by decide) ?_
    exact kM_seesTo_J161 N d hd r17 s20 w _ _ rfl _ rfl _ rfl _ hz4 _ rfl h
  · refine ev_s i152_110 (p := 112) rfl ?_
    refine ev_s i152_112 (p := 113) (zic_3 _ _ _ _ _) ?_
    refine ev_cmpne i152_113 (t := 140) (by decide) (p := 116) rfl h (fun c21 h => ?_) (fun c21 h => ?_)
    · refine ev_s i152_116 (p := 118) rfl ?_
      refine ev_s i152_118 (p := 119) rfl ?_
      refine ev_cmpne i152_119 (t := 140) (by decide) (p := 122) rfl h (fun c22 h => ?_) (fun c22 h => ?_)
      · refine ev_s i152_122 (p := 123) rfl ?_
        refine ev_s i152_123 (p := 124) rfl ?_
        refine ev_s i152_124 (p := 125) (zic_5 _ _ _ _ _) ?_
        obtain ⟨r24, hr23, h⟩ := bd_some h
        refine ev_callV i152_125 zc8_54 zm118 zo118 (as' := [zI y2, zI 5]) (rest := []) rfl rfl (Nat.le_of_ble_eq_true rfl) (Nat.le_of_ble_eq_true rfl) (Nat.le_of_ble_eq_true rfl) (by omega) (l0 := [some (zR 8 0), some (zI y2), some (zI 5)]) rfl (p := 128) rfl (kM_its y2 5 s16 r24 hr23 (d - 1) (by omega)) ?_
        change zEv d 152 128 [some (zR 8 0), some (zI y1), some (zI y2), some (zI y3), z4, some (zI u0), some (zI r17)] [zI r24] s16 _
        refine ev_ifle i152_128 (t := 140) (by decide) (p := 131) rfl h (fun c25 h => ?_) (fun c25 h => ?_)
        · exact kM_seesTo_J140 N d hd y1 y2 y3 u0 r17 s16 w _ hz4 h
        · refine ev_s i152_131 (p := 132) rfl ?_
          refine ev_s i152_132 (p := 133) rfl ?_
          refine ev_s i152_133 (p := 134) rfl ?_
          obtain ⟨s27, hr26, h⟩ := bd_some h
          refine ev_callV i152_134 zc8_160 zm150 zo150 (as' := [zI y2, zI y1]) (rest := []) rfl rfl (Nat.le_of_ble_eq_true rfl) (Nat.le_of_ble_eq_true rfl) (Nat.le_of_ble_eq_true rfl) (by omega) (l0 := [some (zR 8 0), some (zI y2), some (zI y1)]) rfl (p := 137) rfl (kM_spares y2 y1 s16 s27 hr26 (d - 1) (by omega)) ?_
          change zEv d 152 137 [some (zR 8 0), some (zI y1), some (zI y2), some (zI y3), z4, some (zI u0), some (zI r17)] [] s27 _
          refine ev_goto i152_137 (t := 161) (by decide) ?_
          exact kM_seesTo_J161 N d hd r17 s27 w _ _ rfl _ rfl _ rfl _ hz4 _ rfl h
      · exact kM_seesTo_J140 N d hd y1 y2 y3 u0 r17 s16 w _ hz4 h
    · exact kM_seesTo_J140 N d hd y1 y2 y3 u0 r17 s16 w _ hz4 h
def fM_seesTo_J77 (N : Nat) (y1 : Int32) (y2 : Int32) (y3 : Int32) (σ : zS) : Option (Int32 × zS) := (if y3 = 0 then fM_seesTo_J86 N y1 y2 y3 y1 σ else fM_seesTo_J86 N y1 y2 y3 y2 σ)
set_option maxHeartbeats 4000000 in
theorem kM_seesTo_J77 (N : Nat) (d : Nat) (hd : 4 ≤ d)  : ∀ (y1 : Int32) (y2 : Int32) (y3 : Int32) (σ : zS) (w : Int32 × zS) (z4 : Option zA) (hz4 : znl z4 = true) (z5 : Option zA) (hz5 : znl z5 = true) (z6 : Option zA), fM_seesTo_J77 N y1 y2 y3 σ = some w → zEv d 152 77 [some (zR 8 0), some (zI y1), some (zI y2), some (zI y3), z4, z5, z6] [] σ (some (zI w.1), w.2) := by
  intro y1 y2 y3 σ w z4 hz4 z5 hz5 z6 h
  unfold fM_seesTo_J77 at h
  refine ev_s i152_77 (p := 78) rfl ?_
  refine ev_ifeq i152_78 (t := 85) (by decide) (p := 81) rfl h (fun c14 h => ?_) (fun c14 h => ?_)
  · refine ev_s i152_85 (p := 86) rfl ?_
    exact kM_seesTo_J86 N d hd y1 y2 y3 y1 σ w _ hz4 _ hz5 _ h
  · refine ev_s i152_81 (p := 82) rfl ?_
    refine ev_goto i152_82 (t := 86) (by decide) ?_
    exact kM_seesTo_J86 N d hd y1 y2 y3 y2 σ w _ hz4 _ hz5 _ h
def fM_seesTo_J42 (N : Nat) (y1 : Int32) (y2 : Int32) (y3 : Int32) (u0 : Int32) (σ : zS) : Option (Int32 × zS) := (fM_its y1 5 σ).bind fun r6 => (if r6 ≤ 0 then (if y3 = 0 then fM_seesTo_J77 N y1 y2 y3 σ else (if u0 = 0 then fM_seesTo_J77 N y1 y2 y3 σ else (fM_cutsIt y1 σ).bind fun s11 => some (1, s11))) else (fM_spares y1 y1 σ).bind fun s13 => some (1, s13))
set_option maxHeartbeats 4000000 in
theorem kM_seesTo_J42 (N : Nat) (d : Nat) (hd : 4 ≤ d)  : ∀ (y1 : Int32) (y2 : Int32) (y3 : Int32) (u0 : Int32) (σ : zS) (w : Int32 × zS) (z4 : Option zA) (hz4 : znl z4 = true) (z5 : Option zA) (hz5 : znl z5 = true) (z6 : Option zA), fM_seesTo_J42 N y1 y2 y3 u0 σ = some w → zEv d 152 42 [some (zR 8 0), some (zI y1), some (zI y2), some (zI y3), z4, z5, z6] [zI u0] σ (some (zI w.1), w.2) := by
  intro y1 y2 y3 u0 σ w z4 hz4 z5 hz5 z6 h
  unfold fM_seesTo_J42 at h
  refine ev_s i152_42 (p := 44) (l := [some (zR 8 0), some (zI y1), some (zI y2), some (zI y3), some (zI u0), z5, z6]) rfl ?_
  refine ev_s i152_44 (p := 45) rfl ?_
  refine ev_s i152_45 (p := 46) rfl ?_
  refine ev_s i152_46 (p := 47) (zic_5 _ _ _ _ _) ?_
  obtain ⟨r6, hr5, h⟩ := bd_some h
  refine ev_callV i152_47 zc8_54 zm118 zo118 (as' := [zI y1, zI 5]) (rest := []) rfl rfl (Nat.le_of_ble_eq_true rfl) (Nat.le_of_ble_eq_true rfl) (Nat.le_of_ble_eq_true rfl) (by omega) (l0 := [some (zR 8 0), some (zI y1), some (zI 5)]) rfl (p := 50) rfl (kM_its y1 5 σ r6 hr5 (d - 1) (by omega)) ?_
  change zEv d 152 50 [some (zR 8 0), some (zI y1), some (zI y2), some (zI y3), some (zI u0), z5, z6] [zI r6] σ _
  refine ev_ifle i152_50 (t := 61) (by decide) (p := 53) rfl h (fun c7 h => ?_) (fun c7 h => ?_)
  · refine ev_s i152_61 (p := 62) rfl ?_
    refine ev_ifeq i152_62 (t := 77) (by decide) (p := 65) rfl h (fun c8 h => ?_) (fun c8 h => ?_)
    · exact kM_seesTo_J77 N d hd y1 y2 y3 σ w _ rfl _ hz5 _ h
    · refine ev_s i152_65 (p := 67) rfl ?_
      refine ev_ifeq i152_67 (t := 77) (by decide) (p := 70) rfl h (fun c9 h => ?_) (fun c9 h => ?_)
      · exact kM_seesTo_J77 N d hd y1 y2 y3 σ w _ rfl _ hz5 _ h
      · refine ev_s i152_70 (p := 71) rfl ?_
        refine ev_s i152_71 (p := 72) rfl ?_
        obtain ⟨s11, hr10, h⟩ := bd_some h
        refine ev_callV i152_72 zc8_163 zm149 zo149 (as' := [zI y1]) (rest := []) rfl rfl (Nat.le_of_ble_eq_true rfl) (Nat.le_of_ble_eq_true rfl) (Nat.le_of_ble_eq_true rfl) (by omega) (l0 := [some (zR 8 0), some (zI y1)]) rfl (p := 75) rfl (kM_cutsIt y1 σ s11 hr10 (d - 1) (by omega)) ?_
        change zEv d 152 75 [some (zR 8 0), some (zI y1), some (zI y2), some (zI y3), some (zI u0), z5, z6] [] s11 _
        refine ev_s i152_75 (p := 76) (zic_1 _ _ _ _ _) ?_
        obtain rfl := Option.some.inj h
        exact ev_zret i152_76 zr152 (by decide)
  · refine ev_s i152_53 (p := 54) rfl ?_
    refine ev_s i152_54 (p := 55) rfl ?_
    refine ev_s i152_55 (p := 56) rfl ?_
    obtain ⟨s13, hr12, h⟩ := bd_some h
    refine ev_callV i152_56 zc8_160 zm150 zo150 (as' := [zI y1, zI y1]) (rest := []) rfl rfl (Nat.le_of_ble_eq_true rfl) (Nat.le_of_ble_eq_true rfl) (Nat.le_of_ble_eq_true rfl) (by omega) (l0 := [some (zR 8 0), some (zI y1), some (zI y1)]) rfl (p := 59) rfl (kM_spares y1 y1 σ s13 hr12 (d - 1) (by omega)) ?_
    change zEv d 152 59 [some (zR 8 0), some (zI y1), some (zI y2), some (zI y3), some (zI u0), z5, z6] [] s13 _
    refine ev_s i152_59 (p := 60) (zic_1 _ _ _ _ _) ?_
    obtain rfl := Option.some.inj h
    exact ev_zret i152_60 zr152 (by decide)
def fM_seesTo_J24 (N : Nat) (y1 : Int32) (y2 : Int32) (u0 : Int32) (σ : zS) : Option (Int32 × zS) := (if (((σ 8 0 13) >>> (y2 &&& 31)) &&& 1) = 1 then fM_seesTo_J42 N y1 y2 u0 1 σ else fM_seesTo_J42 N y1 y2 u0 0 σ)
set_option maxHeartbeats 4000000 in
theorem kM_seesTo_J24 (N : Nat) (d : Nat) (hd : 4 ≤ d)  : ∀ (y1 : Int32) (y2 : Int32) (u0 : Int32) (σ : zS) (w : Int32 × zS) (z3 : Option zA) (hz3 : znl z3 = true) (z4 : Option zA) (hz4 : znl z4 = true) (z5 : Option zA) (hz5 : znl z5 = true) (z6 : Option zA), fM_seesTo_J24 N y1 y2 u0 σ = some w → zEv d 152 24 [some (zR 8 0), some (zI y1), some (zI y2), z3, z4, z5, z6] [zI u0] σ (some (zI w.1), w.2) := by
  intro y1 y2 u0 σ w z3 hz3 z4 hz4 z5 hz5 z6 h
  unfold fM_seesTo_J24 at h
  refine ev_s i152_24 (p := 25) (l := [some (zR 8 0), some (zI y1), some (zI y2), some (zI u0), z4, z5, z6]) rfl ?_
  refine ev_s i152_25 (p := 26) rfl ?_
  refine ev_getf i152_26 zf8_157 (u := zI (σ 8 0 13)) rfl (p := 29) rfl ?_
  refine ev_s i152_29 (p := 30) rfl ?_
  refine ev_s i152_30 (p := 31) (t := [zI ((σ 8 0 13) >>> (y2 &&& 31))]) rfl ?_
  refine ev_s i152_31 (p := 32) (zic_1 _ _ _ _ _) ?_
  refine ev_s i152_32 (p := 33) (t := [zI (((σ 8 0 13) >>> (y2 &&& 31)) &&& 1)]) rfl ?_
  refine ev_s i152_33 (p := 34) (zic_1 _ _ _ _ _) ?_
  refine ev_cmpne i152_34 (t := 41) (by decide) (p := 37) rfl h (fun c4 h => ?_) (fun c4 h => ?_)
  · refine ev_s i152_37 (p := 38) (zic_1 _ _ _ _ _) ?_
    refine ev_goto i152_38 (t := 42) (by decide) ?_
    exact kM_seesTo_J42 N d hd y1 y2 u0 1 σ w _ hz4 _ hz5 _ h
  · refine ev_s i152_41 (p := 42) (zic_0 _ _ _ _ _) ?_
    exact kM_seesTo_J42 N d hd y1 y2 u0 0 σ w _ hz4 _ hz5 _ h
def fM_seesTo (N : Nat) (x1 : Int32) (σ : zS) : Option (Int32 × zS) := (fM_its x1 2 σ).bind fun r2 => (if (((σ 8 0 13) >>> (x1 &&& 31)) &&& 1) = 1 then fM_seesTo_J24 N x1 r2 1 σ else fM_seesTo_J24 N x1 r2 0 σ)
set_option maxHeartbeats 4000000 in
theorem kM_seesTo (N : Nat) (x1 : Int32) (σ : zS) (w : Int32 × zS) (h : fM_seesTo N x1 σ = some w) (d : Nat) (hd : 4 ≤ d) : zEv d 152 0 [some (zR 8 0), some (zI x1), none, none, none, none, none] [] σ (some (zI w.1), w.2) := by
  unfold fM_seesTo at h
  refine ev_s i152_0 (p := 1) rfl ?_
  refine ev_s i152_1 (p := 2) rfl ?_
  refine ev_s i152_2 (p := 3) (zic_2 _ _ _ _ _) ?_
  obtain ⟨r2, hr1, h⟩ := bd_some h
  refine ev_callV i152_3 zc8_54 zm118 zo118 (as' := [zI x1, zI 2]) (rest := []) rfl rfl (Nat.le_of_ble_eq_true rfl) (Nat.le_of_ble_eq_true rfl) (Nat.le_of_ble_eq_true rfl) (by omega) (l0 := [some (zR 8 0), some (zI x1), some (zI 2)]) rfl (p := 6) rfl (kM_its x1 2 σ r2 hr1 (d - 1) (by omega)) ?_
  change zEv d 152 6 [some (zR 8 0), some (zI x1), none, none, none, none, none] [zI r2] σ _
  refine ev_s i152_6 (p := 7) (l := [some (zR 8 0), some (zI x1), some (zI r2), none, none, none, none]) rfl ?_
  refine ev_s i152_7 (p := 8) rfl ?_
  refine ev_getf i152_8 zf8_157 (u := zI (σ 8 0 13)) rfl (p := 11) rfl ?_
  refine ev_s i152_11 (p := 12) rfl ?_
  refine ev_s i152_12 (p := 13) (t := [zI ((σ 8 0 13) >>> (x1 &&& 31))]) rfl ?_
  refine ev_s i152_13 (p := 14) (zic_1 _ _ _ _ _) ?_
  refine ev_s i152_14 (p := 15) (t := [zI (((σ 8 0 13) >>> (x1 &&& 31)) &&& 1)]) rfl ?_
  refine ev_s i152_15 (p := 16) (zic_1 _ _ _ _ _) ?_
  refine ev_cmpne i152_16 (t := 23) (by decide) (p := 19) rfl h (fun c3 h => ?_) (fun c3 h => ?_)
  · refine ev_s i152_19 (p := 20) (zic_1 _ _ _ _ _) ?_
    refine ev_goto i152_20 (t := 24) (by decide) ?_
    exact kM_seesTo_J24 N d hd x1 r2 1 σ w _ rfl _ rfl _ rfl _ h
  · refine ev_s i152_23 (p := 24) (zic_0 _ _ _ _ _) ?_
    exact kM_seesTo_J24 N d hd x1 r2 0 σ w _ rfl _ rfl _ rfl _ h
/-! fM_oneStep -/
def fM_oneStep_L109 (N : Nat) : Nat → Int32 → Int32 → zS → Option (Int32 × zS)
  | 0, _, _, _ => none
  | n + 1, y4, y5, σ => (if 60 ≤ y5 then zgd (y4 = 0 ∨ y4 = 1) (some (y4, σ)) else (if y4 = 0 then zgd (zin y5 60) (zgd (zin y5 394) (zlt (zup σ 30 0 y5.toNatClampNeg (σ 33 0 y5.toNatClampNeg)) fun s28 => fM_oneStep_L109 N n y4 (y5 + 1) s28)) else zgd (y4 = 0 ∨ y4 = 1) (some (y4, σ))))
set_option maxHeartbeats 4000000 in
theorem kM_oneStep_L109 (N : Nat) (d : Nat) (hd : 5 ≤ d)  : ∀ n : Nat, ∀ (y4 : Int32) (y5 : Int32) (σ : zS) (w : Int32 × zS) (z1 : Option zA) (z2 : Option zA) (hz2 : znl z2 = true) (z3 : Option zA) (hz3 : znl z3 = true), fM_oneStep_L109 N n y4 y5 σ = some w → zEv d 153 109 [some (zR 8 0), z1, z2, z3, some (zI y4), some (zI y5)] [] σ (some (zI w.1), w.2) := by
  intro n
  induction n with
  | zero =>
    intro y4 y5 σ w z1 z2 hz2 z3 hz3 h
    cases h
  | succ n ih =>
    intro y4 y5 σ w z1 z2 hz2 z3 hz3 h
    rw [fM_oneStep_L109] at h
    refine ev_s i153_109 (p := 111) rfl ?_
    refine ev_s i153_111 (p := 113) (zib_60 _ _ _ _ _) ?_
    refine ev_cmpge i153_113 (t := 141) (by decide) (p := 116) rfl h (fun c24 h => ?_) (fun c24 h => ?_)
    · refine ev_s i153_141 (p := 143) rfl ?_
      obtain ⟨g25, h⟩ := zgd_some h
      obtain rfl := Option.some.inj h
      exact ev_zret i153_143 zr153 g25
    · refine ev_s i153_116 (p := 118) rfl ?_
      refine ev_ifne i153_118 (t := 141) (by decide) (p := 121) rfl h (fun c26 h => ?_) (fun c26 h => ?_)
      · refine ev_s i153_121 (p := 122) rfl ?_
        refine ev_getf i153_122 zf8_7 (u := zR 30 0) rfl (p := 125) rfl ?_
        refine ev_s i153_125 (p := 127) rfl ?_
        refine ev_s i153_127 (p := 128) rfl ?_
        refine ev_getf i153_128 zf8_19 (u := zR 33 0) rfl (p := 131) rfl ?_
        refine ev_s i153_131 (p := 133) rfl ?_
        refine ev_iald i153_133 rfl (n := 60) rfl (p := 134) rfl h (fun g27 h => ?_)
        refine ev_iast i153_134 rfl (n := 394) rfl (p := 135) rfl h (fun g29 h => ?_)
        refine ev_lets h (fun s28 es28 h => ?_)
        refine ev_iinc i153_135 zii_1 rfl (l := [some (zR 8 0), z1, z2, z3, some (zI y4), some (zI (y5 + 1))]) rfl (p := 138) rfl ?_
        refine ev_goto i153_138 (t := 109) (by decide) ?_
        exact ih y4 (y5 + 1) s28 w _ _ hz2 _ hz3 h
      · refine ev_s i153_141 (p := 143) rfl ?_
        obtain ⟨g30, h⟩ := zgd_some h
        obtain rfl := Option.some.inj h
        exact ev_zret i153_143 zr153 g30
def fM_oneStep_L79 (N : Nat) : Nat → Int32 → Int32 → zS → Option (Int32 × zS)
  | 0, _, _, _ => none
  | n + 1, y4, y5, σ => (if y5 < 0 then fM_oneStep_L109 N N y4 0 σ else (if y4 = 0 then fM_oneStep_L109 N N y4 0 σ else zb2 (fM_seesTo N y5 σ) fun r21 s20 => (fM_tooShort N s20).bind fun r23 => fM_oneStep_L79 N n r21 r23 s20))
set_option maxHeartbeats 4000000 in
theorem kM_oneStep_L79 (N : Nat) (d : Nat) (hd : 5 ≤ d)  : ∀ n : Nat, ∀ (y4 : Int32) (y5 : Int32) (σ : zS) (w : Int32 × zS) (z1 : Option zA) (z2 : Option zA) (hz2 : znl z2 = true) (z3 : Option zA) (hz3 : znl z3 = true), fM_oneStep_L79 N n y4 y5 σ = some w → zEv d 153 79 [some (zR 8 0), z1, z2, z3, some (zI y4), some (zI y5)] [] σ (some (zI w.1), w.2) := by
  intro n
  induction n with
  | zero =>
    intro y4 y5 σ w z1 z2 hz2 z3 hz3 h
    cases h
  | succ n ih =>
    intro y4 y5 σ w z1 z2 hz2 z3 hz3 h
    rw [fM_oneStep_L79] at h
    refine ev_s i153_79 (p := 81) rfl ?_
    refine ev_iflt i153_81 (t := 106) (by decide) (p := 84) rfl h (fun c17 h => ?_) (fun c17 h => ?_)
    · refine ev_s i153_106 (p := 107) (zic_0 _ _ _ _ _) ?_
      refine ev_s i153_107 (p := 109) (l := [some (zR 8 0), z1, z2, z3, some (zI y4), some (zI 0)]) rfl ?_
      exact kM_oneStep_L109 N d hd N y4 0 σ w _ _ hz2 _ hz3 h
    · refine ev_s i153_84 (p := 86) rfl ?_
      refine ev_ifeq i153_86 (t := 106) (by decide) (p := 89) rfl h (fun c18 h => ?_) (fun c18 h => ?_)
      · refine ev_s i153_106 (p := 107) (zic_0 _ _ _ _ _) ?_
        refine ev_s i153_107 (p := 109) (l := [some (zR 8 0), z1, z2, z3, some (zI y4), some (zI 0)]) rfl ?_
        exact kM_oneStep_L109 N d hd N y4 0 σ w _ _ hz2 _ hz3 h
      · refine ev_s i153_89 (p := 90) rfl ?_
        refine ev_s i153_90 (p := 92) rfl ?_
        obtain ⟨r21, s20, hr19, h⟩ := b2_some h
        refine ev_callV i153_92 zc8_178 zm152 zo152 (as' := [zI y5]) (rest := []) rfl rfl (Nat.le_of_ble_eq_true rfl) (Nat.le_of_ble_eq_true rfl) (Nat.le_of_ble_eq_true rfl) (by omega) (l0 := [some (zR 8 0), some (zI y5), none, none, none, none, none]) rfl (p := 95) rfl (kM_seesTo N y5 σ (r21, s20) hr19 (d - 1) (by omega)) ?_
        change zEv d 153 95 [some (zR 8 0), z1, z2, z3, some (zI y4), some (zI y5)] [zI r21] s20 _
        refine ev_s i153_95 (p := 97) (l := [some (zR 8 0), z1, z2, z3, some (zI r21), some (zI y5)]) (t := []) (s := s20) (by rcases z3 with _ | _ | _ | _ <;> first | rfl | cases hz3) ?_
        refine ev_s i153_97 (p := 98) rfl ?_
        obtain ⟨r23, hr22, h⟩ := bd_some h
        refine ev_callV i153_98 zc8_175 zm147 zo147 (as' := []) (rest := []) rfl rfl (Nat.le_of_ble_eq_true rfl) (Nat.le_of_ble_eq_true rfl) (Nat.le_of_ble_eq_true rfl) (by omega) (l0 := [some (zR 8 0), none]) rfl (p := 101) rfl (kM_tooShort N s20 r23 hr22 (d - 1) (by omega)) ?_
        change zEv d 153 101 [some (zR 8 0), z1, z2, z3, some (zI r21), some (zI y5)] [zI r23] s20 _
        refine ev_s i153_101 (p := 103) (l := [some (zR 8 0), z1, z2, z3, some (zI r21), some (zI r23)]) rfl ?_
        refine ev_goto i153_103 (t := 79) (by decide) ?_
        exact ih r21 r23 s20 w _ _ hz2 _ hz3 h
def fM_oneStep_L29 (N : Nat) : Nat → Int32 → Int32 → Int32 → zS → Option (Int32 × zS)
  | 0, _, _, _, _ => none
  | n + 1, y1, y3, y4, σ => (if 60 ≤ y4 then (fM_lays1 y1 3 y3 σ).bind fun s10 => zlt (zup s10 8 0 13 (1 <<< (y1 &&& 31))) fun s11 => (fM_tooShort N s11).bind fun r13 => fM_oneStep_L79 N N 1 r13 s11 else zgd (zin y4 394) (zgd (zin y4 60) (zlt (zup σ 33 0 y4.toNatClampNeg (σ 30 0 y4.toNatClampNeg)) fun s15 => fM_oneStep_L29 N n y1 y3 (y4 + 1) s15)))
set_option maxHeartbeats 4000000 in
theorem kM_oneStep_L29 (N : Nat) (d : Nat) (hd : 5 ≤ d)  : ∀ n : Nat, ∀ (y1 : Int32) (y3 : Int32) (y4 : Int32) (σ : zS) (w : Int32 × zS) (z2 : Option zA) (hz2 : znl z2 = true) (z5 : Option zA), fM_oneStep_L29 N n y1 y3 y4 σ = some w → zEv d 153 29 [some (zR 8 0), some (zI y1), z2, some (zI y3), some (zI y4), z5] [] σ (some (zI w.1), w.2) := by
  intro n
  induction n with
  | zero =>
    intro y1 y3 y4 σ w z2 hz2 z5 h
    cases h
  | succ n ih =>
    intro y1 y3 y4 σ w z2 hz2 z5 h
    rw [fM_oneStep_L29] at h
    refine ev_s i153_29 (p := 31) rfl ?_
    refine ev_s i153_31 (p := 33) (zib_60 _ _ _ _ _) ?_
    refine ev_cmpge i153_33 (t := 56) (by decide) (p := 36) rfl h (fun c8 h => ?_) (fun c8 h => ?_)
    · refine ev_s i153_56 (p := 57) rfl ?_
      refine ev_s i153_57 (p := 58) rfl ?_
      refine ev_s i153_58 (p := 59) (zic_3 _ _ _ _ _) ?_
      refine ev_s i153_59 (p := 60) rfl ?_
      obtain ⟨s10, hr9, h⟩ := bd_some h
      refine ev_callV i153_60 zc8_149 zm119 zo119 (as' := [zI y1, zI 3, zI y3]) (rest := []) rfl rfl (Nat.le_of_ble_eq_true rfl) (Nat.le_of_ble_eq_true rfl) (Nat.le_of_ble_eq_true rfl) (by omega) (l0 := [some (zR 8 0), some (zI y1), some (zI 3), some (zI y3)]) rfl (p := 63) rfl (kM_lays1 y1 3 y3 σ s10 hr9 (d - 1) (by omega)) ?_
      change zEv d 153 63 [some (zR 8 0), some (zI y1), z2, some (zI y3), some (zI y4), z5] [] s10 _
      refine ev_s i153_63 (p := 64) rfl ?_
      refine ev_s i153_64 (p := 65) (zic_1 _ _ _ _ _) ?_
      refine ev_s i153_65 (p := 66) rfl ?_
      refine ev_s i153_66 (p := 67) (t := [zI (1 <<< (y1 &&& 31)), zR 8 0]) rfl ?_
      refine ev_putf i153_67 zf8_157 rfl rfl rfl (p := 70) rfl ?_
      refine ev_lets h (fun s11 es11 h => ?_)
      refine ev_s i153_70 (p := 71) (zic_1 _ _ _ _ _) ?_
      refine ev_s i153_71 (p := 73) (l := [some (zR 8 0), some (zI y1), z2, some (zI y3), some (zI 1), z5]) rfl ?_
      refine ev_s i153_73 (p := 74) rfl ?_
      obtain ⟨r13, hr12, h⟩ := bd_some h
      refine ev_callV i153_74 zc8_175 zm147 zo147 (as' := []) (rest := []) rfl rfl (Nat.le_of_ble_eq_true rfl) (Nat.le_of_ble_eq_true rfl) (Nat.le_of_ble_eq_true rfl) (by omega) (l0 := [some (zR 8 0), none]) rfl (p := 77) rfl (kM_tooShort N s11 r13 hr12 (d - 1) (by omega)) ?_
      change zEv d 153 77 [some (zR 8 0), some (zI y1), z2, some (zI y3), some (zI 1), z5] [zI r13] s11 _
      refine ev_s i153_77 (p := 79) (l := [some (zR 8 0), some (zI y1), z2, some (zI y3), some (zI 1), some (zI r13)]) rfl ?_
      exact kM_oneStep_L79 N d hd N 1 r13 s11 w _ _ hz2 _ rfl h
    · refine ev_s i153_36 (p := 37) rfl ?_
      refine ev_getf i153_37 zf8_19 (u := zR 33 0) rfl (p := 40) rfl ?_
      refine ev_s i153_40 (p := 42) rfl ?_
      refine ev_s i153_42 (p := 43) rfl ?_
      refine ev_getf i153_43 zf8_7 (u := zR 30 0) rfl (p := 46) rfl ?_
      refine ev_s i153_46 (p := 48) rfl ?_
      refine ev_iald i153_48 rfl (n := 394) rfl (p := 49) rfl h (fun g14 h => ?_)
      refine ev_iast i153_49 rfl (n := 60) rfl (p := 50) rfl h (fun g16 h => ?_)
      refine ev_lets h (fun s15 es15 h => ?_)
      refine ev_iinc i153_50 zii_1 rfl (l := [some (zR 8 0), some (zI y1), z2, some (zI y3), some (zI (y4 + 1)), z5]) rfl (p := 53) rfl ?_
      refine ev_goto i153_53 (t := 29) (by decide) ?_
      exact ih y1 y3 (y4 + 1) s15 w _ hz2 _ h
def fM_oneStep_J15 (N : Nat) (y1 : Int32) (u0 : Int32) (u1 : Int32) (σ : zS) : Option (Int32 × zS) := zlt (u1 + u0) fun v4 => (fM_isCell v4).bind fun r6 => (if r6 = 0 then some (0, σ) else fM_oneStep_L29 N N y1 v4 0 σ)
set_option maxHeartbeats 4000000 in
theorem kM_oneStep_J15 (N : Nat) (d : Nat) (hd : 5 ≤ d)  : ∀ (y1 : Int32) (u0 : Int32) (u1 : Int32) (σ : zS) (w : Int32 × zS) (z2 : Option zA) (hz2 : znl z2 = true) (z3 : Option zA) (hz3 : znl z3 = true) (z4 : Option zA) (hz4 : znl z4 = true) (z5 : Option zA), fM_oneStep_J15 N y1 u0 u1 σ = some w → zEv d 153 15 [some (zR 8 0), some (zI y1), z2, z3, z4, z5] [zI u0, zI u1] σ (some (zI w.1), w.2) := by
  intro y1 u0 u1 σ w z2 hz2 z3 hz3 z4 hz4 z5 h
  unfold fM_oneStep_J15 at h
  refine ev_s i153_15 (p := 16) (t := [zI (u1 + u0)]) rfl ?_
  refine ev_let h (fun v4 ev4 h => ?_)
  refine ev_s i153_16 (p := 17) (l := [some (zR 8 0), some (zI y1), z2, some (zI v4), z4, z5]) (t := []) (s := σ) (by rcases z2 with _ | _ | _ | _ <;> first | rfl | cases hz2) ?_
  refine ev_s i153_17 (p := 18) rfl ?_
  obtain ⟨r6, hr5, h⟩ := bd_some h
  refine ev_callS i153_18 zn8_172 zc8_172 zm117 (as := [zI v4]) (rest := []) rfl rfl (Nat.le_of_ble_eq_true rfl) (Nat.le_of_ble_eq_true rfl) (Nat.le_of_ble_eq_true rfl) (by omega) (l0 := [some (zI v4)]) rfl (p := 21) rfl (kM_isCell v4 σ r6 hr5 (d - 1) (by omega)) ?_
  change zEv d 153 21 [some (zR 8 0), some (zI y1), z2, some (zI v4), z4, z5] [zI r6] σ _
  refine ev_ifne i153_21 (t := 26) (by decide) (p := 24) rfl h (fun c7 h => ?_) (fun c7 h => ?_)
  · refine ev_s i153_24 (p := 25) (zic_0 _ _ _ _ _) ?_
    obtain rfl := Option.some.inj h
    exact ev_zret i153_25 zr153 (by decide)
  · refine ev_s i153_26 (p := 27) (zic_0 _ _ _ _ _) ?_
    refine ev_s i153_27 (p := 29) (l := [some (zR 8 0), some (zI y1), z2, some (zI v4), some (zI 0), z5]) rfl ?_
    exact kM_oneStep_L29 N d hd N y1 v4 0 σ w _ hz2 _ h
def fM_oneStep (N : Nat) (x1 : Int32) (x2 : Int32) (σ : zS) : Option (Int32 × zS) := (fM_its x1 3 σ).bind fun r2 => (if x2 = 0 then fM_oneStep_J15 N x1 (-1) r2 σ else fM_oneStep_J15 N x1 1 r2 σ)
set_option maxHeartbeats 4000000 in
theorem kM_oneStep (N : Nat) (x1 : Int32) (x2 : Int32) (σ : zS) (w : Int32 × zS) (h : fM_oneStep N x1 x2 σ = some w) (d : Nat) (hd : 5 ≤ d) : zEv d 153 0 [some (zR 8 0), some (zI x1), some (zI x2), none, none, none] [] σ (some (zI w.1), w.2) := by
  unfold fM_oneStep at h
  refine ev_s i153_0 (p := 1) rfl ?_
  refine ev_s i153_1 (p := 2) rfl ?_
  refine ev_s i153_2 (p := 3) (zic_3 _ _ _ _ _) ?_
  obtain ⟨r2, hr1, h⟩ := bd_some h
  refine ev_callV i153_3 zc8_54 zm118 zo118 (as' := [zI x1, zI 3]) (rest := []) rfl rfl (Nat.le_of_ble_eq_true rfl) (Nat.le_of_ble_eq_true rfl) (Nat.le_of_ble_eq_true rfl) (by omega) (l0 := [some (zR 8 0), some (zI x1), some (zI 3)]) rfl (p := 6) rfl (kM_its x1 3 σ r2 hr1 (d - 1) (by omega)) ?_
  change zEv d 153 6 [some (zR 8 0), some (zI x1), some (zI x2), none, none, none] [zI r2] σ _
  refine ev_s i153_6 (p := 7) rfl ?_
  refine ev_ifne i153_7 (t := 14) (by decide) (p := 10) rfl h (fun c3 h => ?_) (fun c3 h => ?_)
  · refine ev_s i153_10 (p := 11) (zic_m1 _ _ _ _ _) ?_
    refine ev_goto i153_11 (t := 15) (by decide) ?_
    exact kM_oneStep_J15 N d hd x1 (-1) r2 σ w _ rfl _ rfl _ rfl _ h
  · refine ev_s i153_14 (p := 15) (zic_1 _ _ _ _ _) ?_
    exact kM_oneStep_J15 N d hd x1 1 r2 σ w _ rfl _ rfl _ rfl _ h
/-! fM_day1 -/
def fM_day1_J73 (N : Nat) (σ : zS) : Option (zS) := zlt (zup σ 30 0 0 ((σ 30 0 0) + 1)) fun s13 => some s13
set_option maxHeartbeats 4000000 in
theorem kM_day1_J73 (N : Nat) (d : Nat) (hd : 6 ≤ d)  : ∀ (σ : zS) (w : zS) (z1 : Option zA) (hz1 : znl z1 = true) (z2 : Option zA) (hz2 : znl z2 = true) (z3 : Option zA) (hz3 : znl z3 = true) (z4 : Option zA) (hz4 : znl z4 = true) (z5 : Option zA), fM_day1_J73 N σ = some w → zEv d 154 73 [some (zR 8 0), z1, z2, z3, z4, z5] [] σ (none, w) := by
  intro σ w z1 hz1 z2 hz2 z3 hz3 z4 hz4 z5 h
  unfold fM_day1_J73 at h
  refine ev_s i154_73 (p := 74) rfl ?_
  refine ev_getf i154_74 zf8_7 (u := zR 30 0) rfl (p := 77) rfl ?_
  refine ev_s i154_77 (p := 78) (zic_0 _ _ _ _ _) ?_
  refine ev_s i154_78 (p := 79) rfl ?_
  refine ev_ialdK i154_79 rfl (n := 394) rfl (by decide) (p := 80) rfl ?_
  change zEv d 154 80 [some (zR 8 0), z1, z2, z3, z4, z5] [zI (σ 30 0 0), zI 0, zR 30 0] σ _
  refine ev_s i154_80 (p := 81) (zic_1 _ _ _ _ _) ?_
  refine ev_s i154_81 (p := 82) (t := [zI ((σ 30 0 0) + 1), zI 0, zR 30 0]) rfl ?_
  refine ev_iastK i154_82 rfl (n := 394) rfl (by decide) (p := 83) rfl ?_
  change zEv d 154 83 [some (zR 8 0), z1, z2, z3, z4, z5] [] (zup σ 30 0 0 ((σ 30 0 0) + 1)) _
  refine ev_lets h (fun s13 es13 h => ?_)
  obtain rfl := Option.some.inj h
  exact ev_vret i154_83 zr154
def fM_day1_L45 (N : Nat) : Nat → Int32 → Int32 → Int32 → Int32 → Int32 → zS → Option (zS)
  | 0, _, _, _, _, _, _ => none
  | n + 1, y1, y2, y3, y4, y5, σ => (if y3 ≤ y5 then fM_day1_J73 N σ else (if y4 = 0 then fM_day1_J73 N σ else zb2 (fM_oneStep N y2 (y1 - y1 / 10 * 10) σ) fun r12 s11 => fM_day1_L45 N n y1 y2 y3 r12 (y5 + 1) s11))
set_option maxHeartbeats 4000000 in
theorem kM_day1_L45 (N : Nat) (d : Nat) (hd : 6 ≤ d)  : ∀ n : Nat, ∀ (y1 : Int32) (y2 : Int32) (y3 : Int32) (y4 : Int32) (y5 : Int32) (σ : zS) (w : zS), fM_day1_L45 N n y1 y2 y3 y4 y5 σ = some w → zEv d 154 45 [some (zR 8 0), some (zI y1), some (zI y2), some (zI y3), some (zI y4), some (zI y5)] [] σ (none, w) := by
  intro n
  induction n with
  | zero =>
    intro y1 y2 y3 y4 y5 σ w h
    cases h
  | succ n ih =>
    intro y1 y2 y3 y4 y5 σ w h
    rw [fM_day1_L45] at h
    refine ev_s i154_45 (p := 47) rfl ?_
    refine ev_s i154_47 (p := 48) rfl ?_
    refine ev_cmpge i154_48 (t := 73) (by decide) (p := 51) rfl h (fun c8 h => ?_) (fun c8 h => ?_)
    · exact kM_day1_J73 N d hd σ w _ rfl _ rfl _ rfl _ rfl _ h
    · refine ev_s i154_51 (p := 53) rfl ?_
      refine ev_ifeq i154_53 (t := 73) (by decide) (p := 56) rfl h (fun c9 h => ?_) (fun c9 h => ?_)
      · exact kM_day1_J73 N d hd σ w _ rfl _ rfl _ rfl _ rfl _ h
      · refine ev_s i154_56 (p := 57) rfl ?_
        refine ev_s i154_57 (p := 58) rfl ?_
        refine ev_s i154_58 (p := 59) rfl ?_
        refine ev_s i154_59 (p := 61) (zib_10 _ _ _ _ _) ?_
        refine ev_iremK i154_61 (p := 62) rfl (by decide) ?_
        obtain ⟨r12, s11, hr10, h⟩ := b2_some h
        refine ev_callV i154_62 zc8_184 zm153 zo153 (as' := [zI y2, zI (y1 - y1 / 10 * 10)]) (rest := []) rfl rfl (Nat.le_of_ble_eq_true rfl) (Nat.le_of_ble_eq_true rfl) (Nat.le_of_ble_eq_true rfl) (by omega) (l0 := [some (zR 8 0), some (zI y2), some (zI (y1 - y1 / 10 * 10)), none, none, none]) rfl (p := 65) rfl (kM_oneStep N y2 (y1 - y1 / 10 * 10) σ (r12, s11) hr10 (d - 1) (by omega)) ?_
        change zEv d 154 65 [some (zR 8 0), some (zI y1), some (zI y2), some (zI y3), some (zI y4), some (zI y5)] [zI r12] s11 _
        refine ev_s i154_65 (p := 67) (l := [some (zR 8 0), some (zI y1), some (zI y2), some (zI y3), some (zI r12), some (zI y5)]) rfl ?_
        refine ev_iinc i154_67 zii_1 rfl (l := [some (zR 8 0), some (zI y1), some (zI y2), some (zI y3), some (zI r12), some (zI (y5 + 1))]) rfl (p := 70) rfl ?_
        refine ev_goto i154_70 (t := 45) (by decide) ?_
        exact ih y1 y2 y3 r12 (y5 + 1) s11 w h
def fM_day1 (N : Nat) (σ : zS) : Option (zS) := zgd (zin (6 + ((σ 30 0 0) - (σ 30 0 0) / 6 * 6)) 394) (zlt (σ 30 0 (6 + ((σ 30 0 0) - (σ 30 0 0) / 6 * 6)).toNatClampNeg) fun v2 => zlt (v2 / 10) fun v3 => (if (σ 30 0 4) ≤ v3 then fM_day1_J73 N σ else zb2 (fM_goesNow N v3 σ) fun r7 s6 => fM_day1_L45 N N v2 v3 r7 1 0 s6))
set_option maxHeartbeats 4000000 in
theorem kM_day1 (N : Nat) (σ : zS) (w : zS) (h : fM_day1 N σ = some w) (d : Nat) (hd : 6 ≤ d) : zEv d 154 0 [some (zR 8 0), none, none, none, none, none] [] σ (none, w) := by
  unfold fM_day1 at h
  refine ev_s i154_0 (p := 1) rfl ?_
  refine ev_getf i154_1 zf8_7 (u := zR 30 0) rfl (p := 4) rfl ?_
  refine ev_s i154_4 (p := 6) (zib_6 _ _ _ _ _) ?_
  refine ev_s i154_6 (p := 7) rfl ?_
  refine ev_getf i154_7 zf8_7 (u := zR 30 0) rfl (p := 10) rfl ?_
  refine ev_s i154_10 (p := 11) (zic_0 _ _ _ _ _) ?_
  refine ev_ialdK i154_11 rfl (n := 394) rfl (by decide) (p := 12) rfl ?_
  change zEv d 154 12 [some (zR 8 0), none, none, none, none, none] [zI (σ 30 0 0), zI 6, zR 30 0] σ _
  refine ev_s i154_12 (p := 14) (zib_6 _ _ _ _ _) ?_
  refine ev_iremK i154_14 (p := 15) rfl (by decide) ?_
  refine ev_s i154_15 (p := 16) (t := [zI (6 + ((σ 30 0 0) - (σ 30 0 0) / 6 * 6)), zR 30 0]) rfl ?_
  refine ev_iald i154_16 rfl (n := 394) rfl (p := 17) rfl h (fun g1 h => ?_)
  refine ev_let h (fun v2 ev2 h => ?_)
  refine ev_s i154_17 (p := 18) (l := [some (zR 8 0), some (zI v2), none, none, none, none]) rfl ?_
  refine ev_s i154_18 (p := 19) rfl ?_
  refine ev_s i154_19 (p := 21) (zib_10 _ _ _ _ _) ?_
  refine ev_idivK i154_21 (p := 22) rfl (by decide) ?_
  refine ev_let h (fun v3 ev3 h => ?_)
  refine ev_s i154_22 (p := 23) (l := [some (zR 8 0), some (zI v2), some (zI v3), none, none, none]) rfl ?_
  refine ev_s i154_23 (p := 24) rfl ?_
  refine ev_s i154_24 (p := 25) rfl ?_
  refine ev_getf i154_25 zf8_7 (u := zR 30 0) rfl (p := 28) rfl ?_
  refine ev_s i154_28 (p := 29) (zic_4 _ _ _ _ _) ?_
  refine ev_ialdK i154_29 rfl (n := 394) rfl (by decide) (p := 30) rfl ?_
  change zEv d 154 30 [some (zR 8 0), some (zI v2), some (zI v3), none, none, none] [zI (σ 30 0 4), zI v3] σ _
  refine ev_cmpge i154_30 (t := 73) (by decide) (p := 33) rfl h (fun c4 h => ?_) (fun c4 h => ?_)
  · exact kM_day1_J73 N d hd σ w _ rfl _ rfl _ rfl _ rfl _ h
  · refine ev_s i154_33 (p := 34) rfl ?_
    refine ev_s i154_34 (p := 35) rfl ?_
    obtain ⟨r7, s6, hr5, h⟩ := b2_some h
    refine ev_callV i154_35 zc8_181 zm144 zo144 (as' := [zI v3]) (rest := []) rfl rfl (Nat.le_of_ble_eq_true rfl) (Nat.le_of_ble_eq_true rfl) (Nat.le_of_ble_eq_true rfl) (by omega) (l0 := [some (zR 8 0), some (zI v3)]) rfl (p := 38) rfl (kM_goesNow N v3 σ (r7, s6) hr5 (d - 1) (by omega)) ?_
    change zEv d 154 38 [some (zR 8 0), some (zI v2), some (zI v3), none, none, none] [zI r7] s6 _
    refine ev_s i154_38 (p := 39) (l := [some (zR 8 0), some (zI v2), some (zI v3), some (zI r7), none, none]) rfl ?_
    refine ev_s i154_39 (p := 40) (zic_1 _ _ _ _ _) ?_
    refine ev_s i154_40 (p := 42) (l := [some (zR 8 0), some (zI v2), some (zI v3), some (zI r7), some (zI 1), none]) rfl ?_
    refine ev_s i154_42 (p := 43) (zic_0 _ _ _ _ _) ?_
    refine ev_s i154_43 (p := 45) (l := [some (zR 8 0), some (zI v2), some (zI v3), some (zI r7), some (zI 1), some (zI 0)]) rfl ?_
    exact kM_day1_L45 N d hd N v2 v3 r7 1 0 s6 w h
/-! fM_goesOn -/
def fM_goesOn_L2 (N : Nat) : Nat → Int32 → Int32 → zS → Option (zS)
  | 0, _, _, _ => none
  | n + 1, y1, y2, σ => (if y1 ≤ y2 then some σ else (fM_day1 N σ).bind fun s3 => fM_goesOn_L2 N n y1 (y2 + 1) s3)
set_option maxHeartbeats 4000000 in
theorem kM_goesOn_L2 (N : Nat) (d : Nat) (hd : 7 ≤ d)  : ∀ n : Nat, ∀ (y1 : Int32) (y2 : Int32) (σ : zS) (w : zS), fM_goesOn_L2 N n y1 y2 σ = some w → zEv d 155 2 [some (zR 8 0), some (zI y1), some (zI y2)] [] σ (none, w) := by
  intro n
  induction n with
  | zero =>
    intro y1 y2 σ w h
    cases h
  | succ n ih =>
    intro y1 y2 σ w h
    rw [fM_goesOn_L2] at h
    refine ev_s i155_2 (p := 3) rfl ?_
    refine ev_s i155_3 (p := 4) rfl ?_
    refine ev_cmpge i155_4 (t := 17) (by decide) (p := 7) rfl h (fun c1 h => ?_) (fun c1 h => ?_)
    · obtain rfl := Option.some.inj h
      exact ev_vret i155_17 zr155
    · refine ev_s i155_7 (p := 8) rfl ?_
      obtain ⟨s3, hr2, h⟩ := bd_some h
      refine ev_callV i155_8 zc8_188 zm154 zo154 (as' := []) (rest := []) rfl rfl (Nat.le_of_ble_eq_true rfl) (Nat.le_of_ble_eq_true rfl) (Nat.le_of_ble_eq_true rfl) (by omega) (l0 := [some (zR 8 0), none, none, none, none, none]) rfl (p := 11) rfl (kM_day1 N σ s3 hr2 (d - 1) (by omega)) ?_
      change zEv d 155 11 [some (zR 8 0), some (zI y1), some (zI y2)] [] s3 _
      refine ev_iinc i155_11 zii_1 rfl (l := [some (zR 8 0), some (zI y1), some (zI (y2 + 1))]) rfl (p := 14) rfl ?_
      refine ev_goto i155_14 (t := 2) (by decide) ?_
      exact ih y1 (y2 + 1) s3 w h
def fM_goesOn (N : Nat) (x1 : Int32) (σ : zS) : Option (zS) := fM_goesOn_L2 N N x1 0 σ
set_option maxHeartbeats 4000000 in
theorem kM_goesOn (N : Nat) (x1 : Int32) (σ : zS) (w : zS) (h : fM_goesOn N x1 σ = some w) (d : Nat) (hd : 7 ≤ d) : zEv d 155 0 [some (zR 8 0), some (zI x1), none] [] σ (none, w) := by
  unfold fM_goesOn at h
  refine ev_s i155_0 (p := 1) (zic_0 _ _ _ _ _) ?_
  refine ev_s i155_1 (p := 2) (l := [some (zR 8 0), some (zI x1), some (zI 0)]) rfl ?_
  exact kM_goesOn_L2 N d hd N x1 0 σ w h
/-! fM_days -/
def fM_days (N : Nat) (x1 : Int32) (σ : zS) : Option (Int32 × zS) := (fM_in x1 1 60).bind fun r2 => (if r2 = 0 then zb2 (fM_error 1 σ) fun r6 s5 => some (r6, s5) else (if ((σ 30 0 0) + x1) ≤ 9999 then (fM_goesOn N x1 σ).bind fun s9 => some (s9 30 0 5, s9) else zb2 (fM_error 3 σ) fun r12 s11 => some (r12, s11)))
set_option maxHeartbeats 4000000 in
theorem kM_days (N : Nat) (x1 : Int32) (σ : zS) (w : Int32 × zS) (h : fM_days N x1 σ = some w) (d : Nat) (hd : 8 ≤ d) : zEv d 169 0 [some (zR 8 0), some (zI x1)] [] σ (some (zI w.1), w.2) := by
  unfold fM_days at h
  refine ev_s i169_0 (p := 1) rfl ?_
  refine ev_s i169_1 (p := 2) (zic_1 _ _ _ _ _) ?_
  refine ev_s i169_2 (p := 4) (zib_60 _ _ _ _ _) ?_
  obtain ⟨r2, hr1, h⟩ := bd_some h
  refine ev_callS i169_4 zn8_50 zc8_50 zm111 (as := [zI x1, zI 1, zI 60]) (rest := []) rfl rfl (Nat.le_of_ble_eq_true rfl) (Nat.le_of_ble_eq_true rfl) (Nat.le_of_ble_eq_true rfl) (by omega) (l0 := [some (zI x1), some (zI 1), some (zI 60)]) rfl (p := 7) rfl (kM_in x1 1 60 σ r2 hr1 (d - 1) (by omega)) ?_
  change zEv d 169 7 [some (zR 8 0), some (zI x1)] [zI r2] σ _
  refine ev_ifne i169_7 (t := 16) (by decide) (p := 10) rfl h (fun c3 h => ?_) (fun c3 h => ?_)
  · refine ev_s i169_10 (p := 11) rfl ?_
    refine ev_s i169_11 (p := 12) (zic_1 _ _ _ _ _) ?_
    obtain ⟨r6, s5, hr4, h⟩ := b2_some h
    refine ev_callV i169_12 zc8_58 zm110 zo110 (as' := [zI 1]) (rest := []) rfl rfl (Nat.le_of_ble_eq_true rfl) (Nat.le_of_ble_eq_true rfl) (Nat.le_of_ble_eq_true rfl) (by omega) (l0 := [some (zR 8 0), some (zI 1)]) rfl (p := 15) rfl (kM_error 1 σ (r6, s5) hr4 (d - 1) (by omega)) ?_
    change zEv d 169 15 [some (zR 8 0), some (zI x1)] [zI r6] s5 _
    obtain rfl := Option.some.inj h
    exact ev_iret i169_15 zr169
  · refine ev_s i169_16 (p := 17) rfl ?_
    refine ev_getf i169_17 zf8_7 (u := zR 30 0) rfl (p := 20) rfl ?_
    refine ev_s i169_20 (p := 21) (zic_0 _ _ _ _ _) ?_
    refine ev_ialdK i169_21 rfl (n := 394) rfl (by decide) (p := 22) rfl ?_
    change zEv d 169 22 [some (zR 8 0), some (zI x1)] [zI (σ 30 0 0)] σ _
    refine ev_s i169_22 (p := 23) rfl ?_
    refine ev_s i169_23 (p := 24) (t := [zI ((σ 30 0 0) + x1)]) rfl ?_
    refine ev_s i169_24 (p := 27) (zis_9999 _ _ _ _ _) ?_
    refine ev_cmple i169_27 (t := 36) (by decide) (p := 30) rfl h (fun c7 h => ?_) (fun c7 h => ?_)
    · refine ev_s i169_36 (p := 37) rfl ?_
      refine ev_s i169_37 (p := 38) rfl ?_
      obtain ⟨s9, hr8, h⟩ := bd_some h
      refine ev_callV i169_38 zc8_206 zm155 zo155 (as' := [zI x1]) (rest := []) rfl rfl (Nat.le_of_ble_eq_true rfl) (Nat.le_of_ble_eq_true rfl) (Nat.le_of_ble_eq_true rfl) (by omega) (l0 := [some (zR 8 0), some (zI x1), none]) rfl (p := 41) rfl (kM_goesOn N x1 σ s9 hr8 (d - 1) (by omega)) ?_
      change zEv d 169 41 [some (zR 8 0), some (zI x1)] [] s9 _
      refine ev_s i169_41 (p := 42) rfl ?_
      refine ev_getf i169_42 zf8_7 (u := zR 30 0) rfl (p := 45) rfl ?_
      refine ev_s i169_45 (p := 46) (zic_5 _ _ _ _ _) ?_
      refine ev_ialdK i169_46 rfl (n := 394) rfl (by decide) (p := 47) rfl ?_
      change zEv d 169 47 [some (zR 8 0), some (zI x1)] [zI (s9 30 0 5)] s9 _
      obtain rfl := Option.some.inj h
      exact ev_iret i169_47 zr169
    · refine ev_s i169_30 (p := 31) rfl ?_
      refine ev_s i169_31 (p := 32) (zic_3 _ _ _ _ _) ?_
      obtain ⟨r12, s11, hr10, h⟩ := b2_some h
      refine ev_callV i169_32 zc8_58 zm110 zo110 (as' := [zI 3]) (rest := []) rfl rfl (Nat.le_of_ble_eq_true rfl) (Nat.le_of_ble_eq_true rfl) (Nat.le_of_ble_eq_true rfl) (by omega) (l0 := [some (zR 8 0), some (zI 3)]) rfl (p := 35) rfl (kM_error 3 σ (r12, s11) hr10 (d - 1) (by omega)) ?_
      change zEv d 169 35 [some (zR 8 0), some (zI x1)] [zI r12] s11 _
      obtain rfl := Option.some.inj h
      exact ev_iret i169_35 zr169
/-! fR_draw -/
def fR_draw (b : Nat) (σ : zS) : Option (Int32 × zS) := zlt (zup σ 2 b 12 (((σ 2 b 12) * 1103515245) + 12345)) fun s1 => some (((s1 2 b 12).toUInt32 >>> ((8 : Int32).toUInt32 &&& Int32.toUInt32 31)).toInt32, s1)
set_option maxHeartbeats 4000000 in
theorem kR_draw (b : Nat) (σ : zS) (w : Int32 × zS) (h : fR_draw b σ = some w) (d : Nat) (hd : 0 ≤ d) : zEv d 38 0 [some (zR 2 b)] [] σ (some (zI w.1), w.2) := by
  unfold fR_draw at h
  refine ev_s i38_0 (p := 1) rfl ?_
  refine ev_s i38_1 (p := 2) rfl ?_
  refine ev_getf i38_2 zf2_33 (u := zI (σ 2 b 12)) rfl (p := 5) rfl ?_
  refine ev_s i38_5 (p := 7) (zk2_114 0 _ _ _ _) ?_
  refine ev_s i38_7 (p := 8) (t := [zI ((σ 2 b 12) * 1103515245), zR 2 b]) rfl ?_
  refine ev_s i38_8 (p := 11) (zis_12345 _ _ _ _ _) ?_
  refine ev_s i38_11 (p := 12) (t := [zI (((σ 2 b 12) * 1103515245) + 12345), zR 2 b]) rfl ?_
  refine ev_putf i38_12 zf2_33 rfl rfl rfl (p := 15) rfl ?_
  refine ev_lets h (fun s1 es1 h => ?_)
  refine ev_s i38_15 (p := 16) rfl ?_
  refine ev_getf i38_16 zf2_33 (u := zI (s1 2 b 12)) rfl (p := 19) rfl ?_
  refine ev_s i38_19 (p := 21) (zib_8 _ _ _ _ _) ?_
  refine ev_s i38_21 (p := 22) (t := [zI (((s1 2 b 12).toUInt32 >>> ((8 : Int32).toUInt32 &&& Int32.toUInt32 31)).toInt32)]) rfl ?_
  obtain rfl := Option.some.inj h
  exact ev_iret i38_22 zr38
/-! fR_drawPlace -/
def fR_drawPlace (b : Nat) (σ : zS) : Option (zS) := zb2 (fR_draw b σ) fun r3 s2 => zlt (r3 - r3 / 8 * 8) fun v4 => zb2 (fR_draw b s2) fun r7 s6 => zlt (r7 - r7 / 2 * 2) fun v8 => zgd (zin ((s6 2 b 10) - (s6 2 b 10) / 6 * 6) 6) (zlt (zup s6 20 b ((s6 2 b 10) - (s6 2 b 10) / 6 * 6).toNatClampNeg ((10 * v4) + v8)) fun s9 => some s9)
set_option maxHeartbeats 4000000 in
theorem kR_drawPlace (b : Nat) (σ : zS) (w : zS) (h : fR_drawPlace b σ = some w) (d : Nat) (hd : 1 ≤ d) : zEv d 37 0 [some (zR 2 b), none, none] [] σ (none, w) := by
  unfold fR_drawPlace at h
  refine ev_s i37_0 (p := 1) rfl ?_
  obtain ⟨r3, s2, hr1, h⟩ := b2_some h
  refine ev_callV i37_1 zc2_110 zm38 zo38 (as' := []) (rest := []) rfl rfl (Nat.le_of_ble_eq_true rfl) (Nat.le_of_ble_eq_true rfl) (Nat.le_of_ble_eq_true rfl) (by omega) (l0 := [some (zR 2 b)]) rfl (p := 4) rfl (kR_draw b σ (r3, s2) hr1 (d - 1) (by omega)) ?_
  change zEv d 37 4 [some (zR 2 b), none, none] [zI r3] s2 _
  refine ev_s i37_4 (p := 6) (zib_8 _ _ _ _ _) ?_
  refine ev_iremK i37_6 (p := 7) rfl (by decide) ?_
  refine ev_let h (fun v4 ev4 h => ?_)
  refine ev_s i37_7 (p := 8) (l := [some (zR 2 b), some (zI v4), none]) rfl ?_
  refine ev_s i37_8 (p := 9) rfl ?_
  obtain ⟨r7, s6, hr5, h⟩ := b2_some h
  refine ev_callV i37_9 zc2_110 zm38 zo38 (as' := []) (rest := []) rfl rfl (Nat.le_of_ble_eq_true rfl) (Nat.le_of_ble_eq_true rfl) (Nat.le_of_ble_eq_true rfl) (by omega) (l0 := [some (zR 2 b)]) rfl (p := 12) rfl (kR_draw b s2 (r7, s6) hr5 (d - 1) (by omega)) ?_
  change zEv d 37 12 [some (zR 2 b), some (zI v4), none] [zI r7] s6 _
  refine ev_s i37_12 (p := 13) (zic_2 _ _ _ _ _) ?_
  refine ev_iremK i37_13 (p := 14) rfl (by decide) ?_
  refine ev_let h (fun v8 ev8 h => ?_)
  refine ev_s i37_14 (p := 15) (l := [some (zR 2 b), some (zI v4), some (zI v8)]) rfl ?_
  refine ev_s i37_15 (p := 16) rfl ?_
  refine ev_getf i37_16 zf2_30 (u := zR 20 b) rfl (p := 19) rfl ?_
  refine ev_s i37_19 (p := 20) rfl ?_
  refine ev_getf i37_20 zf2_56 (u := zI (s6 2 b 10)) rfl (p := 23) rfl ?_
  refine ev_s i37_23 (p := 25) (zib_6 _ _ _ _ _) ?_
  refine ev_iremK i37_25 (p := 26) rfl (by decide) ?_
  refine ev_s i37_26 (p := 28) (zib_10 _ _ _ _ _) ?_
  refine ev_s i37_28 (p := 29) rfl ?_
  refine ev_s i37_29 (p := 30) (t := [zI (10 * v4), zI ((s6 2 b 10) - (s6 2 b 10) / 6 * 6), zR 20 b]) rfl ?_
  refine ev_s i37_30 (p := 31) rfl ?_
  refine ev_s i37_31 (p := 32) (t := [zI ((10 * v4) + v8), zI ((s6 2 b 10) - (s6 2 b 10) / 6 * 6), zR 20 b]) rfl ?_
  refine ev_iast i37_32 rfl (n := 6) rfl (p := 33) rfl h (fun g10 h => ?_)
  refine ev_lets h (fun s9 es9 h => ?_)
  obtain rfl := Option.some.inj h
  exact ev_vret i37_33 zr37
/-! fA_loose -/
def fA_loose_L40 (N : Nat) : Nat → Int32 → Int32 → zS → Option (Int32 × zS)
  | 0, _, _, _ => none
  | n + 1, y1, y2, σ => (if y1 ≤ y2 then some (σ 2 0 11, σ) else (fR_drawPlace 0 σ).bind fun s12 => (fR_passDay N 0 s12).bind fun s14 => fA_loose_L40 N n y1 (y2 + 1) s14)
set_option maxHeartbeats 4000000 in
theorem kA_loose_L40 (N : Nat) (d : Nat) (hd : 5 ≤ d)  : ∀ n : Nat, ∀ (y1 : Int32) (y2 : Int32) (σ : zS) (w : Int32 × zS), fA_loose_L40 N n y1 y2 σ = some w → zEv d 74 40 [some (zR 7 0), some (zI y1), some (zI y2)] [] σ (some (zI w.1), w.2) := by
  intro n
  induction n with
  | zero =>
    intro y1 y2 σ w h
    cases h
  | succ n ih =>
    intro y1 y2 σ w h
    rw [fA_loose_L40] at h
    refine ev_s i74_40 (p := 41) rfl ?_
    refine ev_s i74_41 (p := 42) rfl ?_
    refine ev_cmpge i74_42 (t := 65) (by decide) (p := 45) rfl h (fun c10 h => ?_) (fun c10 h => ?_)
    · refine ev_s i74_65 (p := 66) rfl ?_
      refine ev_getf i74_66 zf7_47 (u := zR 2 0) rfl (p := 69) rfl ?_
      refine ev_getf i74_69 zf7_164 (u := zI (σ 2 0 11)) rfl (p := 72) rfl ?_
      obtain rfl := Option.some.inj h
      exact ev_iret i74_72 zr74
    · refine ev_s i74_45 (p := 46) rfl ?_
      refine ev_getf i74_46 zf7_47 (u := zR 2 0) rfl (p := 49) rfl ?_
      obtain ⟨s12, hr11, h⟩ := bd_some h
      refine ev_callV i74_49 zc7_167 zm37 zo37 (as' := []) (rest := []) rfl rfl (Nat.le_of_ble_eq_true rfl) (Nat.le_of_ble_eq_true rfl) (Nat.le_of_ble_eq_true rfl) (by omega) (l0 := [some (zR 2 0), none, none]) rfl (p := 52) rfl (kR_drawPlace 0 σ s12 hr11 (d - 1) (by omega)) ?_
      change zEv d 74 52 [some (zR 7 0), some (zI y1), some (zI y2)] [] s12 _
      refine ev_s i74_52 (p := 53) rfl ?_
      refine ev_getf i74_53 zf7_47 (u := zR 2 0) rfl (p := 56) rfl ?_
      obtain ⟨s14, hr13, h⟩ := bd_some h
      refine ev_callV i74_56 zc7_170 zm36 zo36 (as' := []) (rest := []) rfl rfl (Nat.le_of_ble_eq_true rfl) (Nat.le_of_ble_eq_true rfl) (Nat.le_of_ble_eq_true rfl) (by omega) (l0 := [some (zR 2 0), none, none, none, none, none]) rfl (p := 59) rfl (kR_passDay N 0 s12 s14 hr13 (d - 1) (by omega)) ?_
      change zEv d 74 59 [some (zR 7 0), some (zI y1), some (zI y2)] [] s14 _
      refine ev_iinc i74_59 zii_1 rfl (l := [some (zR 7 0), some (zI y1), some (zI (y2 + 1))]) rfl (p := 62) rfl ?_
      refine ev_goto i74_62 (t := 40) (by decide) ?_
      exact ih y1 (y2 + 1) s14 w h
def fA_loose_J11 (N : Nat) (σ : zS) : Option (Int32 × zS) := zb2 (fA_refuse 1 σ) fun r9 s8 => some (r9, s8)
set_option maxHeartbeats 4000000 in
theorem kA_loose_J11 (N : Nat) (d : Nat) (hd : 5 ≤ d)  : ∀ (σ : zS) (w : Int32 × zS) (z1 : Option zA) (hz1 : znl z1 = true) (z2 : Option zA), fA_loose_J11 N σ = some w → zEv d 74 11 [some (zR 7 0), z1, z2] [] σ (some (zI w.1), w.2) := by
  intro σ w z1 hz1 z2 h
  unfold fA_loose_J11 at h
  refine ev_s i74_11 (p := 12) rfl ?_
  refine ev_s i74_12 (p := 13) (zic_1 _ _ _ _ _) ?_
  obtain ⟨r9, s8, hr7, h⟩ := b2_some h
  refine ev_callV i74_13 zc7_72 zm102 zo102 (as' := [zI 1]) (rest := []) rfl rfl (Nat.le_of_ble_eq_true rfl) (Nat.le_of_ble_eq_true rfl) (Nat.le_of_ble_eq_true rfl) (by omega) (l0 := [some (zR 7 0), some (zI 1)]) rfl (p := 16) rfl (kA_refuse 1 σ (r9, s8) hr7 (d - 1) (by omega)) ?_
  change zEv d 74 16 [some (zR 7 0), z1, z2] [zI r9] s8 _
  obtain rfl := Option.some.inj h
  exact ev_iret i74_16 zr74
def fA_loose (N : Nat) (x1 : Int32) (σ : zS) : Option (Int32 × zS) := (if x1 < 1 then fA_loose_J11 N σ else (if x1 ≤ 30 then (if ((σ 2 0 10) + x1) ≤ 9999 then fA_loose_L40 N N x1 0 σ else zb2 (fA_refuse 3 σ) fun r6 s5 => some (r6, s5)) else fA_loose_J11 N σ))
set_option maxHeartbeats 4000000 in
theorem kA_loose (N : Nat) (x1 : Int32) (σ : zS) (w : Int32 × zS) (h : fA_loose N x1 σ = some w) (d : Nat) (hd : 5 ≤ d) : zEv d 74 0 [some (zR 7 0), some (zI x1), none] [] σ (some (zI w.1), w.2) := by
  unfold fA_loose at h
  refine ev_s i74_0 (p := 1) rfl ?_
  refine ev_s i74_1 (p := 2) (zic_1 _ _ _ _ _) ?_
  refine ev_cmplt i74_2 (t := 11) (by decide) (p := 5) rfl h (fun c1 h => ?_) (fun c1 h => ?_)
  · exact kA_loose_J11 N d hd σ w _ rfl _ h
  · refine ev_s i74_5 (p := 6) rfl ?_
    refine ev_s i74_6 (p := 8) (zib_30 _ _ _ _ _) ?_
    refine ev_cmple i74_8 (t := 17) (by decide) (p := 11) rfl h (fun c2 h => ?_) (fun c2 h => ?_)
    · refine ev_s i74_17 (p := 18) rfl ?_
      refine ev_getf i74_18 zf7_47 (u := zR 2 0) rfl (p := 21) rfl ?_
      refine ev_getf i74_21 zf7_158 (u := zI (σ 2 0 10)) rfl (p := 24) rfl ?_
      refine ev_s i74_24 (p := 25) rfl ?_
      refine ev_s i74_25 (p := 26) (t := [zI ((σ 2 0 10) + x1)]) rfl ?_
      refine ev_s i74_26 (p := 29) (zis_9999 _ _ _ _ _) ?_
      refine ev_cmple i74_29 (t := 38) (by decide) (p := 32) rfl h (fun c3 h => ?_) (fun c3 h => ?_)
      · refine ev_s i74_38 (p := 39) (zic_0 _ _ _ _ _) ?_
        refine ev_s i74_39 (p := 40) (l := [some (zR 7 0), some (zI x1), some (zI 0)]) rfl ?_
        exact kA_loose_L40 N d hd N x1 0 σ w h
      · refine ev_s i74_32 (p := 33) rfl ?_
        refine ev_s i74_33 (p := 34) (zic_3 _ _ _ _ _) ?_
        obtain ⟨r6, s5, hr4, h⟩ := b2_some h
        refine ev_callV i74_34 zc7_72 zm102 zo102 (as' := [zI 3]) (rest := []) rfl rfl (Nat.le_of_ble_eq_true rfl) (Nat.le_of_ble_eq_true rfl) (Nat.le_of_ble_eq_true rfl) (by omega) (l0 := [some (zR 7 0), some (zI 3)]) rfl (p := 37) rfl (kA_refuse 3 σ (r6, s5) hr4 (d - 1) (by omega)) ?_
        change zEv d 74 37 [some (zR 7 0), some (zI x1), none] [zI r6] s5 _
        obtain rfl := Option.some.inj h
        exact ev_iret i74_37 zr74
    · exact kA_loose_J11 N d hd σ w _ rfl _ h
/-! fM_draw -/
def fM_draw (σ : zS) : Option (Int32 × zS) := zlt (zup σ 30 0 1 (((σ 30 0 1) * 1103515245) + 12345)) fun s1 => some (((s1 30 0 1).toUInt32 >>> ((8 : Int32).toUInt32 &&& Int32.toUInt32 31)).toInt32, s1)
set_option maxHeartbeats 4000000 in
theorem kM_draw  (σ : zS) (w : Int32 × zS) (h : fM_draw σ = some w) (d : Nat) (hd : 0 ≤ d) : zEv d 170 0 [some (zR 8 0)] [] σ (some (zI w.1), w.2) := by
  unfold fM_draw at h
  refine ev_s i170_0 (p := 1) rfl ?_
  refine ev_getf i170_1 zf8_7 (u := zR 30 0) rfl (p := 4) rfl ?_
  refine ev_s i170_4 (p := 5) (zic_1 _ _ _ _ _) ?_
  refine ev_s i170_5 (p := 6) rfl ?_
  refine ev_getf i170_6 zf8_7 (u := zR 30 0) rfl (p := 9) rfl ?_
  refine ev_s i170_9 (p := 10) (zic_1 _ _ _ _ _) ?_
  refine ev_ialdK i170_10 rfl (n := 394) rfl (by decide) (p := 11) rfl ?_
  change zEv d 170 11 [some (zR 8 0)] [zI (σ 30 0 1), zI 1, zR 30 0] σ _
  refine ev_s i170_11 (p := 13) (zk8_209 0 _ _ _ _) ?_
  refine ev_s i170_13 (p := 14) (t := [zI ((σ 30 0 1) * 1103515245), zI 1, zR 30 0]) rfl ?_
  refine ev_s i170_14 (p := 17) (zis_12345 _ _ _ _ _) ?_
  refine ev_s i170_17 (p := 18) (t := [zI (((σ 30 0 1) * 1103515245) + 12345), zI 1, zR 30 0]) rfl ?_
  refine ev_iastK i170_18 rfl (n := 394) rfl (by decide) (p := 19) rfl ?_
  change zEv d 170 19 [some (zR 8 0)] [] (zup σ 30 0 1 (((σ 30 0 1) * 1103515245) + 12345)) _
  refine ev_lets h (fun s1 es1 h => ?_)
  refine ev_s i170_19 (p := 20) rfl ?_
  refine ev_getf i170_20 zf8_7 (u := zR 30 0) rfl (p := 23) rfl ?_
  refine ev_s i170_23 (p := 24) (zic_1 _ _ _ _ _) ?_
  refine ev_ialdK i170_24 rfl (n := 394) rfl (by decide) (p := 25) rfl ?_
  change zEv d 170 25 [some (zR 8 0)] [zI (s1 30 0 1)] s1 _
  refine ev_s i170_25 (p := 27) (zib_8 _ _ _ _ _) ?_
  refine ev_s i170_27 (p := 28) (t := [zI (((s1 30 0 1).toUInt32 >>> ((8 : Int32).toUInt32 &&& Int32.toUInt32 31)).toInt32)]) rfl ?_
  obtain rfl := Option.some.inj h
  exact ev_iret i170_28 zr170
/-! fM_loose -/
def fM_loose_L38 (N : Nat) : Nat → Int32 → Int32 → zS → Option (Int32 × zS)
  | 0, _, _, _ => none
  | n + 1, y1, y2, σ => (if y1 ≤ y2 then some (σ 30 0 5, σ) else zb2 (fM_draw σ) fun r14 s13 => zlt (r14 - r14 / 8 * 8) fun v15 => zb2 (fM_draw s13) fun r18 s17 => zgd (zin (6 + ((s13 30 0 0) - (s13 30 0 0) / 6 * 6)) 394) (zlt (zup s17 30 0 (6 + ((s13 30 0 0) - (s13 30 0 0) / 6 * 6)).toNatClampNeg ((10 * v15) + (r18 - r18 / 2 * 2))) fun s19 => (fM_day1 N s19).bind fun s22 => fM_loose_L38 N n y1 (y2 + 1) s22))
set_option maxHeartbeats 4000000 in
theorem kM_loose_L38 (N : Nat) (d : Nat) (hd : 7 ≤ d)  : ∀ n : Nat, ∀ (y1 : Int32) (y2 : Int32) (σ : zS) (w : Int32 × zS) (z3 : Option zA), fM_loose_L38 N n y1 y2 σ = some w → zEv d 171 38 [some (zR 8 0), some (zI y1), some (zI y2), z3] [] σ (some (zI w.1), w.2) := by
  intro n
  induction n with
  | zero =>
    intro y1 y2 σ w z3 h
    cases h
  | succ n ih =>
    intro y1 y2 σ w z3 h
    rw [fM_loose_L38] at h
    refine ev_s i171_38 (p := 39) rfl ?_
    refine ev_s i171_39 (p := 40) rfl ?_
    refine ev_cmpge i171_40 (t := 89) (by decide) (p := 43) rfl h (fun c11 h => ?_) (fun c11 h => ?_)
    · refine ev_s i171_89 (p := 90) rfl ?_
      refine ev_getf i171_90 zf8_7 (u := zR 30 0) rfl (p := 93) rfl ?_
      refine ev_s i171_93 (p := 94) (zic_5 _ _ _ _ _) ?_
      refine ev_ialdK i171_94 rfl (n := 394) rfl (by decide) (p := 95) rfl ?_
      change zEv d 171 95 [some (zR 8 0), some (zI y1), some (zI y2), z3] [zI (σ 30 0 5)] σ _
      obtain rfl := Option.some.inj h
      exact ev_iret i171_95 zr171
    · refine ev_s i171_43 (p := 44) rfl ?_
      obtain ⟨r14, s13, hr12, h⟩ := b2_some h
      refine ev_callV i171_44 zc8_210 zm170 zo170 (as' := []) (rest := []) rfl rfl (Nat.le_of_ble_eq_true rfl) (Nat.le_of_ble_eq_true rfl) (Nat.le_of_ble_eq_true rfl) (by omega) (l0 := [some (zR 8 0)]) rfl (p := 47) rfl (kM_draw σ (r14, s13) hr12 (d - 1) (by omega)) ?_
      change zEv d 171 47 [some (zR 8 0), some (zI y1), some (zI y2), z3] [zI r14] s13 _
      refine ev_s i171_47 (p := 49) (zib_8 _ _ _ _ _) ?_
      refine ev_iremK i171_49 (p := 50) rfl (by decide) ?_
      refine ev_let h (fun v15 ev15 h => ?_)
      refine ev_s i171_50 (p := 51) (l := [some (zR 8 0), some (zI y1), some (zI y2), some (zI v15)]) rfl ?_
      refine ev_s i171_51 (p := 52) rfl ?_
      refine ev_getf i171_52 zf8_7 (u := zR 30 0) rfl (p := 55) rfl ?_
      refine ev_s i171_55 (p := 57) (zib_6 _ _ _ _ _) ?_
      refine ev_s i171_57 (p := 58) rfl ?_
      refine ev_getf i171_58 zf8_7 (u := zR 30 0) rfl (p := 61) rfl ?_
      refine ev_s i171_61 (p := 62) (zic_0 _ _ _ _ _) ?_
      refine ev_ialdK i171_62 rfl (n := 394) rfl (by decide) (p := 63) rfl ?_
      change zEv d 171 63 [some (zR 8 0), some (zI y1), some (zI y2), some (zI v15)] [zI (s13 30 0 0), zI 6, zR 30 0] s13 _
      refine ev_s i171_63 (p := 65) (zib_6 _ _ _ _ _) ?_
      refine ev_iremK i171_65 (p := 66) rfl (by decide) ?_
      refine ev_s i171_66 (p := 67) (t := [zI (6 + ((s13 30 0 0) - (s13 30 0 0) / 6 * 6)), zR 30 0]) rfl ?_
      refine ev_s i171_67 (p := 69) (zib_10 _ _ _ _ _) ?_
      refine ev_s i171_69 (p := 70) rfl ?_
      refine ev_s i171_70 (p := 71) (t := [zI (10 * v15), zI (6 + ((s13 30 0 0) - (s13 30 0 0) / 6 * 6)), zR 30 0]) rfl ?_
      refine ev_s i171_71 (p := 72) rfl ?_
      obtain ⟨r18, s17, hr16, h⟩ := b2_some h
      refine ev_callV i171_72 zc8_210 zm170 zo170 (as' := []) (rest := [zI (10 * v15), zI (6 + ((s13 30 0 0) - (s13 30 0 0) / 6 * 6)), zR 30 0]) rfl rfl (Nat.le_of_ble_eq_true rfl) (Nat.le_of_ble_eq_true rfl) (Nat.le_of_ble_eq_true rfl) (by omega) (l0 := [some (zR 8 0)]) rfl (p := 75) rfl (kM_draw s13 (r18, s17) hr16 (d - 1) (by omega)) ?_
      change zEv d 171 75 [some (zR 8 0), some (zI y1), some (zI y2), some (zI v15)] [zI r18, zI (10 * v15), zI (6 + ((s13 30 0 0) - (s13 30 0 0) / 6 * 6)), zR 30 0] s17 _
      refine ev_s i171_75 (p := 76) (zic_2 _ _ _ _ _) ?_
      refine ev_iremK i171_76 (p := 77) rfl (by decide) ?_
      refine ev_s i171_77 (p := 78) (t := [zI ((10 * v15) + (r18 - r18 / 2 * 2)), zI (6 + ((s13 30 0 0) - (s13 30 0 0) / 6 * 6)), zR 30 0]) rfl ?_
      refine ev_iast i171_78 rfl (n := 394) rfl (p := 79) rfl h (fun g20 h => ?_)
      refine ev_lets h (fun s19 es19 h => ?_)
      refine ev_s i171_79 (p := 80) rfl ?_
      obtain ⟨s22, hr21, h⟩ := bd_some h
      refine ev_callV i171_80 zc8_188 zm154 zo154 (as' := []) (rest := []) rfl rfl (Nat.le_of_ble_eq_true rfl) (Nat.le_of_ble_eq_true rfl) (Nat.le_of_ble_eq_true rfl) (by omega) (l0 := [some (zR 8 0), none, none, none, none, none]) rfl (p := 83) rfl (kM_day1 N s19 s22 hr21 (d - 1) (by omega)) ?_
      change zEv d 171 83 [some (zR 8 0), some (zI y1), some (zI y2), some (zI v15)] [] s22 _
      refine ev_iinc i171_83 zii_1 rfl (l := [some (zR 8 0), some (zI y1), some (zI (y2 + 1)), some (zI v15)]) rfl (p := 86) rfl ?_
      refine ev_goto i171_86 (t := 38) (by decide) ?_
      exact ih y1 (y2 + 1) s22 w _ h
def fM_loose (N : Nat) (x1 : Int32) (σ : zS) : Option (Int32 × zS) := (fM_in x1 1 30).bind fun r2 => (if r2 = 0 then zb2 (fM_error 1 σ) fun r6 s5 => some (r6, s5) else (if ((σ 30 0 0) + x1) ≤ 9999 then fM_loose_L38 N N x1 0 σ else zb2 (fM_error 3 σ) fun r10 s9 => some (r10, s9)))
set_option maxHeartbeats 4000000 in
theorem kM_loose (N : Nat) (x1 : Int32) (σ : zS) (w : Int32 × zS) (h : fM_loose N x1 σ = some w) (d : Nat) (hd : 7 ≤ d) : zEv d 171 0 [some (zR 8 0), some (zI x1), none, none] [] σ (some (zI w.1), w.2) := by
  unfold fM_loose at h
  refine ev_s i171_0 (p := 1) rfl ?_
  refine ev_s i171_1 (p := 2) (zic_1 _ _ _ _ _) ?_
  refine ev_s i171_2 (p := 4) (zib_30 _ _ _ _ _) ?_
  obtain ⟨r2, hr1, h⟩ := bd_some h
  refine ev_callS i171_4 zn8_50 zc8_50 zm111 (as := [zI x1, zI 1, zI 30]) (rest := []) rfl rfl (Nat.le_of_ble_eq_true rfl) (Nat.le_of_ble_eq_true rfl) (Nat.le_of_ble_eq_true rfl) (by omega) (l0 := [some (zI x1), some (zI 1), some (zI 30)]) rfl (p := 7) rfl (kM_in x1 1 30 σ r2 hr1 (d - 1) (by omega)) ?_
  change zEv d 171 7 [some (zR 8 0), some (zI x1), none, none] [zI r2] σ _
  refine ev_ifne i171_7 (t := 16) (by decide) (p := 10) rfl h (fun c3 h => ?_) (fun c3 h => ?_)
  · refine ev_s i171_10 (p := 11) rfl ?_
    refine ev_s i171_11 (p := 12) (zic_1 _ _ _ _ _) ?_
    obtain ⟨r6, s5, hr4, h⟩ := b2_some h
    refine ev_callV i171_12 zc8_58 zm110 zo110 (as' := [zI 1]) (rest := []) rfl rfl (Nat.le_of_ble_eq_true rfl) (Nat.le_of_ble_eq_true rfl) (Nat.le_of_ble_eq_true rfl) (by omega) (l0 := [some (zR 8 0), some (zI 1)]) rfl (p := 15) rfl (kM_error 1 σ (r6, s5) hr4 (d - 1) (by omega)) ?_
    change zEv d 171 15 [some (zR 8 0), some (zI x1), none, none] [zI r6] s5 _
    obtain rfl := Option.some.inj h
    exact ev_iret i171_15 zr171
  · refine ev_s i171_16 (p := 17) rfl ?_
    refine ev_getf i171_17 zf8_7 (u := zR 30 0) rfl (p := 20) rfl ?_
    refine ev_s i171_20 (p := 21) (zic_0 _ _ _ _ _) ?_
    refine ev_ialdK i171_21 rfl (n := 394) rfl (by decide) (p := 22) rfl ?_
    change zEv d 171 22 [some (zR 8 0), some (zI x1), none, none] [zI (σ 30 0 0)] σ _
    refine ev_s i171_22 (p := 23) rfl ?_
    refine ev_s i171_23 (p := 24) (t := [zI ((σ 30 0 0) + x1)]) rfl ?_
    refine ev_s i171_24 (p := 27) (zis_9999 _ _ _ _ _) ?_
    refine ev_cmple i171_27 (t := 36) (by decide) (p := 30) rfl h (fun c7 h => ?_) (fun c7 h => ?_)
    · refine ev_s i171_36 (p := 37) (zic_0 _ _ _ _ _) ?_
      refine ev_s i171_37 (p := 38) (l := [some (zR 8 0), some (zI x1), some (zI 0), none]) rfl ?_
      exact kM_loose_L38 N d hd N x1 0 σ w _ h
    · refine ev_s i171_30 (p := 31) rfl ?_
      refine ev_s i171_31 (p := 32) (zic_3 _ _ _ _ _) ?_
      obtain ⟨r10, s9, hr8, h⟩ := b2_some h
      refine ev_callV i171_32 zc8_58 zm110 zo110 (as' := [zI 3]) (rest := []) rfl rfl (Nat.le_of_ble_eq_true rfl) (Nat.le_of_ble_eq_true rfl) (Nat.le_of_ble_eq_true rfl) (by omega) (l0 := [some (zR 8 0), some (zI 3)]) rfl (p := 35) rfl (kM_error 3 σ (r10, s9) hr8 (d - 1) (by omega)) ?_
      change zEv d 171 35 [some (zR 8 0), some (zI x1), none, none] [zI r10] s9 _
      obtain rfl := Option.some.inj h
      exact ev_iret i171_35 zr171
/-! fA_day -/
def fA_day (x1 : Int32) (σ : zS) : Option (Int32 × zS) := (fA_within x1 9999).bind fun r2 => (if r2 = 0 then zb2 (fA_refuse 1 σ) fun r6 s5 => some (r6, s5) else zlt (σ 2 0 10) fun v7 => zlt (zup σ 2 0 10 x1) fun s8 => some (v7, s8))
set_option maxHeartbeats 4000000 in
theorem kA_day (x1 : Int32) (σ : zS) (w : Int32 × zS) (h : fA_day x1 σ = some w) (d : Nat) (hd : 1 ≤ d) : zEv d 75 0 [some (zR 7 0), some (zI x1), none] [] σ (some (zI w.1), w.2) := by
  unfold fA_day at h
  refine ev_s i75_0 (p := 1) rfl ?_
  refine ev_s i75_1 (p := 4) (zis_9999 _ _ _ _ _) ?_
  obtain ⟨r2, hr1, h⟩ := bd_some h
  refine ev_callS i75_4 zn7_64 zc7_64 zm103 (as := [zI x1, zI 9999]) (rest := []) rfl rfl (Nat.le_of_ble_eq_true rfl) (Nat.le_of_ble_eq_true rfl) (Nat.le_of_ble_eq_true rfl) (by omega) (l0 := [some (zI x1), some (zI 9999)]) rfl (p := 7) rfl (kA_within x1 9999 σ r2 hr1 (d - 1) (by omega)) ?_
  change zEv d 75 7 [some (zR 7 0), some (zI x1), none] [zI r2] σ _
  refine ev_ifne i75_7 (t := 16) (by decide) (p := 10) rfl h (fun c3 h => ?_) (fun c3 h => ?_)
  · refine ev_s i75_10 (p := 11) rfl ?_
    refine ev_s i75_11 (p := 12) (zic_1 _ _ _ _ _) ?_
    obtain ⟨r6, s5, hr4, h⟩ := b2_some h
    refine ev_callV i75_12 zc7_72 zm102 zo102 (as' := [zI 1]) (rest := []) rfl rfl (Nat.le_of_ble_eq_true rfl) (Nat.le_of_ble_eq_true rfl) (Nat.le_of_ble_eq_true rfl) (by omega) (l0 := [some (zR 7 0), some (zI 1)]) rfl (p := 15) rfl (kA_refuse 1 σ (r6, s5) hr4 (d - 1) (by omega)) ?_
    change zEv d 75 15 [some (zR 7 0), some (zI x1), none] [zI r6] s5 _
    obtain rfl := Option.some.inj h
    exact ev_iret i75_15 zr75
  · refine ev_s i75_16 (p := 17) rfl ?_
    refine ev_getf i75_17 zf7_47 (u := zR 2 0) rfl (p := 20) rfl ?_
    refine ev_getf i75_20 zf7_158 (u := zI (σ 2 0 10)) rfl (p := 23) rfl ?_
    refine ev_let h (fun v7 ev7 h => ?_)
    refine ev_s i75_23 (p := 24) (l := [some (zR 7 0), some (zI x1), some (zI v7)]) rfl ?_
    refine ev_s i75_24 (p := 25) rfl ?_
    refine ev_getf i75_25 zf7_47 (u := zR 2 0) rfl (p := 28) rfl ?_
    refine ev_s i75_28 (p := 29) rfl ?_
    refine ev_putf i75_29 zf7_158 rfl rfl rfl (p := 32) rfl ?_
    refine ev_lets h (fun s8 es8 h => ?_)
    refine ev_s i75_32 (p := 33) rfl ?_
    obtain rfl := Option.some.inj h
    exact ev_iret i75_33 zr75
/-! fM_day -/
def fM_day (x1 : Int32) (σ : zS) : Option (Int32 × zS) := (fM_in x1 0 9999).bind fun r2 => (if r2 = 0 then zb2 (fM_error 1 σ) fun r6 s5 => some (r6, s5) else zb2 (fM_change1 0 x1 σ) fun r9 s8 => some (r9, s8))
set_option maxHeartbeats 4000000 in
theorem kM_day (x1 : Int32) (σ : zS) (w : Int32 × zS) (h : fM_day x1 σ = some w) (d : Nat) (hd : 1 ≤ d) : zEv d 172 0 [some (zR 8 0), some (zI x1)] [] σ (some (zI w.1), w.2) := by
  unfold fM_day at h
  refine ev_s i172_0 (p := 1) rfl ?_
  refine ev_s i172_1 (p := 2) (zic_0 _ _ _ _ _) ?_
  refine ev_s i172_2 (p := 5) (zis_9999 _ _ _ _ _) ?_
  obtain ⟨r2, hr1, h⟩ := bd_some h
  refine ev_callS i172_5 zn8_50 zc8_50 zm111 (as := [zI x1, zI 0, zI 9999]) (rest := []) rfl rfl (Nat.le_of_ble_eq_true rfl) (Nat.le_of_ble_eq_true rfl) (Nat.le_of_ble_eq_true rfl) (by omega) (l0 := [some (zI x1), some (zI 0), some (zI 9999)]) rfl (p := 8) rfl (kM_in x1 0 9999 σ r2 hr1 (d - 1) (by omega)) ?_
  change zEv d 172 8 [some (zR 8 0), some (zI x1)] [zI r2] σ _
  refine ev_ifeq i172_8 (t := 20) (by decide) (p := 11) rfl h (fun c3 h => ?_) (fun c3 h => ?_)
  · refine ev_s i172_20 (p := 21) rfl ?_
    refine ev_s i172_21 (p := 22) (zic_1 _ _ _ _ _) ?_
    obtain ⟨r6, s5, hr4, h⟩ := b2_some h
    refine ev_callV i172_22 zc8_58 zm110 zo110 (as' := [zI 1]) (rest := []) rfl rfl (Nat.le_of_ble_eq_true rfl) (Nat.le_of_ble_eq_true rfl) (Nat.le_of_ble_eq_true rfl) (by omega) (l0 := [some (zR 8 0), some (zI 1)]) rfl (p := 25) rfl (kM_error 1 σ (r6, s5) hr4 (d - 1) (by omega)) ?_
    change zEv d 172 25 [some (zR 8 0), some (zI x1)] [zI r6] s5 _
    obtain rfl := Option.some.inj h
    exact ev_iret i172_25 zr172
  · refine ev_s i172_11 (p := 12) rfl ?_
    refine ev_s i172_12 (p := 13) (zic_0 _ _ _ _ _) ?_
    refine ev_s i172_13 (p := 14) rfl ?_
    obtain ⟨r9, s8, hr7, h⟩ := b2_some h
    refine ev_callV i172_14 zc8_200 zm120 zo120 (as' := [zI 0, zI x1]) (rest := []) rfl rfl (Nat.le_of_ble_eq_true rfl) (Nat.le_of_ble_eq_true rfl) (Nat.le_of_ble_eq_true rfl) (by omega) (l0 := [some (zR 8 0), some (zI 0), some (zI x1), none]) rfl (p := 17) rfl (kM_change1 0 x1 σ (r9, s8) hr7 (d - 1) (by omega)) ?_
    change zEv d 172 17 [some (zR 8 0), some (zI x1)] [zI r9] s8 _
    refine ev_goto i172_17 (t := 25) (by decide) ?_
    obtain rfl := Option.some.inj h
    exact ev_iret i172_25 zr172
/-! fA_seed -/
def fA_seed (x1 : Int32) (σ : zS) : Option (Int32 × zS) := zlt (σ 2 0 12) fun v1 => zlt (zup σ 2 0 12 x1) fun s2 => some (v1, s2)
set_option maxHeartbeats 4000000 in
theorem kA_seed (x1 : Int32) (σ : zS) (w : Int32 × zS) (h : fA_seed x1 σ = some w) (d : Nat) (hd : 0 ≤ d) : zEv d 76 0 [some (zR 7 0), some (zI x1), none] [] σ (some (zI w.1), w.2) := by
  unfold fA_seed at h
  refine ev_s i76_0 (p := 1) rfl ?_
  refine ev_getf i76_1 zf7_47 (u := zR 2 0) rfl (p := 4) rfl ?_
  refine ev_getf i76_4 zf7_173 (u := zI (σ 2 0 12)) rfl (p := 7) rfl ?_
  refine ev_let h (fun v1 ev1 h => ?_)
  refine ev_s i76_7 (p := 8) (l := [some (zR 7 0), some (zI x1), some (zI v1)]) rfl ?_
  refine ev_s i76_8 (p := 9) rfl ?_
  refine ev_getf i76_9 zf7_47 (u := zR 2 0) rfl (p := 12) rfl ?_
  refine ev_s i76_12 (p := 13) rfl ?_
  refine ev_putf i76_13 zf7_173 rfl rfl rfl (p := 16) rfl ?_
  refine ev_lets h (fun s2 es2 h => ?_)
  refine ev_s i76_16 (p := 17) rfl ?_
  obtain rfl := Option.some.inj h
  exact ev_iret i76_17 zr76
/-! fM_seed -/
def fM_seed (x1 : Int32) (σ : zS) : Option (Int32 × zS) := zb2 (fM_change1 1 x1 σ) fun r3 s2 => some (r3, s2)
set_option maxHeartbeats 4000000 in
theorem kM_seed (x1 : Int32) (σ : zS) (w : Int32 × zS) (h : fM_seed x1 σ = some w) (d : Nat) (hd : 1 ≤ d) : zEv d 173 0 [some (zR 8 0), some (zI x1)] [] σ (some (zI w.1), w.2) := by
  unfold fM_seed at h
  refine ev_s i173_0 (p := 1) rfl ?_
  refine ev_s i173_1 (p := 2) (zic_1 _ _ _ _ _) ?_
  refine ev_s i173_2 (p := 3) rfl ?_
  obtain ⟨r3, s2, hr1, h⟩ := b2_some h
  refine ev_callV i173_3 zc8_200 zm120 zo120 (as' := [zI 1, zI x1]) (rest := []) rfl rfl (Nat.le_of_ble_eq_true rfl) (Nat.le_of_ble_eq_true rfl) (Nat.le_of_ble_eq_true rfl) (by omega) (l0 := [some (zR 8 0), some (zI 1), some (zI x1), none]) rfl (p := 6) rfl (kM_change1 1 x1 σ (r3, s2) hr1 (d - 1) (by omega)) ?_
  change zEv d 173 6 [some (zR 8 0), some (zI x1)] [zI r3] s2 _
  obtain rfl := Option.some.inj h
  exact ev_iret i173_6 zr173
/-! fR_lineOf -/
def fR_lineOf_L7 (N : Nat) (b : Nat) : Nat → Int32 → Int32 → Int32 → zS → Option (Int32)
  | 0, _, _, _, _ => none
  | n + 1, y2, y3, y4, σ => (if 8 ≤ y4 then some (y2) else (if y3 < 0 then some (y2) else zlt (y2 ||| (1 <<< (y3 &&& 31))) fun v3 => zgd (zin y3 8) (zlt (σ 16 b y3.toNatClampNeg) fun v5 => fR_lineOf_L7 N b n v3 v5 (y4 + 1) σ)))
set_option maxHeartbeats 4000000 in
theorem kR_lineOf_L7 (N : Nat) (b : Nat) (d : Nat) (hd : 0 ≤ d)  : ∀ n : Nat, ∀ (y2 : Int32) (y3 : Int32) (y4 : Int32) (σ : zS) (w : Int32) (z1 : Option zA) (hz1 : znl z1 = true), fR_lineOf_L7 N b n y2 y3 y4 σ = some w → zEv d 24 7 [some (zR 2 b), z1, some (zI y2), some (zI y3), some (zI y4)] [] σ (some (zI w), σ) := by
  intro n
  induction n with
  | zero =>
    intro y2 y3 y4 σ w z1 hz1 h
    cases h
  | succ n ih =>
    intro y2 y3 y4 σ w z1 hz1 h
    rw [fR_lineOf_L7] at h
    refine ev_s i24_7 (p := 9) rfl ?_
    refine ev_s i24_9 (p := 11) (zib_8 _ _ _ _ _) ?_
    refine ev_cmpge i24_11 (t := 37) (by decide) (p := 14) rfl h (fun c1 h => ?_) (fun c1 h => ?_)
    · refine ev_s i24_37 (p := 38) rfl ?_
      obtain rfl := Option.some.inj h
      exact ev_iret i24_38 zr24
    · refine ev_s i24_14 (p := 15) rfl ?_
      refine ev_iflt i24_15 (t := 37) (by decide) (p := 18) rfl h (fun c2 h => ?_) (fun c2 h => ?_)
      · refine ev_s i24_37 (p := 38) rfl ?_
        obtain rfl := Option.some.inj h
        exact ev_iret i24_38 zr24
      · refine ev_s i24_18 (p := 19) rfl ?_
        refine ev_s i24_19 (p := 20) (zic_1 _ _ _ _ _) ?_
        refine ev_s i24_20 (p := 21) rfl ?_
        refine ev_s i24_21 (p := 22) (t := [zI (1 <<< (y3 &&& 31)), zI y2]) rfl ?_
        refine ev_s i24_22 (p := 23) (t := [zI (y2 ||| (1 <<< (y3 &&& 31)))]) rfl ?_
        refine ev_let h (fun v3 ev3 h => ?_)
        refine ev_s i24_23 (p := 24) (l := [some (zR 2 b), z1, some (zI v3), some (zI y3), some (zI y4)]) (t := []) (s := σ) (by rcases z1 with _ | _ | _ | _ <;> first | rfl | cases hz1) ?_
        refine ev_s i24_24 (p := 25) rfl ?_
        refine ev_getf i24_25 zf2_18 (u := zR 16 b) rfl (p := 28) rfl ?_
        refine ev_s i24_28 (p := 29) rfl ?_
        refine ev_iald i24_29 rfl (n := 8) rfl (p := 30) rfl h (fun g4 h => ?_)
        refine ev_let h (fun v5 ev5 h => ?_)
        refine ev_s i24_30 (p := 31) (l := [some (zR 2 b), z1, some (zI v3), some (zI v5), some (zI y4)]) rfl ?_
        refine ev_iinc i24_31 zii_1 rfl (l := [some (zR 2 b), z1, some (zI v3), some (zI v5), some (zI (y4 + 1))]) rfl (p := 34) rfl ?_
        refine ev_goto i24_34 (t := 7) (by decide) ?_
        exact ih v3 v5 (y4 + 1) σ w _ hz1 h
def fR_lineOf (N : Nat) (b : Nat) (x1 : Int32) (σ : zS) : Option (Int32) := fR_lineOf_L7 N b N 0 x1 0 σ
set_option maxHeartbeats 4000000 in
theorem kR_lineOf (N : Nat) (b : Nat) (x1 : Int32) (σ : zS) (w : Int32) (h : fR_lineOf N b x1 σ = some w) (d : Nat) (hd : 0 ≤ d) : zEv d 24 0 [some (zR 2 b), some (zI x1), none, none, none] [] σ (some (zI w), σ) := by
  unfold fR_lineOf at h
  refine ev_s i24_0 (p := 1) (zic_0 _ _ _ _ _) ?_
  refine ev_s i24_1 (p := 2) (l := [some (zR 2 b), some (zI x1), some (zI 0), none, none]) rfl ?_
  refine ev_s i24_2 (p := 3) rfl ?_
  refine ev_s i24_3 (p := 4) (l := [some (zR 2 b), some (zI x1), some (zI 0), some (zI x1), none]) rfl ?_
  refine ev_s i24_4 (p := 5) (zic_0 _ _ _ _ _) ?_
  refine ev_s i24_5 (p := 7) (l := [some (zR 2 b), some (zI x1), some (zI 0), some (zI x1), some (zI 0)]) rfl ?_
  exact kR_lineOf_L7 N b d hd N 0 x1 0 σ w _ rfl h
/-! fA_line -/
def fA_line (N : Nat) (x1 : Int32) (σ : zS) : Option (Int32 × zS) := (fA_isThere x1 σ).bind fun r2 => (if r2 = 0 then zb2 (fA_refuse 1 σ) fun r6 s5 => some (r6, s5) else (fR_lineOf N 0 x1 σ).bind fun r8 => some (r8, σ))
set_option maxHeartbeats 4000000 in
theorem kA_line (N : Nat) (x1 : Int32) (σ : zS) (w : Int32 × zS) (h : fA_line N x1 σ = some w) (d : Nat) (hd : 1 ≤ d) : zEv d 77 0 [some (zR 7 0), some (zI x1)] [] σ (some (zI w.1), w.2) := by
  unfold fA_line at h
  refine ev_s i77_0 (p := 1) rfl ?_
  refine ev_s i77_1 (p := 2) rfl ?_
  obtain ⟨r2, hr1, h⟩ := bd_some h
  refine ev_callV i77_2 zc7_68 zm104 zo104 (as' := [zI x1]) (rest := []) rfl rfl (Nat.le_of_ble_eq_true rfl) (Nat.le_of_ble_eq_true rfl) (Nat.le_of_ble_eq_true rfl) (by omega) (l0 := [some (zR 7 0), some (zI x1)]) rfl (p := 5) rfl (kA_isThere x1 σ r2 hr1 (d - 1) (by omega)) ?_
  change zEv d 77 5 [some (zR 7 0), some (zI x1)] [zI r2] σ _
  refine ev_ifeq i77_5 (t := 19) (by decide) (p := 8) rfl h (fun c3 h => ?_) (fun c3 h => ?_)
  · refine ev_s i77_19 (p := 20) rfl ?_
    refine ev_s i77_20 (p := 21) (zic_1 _ _ _ _ _) ?_
    obtain ⟨r6, s5, hr4, h⟩ := b2_some h
    refine ev_callV i77_21 zc7_72 zm102 zo102 (as' := [zI 1]) (rest := []) rfl rfl (Nat.le_of_ble_eq_true rfl) (Nat.le_of_ble_eq_true rfl) (Nat.le_of_ble_eq_true rfl) (by omega) (l0 := [some (zR 7 0), some (zI 1)]) rfl (p := 24) rfl (kA_refuse 1 σ (r6, s5) hr4 (d - 1) (by omega)) ?_
    change zEv d 77 24 [some (zR 7 0), some (zI x1)] [zI r6] s5 _
    obtain rfl := Option.some.inj h
    exact ev_iret i77_24 zr77
  · refine ev_s i77_8 (p := 9) rfl ?_
    refine ev_getf i77_9 zf7_47 (u := zR 2 0) rfl (p := 12) rfl ?_
    refine ev_s i77_12 (p := 13) rfl ?_
    obtain ⟨r8, hr7, h⟩ := bd_some h
    refine ev_callV i77_13 zc7_176 zm24 zo24 (as' := [zI x1]) (rest := []) rfl rfl (Nat.le_of_ble_eq_true rfl) (Nat.le_of_ble_eq_true rfl) (Nat.le_of_ble_eq_true rfl) (by omega) (l0 := [some (zR 2 0), some (zI x1), none, none, none]) rfl (p := 16) rfl (kR_lineOf N 0 x1 σ r8 hr7 (d - 1) (by omega)) ?_
    change zEv d 77 16 [some (zR 7 0), some (zI x1)] [zI r8] σ _
    refine ev_goto i77_16 (t := 24) (by decide) ?_
    obtain rfl := Option.some.inj h
    exact ev_iret i77_24 zr77
/-! fM_lineOf -/
def fM_lineOf_L4 (N : Nat) : Nat → Int32 → Int32 → zS → Option (Int32)
  | 0, _, _, _ => none
  | n + 1, y2, y3, σ => (if y3 < 0 then some (y2) else zlt (y2 ||| (1 <<< (y3 &&& 31))) fun v2 => (fM_its y3 2 σ).bind fun r4 => fM_lineOf_L4 N n v2 r4 σ)
set_option maxHeartbeats 4000000 in
theorem kM_lineOf_L4 (N : Nat) (d : Nat) (hd : 1 ≤ d)  : ∀ n : Nat, ∀ (y2 : Int32) (y3 : Int32) (σ : zS) (w : Int32) (z1 : Option zA) (hz1 : znl z1 = true), fM_lineOf_L4 N n y2 y3 σ = some w → zEv d 174 4 [some (zR 8 0), z1, some (zI y2), some (zI y3)] [] σ (some (zI w), σ) := by
  intro n
  induction n with
  | zero =>
    intro y2 y3 σ w z1 hz1 h
    cases h
  | succ n ih =>
    intro y2 y3 σ w z1 hz1 h
    rw [fM_lineOf_L4] at h
    refine ev_s i174_4 (p := 5) rfl ?_
    refine ev_iflt i174_5 (t := 24) (by decide) (p := 8) rfl h (fun c1 h => ?_) (fun c1 h => ?_)
    · refine ev_s i174_24 (p := 25) rfl ?_
      obtain rfl := Option.some.inj h
      exact ev_iret i174_25 zr174
    · refine ev_s i174_8 (p := 9) rfl ?_
      refine ev_s i174_9 (p := 10) (zic_1 _ _ _ _ _) ?_
      refine ev_s i174_10 (p := 11) rfl ?_
      refine ev_s i174_11 (p := 12) (t := [zI (1 <<< (y3 &&& 31)), zI y2]) rfl ?_
      refine ev_s i174_12 (p := 13) (t := [zI (y2 ||| (1 <<< (y3 &&& 31)))]) rfl ?_
      refine ev_let h (fun v2 ev2 h => ?_)
      refine ev_s i174_13 (p := 14) (l := [some (zR 8 0), z1, some (zI v2), some (zI y3)]) (t := []) (s := σ) (by rcases z1 with _ | _ | _ | _ <;> first | rfl | cases hz1) ?_
      refine ev_s i174_14 (p := 15) rfl ?_
      refine ev_s i174_15 (p := 16) rfl ?_
      refine ev_s i174_16 (p := 17) (zic_2 _ _ _ _ _) ?_
      obtain ⟨r4, hr3, h⟩ := bd_some h
      refine ev_callV i174_17 zc8_54 zm118 zo118 (as' := [zI y3, zI 2]) (rest := []) rfl rfl (Nat.le_of_ble_eq_true rfl) (Nat.le_of_ble_eq_true rfl) (Nat.le_of_ble_eq_true rfl) (by omega) (l0 := [some (zR 8 0), some (zI y3), some (zI 2)]) rfl (p := 20) rfl (kM_its y3 2 σ r4 hr3 (d - 1) (by omega)) ?_
      change zEv d 174 20 [some (zR 8 0), z1, some (zI v2), some (zI y3)] [zI r4] σ _
      refine ev_s i174_20 (p := 21) (l := [some (zR 8 0), z1, some (zI v2), some (zI r4)]) rfl ?_
      refine ev_goto i174_21 (t := 4) (by decide) ?_
      exact ih v2 r4 σ w _ hz1 h
def fM_lineOf (N : Nat) (x1 : Int32) (σ : zS) : Option (Int32) := fM_lineOf_L4 N N 0 x1 σ
set_option maxHeartbeats 4000000 in
theorem kM_lineOf (N : Nat) (x1 : Int32) (σ : zS) (w : Int32) (h : fM_lineOf N x1 σ = some w) (d : Nat) (hd : 1 ≤ d) : zEv d 174 0 [some (zR 8 0), some (zI x1), none, none] [] σ (some (zI w), σ) := by
  unfold fM_lineOf at h
  refine ev_s i174_0 (p := 1) (zic_0 _ _ _ _ _) ?_
  refine ev_s i174_1 (p := 2) (l := [some (zR 8 0), some (zI x1), some (zI 0), none]) rfl ?_
  refine ev_s i174_2 (p := 3) rfl ?_
  refine ev_s i174_3 (p := 4) (l := [some (zR 8 0), some (zI x1), some (zI 0), some (zI x1)]) rfl ?_
  exact kM_lineOf_L4 N d hd N 0 x1 σ w _ rfl h
/-! fM_line -/
def fM_line (N : Nat) (x1 : Int32) (σ : zS) : Option (Int32 × zS) := (fM_isOne x1 σ).bind fun r2 => (if r2 = 0 then zb2 (fM_error 1 σ) fun r6 s5 => some (r6, s5) else (fM_lineOf N x1 σ).bind fun r8 => some (r8, σ))
set_option maxHeartbeats 4000000 in
theorem kM_line (N : Nat) (x1 : Int32) (σ : zS) (w : Int32 × zS) (h : fM_line N x1 σ = some w) (d : Nat) (hd : 2 ≤ d) : zEv d 175 0 [some (zR 8 0), some (zI x1)] [] σ (some (zI w.1), w.2) := by
  unfold fM_line at h
  refine ev_s i175_0 (p := 1) rfl ?_
  refine ev_s i175_1 (p := 2) rfl ?_
  obtain ⟨r2, hr1, h⟩ := bd_some h
  refine ev_callV i175_2 zc8_194 zm116 zo116 (as' := [zI x1]) (rest := []) rfl rfl (Nat.le_of_ble_eq_true rfl) (Nat.le_of_ble_eq_true rfl) (Nat.le_of_ble_eq_true rfl) (by omega) (l0 := [some (zR 8 0), some (zI x1)]) rfl (p := 5) rfl (kM_isOne x1 σ r2 hr1 (d - 1) (by omega)) ?_
  change zEv d 175 5 [some (zR 8 0), some (zI x1)] [zI r2] σ _
  refine ev_ifeq i175_5 (t := 16) (by decide) (p := 8) rfl h (fun c3 h => ?_) (fun c3 h => ?_)
  · refine ev_s i175_16 (p := 17) rfl ?_
    refine ev_s i175_17 (p := 18) (zic_1 _ _ _ _ _) ?_
    obtain ⟨r6, s5, hr4, h⟩ := b2_some h
    refine ev_callV i175_18 zc8_58 zm110 zo110 (as' := [zI 1]) (rest := []) rfl rfl (Nat.le_of_ble_eq_true rfl) (Nat.le_of_ble_eq_true rfl) (Nat.le_of_ble_eq_true rfl) (by omega) (l0 := [some (zR 8 0), some (zI 1)]) rfl (p := 21) rfl (kM_error 1 σ (r6, s5) hr4 (d - 1) (by omega)) ?_
    change zEv d 175 21 [some (zR 8 0), some (zI x1)] [zI r6] s5 _
    obtain rfl := Option.some.inj h
    exact ev_iret i175_21 zr175
  · refine ev_s i175_8 (p := 9) rfl ?_
    refine ev_s i175_9 (p := 10) rfl ?_
    obtain ⟨r8, hr7, h⟩ := bd_some h
    refine ev_callV i175_10 zc8_213 zm174 zo174 (as' := [zI x1]) (rest := []) rfl rfl (Nat.le_of_ble_eq_true rfl) (Nat.le_of_ble_eq_true rfl) (Nat.le_of_ble_eq_true rfl) (by omega) (l0 := [some (zR 8 0), some (zI x1), none, none]) rfl (p := 13) rfl (kM_lineOf N x1 σ r8 hr7 (d - 1) (by omega)) ?_
    change zEv d 175 13 [some (zR 8 0), some (zI x1)] [zI r8] σ _
    refine ev_goto i175_13 (t := 21) (by decide) ?_
    obtain rfl := Option.some.inj h
    exact ev_iret i175_21 zr175
/-! fR_outUpTo -/
def fR_outUpTo_L8 (N : Nat) (b : Nat) : Nat → Int32 → Int32 → Int32 → Int32 → zS → Option (Int32)
  | 0, _, _, _, _, _ => none
  | n + 1, y2, y3, y4, y5, σ => (if 8 ≤ y5 then some (y3) else (if y4 < 0 then some (y3) else (if ((y2 >>> (y4 &&& 31)) &&& 1) = 0 then zgd (zin y4 8) (zlt (y3 + (σ 18 b y4.toNatClampNeg)) fun v5 => zgd (zin y4 8) (zlt (σ 16 b y4.toNatClampNeg) fun v7 => fR_outUpTo_L8 N b n y2 v5 v7 (y5 + 1) σ)) else some (y3))))
set_option maxHeartbeats 4000000 in
theorem kR_outUpTo_L8 (N : Nat) (b : Nat) (d : Nat) (hd : 0 ≤ d)  : ∀ n : Nat, ∀ (y2 : Int32) (y3 : Int32) (y4 : Int32) (y5 : Int32) (σ : zS) (w : Int32) (z1 : Option zA), fR_outUpTo_L8 N b n y2 y3 y4 y5 σ = some w → zEv d 25 8 [some (zR 2 b), z1, some (zI y2), some (zI y3), some (zI y4), some (zI y5)] [] σ (some (zI w), σ) := by
  intro n
  induction n with
  | zero =>
    intro y2 y3 y4 y5 σ w z1 h
    cases h
  | succ n ih =>
    intro y2 y3 y4 y5 σ w z1 h
    rw [fR_outUpTo_L8] at h
    refine ev_s i25_8 (p := 10) rfl ?_
    refine ev_s i25_10 (p := 12) (zib_8 _ _ _ _ _) ?_
    refine ev_cmpge i25_12 (t := 54) (by decide) (p := 15) rfl h (fun c1 h => ?_) (fun c1 h => ?_)
    · refine ev_s i25_54 (p := 55) rfl ?_
      obtain rfl := Option.some.inj h
      exact ev_iret i25_55 zr25
    · refine ev_s i25_15 (p := 17) rfl ?_
      refine ev_iflt i25_17 (t := 54) (by decide) (p := 20) rfl h (fun c2 h => ?_) (fun c2 h => ?_)
      · refine ev_s i25_54 (p := 55) rfl ?_
        obtain rfl := Option.some.inj h
        exact ev_iret i25_55 zr25
      · refine ev_s i25_20 (p := 21) rfl ?_
        refine ev_s i25_21 (p := 23) rfl ?_
        refine ev_s i25_23 (p := 24) (t := [zI (y2 >>> (y4 &&& 31))]) rfl ?_
        refine ev_s i25_24 (p := 25) (zic_1 _ _ _ _ _) ?_
        refine ev_s i25_25 (p := 26) (t := [zI ((y2 >>> (y4 &&& 31)) &&& 1)]) rfl ?_
        refine ev_ifne i25_26 (t := 54) (by decide) (p := 29) rfl h (fun c3 h => ?_) (fun c3 h => ?_)
        · refine ev_s i25_29 (p := 30) rfl ?_
          refine ev_s i25_30 (p := 31) rfl ?_
          refine ev_getf i25_31 zf2_24 (u := zR 18 b) rfl (p := 34) rfl ?_
          refine ev_s i25_34 (p := 36) rfl ?_
          refine ev_iald i25_36 rfl (n := 8) rfl (p := 37) rfl h (fun g4 h => ?_)
          refine ev_s i25_37 (p := 38) (t := [zI (y3 + (σ 18 b y4.toNatClampNeg))]) rfl ?_
          refine ev_let h (fun v5 ev5 h => ?_)
          refine ev_s i25_38 (p := 39) (l := [some (zR 2 b), z1, some (zI y2), some (zI v5), some (zI y4), some (zI y5)]) rfl ?_
          refine ev_s i25_39 (p := 40) rfl ?_
          refine ev_getf i25_40 zf2_18 (u := zR 16 b) rfl (p := 43) rfl ?_
          refine ev_s i25_43 (p := 45) rfl ?_
          refine ev_iald i25_45 rfl (n := 8) rfl (p := 46) rfl h (fun g6 h => ?_)
          refine ev_let h (fun v7 ev7 h => ?_)
          refine ev_s i25_46 (p := 48) (l := [some (zR 2 b), z1, some (zI y2), some (zI v5), some (zI v7), some (zI y5)]) rfl ?_
          refine ev_iinc i25_48 zii_1 rfl (l := [some (zR 2 b), z1, some (zI y2), some (zI v5), some (zI v7), some (zI (y5 + 1))]) rfl (p := 51) rfl ?_
          refine ev_goto i25_51 (t := 8) (by decide) ?_
          exact ih y2 v5 v7 (y5 + 1) σ w _ h
        · refine ev_s i25_54 (p := 55) rfl ?_
          obtain rfl := Option.some.inj h
          exact ev_iret i25_55 zr25
def fR_outUpTo (N : Nat) (b : Nat) (x1 : Int32) (x2 : Int32) (σ : zS) : Option (Int32) := fR_outUpTo_L8 N b N x2 0 x1 0 σ
set_option maxHeartbeats 4000000 in
theorem kR_outUpTo (N : Nat) (b : Nat) (x1 : Int32) (x2 : Int32) (σ : zS) (w : Int32) (h : fR_outUpTo N b x1 x2 σ = some w) (d : Nat) (hd : 0 ≤ d) : zEv d 25 0 [some (zR 2 b), some (zI x1), some (zI x2), none, none, none] [] σ (some (zI w), σ) := by
  unfold fR_outUpTo at h
  refine ev_s i25_0 (p := 1) (zic_0 _ _ _ _ _) ?_
  refine ev_s i25_1 (p := 2) (l := [some (zR 2 b), some (zI x1), some (zI x2), some (zI 0), none, none]) rfl ?_
  refine ev_s i25_2 (p := 3) rfl ?_
  refine ev_s i25_3 (p := 5) (l := [some (zR 2 b), some (zI x1), some (zI x2), some (zI 0), some (zI x1), none]) rfl ?_
  refine ev_s i25_5 (p := 6) (zic_0 _ _ _ _ _) ?_
  refine ev_s i25_6 (p := 8) (l := [some (zR 2 b), some (zI x1), some (zI x2), some (zI 0), some (zI x1), some (zI 0)]) rfl ?_
  exact kR_outUpTo_L8 N b d hd N x2 0 x1 0 σ w _ h
/-! fA_between -/
def fA_between_J16 (N : Nat) (σ : zS) : Option (Int32 × zS) := zb2 (fA_refuse 1 σ) fun r22 s21 => some (r22, s21)
set_option maxHeartbeats 4000000 in
theorem kA_between_J16 (N : Nat) (d : Nat) (hd : 1 ≤ d)  : ∀ (σ : zS) (w : Int32 × zS) (z1 : Option zA) (z2 : Option zA) (hz2 : znl z2 = true) (z3 : Option zA), fA_between_J16 N σ = some w → zEv d 78 16 [some (zR 7 0), z1, z2, z3] [] σ (some (zI w.1), w.2) := by
  intro σ w z1 z2 hz2 z3 h
  unfold fA_between_J16 at h
  refine ev_s i78_16 (p := 17) rfl ?_
  refine ev_s i78_17 (p := 18) (zic_1 _ _ _ _ _) ?_
  obtain ⟨r22, s21, hr20, h⟩ := b2_some h
  refine ev_callV i78_18 zc7_72 zm102 zo102 (as' := [zI 1]) (rest := []) rfl rfl (Nat.le_of_ble_eq_true rfl) (Nat.le_of_ble_eq_true rfl) (Nat.le_of_ble_eq_true rfl) (by omega) (l0 := [some (zR 7 0), some (zI 1)]) rfl (p := 21) rfl (kA_refuse 1 σ (r22, s21) hr20 (d - 1) (by omega)) ?_
  change zEv d 78 21 [some (zR 7 0), z1, z2, z3] [zI r22] s21 _
  obtain rfl := Option.some.inj h
  exact ev_iret i78_21 zr78
def fA_between (N : Nat) (x1 : Int32) (x2 : Int32) (σ : zS) : Option (Int32 × zS) := (fA_isThere x1 σ).bind fun r2 => (if r2 = 0 then fA_between_J16 N σ else (fA_isThere x2 σ).bind fun r5 => (if r5 = 0 then fA_between_J16 N σ else (fR_lineOf N 0 x1 σ).bind fun r8 => (fR_lineOf N 0 x2 σ).bind fun r10 => zlt (r8 &&& r10) fun v11 => (if v11 = 0 then zb2 (fA_refuse 2 σ) fun r15 s14 => some (r15, s14) else (fR_outUpTo N 0 x1 v11 σ).bind fun r17 => (fR_outUpTo N 0 x2 v11 σ).bind fun r19 => some (r17 + r19, σ))))
set_option maxHeartbeats 4000000 in
theorem kA_between (N : Nat) (x1 : Int32) (x2 : Int32) (σ : zS) (w : Int32 × zS) (h : fA_between N x1 x2 σ = some w) (d : Nat) (hd : 1 ≤ d) : zEv d 78 0 [some (zR 7 0), some (zI x1), some (zI x2), none] [] σ (some (zI w.1), w.2) := by
  unfold fA_between at h
  refine ev_s i78_0 (p := 1) rfl ?_
  refine ev_s i78_1 (p := 2) rfl ?_
  obtain ⟨r2, hr1, h⟩ := bd_some h
  refine ev_callV i78_2 zc7_68 zm104 zo104 (as' := [zI x1]) (rest := []) rfl rfl (Nat.le_of_ble_eq_true rfl) (Nat.le_of_ble_eq_true rfl) (Nat.le_of_ble_eq_true rfl) (by omega) (l0 := [some (zR 7 0), some (zI x1)]) rfl (p := 5) rfl (kA_isThere x1 σ r2 hr1 (d - 1) (by omega)) ?_
  change zEv d 78 5 [some (zR 7 0), some (zI x1), some (zI x2), none] [zI r2] σ _
  refine ev_ifeq i78_5 (t := 16) (by decide) (p := 8) rfl h (fun c3 h => ?_) (fun c3 h => ?_)
  · exact kA_between_J16 N d hd σ w _ _ rfl _ h
  · refine ev_s i78_8 (p := 9) rfl ?_
    refine ev_s i78_9 (p := 10) rfl ?_
    obtain ⟨r5, hr4, h⟩ := bd_some h
    refine ev_callV i78_10 zc7_68 zm104 zo104 (as' := [zI x2]) (rest := []) rfl rfl (Nat.le_of_ble_eq_true rfl) (Nat.le_of_ble_eq_true rfl) (Nat.le_of_ble_eq_true rfl) (by omega) (l0 := [some (zR 7 0), some (zI x2)]) rfl (p := 13) rfl (kA_isThere x2 σ r5 hr4 (d - 1) (by omega)) ?_
    change zEv d 78 13 [some (zR 7 0), some (zI x1), some (zI x2), none] [zI r5] σ _
    refine ev_ifne i78_13 (t := 22) (by decide) (p := 16) rfl h (fun c6 h => ?_) (fun c6 h => ?_)
    · exact kA_between_J16 N d hd σ w _ _ rfl _ h
    · refine ev_s i78_22 (p := 23) rfl ?_
      refine ev_getf i78_23 zf7_47 (u := zR 2 0) rfl (p := 26) rfl ?_
      refine ev_s i78_26 (p := 27) rfl ?_
      obtain ⟨r8, hr7, h⟩ := bd_some h
      refine ev_callV i78_27 zc7_176 zm24 zo24 (as' := [zI x1]) (rest := []) rfl rfl (Nat.le_of_ble_eq_true rfl) (Nat.le_of_ble_eq_true rfl) (Nat.le_of_ble_eq_true rfl) (by omega) (l0 := [some (zR 2 0), some (zI x1), none, none, none]) rfl (p := 30) rfl (kR_lineOf N 0 x1 σ r8 hr7 (d - 1) (by omega)) ?_
      change zEv d 78 30 [some (zR 7 0), some (zI x1), some (zI x2), none] [zI r8] σ _
      refine ev_s i78_30 (p := 31) rfl ?_
      refine ev_getf i78_31 zf7_47 (u := zR 2 0) rfl (p := 34) rfl ?_
      refine ev_s i78_34 (p := 35) rfl ?_
      obtain ⟨r10, hr9, h⟩ := bd_some h
      refine ev_callV i78_35 zc7_176 zm24 zo24 (as' := [zI x2]) (rest := [zI r8]) rfl rfl (Nat.le_of_ble_eq_true rfl) (Nat.le_of_ble_eq_true rfl) (Nat.le_of_ble_eq_true rfl) (by omega) (l0 := [some (zR 2 0), some (zI x2), none, none, none]) rfl (p := 38) rfl (kR_lineOf N 0 x2 σ r10 hr9 (d - 1) (by omega)) ?_
      change zEv d 78 38 [some (zR 7 0), some (zI x1), some (zI x2), none] [zI r10, zI r8] σ _
      refine ev_s i78_38 (p := 39) (t := [zI (r8 &&& r10)]) rfl ?_
      refine ev_let h (fun v11 ev11 h => ?_)
      refine ev_s i78_39 (p := 40) (l := [some (zR 7 0), some (zI x1), some (zI x2), some (zI v11)]) rfl ?_
      refine ev_s i78_40 (p := 41) rfl ?_
      refine ev_ifne i78_41 (t := 50) (by decide) (p := 44) rfl h (fun c12 h => ?_) (fun c12 h => ?_)
      · refine ev_s i78_44 (p := 45) rfl ?_
        refine ev_s i78_45 (p := 46) (zic_2 _ _ _ _ _) ?_
        obtain ⟨r15, s14, hr13, h⟩ := b2_some h
        refine ev_callV i78_46 zc7_72 zm102 zo102 (as' := [zI 2]) (rest := []) rfl rfl (Nat.le_of_ble_eq_true rfl) (Nat.le_of_ble_eq_true rfl) (Nat.le_of_ble_eq_true rfl) (by omega) (l0 := [some (zR 7 0), some (zI 2)]) rfl (p := 49) rfl (kA_refuse 2 σ (r15, s14) hr13 (d - 1) (by omega)) ?_
        change zEv d 78 49 [some (zR 7 0), some (zI x1), some (zI x2), some (zI v11)] [zI r15] s14 _
        obtain rfl := Option.some.inj h
        exact ev_iret i78_49 zr78
      · refine ev_s i78_50 (p := 51) rfl ?_
        refine ev_getf i78_51 zf7_47 (u := zR 2 0) rfl (p := 54) rfl ?_
        refine ev_s i78_54 (p := 55) rfl ?_
        refine ev_s i78_55 (p := 56) rfl ?_
        obtain ⟨r17, hr16, h⟩ := bd_some h
        refine ev_callV i78_56 zc7_179 zm25 zo25 (as' := [zI x1, zI v11]) (rest := []) rfl rfl (Nat.le_of_ble_eq_true rfl) (Nat.le_of_ble_eq_true rfl) (Nat.le_of_ble_eq_true rfl) (by omega) (l0 := [some (zR 2 0), some (zI x1), some (zI v11), none, none, none]) rfl (p := 59) rfl (kR_outUpTo N 0 x1 v11 σ r17 hr16 (d - 1) (by omega)) ?_
        change zEv d 78 59 [some (zR 7 0), some (zI x1), some (zI x2), some (zI v11)] [zI r17] σ _
        refine ev_s i78_59 (p := 60) rfl ?_
        refine ev_getf i78_60 zf7_47 (u := zR 2 0) rfl (p := 63) rfl ?_
        refine ev_s i78_63 (p := 64) rfl ?_
        refine ev_s i78_64 (p := 65) rfl ?_
        obtain ⟨r19, hr18, h⟩ := bd_some h
        refine ev_callV i78_65 zc7_179 zm25 zo25 (as' := [zI x2, zI v11]) (rest := [zI r17]) rfl rfl (Nat.le_of_ble_eq_true rfl) (Nat.le_of_ble_eq_true rfl) (Nat.le_of_ble_eq_true rfl) (by omega) (l0 := [some (zR 2 0), some (zI x2), some (zI v11), none, none, none]) rfl (p := 68) rfl (kR_outUpTo N 0 x2 v11 σ r19 hr18 (d - 1) (by omega)) ?_
        change zEv d 78 68 [some (zR 7 0), some (zI x1), some (zI x2), some (zI v11)] [zI r19, zI r17] σ _
        refine ev_s i78_68 (p := 69) (t := [zI (r17 + r19)]) rfl ?_
        obtain rfl := Option.some.inj h
        exact ev_iret i78_69 zr78
/-! fM_outTo -/
def fM_outTo_L5 (N : Nat) : Nat → Int32 → Int32 → Int32 → zS → Option (Int32)
  | 0, _, _, _, _ => none
  | n + 1, y2, y3, y4, σ => (if ((y2 >>> (y4 &&& 31)) &&& 1) = 0 then (fM_its y4 4 σ).bind fun r3 => zlt (y3 + r3) fun v4 => (fM_its y4 2 σ).bind fun r6 => fM_outTo_L5 N n y2 v4 r6 σ else some (y3))
set_option maxHeartbeats 4000000 in
theorem kM_outTo_L5 (N : Nat) (d : Nat) (hd : 1 ≤ d)  : ∀ n : Nat, ∀ (y2 : Int32) (y3 : Int32) (y4 : Int32) (σ : zS) (w : Int32) (z1 : Option zA), fM_outTo_L5 N n y2 y3 y4 σ = some w → zEv d 176 5 [some (zR 8 0), z1, some (zI y2), some (zI y3), some (zI y4)] [] σ (some (zI w), σ) := by
  intro n
  induction n with
  | zero =>
    intro y2 y3 y4 σ w z1 h
    cases h
  | succ n ih =>
    intro y2 y3 y4 σ w z1 h
    rw [fM_outTo_L5] at h
    refine ev_s i176_5 (p := 6) rfl ?_
    refine ev_s i176_6 (p := 8) rfl ?_
    refine ev_s i176_8 (p := 9) (t := [zI (y2 >>> (y4 &&& 31))]) rfl ?_
    refine ev_s i176_9 (p := 10) (zic_1 _ _ _ _ _) ?_
    refine ev_s i176_10 (p := 11) (t := [zI ((y2 >>> (y4 &&& 31)) &&& 1)]) rfl ?_
    refine ev_ifne i176_11 (t := 36) (by decide) (p := 14) rfl h (fun c1 h => ?_) (fun c1 h => ?_)
    · refine ev_s i176_14 (p := 15) rfl ?_
      refine ev_s i176_15 (p := 16) rfl ?_
      refine ev_s i176_16 (p := 18) rfl ?_
      refine ev_s i176_18 (p := 19) (zic_4 _ _ _ _ _) ?_
      obtain ⟨r3, hr2, h⟩ := bd_some h
      refine ev_callV i176_19 zc8_54 zm118 zo118 (as' := [zI y4, zI 4]) (rest := [zI y3]) rfl rfl (Nat.le_of_ble_eq_true rfl) (Nat.le_of_ble_eq_true rfl) (Nat.le_of_ble_eq_true rfl) (by omega) (l0 := [some (zR 8 0), some (zI y4), some (zI 4)]) rfl (p := 22) rfl (kM_its y4 4 σ r3 hr2 (d - 1) (by omega)) ?_
      change zEv d 176 22 [some (zR 8 0), z1, some (zI y2), some (zI y3), some (zI y4)] [zI r3, zI y3] σ _
      refine ev_s i176_22 (p := 23) (t := [zI (y3 + r3)]) rfl ?_
      refine ev_let h (fun v4 ev4 h => ?_)
      refine ev_s i176_23 (p := 24) (l := [some (zR 8 0), z1, some (zI y2), some (zI v4), some (zI y4)]) rfl ?_
      refine ev_s i176_24 (p := 25) rfl ?_
      refine ev_s i176_25 (p := 27) rfl ?_
      refine ev_s i176_27 (p := 28) (zic_2 _ _ _ _ _) ?_
      obtain ⟨r6, hr5, h⟩ := bd_some h
      refine ev_callV i176_28 zc8_54 zm118 zo118 (as' := [zI y4, zI 2]) (rest := []) rfl rfl (Nat.le_of_ble_eq_true rfl) (Nat.le_of_ble_eq_true rfl) (Nat.le_of_ble_eq_true rfl) (by omega) (l0 := [some (zR 8 0), some (zI y4), some (zI 2)]) rfl (p := 31) rfl (kM_its y4 2 σ r6 hr5 (d - 1) (by omega)) ?_
      change zEv d 176 31 [some (zR 8 0), z1, some (zI y2), some (zI v4), some (zI y4)] [zI r6] σ _
      refine ev_s i176_31 (p := 33) (l := [some (zR 8 0), z1, some (zI y2), some (zI v4), some (zI r6)]) rfl ?_
      refine ev_goto i176_33 (t := 5) (by decide) ?_
      exact ih y2 v4 r6 σ w _ h
    · refine ev_s i176_36 (p := 37) rfl ?_
      obtain rfl := Option.some.inj h
      exact ev_iret i176_37 zr176
def fM_outTo (N : Nat) (x1 : Int32) (x2 : Int32) (σ : zS) : Option (Int32) := fM_outTo_L5 N N x2 0 x1 σ
set_option maxHeartbeats 4000000 in
theorem kM_outTo (N : Nat) (x1 : Int32) (x2 : Int32) (σ : zS) (w : Int32) (h : fM_outTo N x1 x2 σ = some w) (d : Nat) (hd : 1 ≤ d) : zEv d 176 0 [some (zR 8 0), some (zI x1), some (zI x2), none, none] [] σ (some (zI w), σ) := by
  unfold fM_outTo at h
  refine ev_s i176_0 (p := 1) (zic_0 _ _ _ _ _) ?_
  refine ev_s i176_1 (p := 2) (l := [some (zR 8 0), some (zI x1), some (zI x2), some (zI 0), none]) rfl ?_
  refine ev_s i176_2 (p := 3) rfl ?_
  refine ev_s i176_3 (p := 5) (l := [some (zR 8 0), some (zI x1), some (zI x2), some (zI 0), some (zI x1)]) rfl ?_
  exact kM_outTo_L5 N d hd N x2 0 x1 σ w _ h
/-! fM_between -/
def fM_between_J16 (N : Nat) (σ : zS) : Option (Int32 × zS) := zb2 (fM_error 1 σ) fun r22 s21 => some (r22, s21)
set_option maxHeartbeats 4000000 in
theorem kM_between_J16 (N : Nat) (d : Nat) (hd : 2 ≤ d)  : ∀ (σ : zS) (w : Int32 × zS) (z1 : Option zA) (z2 : Option zA) (hz2 : znl z2 = true) (z3 : Option zA), fM_between_J16 N σ = some w → zEv d 177 16 [some (zR 8 0), z1, z2, z3] [] σ (some (zI w.1), w.2) := by
  intro σ w z1 z2 hz2 z3 h
  unfold fM_between_J16 at h
  refine ev_s i177_16 (p := 17) rfl ?_
  refine ev_s i177_17 (p := 18) (zic_1 _ _ _ _ _) ?_
  obtain ⟨r22, s21, hr20, h⟩ := b2_some h
  refine ev_callV i177_18 zc8_58 zm110 zo110 (as' := [zI 1]) (rest := []) rfl rfl (Nat.le_of_ble_eq_true rfl) (Nat.le_of_ble_eq_true rfl) (Nat.le_of_ble_eq_true rfl) (by omega) (l0 := [some (zR 8 0), some (zI 1)]) rfl (p := 21) rfl (kM_error 1 σ (r22, s21) hr20 (d - 1) (by omega)) ?_
  change zEv d 177 21 [some (zR 8 0), z1, z2, z3] [zI r22] s21 _
  obtain rfl := Option.some.inj h
  exact ev_iret i177_21 zr177
def fM_between (N : Nat) (x1 : Int32) (x2 : Int32) (σ : zS) : Option (Int32 × zS) := (fM_isOne x1 σ).bind fun r2 => (if r2 = 0 then fM_between_J16 N σ else (fM_isOne x2 σ).bind fun r5 => (if r5 = 0 then fM_between_J16 N σ else (fM_lineOf N x1 σ).bind fun r8 => (fM_lineOf N x2 σ).bind fun r10 => zlt (r8 &&& r10) fun v11 => (if v11 = 0 then zb2 (fM_error 2 σ) fun r15 s14 => some (r15, s14) else (fM_outTo N x1 v11 σ).bind fun r17 => (fM_outTo N x2 v11 σ).bind fun r19 => some (r17 + r19, σ))))
set_option maxHeartbeats 4000000 in
theorem kM_between (N : Nat) (x1 : Int32) (x2 : Int32) (σ : zS) (w : Int32 × zS) (h : fM_between N x1 x2 σ = some w) (d : Nat) (hd : 2 ≤ d) : zEv d 177 0 [some (zR 8 0), some (zI x1), some (zI x2), none] [] σ (some (zI w.1), w.2) := by
  unfold fM_between at h
  refine ev_s i177_0 (p := 1) rfl ?_
  refine ev_s i177_1 (p := 2) rfl ?_
  obtain ⟨r2, hr1, h⟩ := bd_some h
  refine ev_callV i177_2 zc8_194 zm116 zo116 (as' := [zI x1]) (rest := []) rfl rfl (Nat.le_of_ble_eq_true rfl) (Nat.le_of_ble_eq_true rfl) (Nat.le_of_ble_eq_true rfl) (by omega) (l0 := [some (zR 8 0), some (zI x1)]) rfl (p := 5) rfl (kM_isOne x1 σ r2 hr1 (d - 1) (by omega)) ?_
  change zEv d 177 5 [some (zR 8 0), some (zI x1), some (zI x2), none] [zI r2] σ _
  refine ev_ifeq i177_5 (t := 16) (by decide) (p := 8) rfl h (fun c3 h => ?_) (fun c3 h => ?_)
  · exact kM_between_J16 N d hd σ w _ _ rfl _ h
  · refine ev_s i177_8 (p := 9) rfl ?_
    refine ev_s i177_9 (p := 10) rfl ?_
    obtain ⟨r5, hr4, h⟩ := bd_some h
    refine ev_callV i177_10 zc8_194 zm116 zo116 (as' := [zI x2]) (rest := []) rfl rfl (Nat.le_of_ble_eq_true rfl) (Nat.le_of_ble_eq_true rfl) (Nat.le_of_ble_eq_true rfl) (by omega) (l0 := [some (zR 8 0), some (zI x2)]) rfl (p := 13) rfl (kM_isOne x2 σ r5 hr4 (d - 1) (by omega)) ?_
    change zEv d 177 13 [some (zR 8 0), some (zI x1), some (zI x2), none] [zI r5] σ _
    refine ev_ifne i177_13 (t := 22) (by decide) (p := 16) rfl h (fun c6 h => ?_) (fun c6 h => ?_)
    · exact kM_between_J16 N d hd σ w _ _ rfl _ h
    · refine ev_s i177_22 (p := 23) rfl ?_
      refine ev_s i177_23 (p := 24) rfl ?_
      obtain ⟨r8, hr7, h⟩ := bd_some h
      refine ev_callV i177_24 zc8_213 zm174 zo174 (as' := [zI x1]) (rest := []) rfl rfl (Nat.le_of_ble_eq_true rfl) (Nat.le_of_ble_eq_true rfl) (Nat.le_of_ble_eq_true rfl) (by omega) (l0 := [some (zR 8 0), some (zI x1), none, none]) rfl (p := 27) rfl (kM_lineOf N x1 σ r8 hr7 (d - 1) (by omega)) ?_
      change zEv d 177 27 [some (zR 8 0), some (zI x1), some (zI x2), none] [zI r8] σ _
      refine ev_s i177_27 (p := 28) rfl ?_
      refine ev_s i177_28 (p := 29) rfl ?_
      obtain ⟨r10, hr9, h⟩ := bd_some h
      refine ev_callV i177_29 zc8_213 zm174 zo174 (as' := [zI x2]) (rest := [zI r8]) rfl rfl (Nat.le_of_ble_eq_true rfl) (Nat.le_of_ble_eq_true rfl) (Nat.le_of_ble_eq_true rfl) (by omega) (l0 := [some (zR 8 0), some (zI x2), none, none]) rfl (p := 32) rfl (kM_lineOf N x2 σ r10 hr9 (d - 1) (by omega)) ?_
      change zEv d 177 32 [some (zR 8 0), some (zI x1), some (zI x2), none] [zI r10, zI r8] σ _
      refine ev_s i177_32 (p := 33) (t := [zI (r8 &&& r10)]) rfl ?_
      refine ev_let h (fun v11 ev11 h => ?_)
      refine ev_s i177_33 (p := 34) (l := [some (zR 8 0), some (zI x1), some (zI x2), some (zI v11)]) rfl ?_
      refine ev_s i177_34 (p := 35) rfl ?_
      refine ev_ifne i177_35 (t := 46) (by decide) (p := 38) rfl h (fun c12 h => ?_) (fun c12 h => ?_)
      · refine ev_s i177_38 (p := 39) rfl ?_
        refine ev_s i177_39 (p := 40) (zic_2 _ _ _ _ _) ?_
        obtain ⟨r15, s14, hr13, h⟩ := b2_some h
        refine ev_callV i177_40 zc8_58 zm110 zo110 (as' := [zI 2]) (rest := []) rfl rfl (Nat.le_of_ble_eq_true rfl) (Nat.le_of_ble_eq_true rfl) (Nat.le_of_ble_eq_true rfl) (by omega) (l0 := [some (zR 8 0), some (zI 2)]) rfl (p := 43) rfl (kM_error 2 σ (r15, s14) hr13 (d - 1) (by omega)) ?_
        change zEv d 177 43 [some (zR 8 0), some (zI x1), some (zI x2), some (zI v11)] [zI r15] s14 _
        refine ev_goto i177_43 (t := 59) (by decide) ?_
        obtain rfl := Option.some.inj h
        exact ev_iret i177_59 zr177
      · refine ev_s i177_46 (p := 47) rfl ?_
        refine ev_s i177_47 (p := 48) rfl ?_
        refine ev_s i177_48 (p := 49) rfl ?_
        obtain ⟨r17, hr16, h⟩ := bd_some h
        refine ev_callV i177_49 zc8_216 zm176 zo176 (as' := [zI x1, zI v11]) (rest := []) rfl rfl (Nat.le_of_ble_eq_true rfl) (Nat.le_of_ble_eq_true rfl) (Nat.le_of_ble_eq_true rfl) (by omega) (l0 := [some (zR 8 0), some (zI x1), some (zI v11), none, none]) rfl (p := 52) rfl (kM_outTo N x1 v11 σ r17 hr16 (d - 1) (by omega)) ?_
        change zEv d 177 52 [some (zR 8 0), some (zI x1), some (zI x2), some (zI v11)] [zI r17] σ _
        refine ev_s i177_52 (p := 53) rfl ?_
        refine ev_s i177_53 (p := 54) rfl ?_
        refine ev_s i177_54 (p := 55) rfl ?_
        obtain ⟨r19, hr18, h⟩ := bd_some h
        refine ev_callV i177_55 zc8_216 zm176 zo176 (as' := [zI x2, zI v11]) (rest := [zI r17]) rfl rfl (Nat.le_of_ble_eq_true rfl) (Nat.le_of_ble_eq_true rfl) (Nat.le_of_ble_eq_true rfl) (by omega) (l0 := [some (zR 8 0), some (zI x2), some (zI v11), none, none]) rfl (p := 58) rfl (kM_outTo N x2 v11 σ r19 hr18 (d - 1) (by omega)) ?_
        change zEv d 177 58 [some (zR 8 0), some (zI x1), some (zI x2), some (zI v11)] [zI r19, zI r17] σ _
        refine ev_s i177_58 (p := 59) (t := [zI (r17 + r19)]) rfl ?_
        obtain rfl := Option.some.inj h
        exact ev_iret i177_59 zr177
/-! fR_low -/
def fR_low (b : Nat) (x1 : Int32) (σ : zS) : Option (Int32) := zgd (zin x1 8) (zlt (σ 16 b x1.toNatClampNeg) fun v2 => (if v2 < 0 then zgd (zin x1 8) (some (σ 17 b x1.toNatClampNeg)) else zgd (zin x1 8) (zgd (zin v2 8) ((fJ_min (σ 17 b x1.toNatClampNeg) (σ 17 b v2.toNatClampNeg)).bind fun r8 => some (r8)))))
set_option maxHeartbeats 4000000 in
theorem kR_low (b : Nat) (x1 : Int32) (σ : zS) (w : Int32) (h : fR_low b x1 σ = some w) (d : Nat) (hd : 1 ≤ d) : zEv d 26 0 [some (zR 2 b), some (zI x1), none] [] σ (some (zI w), σ) := by
  unfold fR_low at h
  refine ev_s i26_0 (p := 1) rfl ?_
  refine ev_getf i26_1 zf2_18 (u := zR 16 b) rfl (p := 4) rfl ?_
  refine ev_s i26_4 (p := 5) rfl ?_
  refine ev_iald i26_5 rfl (n := 8) rfl (p := 6) rfl h (fun g1 h => ?_)
  refine ev_let h (fun v2 ev2 h => ?_)
  refine ev_s i26_6 (p := 7) (l := [some (zR 2 b), some (zI x1), some (zI v2)]) rfl ?_
  refine ev_s i26_7 (p := 8) rfl ?_
  refine ev_iflt i26_8 (t := 29) (by decide) (p := 11) rfl h (fun c3 h => ?_) (fun c3 h => ?_)
  · refine ev_s i26_29 (p := 30) rfl ?_
    refine ev_getf i26_30 zf2_21 (u := zR 17 b) rfl (p := 33) rfl ?_
    refine ev_s i26_33 (p := 34) rfl ?_
    refine ev_iald i26_34 rfl (n := 8) rfl (p := 35) rfl h (fun g4 h => ?_)
    obtain rfl := Option.some.inj h
    exact ev_iret i26_35 zr26
  · refine ev_s i26_11 (p := 12) rfl ?_
    refine ev_getf i26_12 zf2_21 (u := zR 17 b) rfl (p := 15) rfl ?_
    refine ev_s i26_15 (p := 16) rfl ?_
    refine ev_iald i26_16 rfl (n := 8) rfl (p := 17) rfl h (fun g5 h => ?_)
    refine ev_s i26_17 (p := 18) rfl ?_
    refine ev_getf i26_18 zf2_21 (u := zR 17 b) rfl (p := 21) rfl ?_
    refine ev_s i26_21 (p := 22) rfl ?_
    refine ev_iald i26_22 rfl (n := 8) rfl (p := 23) rfl h (fun g6 h => ?_)
    obtain ⟨r8, hr7, h⟩ := bd_some h
    refine ev_callS i26_23 zn2_75 zc2_75 zm223 (as := [zI (σ 17 b x1.toNatClampNeg), zI (σ 17 b v2.toNatClampNeg)]) (rest := []) rfl rfl (Nat.le_of_ble_eq_true rfl) (Nat.le_of_ble_eq_true rfl) (Nat.le_of_ble_eq_true rfl) (by omega) (l0 := [some (zI (σ 17 b x1.toNatClampNeg)), some (zI (σ 17 b v2.toNatClampNeg))]) rfl (p := 26) rfl (kJ_min (σ 17 b x1.toNatClampNeg) (σ 17 b v2.toNatClampNeg) σ r8 hr7 (d - 1) (by omega)) ?_
    change zEv d 26 26 [some (zR 2 b), some (zI x1), some (zI v2)] [zI r8] σ _
    refine ev_goto i26_26 (t := 35) (by decide) ?_
    obtain rfl := Option.some.inj h
    exact ev_iret i26_35 zr26
/-! fR_high -/
def fR_high (b : Nat) (x1 : Int32) (σ : zS) : Option (Int32) := (fR_low b x1 σ).bind fun r2 => (fR_apart b x1 σ).bind fun r4 => some (r2 + r4)
set_option maxHeartbeats 4000000 in
theorem kR_high (b : Nat) (x1 : Int32) (σ : zS) (w : Int32) (h : fR_high b x1 σ = some w) (d : Nat) (hd : 2 ≤ d) : zEv d 27 0 [some (zR 2 b), some (zI x1)] [] σ (some (zI w), σ) := by
  unfold fR_high at h
  refine ev_s i27_0 (p := 1) rfl ?_
  refine ev_s i27_1 (p := 2) rfl ?_
  obtain ⟨r2, hr1, h⟩ := bd_some h
  refine ev_callV i27_2 zc2_79 zm26 zo26 (as' := [zI x1]) (rest := []) rfl rfl (Nat.le_of_ble_eq_true rfl) (Nat.le_of_ble_eq_true rfl) (Nat.le_of_ble_eq_true rfl) (by omega) (l0 := [some (zR 2 b), some (zI x1), none]) rfl (p := 5) rfl (kR_low b x1 σ r2 hr1 (d - 1) (by omega)) ?_
  change zEv d 27 5 [some (zR 2 b), some (zI x1)] [zI r2] σ _
  refine ev_s i27_5 (p := 6) rfl ?_
  refine ev_s i27_6 (p := 7) rfl ?_
  obtain ⟨r4, hr3, h⟩ := bd_some h
  refine ev_callV i27_7 zc2_62 zm22 zo22 (as' := [zI x1]) (rest := [zI r2]) rfl rfl (Nat.le_of_ble_eq_true rfl) (Nat.le_of_ble_eq_true rfl) (Nat.le_of_ble_eq_true rfl) (by omega) (l0 := [some (zR 2 b), some (zI x1), none]) rfl (p := 10) rfl (kR_apart b x1 σ r4 hr3 (d - 1) (by omega)) ?_
  change zEv d 27 10 [some (zR 2 b), some (zI x1)] [zI r4, zI r2] σ _
  refine ev_s i27_10 (p := 11) (t := [zI (r2 + r4)]) rfl ?_
  obtain rfl := Option.some.inj h
  exact ev_iret i27_11 zr27
/-! fR_stringsOver -/
def fR_stringsOver_L4 (N : Nat) (b : Nat) : Nat → Int32 → Int32 → Int32 → zS → Option (Int32)
  | 0, _, _, _, _ => none
  | n + 1, y1, y2, y3, σ => (if (σ 2 b 9) ≤ y3 then some (y2) else (fR_isTied b y3 σ).bind fun r3 => (if r3 = 0 then fR_stringsOver_L4 N b n y1 y2 (y3 + 1) σ else (fR_low b y3 σ).bind fun r6 => (if y1 < r6 then fR_stringsOver_L4 N b n y1 y2 (y3 + 1) σ else (fR_high b y3 σ).bind fun r9 => (if r9 < y1 then fR_stringsOver_L4 N b n y1 y2 (y3 + 1) σ else zlt (y2 ||| (1 <<< (y3 &&& 31))) fun v11 => fR_stringsOver_L4 N b n y1 v11 (y3 + 1) σ))))
set_option maxHeartbeats 4000000 in
theorem kR_stringsOver_L4 (N : Nat) (b : Nat) (d : Nat) (hd : 3 ≤ d)  : ∀ n : Nat, ∀ (y1 : Int32) (y2 : Int32) (y3 : Int32) (σ : zS) (w : Int32), fR_stringsOver_L4 N b n y1 y2 y3 σ = some w → zEv d 28 4 [some (zR 2 b), some (zI y1), some (zI y2), some (zI y3)] [] σ (some (zI w), σ) := by
  intro n
  induction n with
  | zero =>
    intro y1 y2 y3 σ w h
    cases h
  | succ n ih =>
    intro y1 y2 y3 σ w h
    rw [fR_stringsOver_L4] at h
    refine ev_s i28_4 (p := 5) rfl ?_
    refine ev_s i28_5 (p := 6) rfl ?_
    refine ev_getf i28_6 zf2_53 (u := zI (σ 2 b 9)) rfl (p := 9) rfl ?_
    refine ev_cmpge i28_9 (t := 50) (by decide) (p := 12) rfl h (fun c1 h => ?_) (fun c1 h => ?_)
    · refine ev_s i28_50 (p := 51) rfl ?_
      obtain rfl := Option.some.inj h
      exact ev_iret i28_51 zr28
    · refine ev_s i28_12 (p := 13) rfl ?_
      refine ev_s i28_13 (p := 14) rfl ?_
      obtain ⟨r3, hr2, h⟩ := bd_some h
      refine ev_callV i28_14 zc2_66 zm19 zo19 (as' := [zI y3]) (rest := []) rfl rfl (Nat.le_of_ble_eq_true rfl) (Nat.le_of_ble_eq_true rfl) (Nat.le_of_ble_eq_true rfl) (by omega) (l0 := [some (zR 2 b), some (zI y3)]) rfl (p := 17) rfl (kR_isTied b y3 σ r3 hr2 (d - 1) (by omega)) ?_
      change zEv d 28 17 [some (zR 2 b), some (zI y1), some (zI y2), some (zI y3)] [zI r3] σ _
      refine ev_ifeq i28_17 (t := 44) (by decide) (p := 20) rfl h (fun c4 h => ?_) (fun c4 h => ?_)
      · refine ev_iinc i28_44 zii_1 rfl (l := [some (zR 2 b), some (zI y1), some (zI y2), some (zI (y3 + 1))]) rfl (p := 47) rfl ?_
        refine ev_goto i28_47 (t := 4) (by decide) ?_
        exact ih y1 y2 (y3 + 1) σ w h
      · refine ev_s i28_20 (p := 21) rfl ?_
        refine ev_s i28_21 (p := 22) rfl ?_
        obtain ⟨r6, hr5, h⟩ := bd_some h
        refine ev_callV i28_22 zc2_79 zm26 zo26 (as' := [zI y3]) (rest := []) rfl rfl (Nat.le_of_ble_eq_true rfl) (Nat.le_of_ble_eq_true rfl) (Nat.le_of_ble_eq_true rfl) (by omega) (l0 := [some (zR 2 b), some (zI y3), none]) rfl (p := 25) rfl (kR_low b y3 σ r6 hr5 (d - 1) (by omega)) ?_
        change zEv d 28 25 [some (zR 2 b), some (zI y1), some (zI y2), some (zI y3)] [zI r6] σ _
        refine ev_s i28_25 (p := 26) rfl ?_
        refine ev_cmpgt i28_26 (t := 44) (by decide) (p := 29) rfl h (fun c7 h => ?_) (fun c7 h => ?_)
        · refine ev_iinc i28_44 zii_1 rfl (l := [some (zR 2 b), some (zI y1), some (zI y2), some (zI (y3 + 1))]) rfl (p := 47) rfl ?_
          refine ev_goto i28_47 (t := 4) (by decide) ?_
          exact ih y1 y2 (y3 + 1) σ w h
        · refine ev_s i28_29 (p := 30) rfl ?_
          refine ev_s i28_30 (p := 31) rfl ?_
          refine ev_s i28_31 (p := 32) rfl ?_
          obtain ⟨r9, hr8, h⟩ := bd_some h
          refine ev_callV i28_32 zc2_82 zm27 zo27 (as' := [zI y3]) (rest := [zI y1]) rfl rfl (Nat.le_of_ble_eq_true rfl) (Nat.le_of_ble_eq_true rfl) (Nat.le_of_ble_eq_true rfl) (by omega) (l0 := [some (zR 2 b), some (zI y3)]) rfl (p := 35) rfl (kR_high b y3 σ r9 hr8 (d - 1) (by omega)) ?_
          change zEv d 28 35 [some (zR 2 b), some (zI y1), some (zI y2), some (zI y3)] [zI r9, zI y1] σ _
          refine ev_cmpgt i28_35 (t := 44) (by decide) (p := 38) rfl h (fun c10 h => ?_) (fun c10 h => ?_)
          · refine ev_iinc i28_44 zii_1 rfl (l := [some (zR 2 b), some (zI y1), some (zI y2), some (zI (y3 + 1))]) rfl (p := 47) rfl ?_
            refine ev_goto i28_47 (t := 4) (by decide) ?_
            exact ih y1 y2 (y3 + 1) σ w h
          · refine ev_s i28_38 (p := 39) rfl ?_
            refine ev_s i28_39 (p := 40) (zic_1 _ _ _ _ _) ?_
            refine ev_s i28_40 (p := 41) rfl ?_
            refine ev_s i28_41 (p := 42) (t := [zI (1 <<< (y3 &&& 31)), zI y2]) rfl ?_
            refine ev_s i28_42 (p := 43) (t := [zI (y2 ||| (1 <<< (y3 &&& 31)))]) rfl ?_
            refine ev_let h (fun v11 ev11 h => ?_)
            refine ev_s i28_43 (p := 44) (l := [some (zR 2 b), some (zI y1), some (zI v11), some (zI y3)]) rfl ?_
            refine ev_iinc i28_44 zii_1 rfl (l := [some (zR 2 b), some (zI y1), some (zI v11), some (zI (y3 + 1))]) rfl (p := 47) rfl ?_
            refine ev_goto i28_47 (t := 4) (by decide) ?_
            exact ih y1 v11 (y3 + 1) σ w h
def fR_stringsOver (N : Nat) (b : Nat) (x1 : Int32) (σ : zS) : Option (Int32) := fR_stringsOver_L4 N b N x1 0 0 σ
set_option maxHeartbeats 4000000 in
theorem kR_stringsOver (N : Nat) (b : Nat) (x1 : Int32) (σ : zS) (w : Int32) (h : fR_stringsOver N b x1 σ = some w) (d : Nat) (hd : 3 ≤ d) : zEv d 28 0 [some (zR 2 b), some (zI x1), none, none] [] σ (some (zI w), σ) := by
  unfold fR_stringsOver at h
  refine ev_s i28_0 (p := 1) (zic_0 _ _ _ _ _) ?_
  refine ev_s i28_1 (p := 2) (l := [some (zR 2 b), some (zI x1), some (zI 0), none]) rfl ?_
  refine ev_s i28_2 (p := 3) (zic_0 _ _ _ _ _) ?_
  refine ev_s i28_3 (p := 4) (l := [some (zR 2 b), some (zI x1), some (zI 0), some (zI 0)]) rfl ?_
  exact kR_stringsOver_L4 N b d hd N x1 0 0 σ w h
/-! fA_over -/
def fA_over (N : Nat) (x1 : Int32) (σ : zS) : Option (Int32 × zS) := (fA_within x1 63).bind fun r2 => (if r2 = 0 then zb2 (fA_refuse 1 σ) fun r6 s5 => some (r6, s5) else (fR_stringsOver N 0 x1 σ).bind fun r8 => some (r8, σ))
set_option maxHeartbeats 4000000 in
theorem kA_over (N : Nat) (x1 : Int32) (σ : zS) (w : Int32 × zS) (h : fA_over N x1 σ = some w) (d : Nat) (hd : 4 ≤ d) : zEv d 79 0 [some (zR 7 0), some (zI x1)] [] σ (some (zI w.1), w.2) := by
  unfold fA_over at h
  refine ev_s i79_0 (p := 1) rfl ?_
  refine ev_s i79_1 (p := 3) (zib_63 _ _ _ _ _) ?_
  obtain ⟨r2, hr1, h⟩ := bd_some h
  refine ev_callS i79_3 zn7_64 zc7_64 zm103 (as := [zI x1, zI 63]) (rest := []) rfl rfl (Nat.le_of_ble_eq_true rfl) (Nat.le_of_ble_eq_true rfl) (Nat.le_of_ble_eq_true rfl) (by omega) (l0 := [some (zI x1), some (zI 63)]) rfl (p := 6) rfl (kA_within x1 63 σ r2 hr1 (d - 1) (by omega)) ?_
  change zEv d 79 6 [some (zR 7 0), some (zI x1)] [zI r2] σ _
  refine ev_ifeq i79_6 (t := 20) (by decide) (p := 9) rfl h (fun c3 h => ?_) (fun c3 h => ?_)
  · refine ev_s i79_20 (p := 21) rfl ?_
    refine ev_s i79_21 (p := 22) (zic_1 _ _ _ _ _) ?_
    obtain ⟨r6, s5, hr4, h⟩ := b2_some h
    refine ev_callV i79_22 zc7_72 zm102 zo102 (as' := [zI 1]) (rest := []) rfl rfl (Nat.le_of_ble_eq_true rfl) (Nat.le_of_ble_eq_true rfl) (Nat.le_of_ble_eq_true rfl) (by omega) (l0 := [some (zR 7 0), some (zI 1)]) rfl (p := 25) rfl (kA_refuse 1 σ (r6, s5) hr4 (d - 1) (by omega)) ?_
    change zEv d 79 25 [some (zR 7 0), some (zI x1)] [zI r6] s5 _
    obtain rfl := Option.some.inj h
    exact ev_iret i79_25 zr79
  · refine ev_s i79_9 (p := 10) rfl ?_
    refine ev_getf i79_10 zf7_47 (u := zR 2 0) rfl (p := 13) rfl ?_
    refine ev_s i79_13 (p := 14) rfl ?_
    obtain ⟨r8, hr7, h⟩ := bd_some h
    refine ev_callV i79_14 zc7_183 zm28 zo28 (as' := [zI x1]) (rest := []) rfl rfl (Nat.le_of_ble_eq_true rfl) (Nat.le_of_ble_eq_true rfl) (Nat.le_of_ble_eq_true rfl) (by omega) (l0 := [some (zR 2 0), some (zI x1), none, none]) rfl (p := 17) rfl (kR_stringsOver N 0 x1 σ r8 hr7 (d - 1) (by omega)) ?_
    change zEv d 79 17 [some (zR 7 0), some (zI x1)] [zI r8] σ _
    refine ev_goto i79_17 (t := 25) (by decide) ?_
    obtain rfl := Option.some.inj h
    exact ev_iret i79_25 zr79
/-! fM_lowEnd -/
def fM_lowEnd (x1 : Int32) (σ : zS) : Option (Int32) := (fM_its x1 3 σ).bind fun r2 => (fM_its x1 2 σ).bind fun r4 => (fM_its r4 3 σ).bind fun r6 => (if r6 ≤ r2 then some (r6) else some (r2))
set_option maxHeartbeats 4000000 in
theorem kM_lowEnd (x1 : Int32) (σ : zS) (w : Int32) (h : fM_lowEnd x1 σ = some w) (d : Nat) (hd : 1 ≤ d) : zEv d 178 0 [some (zR 8 0), some (zI x1), none, none] [] σ (some (zI w), σ) := by
  unfold fM_lowEnd at h
  refine ev_s i178_0 (p := 1) rfl ?_
  refine ev_s i178_1 (p := 2) rfl ?_
  refine ev_s i178_2 (p := 3) (zic_3 _ _ _ _ _) ?_
  obtain ⟨r2, hr1, h⟩ := bd_some h
  refine ev_callV i178_3 zc8_54 zm118 zo118 (as' := [zI x1, zI 3]) (rest := []) rfl rfl (Nat.le_of_ble_eq_true rfl) (Nat.le_of_ble_eq_true rfl) (Nat.le_of_ble_eq_true rfl) (by omega) (l0 := [some (zR 8 0), some (zI x1), some (zI 3)]) rfl (p := 6) rfl (kM_its x1 3 σ r2 hr1 (d - 1) (by omega)) ?_
  change zEv d 178 6 [some (zR 8 0), some (zI x1), none, none] [zI r2] σ _
  refine ev_s i178_6 (p := 7) (l := [some (zR 8 0), some (zI x1), some (zI r2), none]) rfl ?_
  refine ev_s i178_7 (p := 8) rfl ?_
  refine ev_s i178_8 (p := 9) rfl ?_
  refine ev_s i178_9 (p := 10) rfl ?_
  refine ev_s i178_10 (p := 11) (zic_2 _ _ _ _ _) ?_
  obtain ⟨r4, hr3, h⟩ := bd_some h
  refine ev_callV i178_11 zc8_54 zm118 zo118 (as' := [zI x1, zI 2]) (rest := [zR 8 0]) rfl rfl (Nat.le_of_ble_eq_true rfl) (Nat.le_of_ble_eq_true rfl) (Nat.le_of_ble_eq_true rfl) (by omega) (l0 := [some (zR 8 0), some (zI x1), some (zI 2)]) rfl (p := 14) rfl (kM_its x1 2 σ r4 hr3 (d - 1) (by omega)) ?_
  change zEv d 178 14 [some (zR 8 0), some (zI x1), some (zI r2), none] [zI r4, zR 8 0] σ _
  refine ev_s i178_14 (p := 15) (zic_3 _ _ _ _ _) ?_
  obtain ⟨r6, hr5, h⟩ := bd_some h
  refine ev_callV i178_15 zc8_54 zm118 zo118 (as' := [zI r4, zI 3]) (rest := []) rfl rfl (Nat.le_of_ble_eq_true rfl) (Nat.le_of_ble_eq_true rfl) (Nat.le_of_ble_eq_true rfl) (by omega) (l0 := [some (zR 8 0), some (zI r4), some (zI 3)]) rfl (p := 18) rfl (kM_its r4 3 σ r6 hr5 (d - 1) (by omega)) ?_
  change zEv d 178 18 [some (zR 8 0), some (zI x1), some (zI r2), none] [zI r6] σ _
  refine ev_s i178_18 (p := 19) (l := [some (zR 8 0), some (zI x1), some (zI r2), some (zI r6)]) rfl ?_
  refine ev_s i178_19 (p := 20) rfl ?_
  refine ev_s i178_20 (p := 21) rfl ?_
  refine ev_cmpge i178_21 (t := 28) (by decide) (p := 24) rfl h (fun c7 h => ?_) (fun c7 h => ?_)
  · refine ev_s i178_28 (p := 29) rfl ?_
    obtain rfl := Option.some.inj h
    exact ev_iret i178_29 zr178
  · refine ev_s i178_24 (p := 25) rfl ?_
    refine ev_goto i178_25 (t := 29) (by decide) ?_
    obtain rfl := Option.some.inj h
    exact ev_iret i178_29 zr178
/-! fM_highEnd -/
def fM_highEnd (x1 : Int32) (σ : zS) : Option (Int32) := (fM_lowEnd x1 σ).bind fun r2 => (fM_apartOf x1 σ).bind fun r4 => some (r2 + r4)
set_option maxHeartbeats 4000000 in
theorem kM_highEnd (x1 : Int32) (σ : zS) (w : Int32) (h : fM_highEnd x1 σ = some w) (d : Nat) (hd : 3 ≤ d) : zEv d 179 0 [some (zR 8 0), some (zI x1)] [] σ (some (zI w), σ) := by
  unfold fM_highEnd at h
  refine ev_s i179_0 (p := 1) rfl ?_
  refine ev_s i179_1 (p := 2) rfl ?_
  obtain ⟨r2, hr1, h⟩ := bd_some h
  refine ev_callV i179_2 zc8_219 zm178 zo178 (as' := [zI x1]) (rest := []) rfl rfl (Nat.le_of_ble_eq_true rfl) (Nat.le_of_ble_eq_true rfl) (Nat.le_of_ble_eq_true rfl) (by omega) (l0 := [some (zR 8 0), some (zI x1), none, none]) rfl (p := 5) rfl (kM_lowEnd x1 σ r2 hr1 (d - 1) (by omega)) ?_
  change zEv d 179 5 [some (zR 8 0), some (zI x1)] [zI r2] σ _
  refine ev_s i179_5 (p := 6) rfl ?_
  refine ev_s i179_6 (p := 7) rfl ?_
  obtain ⟨r4, hr3, h⟩ := bd_some h
  refine ev_callV i179_7 zc8_146 zm146 zo146 (as' := [zI x1]) (rest := [zI r2]) rfl rfl (Nat.le_of_ble_eq_true rfl) (Nat.le_of_ble_eq_true rfl) (Nat.le_of_ble_eq_true rfl) (by omega) (l0 := [some (zR 8 0), some (zI x1)]) rfl (p := 10) rfl (kM_apartOf x1 σ r4 hr3 (d - 1) (by omega)) ?_
  change zEv d 179 10 [some (zR 8 0), some (zI x1)] [zI r4, zI r2] σ _
  refine ev_s i179_10 (p := 11) (t := [zI (r2 + r4)]) rfl ?_
  obtain rfl := Option.some.inj h
  exact ev_iret i179_11 zr179
/-! fM_overAt -/
def fM_overAt_J46 (N : Nat) (K4 : Int32 → Int32 → Int32 → zS → Option (Int32)) (y1 : Int32) (y3 : Int32) (u0 : Int32) (σ : zS) : Option (Int32) := zlt (u0 ||| 0) fun v13 => K4 y1 v13 (y3 + 1) σ
set_option maxHeartbeats 4000000 in
theorem kM_overAt_J46 (N : Nat) (d : Nat) (hd : 4 ≤ d) (K4 : Int32 → Int32 → Int32 → zS → Option (Int32)) (hK4 : ∀ (y1 : Int32) (y2 : Int32) (y3 : Int32) (σ : zS) (w : Int32), K4 y1 y2 y3 σ = some w → zEv d 180 4 [some (zR 8 0), some (zI y1), some (zI y2), some (zI y3)] [] σ (some (zI w), σ)) : ∀ (y1 : Int32) (y3 : Int32) (u0 : Int32) (σ : zS) (w : Int32) (z2 : Option zA) (hz2 : znl z2 = true), fM_overAt_J46 N K4 y1 y3 u0 σ = some w → zEv d 180 46 [some (zR 8 0), some (zI y1), z2, some (zI y3)] [zI u0] σ (some (zI w), σ) := by
  intro y1 y3 u0 σ w z2 hz2 h
  unfold fM_overAt_J46 at h
  refine ev_s i180_46 (p := 47) (zic_0 _ _ _ _ _) ?_
  refine ev_s i180_47 (p := 48) (t := [zI (u0 ||| 0)]) rfl ?_
  refine ev_let h (fun v13 ev13 h => ?_)
  refine ev_s i180_48 (p := 49) (l := [some (zR 8 0), some (zI y1), some (zI v13), some (zI y3)]) rfl ?_
  refine ev_iinc i180_49 zii_1 rfl (l := [some (zR 8 0), some (zI y1), some (zI v13), some (zI (y3 + 1))]) rfl (p := 52) rfl ?_
  refine ev_goto i180_52 (t := 4) (by decide) ?_
  exact hK4 y1 v13 (y3 + 1) σ w h
def fM_overAt_L4 (N : Nat) : Nat → Int32 → Int32 → Int32 → zS → Option (Int32)
  | 0, _, _, _, _ => none
  | n + 1, y1, y2, y3, σ => (if (σ 30 0 4) ≤ y3 then some (y2) else (fM_isTied y3 σ).bind fun r3 => (if r3 = 0 then fM_overAt_J46 N (fun y1 y2 y3 σ => fM_overAt_L4 N n y1 y2 y3 σ) y1 y3 y2 σ else (fM_lowEnd y3 σ).bind fun r6 => (fM_highEnd y3 σ).bind fun r8 => (fM_in y1 r6 r8).bind fun r10 => (if r10 = 0 then fM_overAt_J46 N (fun y1 y2 y3 σ => fM_overAt_L4 N n y1 y2 y3 σ) y1 y3 y2 σ else zlt (y2 ||| (1 <<< (y3 &&& 31))) fun v12 => fM_overAt_L4 N n y1 v12 (y3 + 1) σ)))
set_option maxHeartbeats 4000000 in
theorem kM_overAt_L4 (N : Nat) (d : Nat) (hd : 4 ≤ d)  : ∀ n : Nat, ∀ (y1 : Int32) (y2 : Int32) (y3 : Int32) (σ : zS) (w : Int32), fM_overAt_L4 N n y1 y2 y3 σ = some w → zEv d 180 4 [some (zR 8 0), some (zI y1), some (zI y2), some (zI y3)] [] σ (some (zI w), σ) := by
  intro n
  induction n with
  | zero =>
    intro y1 y2 y3 σ w h
    cases h
  | succ n ih =>
    intro y1 y2 y3 σ w h
    rw [fM_overAt_L4] at h
    refine ev_s i180_4 (p := 5) rfl ?_
    refine ev_s i180_5 (p := 6) rfl ?_
    refine ev_getf i180_6 zf8_7 (u := zR 30 0) rfl (p := 9) rfl ?_
    refine ev_s i180_9 (p := 10) (zic_4 _ _ _ _ _) ?_
    refine ev_ialdK i180_10 rfl (n := 394) rfl (by decide) (p := 11) rfl ?_
    change zEv d 180 11 [some (zR 8 0), some (zI y1), some (zI y2), some (zI y3)] [zI (σ 30 0 4), zI y3] σ _
    refine ev_cmpge i180_11 (t := 55) (by decide) (p := 14) rfl h (fun c1 h => ?_) (fun c1 h => ?_)
    · refine ev_s i180_55 (p := 56) rfl ?_
      obtain rfl := Option.some.inj h
      exact ev_iret i180_56 zr180
    · refine ev_s i180_14 (p := 15) rfl ?_
      refine ev_s i180_15 (p := 16) rfl ?_
      refine ev_s i180_16 (p := 17) rfl ?_
      obtain ⟨r3, hr2, h⟩ := bd_some h
      refine ev_callV i180_17 zc8_140 zm121 zo121 (as' := [zI y3]) (rest := [zI y2]) rfl rfl (Nat.le_of_ble_eq_true rfl) (Nat.le_of_ble_eq_true rfl) (Nat.le_of_ble_eq_true rfl) (by omega) (l0 := [some (zR 8 0), some (zI y3)]) rfl (p := 20) rfl (kM_isTied y3 σ r3 hr2 (d - 1) (by omega)) ?_
      change zEv d 180 20 [some (zR 8 0), some (zI y1), some (zI y2), some (zI y3)] [zI r3, zI y2] σ _
      refine ev_ifeq i180_20 (t := 46) (by decide) (p := 23) rfl h (fun c4 h => ?_) (fun c4 h => ?_)
      · exact kM_overAt_J46 N d hd (fun y1 y2 y3 σ => fM_overAt_L4 N n y1 y2 y3 σ) ih y1 y3 y2 σ w _ rfl h
      · refine ev_s i180_23 (p := 24) rfl ?_
        refine ev_s i180_24 (p := 25) rfl ?_
        refine ev_s i180_25 (p := 26) rfl ?_
        obtain ⟨r6, hr5, h⟩ := bd_some h
        refine ev_callV i180_26 zc8_219 zm178 zo178 (as' := [zI y3]) (rest := [zI y1, zI y2]) rfl rfl (Nat.le_of_ble_eq_true rfl) (Nat.le_of_ble_eq_true rfl) (Nat.le_of_ble_eq_true rfl) (by omega) (l0 := [some (zR 8 0), some (zI y3), none, none]) rfl (p := 29) rfl (kM_lowEnd y3 σ r6 hr5 (d - 1) (by omega)) ?_
        change zEv d 180 29 [some (zR 8 0), some (zI y1), some (zI y2), some (zI y3)] [zI r6, zI y1, zI y2] σ _
        refine ev_s i180_29 (p := 30) rfl ?_
        refine ev_s i180_30 (p := 31) rfl ?_
        obtain ⟨r8, hr7, h⟩ := bd_some h
        refine ev_callV i180_31 zc8_222 zm179 zo179 (as' := [zI y3]) (rest := [zI r6, zI y1, zI y2]) rfl rfl (Nat.le_of_ble_eq_true rfl) (Nat.le_of_ble_eq_true rfl) (Nat.le_of_ble_eq_true rfl) (by omega) (l0 := [some (zR 8 0), some (zI y3)]) rfl (p := 34) rfl (kM_highEnd y3 σ r8 hr7 (d - 1) (by omega)) ?_
        change zEv d 180 34 [some (zR 8 0), some (zI y1), some (zI y2), some (zI y3)] [zI r8, zI r6, zI y1, zI y2] σ _
        obtain ⟨r10, hr9, h⟩ := bd_some h
        refine ev_callS i180_34 zn8_50 zc8_50 zm111 (as := [zI y1, zI r6, zI r8]) (rest := [zI y2]) rfl rfl (Nat.le_of_ble_eq_true rfl) (Nat.le_of_ble_eq_true rfl) (Nat.le_of_ble_eq_true rfl) (by omega) (l0 := [some (zI y1), some (zI r6), some (zI r8)]) rfl (p := 37) rfl (kM_in y1 r6 r8 σ r10 hr9 (d - 1) (by omega)) ?_
        change zEv d 180 37 [some (zR 8 0), some (zI y1), some (zI y2), some (zI y3)] [zI r10, zI y2] σ _
        refine ev_ifeq i180_37 (t := 46) (by decide) (p := 40) rfl h (fun c11 h => ?_) (fun c11 h => ?_)
        · exact kM_overAt_J46 N d hd (fun y1 y2 y3 σ => fM_overAt_L4 N n y1 y2 y3 σ) ih y1 y3 y2 σ w _ rfl h
        · refine ev_s i180_40 (p := 41) (zic_1 _ _ _ _ _) ?_
          refine ev_s i180_41 (p := 42) rfl ?_
          refine ev_s i180_42 (p := 43) (t := [zI (1 <<< (y3 &&& 31)), zI y2]) rfl ?_
          refine ev_goto i180_43 (t := 47) (by decide) ?_
          refine ev_s i180_47 (p := 48) (t := [zI (y2 ||| (1 <<< (y3 &&& 31)))]) rfl ?_
          refine ev_let h (fun v12 ev12 h => ?_)
          refine ev_s i180_48 (p := 49) (l := [some (zR 8 0), some (zI y1), some (zI v12), some (zI y3)]) rfl ?_
          refine ev_iinc i180_49 zii_1 rfl (l := [some (zR 8 0), some (zI y1), some (zI v12), some (zI (y3 + 1))]) rfl (p := 52) rfl ?_
          refine ev_goto i180_52 (t := 4) (by decide) ?_
          exact ih y1 v12 (y3 + 1) σ w h
def fM_overAt (N : Nat) (x1 : Int32) (σ : zS) : Option (Int32) := fM_overAt_L4 N N x1 0 0 σ
set_option maxHeartbeats 4000000 in
theorem kM_overAt (N : Nat) (x1 : Int32) (σ : zS) (w : Int32) (h : fM_overAt N x1 σ = some w) (d : Nat) (hd : 4 ≤ d) : zEv d 180 0 [some (zR 8 0), some (zI x1), none, none] [] σ (some (zI w), σ) := by
  unfold fM_overAt at h
  refine ev_s i180_0 (p := 1) (zic_0 _ _ _ _ _) ?_
  refine ev_s i180_1 (p := 2) (l := [some (zR 8 0), some (zI x1), some (zI 0), none]) rfl ?_
  refine ev_s i180_2 (p := 3) (zic_0 _ _ _ _ _) ?_
  refine ev_s i180_3 (p := 4) (l := [some (zR 8 0), some (zI x1), some (zI 0), some (zI 0)]) rfl ?_
  exact kM_overAt_L4 N d hd N x1 0 0 σ w h
/-! fM_over -/
def fM_over (N : Nat) (x1 : Int32) (σ : zS) : Option (Int32 × zS) := (fM_isCell x1).bind fun r2 => (if r2 = 0 then zb2 (fM_error 1 σ) fun r6 s5 => some (r6, s5) else (fM_overAt N x1 σ).bind fun r8 => some (r8, σ))
set_option maxHeartbeats 4000000 in
theorem kM_over (N : Nat) (x1 : Int32) (σ : zS) (w : Int32 × zS) (h : fM_over N x1 σ = some w) (d : Nat) (hd : 5 ≤ d) : zEv d 182 0 [some (zR 8 0), some (zI x1)] [] σ (some (zI w.1), w.2) := by
  unfold fM_over at h
  refine ev_s i182_0 (p := 1) rfl ?_
  obtain ⟨r2, hr1, h⟩ := bd_some h
  refine ev_callS i182_1 zn8_172 zc8_172 zm117 (as := [zI x1]) (rest := []) rfl rfl (Nat.le_of_ble_eq_true rfl) (Nat.le_of_ble_eq_true rfl) (Nat.le_of_ble_eq_true rfl) (by omega) (l0 := [some (zI x1)]) rfl (p := 4) rfl (kM_isCell x1 σ r2 hr1 (d - 1) (by omega)) ?_
  change zEv d 182 4 [some (zR 8 0), some (zI x1)] [zI r2] σ _
  refine ev_ifeq i182_4 (t := 15) (by decide) (p := 7) rfl h (fun c3 h => ?_) (fun c3 h => ?_)
  · refine ev_s i182_15 (p := 16) rfl ?_
    refine ev_s i182_16 (p := 17) (zic_1 _ _ _ _ _) ?_
    obtain ⟨r6, s5, hr4, h⟩ := b2_some h
    refine ev_callV i182_17 zc8_58 zm110 zo110 (as' := [zI 1]) (rest := []) rfl rfl (Nat.le_of_ble_eq_true rfl) (Nat.le_of_ble_eq_true rfl) (Nat.le_of_ble_eq_true rfl) (by omega) (l0 := [some (zR 8 0), some (zI 1)]) rfl (p := 20) rfl (kM_error 1 σ (r6, s5) hr4 (d - 1) (by omega)) ?_
    change zEv d 182 20 [some (zR 8 0), some (zI x1)] [zI r6] s5 _
    obtain rfl := Option.some.inj h
    exact ev_iret i182_20 zr182
  · refine ev_s i182_7 (p := 8) rfl ?_
    refine ev_s i182_8 (p := 9) rfl ?_
    obtain ⟨r8, hr7, h⟩ := bd_some h
    refine ev_callV i182_9 zc8_225 zm180 zo180 (as' := [zI x1]) (rest := []) rfl rfl (Nat.le_of_ble_eq_true rfl) (Nat.le_of_ble_eq_true rfl) (Nat.le_of_ble_eq_true rfl) (by omega) (l0 := [some (zR 8 0), some (zI x1), none, none]) rfl (p := 12) rfl (kM_overAt N x1 σ r8 hr7 (d - 1) (by omega)) ?_
    change zEv d 182 12 [some (zR 8 0), some (zI x1)] [zI r8] σ _
    refine ev_goto i182_12 (t := 20) (by decide) ?_
    obtain rfl := Option.some.inj h
    exact ev_iret i182_20 zr182
/-! fJ_bitCount -/
def fJ_bitCount (x0 : Int32) : Option (Int32) := zlt (x0 - (((x0.toUInt32 >>> ((1 : Int32).toUInt32 &&& Int32.toUInt32 31)).toInt32) &&& 1431655765)) fun v1 => zlt ((v1 &&& 858993459) + (((v1.toUInt32 >>> ((2 : Int32).toUInt32 &&& Int32.toUInt32 31)).toInt32) &&& 858993459)) fun v2 => zlt ((v2 + ((v2.toUInt32 >>> ((4 : Int32).toUInt32 &&& Int32.toUInt32 31)).toInt32)) &&& 252645135) fun v3 => zlt (v3 + ((v3.toUInt32 >>> ((8 : Int32).toUInt32 &&& Int32.toUInt32 31)).toInt32)) fun v4 => zlt (v4 + ((v4.toUInt32 >>> ((16 : Int32).toUInt32 &&& Int32.toUInt32 31)).toInt32)) fun v5 => some (v5 &&& 63)
set_option maxHeartbeats 4000000 in
theorem kJ_bitCount (x0 : Int32) (σ : zS) (w : Int32) (h : fJ_bitCount x0 = some w) (d : Nat) (hd : 0 ≤ d) : zEv d 219 0 [some (zI x0)] [] σ (some (zI w), σ) := by
  unfold fJ_bitCount at h
  refine ev_s i219_0 (p := 1) rfl ?_
  refine ev_s i219_1 (p := 2) rfl ?_
  refine ev_s i219_2 (p := 3) (zic_1 _ _ _ _ _) ?_
  refine ev_s i219_3 (p := 4) (t := [zI ((x0.toUInt32 >>> ((1 : Int32).toUInt32 &&& Int32.toUInt32 31)).toInt32), zI x0]) rfl ?_
  refine ev_s i219_4 (p := 7) (zkw10_265 0 _ _ _ _) ?_
  refine ev_s i219_7 (p := 8) (t := [zI (((x0.toUInt32 >>> ((1 : Int32).toUInt32 &&& Int32.toUInt32 31)).toInt32) &&& 1431655765), zI x0]) rfl ?_
  refine ev_s i219_8 (p := 9) (t := [zI (x0 - (((x0.toUInt32 >>> ((1 : Int32).toUInt32 &&& Int32.toUInt32 31)).toInt32) &&& 1431655765))]) rfl ?_
  refine ev_let h (fun v1 ev1 h => ?_)
  refine ev_s i219_9 (p := 10) (l := [some (zI v1)]) rfl ?_
  refine ev_s i219_10 (p := 11) rfl ?_
  refine ev_s i219_11 (p := 14) (zkw10_266 0 _ _ _ _) ?_
  refine ev_s i219_14 (p := 15) (t := [zI (v1 &&& 858993459)]) rfl ?_
  refine ev_s i219_15 (p := 16) rfl ?_
  refine ev_s i219_16 (p := 17) (zic_2 _ _ _ _ _) ?_
  refine ev_s i219_17 (p := 18) (t := [zI ((v1.toUInt32 >>> ((2 : Int32).toUInt32 &&& Int32.toUInt32 31)).toInt32), zI (v1 &&& 858993459)]) rfl ?_
  refine ev_s i219_18 (p := 21) (zkw10_266 0 _ _ _ _) ?_
  refine ev_s i219_21 (p := 22) (t := [zI (((v1.toUInt32 >>> ((2 : Int32).toUInt32 &&& Int32.toUInt32 31)).toInt32) &&& 858993459), zI (v1 &&& 858993459)]) rfl ?_
  refine ev_s i219_22 (p := 23) (t := [zI ((v1 &&& 858993459) + (((v1.toUInt32 >>> ((2 : Int32).toUInt32 &&& Int32.toUInt32 31)).toInt32) &&& 858993459))]) rfl ?_
  refine ev_let h (fun v2 ev2 h => ?_)
  refine ev_s i219_23 (p := 24) (l := [some (zI v2)]) rfl ?_
  refine ev_s i219_24 (p := 25) rfl ?_
  refine ev_s i219_25 (p := 26) rfl ?_
  refine ev_s i219_26 (p := 27) (zic_4 _ _ _ _ _) ?_
  refine ev_s i219_27 (p := 28) (t := [zI ((v2.toUInt32 >>> ((4 : Int32).toUInt32 &&& Int32.toUInt32 31)).toInt32), zI v2]) rfl ?_
  refine ev_s i219_28 (p := 29) (t := [zI (v2 + ((v2.toUInt32 >>> ((4 : Int32).toUInt32 &&& Int32.toUInt32 31)).toInt32))]) rfl ?_
  refine ev_s i219_29 (p := 32) (zkw10_267 0 _ _ _ _) ?_
  refine ev_s i219_32 (p := 33) (t := [zI ((v2 + ((v2.toUInt32 >>> ((4 : Int32).toUInt32 &&& Int32.toUInt32 31)).toInt32)) &&& 252645135)]) rfl ?_
  refine ev_let h (fun v3 ev3 h => ?_)
  refine ev_s i219_33 (p := 34) (l := [some (zI v3)]) rfl ?_
  refine ev_s i219_34 (p := 35) rfl ?_
  refine ev_s i219_35 (p := 36) rfl ?_
  refine ev_s i219_36 (p := 38) (zib_8 _ _ _ _ _) ?_
  refine ev_s i219_38 (p := 39) (t := [zI ((v3.toUInt32 >>> ((8 : Int32).toUInt32 &&& Int32.toUInt32 31)).toInt32), zI v3]) rfl ?_
  refine ev_s i219_39 (p := 40) (t := [zI (v3 + ((v3.toUInt32 >>> ((8 : Int32).toUInt32 &&& Int32.toUInt32 31)).toInt32))]) rfl ?_
  refine ev_let h (fun v4 ev4 h => ?_)
  refine ev_s i219_40 (p := 41) (l := [some (zI v4)]) rfl ?_
  refine ev_s i219_41 (p := 42) rfl ?_
  refine ev_s i219_42 (p := 43) rfl ?_
  refine ev_s i219_43 (p := 45) (zib_16 _ _ _ _ _) ?_
  refine ev_s i219_45 (p := 46) (t := [zI ((v4.toUInt32 >>> ((16 : Int32).toUInt32 &&& Int32.toUInt32 31)).toInt32), zI v4]) rfl ?_
  refine ev_s i219_46 (p := 47) (t := [zI (v4 + ((v4.toUInt32 >>> ((16 : Int32).toUInt32 &&& Int32.toUInt32 31)).toInt32))]) rfl ?_
  refine ev_let h (fun v5 ev5 h => ?_)
  refine ev_s i219_47 (p := 48) (l := [some (zI v5)]) rfl ?_
  refine ev_s i219_48 (p := 49) rfl ?_
  refine ev_s i219_49 (p := 51) (zib_63 _ _ _ _ _) ?_
  refine ev_s i219_51 (p := 52) (t := [zI (v5 &&& 63)]) rfl ?_
  obtain rfl := Option.some.inj h
  exact ev_iret i219_52 zr219
/-! fA_knot -/
def fA_knot_L21 (N : Nat) : Nat → Int32 → Int32 → Int32 → Int32 → zS → Option (Int32 × zS)
  | 0, _, _, _, _, _ => none
  | n + 1, y1, y2, y3, y4, σ => (if 63 < y4 then (if y1 = 0 then some (y2, σ) else some (y3, σ)) else (fR_stringsOver N 0 y4 σ).bind fun r10 => (fJ_bitCount r10).bind fun r12 => (if r12 ≤ y3 then fA_knot_L21 N n y1 y2 y3 (y4 + 1) σ else fA_knot_L21 N n y1 y4 r12 (y4 + 1) σ))
set_option maxHeartbeats 4000000 in
theorem kA_knot_L21 (N : Nat) (d : Nat) (hd : 4 ≤ d)  : ∀ n : Nat, ∀ (y1 : Int32) (y2 : Int32) (y3 : Int32) (y4 : Int32) (σ : zS) (w : Int32 × zS) (z5 : Option zA), fA_knot_L21 N n y1 y2 y3 y4 σ = some w → zEv d 80 21 [some (zR 7 0), some (zI y1), some (zI y2), some (zI y3), some (zI y4), z5] [] σ (some (zI w.1), w.2) := by
  intro n
  induction n with
  | zero =>
    intro y1 y2 y3 y4 σ w z5 h
    cases h
  | succ n ih =>
    intro y1 y2 y3 y4 σ w z5 h
    rw [fA_knot_L21] at h
    refine ev_s i80_21 (p := 23) rfl ?_
    refine ev_s i80_23 (p := 25) (zib_63 _ _ _ _ _) ?_
    refine ev_cmpgt i80_25 (t := 60) (by decide) (p := 28) rfl h (fun c7 h => ?_) (fun c7 h => ?_)
    · refine ev_s i80_60 (p := 61) rfl ?_
      refine ev_ifne i80_61 (t := 68) (by decide) (p := 64) rfl h (fun c8 h => ?_) (fun c8 h => ?_)
      · refine ev_s i80_64 (p := 65) rfl ?_
        refine ev_goto i80_65 (t := 69) (by decide) ?_
        obtain rfl := Option.some.inj h
        exact ev_iret i80_69 zr80
      · refine ev_s i80_68 (p := 69) rfl ?_
        obtain rfl := Option.some.inj h
        exact ev_iret i80_69 zr80
    · refine ev_s i80_28 (p := 29) rfl ?_
      refine ev_getf i80_29 zf7_47 (u := zR 2 0) rfl (p := 32) rfl ?_
      refine ev_s i80_32 (p := 34) rfl ?_
      obtain ⟨r10, hr9, h⟩ := bd_some h
      refine ev_callV i80_34 zc7_183 zm28 zo28 (as' := [zI y4]) (rest := []) rfl rfl (Nat.le_of_ble_eq_true rfl) (Nat.le_of_ble_eq_true rfl) (Nat.le_of_ble_eq_true rfl) (by omega) (l0 := [some (zR 2 0), some (zI y4), none, none]) rfl (p := 37) rfl (kR_stringsOver N 0 y4 σ r10 hr9 (d - 1) (by omega)) ?_
      change zEv d 80 37 [some (zR 7 0), some (zI y1), some (zI y2), some (zI y3), some (zI y4), z5] [zI r10] σ _
      obtain ⟨r12, hr11, h⟩ := bd_some h
      refine ev_callS i80_37 zn7_186 zc7_186 zm219 (as := [zI r10]) (rest := []) rfl rfl (Nat.le_of_ble_eq_true rfl) (Nat.le_of_ble_eq_true rfl) (Nat.le_of_ble_eq_true rfl) (by omega) (l0 := [some (zI r10)]) rfl (p := 40) rfl (kJ_bitCount r10 σ r12 hr11 (d - 1) (by omega)) ?_
      change zEv d 80 40 [some (zR 7 0), some (zI y1), some (zI y2), some (zI y3), some (zI y4), z5] [zI r12] σ _
      refine ev_s i80_40 (p := 42) (l := [some (zR 7 0), some (zI y1), some (zI y2), some (zI y3), some (zI y4), some (zI r12)]) rfl ?_
      refine ev_s i80_42 (p := 44) rfl ?_
      refine ev_s i80_44 (p := 45) rfl ?_
      refine ev_cmple i80_45 (t := 54) (by decide) (p := 48) rfl h (fun c13 h => ?_) (fun c13 h => ?_)
      · refine ev_iinc i80_54 zii_1 rfl (l := [some (zR 7 0), some (zI y1), some (zI y2), some (zI y3), some (zI (y4 + 1)), some (zI r12)]) rfl (p := 57) rfl ?_
        refine ev_goto i80_57 (t := 21) (by decide) ?_
        exact ih y1 y2 y3 (y4 + 1) σ w _ h
      · refine ev_s i80_48 (p := 50) rfl ?_
        refine ev_s i80_50 (p := 51) (l := [some (zR 7 0), some (zI y1), some (zI y4), some (zI y3), some (zI y4), some (zI r12)]) rfl ?_
        refine ev_s i80_51 (p := 53) rfl ?_
        refine ev_s i80_53 (p := 54) (l := [some (zR 7 0), some (zI y1), some (zI y4), some (zI r12), some (zI y4), some (zI r12)]) rfl ?_
        refine ev_iinc i80_54 zii_1 rfl (l := [some (zR 7 0), some (zI y1), some (zI y4), some (zI r12), some (zI (y4 + 1)), some (zI r12)]) rfl (p := 57) rfl ?_
        refine ev_goto i80_57 (t := 21) (by decide) ?_
        exact ih y1 y4 r12 (y4 + 1) σ w _ h
def fA_knot (N : Nat) (x1 : Int32) (σ : zS) : Option (Int32 × zS) := (fA_within x1 1).bind fun r2 => (if r2 = 0 then zb2 (fA_refuse 1 σ) fun r6 s5 => some (r6, s5) else fA_knot_L21 N N x1 0 0 0 σ)
set_option maxHeartbeats 4000000 in
theorem kA_knot (N : Nat) (x1 : Int32) (σ : zS) (w : Int32 × zS) (h : fA_knot N x1 σ = some w) (d : Nat) (hd : 4 ≤ d) : zEv d 80 0 [some (zR 7 0), some (zI x1), none, none, none, none] [] σ (some (zI w.1), w.2) := by
  unfold fA_knot at h
  refine ev_s i80_0 (p := 1) rfl ?_
  refine ev_s i80_1 (p := 2) (zic_1 _ _ _ _ _) ?_
  obtain ⟨r2, hr1, h⟩ := bd_some h
  refine ev_callS i80_2 zn7_64 zc7_64 zm103 (as := [zI x1, zI 1]) (rest := []) rfl rfl (Nat.le_of_ble_eq_true rfl) (Nat.le_of_ble_eq_true rfl) (Nat.le_of_ble_eq_true rfl) (by omega) (l0 := [some (zI x1), some (zI 1)]) rfl (p := 5) rfl (kA_within x1 1 σ r2 hr1 (d - 1) (by omega)) ?_
  change zEv d 80 5 [some (zR 7 0), some (zI x1), none, none, none, none] [zI r2] σ _
  refine ev_ifne i80_5 (t := 14) (by decide) (p := 8) rfl h (fun c3 h => ?_) (fun c3 h => ?_)
  · refine ev_s i80_8 (p := 9) rfl ?_
    refine ev_s i80_9 (p := 10) (zic_1 _ _ _ _ _) ?_
    obtain ⟨r6, s5, hr4, h⟩ := b2_some h
    refine ev_callV i80_10 zc7_72 zm102 zo102 (as' := [zI 1]) (rest := []) rfl rfl (Nat.le_of_ble_eq_true rfl) (Nat.le_of_ble_eq_true rfl) (Nat.le_of_ble_eq_true rfl) (by omega) (l0 := [some (zR 7 0), some (zI 1)]) rfl (p := 13) rfl (kA_refuse 1 σ (r6, s5) hr4 (d - 1) (by omega)) ?_
    change zEv d 80 13 [some (zR 7 0), some (zI x1), none, none, none, none] [zI r6] s5 _
    obtain rfl := Option.some.inj h
    exact ev_iret i80_13 zr80
  · refine ev_s i80_14 (p := 15) (zic_0 _ _ _ _ _) ?_
    refine ev_s i80_15 (p := 16) (l := [some (zR 7 0), some (zI x1), some (zI 0), none, none, none]) rfl ?_
    refine ev_s i80_16 (p := 17) (zic_0 _ _ _ _ _) ?_
    refine ev_s i80_17 (p := 18) (l := [some (zR 7 0), some (zI x1), some (zI 0), some (zI 0), none, none]) rfl ?_
    refine ev_s i80_18 (p := 19) (zic_0 _ _ _ _ _) ?_
    refine ev_s i80_19 (p := 21) (l := [some (zR 7 0), some (zI x1), some (zI 0), some (zI 0), some (zI 0), none]) rfl ?_
    exact kA_knot_L21 N d hd N x1 0 0 0 σ w _ h
/-! fM_ones -/
def fM_ones_L4 (N : Nat) : Nat → Int32 → Int32 → Option (Int32)
  | 0, _, _ => none
  | n + 1, y1, y2 => (if y2 = 0 then some (y1) else zlt (y2 &&& (y2 - 1)) fun v2 => fM_ones_L4 N n (y1 + 1) v2)
set_option maxHeartbeats 4000000 in
theorem kM_ones_L4 (N : Nat) (d : Nat) (hd : 0 ≤ d)  : ∀ n : Nat, ∀ (y1 : Int32) (y2 : Int32) (w : Int32) (σ : zS) (z0 : Option zA) (hz0 : znl z0 = true), fM_ones_L4 N n y1 y2 = some w → zEv d 181 4 [z0, some (zI y1), some (zI y2)] [] σ (some (zI w), σ) := by
  intro n
  induction n with
  | zero =>
    intro y1 y2 w σ z0 hz0 h
    cases h
  | succ n ih =>
    intro y1 y2 w σ z0 hz0 h
    rw [fM_ones_L4] at h
    refine ev_s i181_4 (p := 5) rfl ?_
    refine ev_ifeq i181_5 (t := 20) (by decide) (p := 8) rfl h (fun c1 h => ?_) (fun c1 h => ?_)
    · refine ev_s i181_20 (p := 21) rfl ?_
      obtain rfl := Option.some.inj h
      exact ev_iret i181_21 zr181
    · refine ev_iinc i181_8 zii_1 rfl (l := [z0, some (zI (y1 + 1)), some (zI y2)]) (by rcases z0 with _ | _ | _ | _ <;> first | rfl | cases hz0) (p := 11) rfl ?_
      refine ev_s i181_11 (p := 12) rfl ?_
      refine ev_s i181_12 (p := 13) rfl ?_
      refine ev_s i181_13 (p := 14) (zic_1 _ _ _ _ _) ?_
      refine ev_s i181_14 (p := 15) (t := [zI (y2 - 1), zI y2]) rfl ?_
      refine ev_s i181_15 (p := 16) (t := [zI (y2 &&& (y2 - 1))]) rfl ?_
      refine ev_let h (fun v2 ev2 h => ?_)
      refine ev_s i181_16 (p := 17) (l := [z0, some (zI (y1 + 1)), some (zI v2)]) rfl ?_
      refine ev_goto i181_17 (t := 4) (by decide) ?_
      exact ih (y1 + 1) v2 w σ _ hz0 h
def fM_ones (N : Nat) (x0 : Int32) : Option (Int32) := fM_ones_L4 N N 0 x0
set_option maxHeartbeats 4000000 in
theorem kM_ones (N : Nat) (x0 : Int32) (σ : zS) (w : Int32) (h : fM_ones N x0 = some w) (d : Nat) (hd : 0 ≤ d) : zEv d 181 0 [some (zI x0), none, none] [] σ (some (zI w), σ) := by
  unfold fM_ones at h
  refine ev_s i181_0 (p := 1) (zic_0 _ _ _ _ _) ?_
  refine ev_s i181_1 (p := 2) (l := [some (zI x0), some (zI 0), none]) rfl ?_
  refine ev_s i181_2 (p := 3) rfl ?_
  refine ev_s i181_3 (p := 4) (l := [some (zI x0), some (zI 0), some (zI x0)]) rfl ?_
  exact kM_ones_L4 N d hd N 0 x0 w σ _ rfl h
/-! fM_knot -/
def fM_knot_J52 (N : Nat) (K22 : Int32 → Int32 → Int32 → Int32 → zS → Option (Int32 × zS)) (y1 : Int32) (y3 : Int32) (y4 : Int32) (y5 : Int32) (u0 : Int32) (σ : zS) : Option (Int32 × zS) := (if y5 ≤ y3 then K22 y1 u0 y3 (y4 + 1) σ else K22 y1 u0 y5 (y4 + 1) σ)
set_option maxHeartbeats 4000000 in
theorem kM_knot_J52 (N : Nat) (d : Nat) (hd : 5 ≤ d) (K22 : Int32 → Int32 → Int32 → Int32 → zS → Option (Int32 × zS)) (hK22 : ∀ (y1 : Int32) (y2 : Int32) (y3 : Int32) (y4 : Int32) (σ : zS) (w : Int32 × zS) (z5 : Option zA), K22 y1 y2 y3 y4 σ = some w → zEv d 183 22 [some (zR 8 0), some (zI y1), some (zI y2), some (zI y3), some (zI y4), z5] [] σ (some (zI w.1), w.2)) : ∀ (y1 : Int32) (y3 : Int32) (y4 : Int32) (y5 : Int32) (u0 : Int32) (σ : zS) (w : Int32 × zS) (z2 : Option zA) (hz2 : znl z2 = true), fM_knot_J52 N K22 y1 y3 y4 y5 u0 σ = some w → zEv d 183 52 [some (zR 8 0), some (zI y1), z2, some (zI y3), some (zI y4), some (zI y5)] [zI u0] σ (some (zI w.1), w.2) := by
  intro y1 y3 y4 y5 u0 σ w z2 hz2 h
  unfold fM_knot_J52 at h
  refine ev_s i183_52 (p := 53) (l := [some (zR 8 0), some (zI y1), some (zI u0), some (zI y3), some (zI y4), some (zI y5)]) rfl ?_
  refine ev_s i183_53 (p := 55) rfl ?_
  refine ev_s i183_55 (p := 56) rfl ?_
  refine ev_cmple i183_56 (t := 64) (by decide) (p := 59) rfl h (fun c14 h => ?_) (fun c14 h => ?_)
  · refine ev_s i183_64 (p := 65) rfl ?_
    refine ev_s i183_65 (p := 66) (l := [some (zR 8 0), some (zI y1), some (zI u0), some (zI y3), some (zI y4), some (zI y5)]) rfl ?_
    refine ev_iinc i183_66 zii_1 rfl (l := [some (zR 8 0), some (zI y1), some (zI u0), some (zI y3), some (zI (y4 + 1)), some (zI y5)]) rfl (p := 69) rfl ?_
    refine ev_goto i183_69 (t := 22) (by decide) ?_
    exact hK22 y1 u0 y3 (y4 + 1) σ w _ h
  · refine ev_s i183_59 (p := 61) rfl ?_
    refine ev_goto i183_61 (t := 65) (by decide) ?_
    refine ev_s i183_65 (p := 66) (l := [some (zR 8 0), some (zI y1), some (zI u0), some (zI y5), some (zI y4), some (zI y5)]) rfl ?_
    refine ev_iinc i183_66 zii_1 rfl (l := [some (zR 8 0), some (zI y1), some (zI u0), some (zI y5), some (zI (y4 + 1)), some (zI y5)]) rfl (p := 69) rfl ?_
    refine ev_goto i183_69 (t := 22) (by decide) ?_
    exact hK22 y1 u0 y5 (y4 + 1) σ w _ h
def fM_knot_L22 (N : Nat) : Nat → Int32 → Int32 → Int32 → Int32 → zS → Option (Int32 × zS)
  | 0, _, _, _, _, _ => none
  | n + 1, y1, y2, y3, y4, σ => (if 64 ≤ y4 then (if y1 = 0 then some (y2, σ) else some (y3, σ)) else (fM_overAt N y4 σ).bind fun r10 => (fM_ones N r10).bind fun r12 => (if r12 ≤ y3 then fM_knot_J52 N (fun y1 y2 y3 y4 σ => fM_knot_L22 N n y1 y2 y3 y4 σ) y1 y3 y4 r12 y2 σ else fM_knot_J52 N (fun y1 y2 y3 y4 σ => fM_knot_L22 N n y1 y2 y3 y4 σ) y1 y3 y4 r12 y4 σ))
set_option maxHeartbeats 4000000 in
theorem kM_knot_L22 (N : Nat) (d : Nat) (hd : 5 ≤ d)  : ∀ n : Nat, ∀ (y1 : Int32) (y2 : Int32) (y3 : Int32) (y4 : Int32) (σ : zS) (w : Int32 × zS) (z5 : Option zA), fM_knot_L22 N n y1 y2 y3 y4 σ = some w → zEv d 183 22 [some (zR 8 0), some (zI y1), some (zI y2), some (zI y3), some (zI y4), z5] [] σ (some (zI w.1), w.2) := by
  intro n
  induction n with
  | zero =>
    intro y1 y2 y3 y4 σ w z5 h
    cases h
  | succ n ih =>
    intro y1 y2 y3 y4 σ w z5 h
    rw [fM_knot_L22] at h
    refine ev_s i183_22 (p := 24) rfl ?_
    refine ev_s i183_24 (p := 26) (zib_64 _ _ _ _ _) ?_
    refine ev_cmpge i183_26 (t := 72) (by decide) (p := 29) rfl h (fun c7 h => ?_) (fun c7 h => ?_)
    · refine ev_s i183_72 (p := 73) rfl ?_
      refine ev_ifne i183_73 (t := 80) (by decide) (p := 76) rfl h (fun c8 h => ?_) (fun c8 h => ?_)
      · refine ev_s i183_76 (p := 77) rfl ?_
        refine ev_goto i183_77 (t := 81) (by decide) ?_
        obtain rfl := Option.some.inj h
        exact ev_iret i183_81 zr183
      · refine ev_s i183_80 (p := 81) rfl ?_
        obtain rfl := Option.some.inj h
        exact ev_iret i183_81 zr183
    · refine ev_s i183_29 (p := 30) rfl ?_
      refine ev_s i183_30 (p := 32) rfl ?_
      obtain ⟨r10, hr9, h⟩ := bd_some h
      refine ev_callV i183_32 zc8_225 zm180 zo180 (as' := [zI y4]) (rest := []) rfl rfl (Nat.le_of_ble_eq_true rfl) (Nat.le_of_ble_eq_true rfl) (Nat.le_of_ble_eq_true rfl) (by omega) (l0 := [some (zR 8 0), some (zI y4), none, none]) rfl (p := 35) rfl (kM_overAt N y4 σ r10 hr9 (d - 1) (by omega)) ?_
      change zEv d 183 35 [some (zR 8 0), some (zI y1), some (zI y2), some (zI y3), some (zI y4), z5] [zI r10] σ _
      obtain ⟨r12, hr11, h⟩ := bd_some h
      refine ev_callS i183_35 zn8_228 zc8_228 zm181 (as := [zI r10]) (rest := []) rfl rfl (Nat.le_of_ble_eq_true rfl) (Nat.le_of_ble_eq_true rfl) (Nat.le_of_ble_eq_true rfl) (by omega) (l0 := [some (zI r10), none, none]) rfl (p := 38) rfl (kM_ones N r10 σ r12 hr11 (d - 1) (by omega)) ?_
      change zEv d 183 38 [some (zR 8 0), some (zI y1), some (zI y2), some (zI y3), some (zI y4), z5] [zI r12] σ _
      refine ev_s i183_38 (p := 40) (l := [some (zR 8 0), some (zI y1), some (zI y2), some (zI y3), some (zI y4), some (zI r12)]) rfl ?_
      refine ev_s i183_40 (p := 42) rfl ?_
      refine ev_s i183_42 (p := 43) rfl ?_
      refine ev_cmple i183_43 (t := 51) (by decide) (p := 46) rfl h (fun c13 h => ?_) (fun c13 h => ?_)
      · refine ev_s i183_51 (p := 52) rfl ?_
        exact kM_knot_J52 N d hd (fun y1 y2 y3 y4 σ => fM_knot_L22 N n y1 y2 y3 y4 σ) ih y1 y3 y4 r12 y2 σ w _ rfl h
      · refine ev_s i183_46 (p := 48) rfl ?_
        refine ev_goto i183_48 (t := 52) (by decide) ?_
        exact kM_knot_J52 N d hd (fun y1 y2 y3 y4 σ => fM_knot_L22 N n y1 y2 y3 y4 σ) ih y1 y3 y4 r12 y4 σ w _ rfl h
def fM_knot (N : Nat) (x1 : Int32) (σ : zS) : Option (Int32 × zS) := (fM_in x1 0 1).bind fun r2 => (if r2 = 0 then zb2 (fM_error 1 σ) fun r6 s5 => some (r6, s5) else fM_knot_L22 N N x1 0 0 0 σ)
set_option maxHeartbeats 4000000 in
theorem kM_knot (N : Nat) (x1 : Int32) (σ : zS) (w : Int32 × zS) (h : fM_knot N x1 σ = some w) (d : Nat) (hd : 5 ≤ d) : zEv d 183 0 [some (zR 8 0), some (zI x1), none, none, none, none] [] σ (some (zI w.1), w.2) := by
  unfold fM_knot at h
  refine ev_s i183_0 (p := 1) rfl ?_
  refine ev_s i183_1 (p := 2) (zic_0 _ _ _ _ _) ?_
  refine ev_s i183_2 (p := 3) (zic_1 _ _ _ _ _) ?_
  obtain ⟨r2, hr1, h⟩ := bd_some h
  refine ev_callS i183_3 zn8_50 zc8_50 zm111 (as := [zI x1, zI 0, zI 1]) (rest := []) rfl rfl (Nat.le_of_ble_eq_true rfl) (Nat.le_of_ble_eq_true rfl) (Nat.le_of_ble_eq_true rfl) (by omega) (l0 := [some (zI x1), some (zI 0), some (zI 1)]) rfl (p := 6) rfl (kM_in x1 0 1 σ r2 hr1 (d - 1) (by omega)) ?_
  change zEv d 183 6 [some (zR 8 0), some (zI x1), none, none, none, none] [zI r2] σ _
  refine ev_ifne i183_6 (t := 15) (by decide) (p := 9) rfl h (fun c3 h => ?_) (fun c3 h => ?_)
  · refine ev_s i183_9 (p := 10) rfl ?_
    refine ev_s i183_10 (p := 11) (zic_1 _ _ _ _ _) ?_
    obtain ⟨r6, s5, hr4, h⟩ := b2_some h
    refine ev_callV i183_11 zc8_58 zm110 zo110 (as' := [zI 1]) (rest := []) rfl rfl (Nat.le_of_ble_eq_true rfl) (Nat.le_of_ble_eq_true rfl) (Nat.le_of_ble_eq_true rfl) (by omega) (l0 := [some (zR 8 0), some (zI 1)]) rfl (p := 14) rfl (kM_error 1 σ (r6, s5) hr4 (d - 1) (by omega)) ?_
    change zEv d 183 14 [some (zR 8 0), some (zI x1), none, none, none, none] [zI r6] s5 _
    obtain rfl := Option.some.inj h
    exact ev_iret i183_14 zr183
  · refine ev_s i183_15 (p := 16) (zic_0 _ _ _ _ _) ?_
    refine ev_s i183_16 (p := 17) (l := [some (zR 8 0), some (zI x1), some (zI 0), none, none, none]) rfl ?_
    refine ev_s i183_17 (p := 18) (zic_0 _ _ _ _ _) ?_
    refine ev_s i183_18 (p := 19) (l := [some (zR 8 0), some (zI x1), some (zI 0), some (zI 0), none, none]) rfl ?_
    refine ev_s i183_19 (p := 20) (zic_0 _ _ _ _ _) ?_
    refine ev_s i183_20 (p := 22) (l := [some (zR 8 0), some (zI x1), some (zI 0), some (zI 0), some (zI 0), none]) rfl ?_
    exact kM_knot_L22 N d hd N x1 0 0 0 σ w _ h
